/-! printed names: classes, fields, words, calls (those that are used) -/
set_option maxRecDepth 20000 in
theorem ggX11_init_X6_init : GoodIn wsX11_init wsX6_init := goodIn_r _ [66, 67, 2, 3, 68, 69, 70, 71, 72, 73, 74, 75, 76, 77, 78, 79, 80, 81, 82, 83, 14, 15, 84, 85, 86, 87, 88, 89, 90, 91, 92, 93, 94, 52, 53, 54, 55, 56, 57, 166, 167, 168, 169, 170, 171, 172, 173, 174, 175, 176, 177, 178, 179, 180, 181, 182, 148, 149, 150, 143, 144] rfl (by decide +kernel)
set_option maxRecDepth 20000 in
theorem gX11_init_X6_init_n55 : GoodIn wsX11_init (wsX6_init) := ggX11_init_X6_init
set_option maxRecDepth 20000 in
theorem ggX11_init_X0_init : GoodIn wsX11_init wsX0_init := goodIn_r _ [96, 97, 2, 3, 98, 99, 100, 101, 102, 151, 152, 153, 154, 155] rfl (by decide +kernel)
set_option maxRecDepth 20000 in
theorem gX11_init_X0_init_n69 : GoodIn wsX11_init (wsX0_init) := ggX11_init_X0_init
set_option maxRecDepth 20000 in
theorem ggX11_init_X3_init : GoodIn wsX11_init wsX3_init := goodIn_r _ [105, 106, 2, 3, 107, 108, 61, 109, 110, 111, 112, 113, 114, 115, 116, 117, 118, 119, 120, 121, 122, 55, 123, 156, 157, 158, 159, 160, 161, 162, 163, 164, 165, 183] rfl (by decide +kernel)
set_option maxRecDepth 20000 in
theorem gX11_init_X3_init : GoodIn wsX11_init (wsX3_init) := ggX11_init_X3_init
set_option maxRecDepth 20000 in
theorem ggX11_type_X4_size : GoodIn wsX11_type wsX4_size := goodIn_r _ [10, 11, 31, 32] rfl (by decide +kernel)
set_option maxRecDepth 20000 in
theorem gX11_type_X4_size : GoodIn wsX11_type (wsV RX11 88 RX4 yX4_size wsX4_size) := goodIn_app (goodIn_of _ (by decide +kernel)) ggX11_type_X4_size
set_option maxRecDepth 20000 in
theorem ggX11_type_X4_put : GoodIn wsX11_type wsX4_put := goodIn_ca (goodIn_r _ [15, 11, 16, 31, 32] rfl (by decide +kernel)) (goodIn_sub (fun _ h => List.mem_cons_of_mem _ (List.mem_append_right _ h)) (by decide +kernel))
set_option maxRecDepth 20000 in
theorem gX11_type_X4_put : GoodIn wsX11_type (wsV RX11 97 RX4 yX4_put wsX4_put) := goodIn_app (goodIn_of _ (by decide +kernel)) ggX11_type_X4_put
set_option maxRecDepth 20000 in
theorem ggX11_erase_X4_size : GoodIn wsX11_erase wsX4_size := goodIn_r _ [6, 7, 26, 27] rfl (by decide +kernel)
set_option maxRecDepth 20000 in
theorem gX11_erase_X4_size : GoodIn wsX11_erase (wsV RX11 88 RX4 yX4_size wsX4_size) := goodIn_app (goodIn_of _ (by decide +kernel)) ggX11_erase_X4_size
set_option maxRecDepth 20000 in
theorem ggX11_erase_X4_clear : GoodIn wsX11_erase wsX4_clear := goodIn_r _ [11, 7, 26, 27] rfl (by decide +kernel)
set_option maxRecDepth 20000 in
theorem gX11_erase_X4_clear : GoodIn wsX11_erase (wsV RX11 101 RX4 yX4_clear wsX4_clear) := goodIn_app (goodIn_of _ (by decide +kernel)) ggX11_erase_X4_clear
set_option maxRecDepth 20000 in
theorem ggX11_signAt_X4_size : GoodIn wsX11_signAt wsX4_size := goodIn_r _ [8, 9, 29, 30] rfl (by decide +kernel)
set_option maxRecDepth 20000 in
theorem gX11_signAt_X4_size : GoodIn wsX11_signAt (wsV RX11 88 RX4 yX4_size wsX4_size) := goodIn_app (goodIn_of _ (by decide +kernel)) ggX11_signAt_X4_size
set_option maxRecDepth 20000 in
theorem ggX11_add_X11_isTag : GoodIn wsX11_add wsX11_isTag := goodIn_r _ [10] rfl (by decide +kernel)
set_option maxRecDepth 20000 in
theorem gX11_add_X11_isTag : GoodIn wsX11_add (va_wsS RX11 113 yX11_isTag wsX11_isTag) := goodIn_app (goodIn_of _ (by decide +kernel)) ggX11_add_X11_isTag
set_option maxRecDepth 20000 in
theorem ggX11_add_X8_came : GoodIn wsX11_add wsX8_came := goodIn_r _ [15, 16, 166, 167, 168] rfl (by decide +kernel)
set_option maxRecDepth 20000 in
theorem gX11_add_X8_came : GoodIn wsX11_add (wsV RX11 119 RX8 yX8_came wsX8_came) := goodIn_app (goodIn_of _ (by decide +kernel)) ggX11_add_X8_came
set_option maxRecDepth 20000 in
theorem ggX11_add_X8_come : GoodIn wsX11_add wsX8_come := goodIn_ca (goodIn_ca (goodIn_r _ [20, 16, 21, 22, 23, 24, 25, 14, 26, 27, 28, 29, 30, 31, 32, 33, 34, 35, 36, 37, 38, 39, 40, 41, 42, 43, 44, 45, 46, 47, 48, 49, 50, 51, 52, 53, 54, 55, 56, 57, 58, 59, 60, 61, 62, 63, 64, 65, 66, 67, 68, 69, 70, 71, 72, 73, 74, 75, 76, 77, 78, 79, 80, 81, 82, 83, 84, 85, 86, 87, 88, 89, 90, 91, 92, 93, 94, 95, 96, 97, 98, 99, 100, 101, 102, 103, 104, 105, 106, 107, 108, 109, 110, 111, 112, 113, 114, 115, 116, 117, 118, 119, 120, 121, 122, 123, 124, 125, 126, 127, 128, 129, 130, 131, 132, 133, 134, 135, 136, 137, 138, 139, 140, 141, 142, 143, 144, 145, 146, 147, 166, 167, 168, 169, 170, 171, 172, 173, 174, 175, 176, 177, 178, 179, 180, 181, 182, 183, 184, 185, 186, 187, 188] rfl (by decide +kernel)) (goodIn_sub (fun _ h => List.mem_cons_of_mem _ (List.mem_append_left _ (List.mem_append_right _ h))) (by decide +kernel))) (goodIn_sub (fun _ h => List.mem_cons_of_mem _ (List.mem_append_right _ h)) (by decide +kernel))
set_option maxRecDepth 20000 in
theorem gX11_add_X8_come : GoodIn wsX11_add (wsV RX11 124 RX8 yX8_come wsX8_come) := goodIn_app (goodIn_of _ (by decide +kernel)) ggX11_add_X8_come
set_option maxRecDepth 20000 in
theorem ggX11_add_X4_clear : GoodIn wsX11_add wsX4_clear := goodIn_r _ [151, 63, 177, 178] rfl (by decide +kernel)
set_option maxRecDepth 20000 in
theorem gX11_add_X4_clear : GoodIn wsX11_add (wsV RX11 101 RX4 yX4_clear wsX4_clear) := goodIn_app (goodIn_of _ (by decide +kernel)) ggX11_add_X4_clear
set_option maxRecDepth 20000 in
theorem ggX11_revise_X11_textOf : GoodIn wsX11_revise wsX11_textOf := goodIn_ca (goodIn_r _ [7, 8, 9, 1, 10, 11, 12, 13, 14, 15, 16, 17, 137, 138, 139, 140, 141, 142, 143, 144, 145, 146, 147, 148, 149, 150, 151, 152, 153, 154, 155, 156, 157, 158, 159] rfl (by decide +kernel)) (goodIn_sub (fun _ h => List.mem_cons_of_mem _ (List.mem_append_left _ (List.mem_append_left _ (List.mem_append_right _ h)))) (by decide +kernel))
set_option maxRecDepth 20000 in
theorem gX11_revise_X11_textOf : GoodIn wsX11_revise (wsV RX11 128 RX11 yX11_textOf wsX11_textOf) := goodIn_app (goodIn_of _ (by decide +kernel)) ggX11_revise_X11_textOf
set_option maxRecDepth 20000 in
theorem ggX11_drop_X11_textOf : GoodIn wsX11_drop wsX11_textOf := goodIn_ca (goodIn_r _ [7, 8, 9, 2, 10, 11, 12, 13, 14, 15, 16, 17, 29, 30, 31, 32, 33, 34, 35, 36, 37, 38, 39, 40, 41, 42, 43, 44, 45, 23, 24, 25, 26, 27, 28] rfl (by decide +kernel)) (goodIn_sub (fun _ h => List.mem_cons_of_mem _ (List.mem_append_right _ h)) (by decide +kernel))
set_option maxRecDepth 20000 in
theorem gX11_drop_X11_textOf : GoodIn wsX11_drop (wsV RX11 128 RX11 yX11_textOf wsX11_textOf) := goodIn_app (goodIn_of _ (by decide +kernel)) ggX11_drop_X11_textOf
set_option maxRecDepth 20000 in
theorem ggX11_texts_X8_count : GoodIn wsX11_texts wsX8_count := goodIn_r _ [6, 7, 8, 9, 10, 5, 11, 12, 13, 28, 29, 30, 31, 32, 33, 34, 35, 36] rfl (by decide +kernel)
set_option maxRecDepth 20000 in
theorem gX11_texts_X8_count : GoodIn wsX11_texts (wsV RX11 142 RX8 yX8_count wsX8_count) := goodIn_app (goodIn_of _ (by decide +kernel)) ggX11_texts_X8_count
set_option maxRecDepth 20000 in
theorem ggX11_isThere_X8_at : GoodIn wsX11_isThere wsX8_at := goodIn_r _ [6, 7, 8, 9, 24, 25, 26, 27, 28, 29, 30, 31, 32] rfl (by decide +kernel)
set_option maxRecDepth 20000 in
theorem gX11_isThere_X8_at : GoodIn wsX11_isThere (wsV RX11 145 RX8 yX8_at wsX8_at) := goodIn_app (goodIn_of _ (by decide +kernel)) ggX11_isThere_X8_at
set_option maxRecDepth 20000 in
theorem ggX11_length_X11_textOf : GoodIn wsX11_length wsX11_textOf := goodIn_ca (goodIn_r _ [5, 6, 7, 8, 9, 10, 11, 12, 13, 14, 15, 16, 30, 31, 32, 33, 34, 35, 36, 37, 38, 39, 40, 41, 42, 43, 44, 45, 46, 47, 48, 49, 50, 51, 52] rfl (by decide +kernel)) (goodIn_sub (fun _ h => List.mem_cons_of_mem _ (List.mem_append_right _ h)) (by decide +kernel))
set_option maxRecDepth 20000 in
theorem gX11_length_X11_textOf : GoodIn wsX11_length (wsV RX11 128 RX11 yX11_textOf wsX11_textOf) := goodIn_app (goodIn_of _ (by decide +kernel)) ggX11_length_X11_textOf
set_option maxRecDepth 20000 in
theorem ggX11_tellWord_X11_textOf : GoodIn wsX11_tellWord wsX11_textOf := goodIn_ca (goodIn_r _ [9, 10, 11, 12, 13, 14, 15, 16, 17, 18, 19, 20, 72, 73, 74, 75, 76, 77, 78, 79, 80, 81, 82, 83, 84, 85, 86, 87, 88, 66, 67, 68, 69, 70, 71] rfl (by decide +kernel)) (goodIn_sub (fun _ h => List.mem_cons_of_mem _ (List.mem_append_left _ (List.mem_append_left _ (List.mem_append_right _ h)))) (by decide +kernel))
set_option maxRecDepth 20000 in
theorem gX11_tellWord_X11_textOf : GoodIn wsX11_tellWord (wsV RX11 128 RX11 yX11_textOf wsX11_textOf) := goodIn_app (goodIn_of _ (by decide +kernel)) ggX11_tellWord_X11_textOf
set_option maxRecDepth 20000 in
theorem ggX11_value_X11_textOf : GoodIn wsX11_value wsX11_textOf := goodIn_ca (goodIn_r _ [6, 7, 8, 9, 10, 11, 12, 13, 14, 15, 16, 17, 24, 25, 26, 27, 28, 29, 30, 31, 32, 33, 34, 35, 36, 37, 38, 39, 40, 18, 19, 20, 21, 22, 23] rfl (by decide +kernel)) (goodIn_sub (fun _ h => List.mem_cons_of_mem _ (List.mem_append_right _ h)) (by decide +kernel))
set_option maxRecDepth 20000 in
theorem gX11_value_X11_textOf : GoodIn wsX11_value (wsV RX11 128 RX11 yX11_textOf wsX11_textOf) := goodIn_app (goodIn_of _ (by decide +kernel)) ggX11_value_X11_textOf
set_option maxRecDepth 20000 in
theorem ggX11_tag_X11_textOf : GoodIn wsX11_tag wsX11_textOf := goodIn_ca (goodIn_r _ [6, 7, 8, 9, 10, 11, 12, 13, 14, 15, 16, 17, 24, 25, 26, 27, 28, 29, 30, 31, 32, 33, 34, 35, 36, 37, 38, 39, 40, 18, 19, 20, 21, 22, 23] rfl (by decide +kernel)) (goodIn_sub (fun _ h => List.mem_cons_of_mem _ (List.mem_append_right _ h)) (by decide +kernel))
set_option maxRecDepth 20000 in
theorem gX11_tag_X11_textOf : GoodIn wsX11_tag (wsV RX11 128 RX11 yX11_textOf wsX11_textOf) := goodIn_app (goodIn_of _ (by decide +kernel)) ggX11_tag_X11_textOf
set_option maxRecDepth 20000 in
theorem ggX11_words_X8_collect : GoodIn wsX11_words wsX8_collect := goodIn_ca (goodIn_r _ [7, 8, 9, 10, 11, 12, 13, 14, 15, 16, 17, 18, 19, 6, 20, 21, 22, 23, 24, 25, 26, 27, 28, 29, 30, 31, 32, 33, 34, 35, 36, 37, 38, 39, 40, 41, 42, 43, 44, 45, 46, 47, 48, 49, 50, 51, 52, 53, 54, 55, 56, 57, 58, 59, 60, 61, 62, 63, 64, 65, 66, 67, 68, 69, 70, 71, 72, 73, 74, 75, 91, 92, 93, 94, 95, 96, 97, 98, 99, 100, 101, 102, 103, 104, 105, 106, 107, 108, 109, 110, 111] rfl (by decide +kernel)) (goodIn_sub (fun _ h => List.mem_cons_of_mem _ (List.mem_append_right _ h)) (by decide +kernel))
set_option maxRecDepth 20000 in
theorem gX11_words_X8_collect : GoodIn wsX11_words (wsV RX11 169 RX8 yX8_collect wsX8_collect) := goodIn_app (goodIn_of _ (by decide +kernel)) ggX11_words_X8_collect
set_option maxRecDepth 20000 in
theorem ggX11_words_X7_size : GoodIn wsX11_words wsX7_size := goodIn_r _ [26, 16, 100, 101] rfl (by decide +kernel)
set_option maxRecDepth 20000 in
theorem gX11_words_X7_size : GoodIn wsX11_words (wsV RX11 153 RX7 yX7_size wsX7_size) := goodIn_app (goodIn_of _ (by decide +kernel)) ggX11_words_X7_size
set_option maxRecDepth 20000 in
theorem ggX11_tellOf_X8_collect : GoodIn wsX11_tellOf wsX8_collect := goodIn_ca (goodIn_r _ [9, 10, 11, 12, 13, 14, 15, 16, 17, 18, 19, 20, 21, 8, 22, 23, 24, 25, 26, 27, 28, 29, 30, 31, 32, 33, 34, 35, 36, 37, 38, 39, 40, 41, 42, 43, 44, 45, 46, 47, 48, 49, 50, 51, 52, 53, 54, 55, 56, 57, 58, 59, 60, 61, 62, 63, 64, 65, 66, 67, 68, 69, 70, 71, 72, 73, 74, 75, 76, 77, 129, 130, 131, 132, 133, 134, 135, 136, 137, 138, 139, 140, 141, 142, 143, 144, 145, 146, 147, 148, 149] rfl (by decide +kernel)) (goodIn_sub (fun _ h => List.mem_cons_of_mem _ (List.mem_append_left _ (List.mem_append_right _ h))) (by decide +kernel))
set_option maxRecDepth 20000 in
theorem gX11_tellOf_X8_collect : GoodIn wsX11_tellOf (wsV RX11 169 RX8 yX8_collect wsX8_collect) := goodIn_app (goodIn_of _ (by decide +kernel)) ggX11_tellOf_X8_collect
set_option maxRecDepth 20000 in
theorem ggX11_tellOf_X7_size : GoodIn wsX11_tellOf wsX7_size := goodIn_r _ [28, 18, 138, 139] rfl (by decide +kernel)
set_option maxRecDepth 20000 in
theorem gX11_tellOf_X7_size : GoodIn wsX11_tellOf (wsV RX11 153 RX7 yX7_size wsX7_size) := goodIn_app (goodIn_of _ (by decide +kernel)) ggX11_tellOf_X7_size
set_option maxRecDepth 20000 in
theorem ggX11_having_X11_onlyWord : GoodIn wsX11_having wsX11_onlyWord := goodIn_ca (goodIn_ca (goodIn_r _ [7, 8, 9, 1, 10, 11, 12, 13, 14, 15, 16, 17, 18, 19, 20, 21, 22, 23, 24, 25, 26, 27, 28, 29, 30, 31, 32, 33, 34, 35, 36, 84, 85, 86, 87, 88, 89, 90, 91, 92, 93, 94, 95, 96, 97, 98, 99] rfl (by decide +kernel)) (goodIn_sub (fun _ h => List.mem_cons_of_mem _ (List.mem_append_left _ (List.mem_append_left _ (List.mem_append_right _ h)))) (by decide +kernel))) (goodIn_sub (fun _ h => List.mem_cons_of_mem _ (List.mem_append_left _ (List.mem_append_right _ h))) (by decide +kernel))
set_option maxRecDepth 20000 in
theorem gX11_having_X11_onlyWord : GoodIn wsX11_having (wsV RX11 175 RX11 yX11_onlyWord wsX11_onlyWord) := goodIn_app (goodIn_of _ (by decide +kernel)) ggX11_having_X11_onlyWord
set_option maxRecDepth 20000 in
theorem ggX11_beginning_X11_onlyWord : GoodIn wsX11_beginning wsX11_onlyWord := goodIn_ca (goodIn_ca (goodIn_r _ [8, 9, 10, 1, 11, 12, 13, 14, 15, 16, 17, 18, 19, 20, 21, 22, 23, 24, 25, 26, 27, 28, 29, 30, 31, 32, 33, 34, 35, 36, 37, 120, 121, 122, 123, 124, 125, 126, 127, 128, 129, 130, 131, 132, 133, 134, 135] rfl (by decide +kernel)) (goodIn_sub (fun _ h => List.mem_cons_of_mem _ (List.mem_append_left _ (List.mem_append_left _ (List.mem_append_right _ h)))) (by decide +kernel))) (goodIn_sub (fun _ h => List.mem_cons_of_mem _ (List.mem_append_left _ (List.mem_append_right _ h))) (by decide +kernel))
set_option maxRecDepth 20000 in
theorem gX11_beginning_X11_onlyWord : GoodIn wsX11_beginning (wsV RX11 175 RX11 yX11_onlyWord wsX11_onlyWord) := goodIn_app (goodIn_of _ (by decide +kernel)) ggX11_beginning_X11_onlyWord
set_option maxRecDepth 20000 in
theorem ggX11_slips_X11_onlyWord : GoodIn wsX11_slips wsX11_onlyWord := goodIn_ca (goodIn_ca (goodIn_r _ [8, 9, 10, 1, 11, 12, 13, 14, 15, 16, 17, 18, 19, 20, 21, 22, 23, 24, 25, 26, 27, 28, 29, 30, 31, 32, 33, 34, 35, 36, 37, 121, 122, 123, 124, 125, 126, 127, 128, 129, 130, 131, 132, 133, 134, 135, 136] rfl (by decide +kernel)) (goodIn_sub (fun _ h => List.mem_cons_of_mem _ (List.mem_append_left _ (List.mem_append_left _ (List.mem_append_right _ h)))) (by decide +kernel))) (goodIn_sub (fun _ h => List.mem_cons_of_mem _ (List.mem_append_left _ (List.mem_append_right _ h))) (by decide +kernel))
set_option maxRecDepth 20000 in
theorem gX11_slips_X11_onlyWord : GoodIn wsX11_slips (wsV RX11 175 RX11 yX11_onlyWord wsX11_onlyWord) := goodIn_app (goodIn_of _ (by decide +kernel)) ggX11_slips_X11_onlyWord
set_option maxRecDepth 20000 in
theorem ggX11_suggest_X11_onlyWord : GoodIn wsX11_suggest wsX11_onlyWord := goodIn_ca (goodIn_ca (goodIn_r _ [9, 10, 11, 12, 13, 14, 15, 16, 17, 18, 19, 20, 21, 22, 23, 24, 25, 26, 27, 28, 29, 30, 31, 32, 33, 34, 35, 36, 37, 38, 39, 162, 163, 164, 165, 166, 167, 168, 169, 170, 171, 172, 173, 174, 175, 176, 177] rfl (by decide +kernel)) (goodIn_sub (fun _ h => List.mem_cons_of_mem _ (List.mem_append_left _ (List.mem_append_left _ (List.mem_append_right _ h)))) (by decide +kernel))) (goodIn_sub (fun _ h => List.mem_cons_of_mem _ (List.mem_append_left _ (List.mem_append_right _ h))) (by decide +kernel))
set_option maxRecDepth 20000 in
theorem gX11_suggest_X11_onlyWord : GoodIn wsX11_suggest (wsV RX11 175 RX11 yX11_onlyWord wsX11_onlyWord) := goodIn_app (goodIn_of _ (by decide +kernel)) ggX11_suggest_X11_onlyWord
set_option maxRecDepth 20000 in
theorem ggX11_parts_X8_partCount : GoodIn wsX11_parts wsX8_partCount := goodIn_r _ [6, 7, 22, 23, 24] rfl (by decide +kernel)
set_option maxRecDepth 20000 in
theorem gX11_parts_X8_partCount : GoodIn wsX11_parts (wsV RX11 198 RX8 yX8_partCount wsX8_partCount) := goodIn_app (goodIn_of _ (by decide +kernel)) ggX11_parts_X8_partCount
set_option maxRecDepth 20000 in
theorem ggX11_partSize_X11_needPart : GoodIn wsX11_partSize wsX11_needPart := goodIn_ca (goodIn_r _ [6, 7, 8, 1, 9, 10, 11, 12, 13, 14, 27, 28, 29, 30, 31, 32, 33, 34, 35, 36, 37, 38, 39, 40, 41, 42, 43] rfl (by decide +kernel)) (goodIn_sub (fun _ h => List.mem_cons_of_mem _ (List.mem_append_right _ h)) (by decide +kernel))
set_option maxRecDepth 20000 in
theorem gX11_partSize_X11_needPart : GoodIn wsX11_partSize (wsV RX11 201 RX11 yX11_needPart wsX11_needPart) := goodIn_app (goodIn_of _ (by decide +kernel)) ggX11_partSize_X11_needPart
set_option maxRecDepth 20000 in
theorem ggX11_partSize_X8_countIn : GoodIn wsX11_partSize wsX8_countIn := goodIn_r _ [18, 19, 20, 21, 22, 23, 12, 24, 25, 26, 41, 42, 43, 44, 45, 46, 47, 48, 49] rfl (by decide +kernel)
set_option maxRecDepth 20000 in
theorem gX11_partSize_X8_countIn : GoodIn wsX11_partSize (wsV RX11 205 RX8 yX8_countIn wsX8_countIn) := goodIn_app (goodIn_of _ (by decide +kernel)) ggX11_partSize_X8_countIn
set_option maxRecDepth 20000 in
theorem ggX11_seal_X8_partCount : GoodIn wsX11_seal wsX8_partCount := goodIn_r _ [10, 11, 42, 43, 44] rfl (by decide +kernel)
set_option maxRecDepth 20000 in
theorem gX11_seal_X8_partCount : GoodIn wsX11_seal (wsV RX11 198 RX8 yX8_partCount wsX8_partCount) := goodIn_app (goodIn_of _ (by decide +kernel)) ggX11_seal_X8_partCount
set_option maxRecDepth 20000 in
theorem ggX11_seal_X8_countIn : GoodIn wsX11_seal wsX8_countIn := goodIn_r _ [15, 16, 17, 18, 19, 20, 9, 21, 22, 23, 42, 43, 44, 45, 46, 47, 48, 49, 50] rfl (by decide +kernel)
set_option maxRecDepth 20000 in
theorem gX11_seal_X8_countIn : GoodIn wsX11_seal (wsV RX11 205 RX8 yX8_countIn wsX8_countIn) := goodIn_app (goodIn_of _ (by decide +kernel)) ggX11_seal_X8_countIn
set_option maxRecDepth 20000 in
theorem ggX11_join_X8_partCount : GoodIn wsX11_join wsX8_partCount := goodIn_r _ [8, 9, 40, 41, 42] rfl (by decide +kernel)
set_option maxRecDepth 20000 in
theorem gX11_join_X8_partCount : GoodIn wsX11_join (wsV RX11 198 RX8 yX8_partCount wsX8_partCount) := goodIn_app (goodIn_of _ (by decide +kernel)) ggX11_join_X8_partCount
set_option maxRecDepth 20000 in
theorem ggX11_packed_X11_needPart : GoodIn wsX11_packed wsX11_needPart := goodIn_ca (goodIn_r _ [8, 9, 10, 2, 11, 12, 13, 14, 15, 16, 147, 148, 149, 150, 151, 152, 153, 154, 155, 156, 157, 158, 159, 160, 161, 162, 163] rfl (by decide +kernel)) (goodIn_sub (fun _ h => List.mem_cons_of_mem _ (List.mem_append_left _ (List.mem_append_left _ (List.mem_append_left _ (List.mem_append_right _ h))))) (by decide +kernel))
set_option maxRecDepth 20000 in
theorem gX11_packed_X11_needPart : GoodIn wsX11_packed (wsV RX11 201 RX11 yX11_needPart wsX11_needPart) := goodIn_app (goodIn_of _ (by decide +kernel)) ggX11_packed_X11_needPart
set_option maxRecDepth 20000 in
theorem ggX11_packed_X11_onlyWord : GoodIn wsX11_packed wsX11_onlyWord := goodIn_ca (goodIn_ca (goodIn_r _ [20, 21, 22, 1, 23, 24, 25, 26, 27, 28, 29, 30, 31, 32, 33, 34, 35, 36, 37, 38, 39, 40, 41, 42, 43, 44, 45, 46, 47, 48, 49, 147, 148, 149, 150, 151, 152, 153, 154, 155, 156, 157, 158, 159, 160, 164, 165] rfl (by decide +kernel)) (goodIn_sub (fun _ h => List.mem_cons_of_mem _ (List.mem_append_left _ (List.mem_append_left _ (List.mem_append_right _ h)))) (by decide +kernel))) (goodIn_sub (fun _ h => List.mem_cons_of_mem _ (List.mem_append_left _ (List.mem_append_right _ h))) (by decide +kernel))
set_option maxRecDepth 20000 in
theorem gX11_packed_X11_onlyWord : GoodIn wsX11_packed (wsV RX11 175 RX11 yX11_onlyWord wsX11_onlyWord) := goodIn_app (goodIn_of _ (by decide +kernel)) ggX11_packed_X11_onlyWord
set_option maxRecDepth 20000 in
theorem ggX11_byteAt_X2_size : GoodIn wsX11_byteAt wsX2_size := goodIn_r _ [8, 9, 29, 30, 31] rfl (by decide +kernel)
set_option maxRecDepth 20000 in
theorem gX11_byteAt_X2_size : GoodIn wsX11_byteAt (wsV RX11 228 RX2 yX2_size wsX2_size) := goodIn_app (goodIn_of _ (by decide +kernel)) ggX11_byteAt_X2_size
set_option maxRecDepth 20000 in
theorem ggX11_ask_X0_read : GoodIn wsX11_ask wsX0_read := goodIn_ca (goodIn_ca (goodIn_r _ [9, 10, 11, 12, 13, 14, 15, 16, 17, 18, 19, 20, 21, 22, 23, 24, 25, 8, 26, 27, 28, 29, 30, 31, 32, 33, 34, 35, 36, 37, 38, 39, 40, 41, 42, 43, 44, 45, 46, 47, 48, 49, 50, 51, 52, 53, 54, 55, 56, 57, 58, 59, 60, 61, 62, 63, 64, 65, 66, 67, 68, 69, 70, 71, 72, 73, 74, 75, 76, 77, 78, 79, 80, 81, 82, 83, 84, 85, 86, 87, 88, 89, 90, 91, 92, 93, 94, 95, 96, 97, 98, 99, 100, 101, 102, 103, 104, 105, 106, 107, 108, 109, 110, 111, 112, 113, 114, 115, 116, 117, 118, 119, 120, 121, 122, 123, 124, 125, 126, 127, 128, 129, 130, 131, 132, 133, 134, 135, 136, 137, 138, 139, 140, 141, 142, 143, 144, 145, 146, 147, 148, 149, 150, 151, 152, 153, 154, 155, 156, 157, 158, 159, 160, 161, 162, 163, 164, 165, 166, 167, 168, 169, 170, 171, 172, 173, 174, 175, 176, 177, 178, 179, 180, 181, 182, 183, 184, 185, 186, 187, 188, 189, 190, 191, 192, 193, 194, 195, 196, 197, 198, 199, 200, 201, 202, 203, 204, 205, 206, 207, 208, 209, 210, 211, 212, 213, 214, 215, 216, 217, 218, 219, 220, 221, 222, 223, 224, 225, 226, 227, 228, 229, 230, 231, 232, 233, 234, 235, 236, 237, 238, 239, 240, 241, 242, 243, 244, 245, 246, 247, 248, 249, 250, 251, 252, 253, 254, 255, 256, 257, 258, 277, 278, 279, 280, 281, 282, 283, 284, 285, 286, 287, 288, 289, 290, 291, 292, 293, 294, 295, 296, 297, 298, 299, 300, 301, 302, 303, 304, 305, 306, 307, 308, 309, 310, 311, 312, 313, 314, 315] rfl (by decide +kernel)) (goodIn_sub (fun _ h => List.mem_cons_of_mem _ (List.mem_append_left _ (List.mem_append_right _ h))) (by decide +kernel))) (goodIn_sub (fun _ h => List.mem_cons_of_mem _ (List.mem_append_right _ h)) (by decide +kernel))
set_option maxRecDepth 20000 in
theorem gX11_ask_X0_read : GoodIn wsX11_ask (wsV RX11 233 RX0 yX0_read wsX0_read) := goodIn_app (goodIn_of _ (by decide +kernel)) ggX11_ask_X0_read
set_option maxRecDepth 20000 in
theorem ggX11_ask_X4_clear : GoodIn wsX11_ask wsX4_clear := goodIn_r _ [262, 93, 304, 305] rfl (by decide +kernel)
set_option maxRecDepth 20000 in
theorem gX11_ask_X4_clear : GoodIn wsX11_ask (wsV RX11 101 RX4 yX4_clear wsX4_clear) := goodIn_app (goodIn_of _ (by decide +kernel)) ggX11_ask_X4_clear
set_option maxRecDepth 20000 in
theorem ggX11_simplify_X11_needQuestion : GoodIn wsX11_simplify wsX11_needQuestion := goodIn_ca (goodIn_r _ [6, 7, 8, 1, 9, 10, 11, 12, 13, 14, 176, 177, 178, 179, 180, 181, 182, 183, 184, 185, 186, 187, 188, 189, 190, 191, 192] rfl (by decide +kernel)) (goodIn_sub (fun _ h => List.mem_cons_of_mem _ (List.mem_append_left _ (List.mem_append_right _ h))) (by decide +kernel))
set_option maxRecDepth 20000 in
theorem gX11_simplify_X11_needQuestion : GoodIn wsX11_simplify (wsV RX11 237 RX11 yX11_needQuestion wsX11_needQuestion) := goodIn_app (goodIn_of _ (by decide +kernel)) ggX11_simplify_X11_needQuestion
set_option maxRecDepth 20000 in
theorem ggX11_tellQuestion_X11_needQuestion : GoodIn wsX11_tellQuestion wsX11_needQuestion := goodIn_ca (goodIn_r _ [7, 8, 9, 1, 10, 11, 12, 13, 14, 15, 100, 101, 102, 103, 104, 105, 106, 107, 108, 109, 110, 111, 112, 113, 114, 115, 116] rfl (by decide +kernel)) (goodIn_sub (fun _ h => List.mem_cons_of_mem _ (List.mem_append_left _ (List.mem_append_left _ (List.mem_append_right _ h)))) (by decide +kernel))
set_option maxRecDepth 20000 in
theorem gX11_tellQuestion_X11_needQuestion : GoodIn wsX11_tellQuestion (wsV RX11 237 RX11 yX11_needQuestion wsX11_needQuestion) := goodIn_app (goodIn_of _ (by decide +kernel)) ggX11_tellQuestion_X11_needQuestion
set_option maxRecDepth 20000 in
theorem ggX11_fits_X11_needQuestion : GoodIn wsX11_fits wsX11_needQuestion := goodIn_ca (goodIn_r _ [7, 8, 9, 2, 10, 11, 12, 13, 14, 15, 118, 119, 120, 121, 122, 123, 124, 125, 126, 127, 128, 129, 130, 131, 132, 133, 134] rfl (by decide +kernel)) (goodIn_sub (fun _ h => List.mem_cons_of_mem _ (List.mem_append_left _ (List.mem_append_left _ (List.mem_append_left _ (List.mem_append_right _ h))))) (by decide +kernel))
set_option maxRecDepth 20000 in
theorem gX11_fits_X11_needQuestion : GoodIn wsX11_fits (wsV RX11 237 RX11 yX11_needQuestion wsX11_needQuestion) := goodIn_app (goodIn_of _ (by decide +kernel)) ggX11_fits_X11_needQuestion
set_option maxRecDepth 20000 in
theorem ggX11_hits_X11_needQuestion : GoodIn wsX11_hits wsX11_needQuestion := goodIn_ca (goodIn_r _ [8, 9, 10, 2, 11, 12, 13, 14, 15, 16, 117, 118, 119, 120, 121, 122, 123, 124, 125, 126, 127, 128, 129, 130, 131, 132, 133] rfl (by decide +kernel)) (goodIn_sub (fun _ h => List.mem_cons_of_mem _ (List.mem_append_left _ (List.mem_append_left _ (List.mem_append_right _ h)))) (by decide +kernel))
set_option maxRecDepth 20000 in
theorem gX11_hits_X11_needQuestion : GoodIn wsX11_hits (wsV RX11 237 RX11 yX11_needQuestion wsX11_needQuestion) := goodIn_app (goodIn_of _ (by decide +kernel)) ggX11_hits_X11_needQuestion
set_option maxRecDepth 20000 in
theorem ggX11_hitAt_X11_needQuestion : GoodIn wsX11_hitAt wsX11_needQuestion := goodIn_ca (goodIn_r _ [8, 9, 10, 2, 11, 12, 13, 14, 15, 16, 199, 200, 201, 202, 203, 204, 205, 206, 207, 208, 209, 210, 211, 212, 213, 214, 215] rfl (by decide +kernel)) (goodIn_sub (fun _ h => List.mem_cons_of_mem _ (List.mem_append_left _ (List.mem_append_left _ (List.mem_append_left _ (List.mem_append_right _ h))))) (by decide +kernel))
set_option maxRecDepth 20000 in
theorem gX11_hitAt_X11_needQuestion : GoodIn wsX11_hitAt (wsV RX11 237 RX11 yX11_needQuestion wsX11_needQuestion) := goodIn_app (goodIn_of _ (by decide +kernel)) ggX11_hitAt_X11_needQuestion
set_option maxRecDepth 20000 in
theorem ggX11_top_X11_needQuestion : GoodIn wsX11_top wsX11_needQuestion := goodIn_ca (goodIn_r _ [10, 11, 12, 4, 13, 14, 15, 16, 17, 18, 201, 202, 203, 204, 205, 206, 207, 208, 209, 210, 211, 212, 213, 214, 215, 216, 217] rfl (by decide +kernel)) (goodIn_sub (fun _ h => List.mem_cons_of_mem _ (List.mem_append_left _ (List.mem_append_left _ (List.mem_append_left _ (List.mem_append_right _ h))))) (by decide +kernel))
set_option maxRecDepth 20000 in
theorem gX11_top_X11_needQuestion : GoodIn wsX11_top (wsV RX11 237 RX11 yX11_needQuestion wsX11_needQuestion) := goodIn_app (goodIn_of _ (by decide +kernel)) ggX11_top_X11_needQuestion
set_option maxRecDepth 20000 in
theorem ggX11_tellWorth_X11_needQuestion : GoodIn wsX11_tellWorth wsX11_needQuestion := goodIn_ca (goodIn_r _ [9, 10, 11, 2, 12, 13, 14, 15, 16, 17, 197, 198, 199, 200, 201, 202, 203, 204, 205, 206, 207, 208, 209, 210, 211, 212, 213] rfl (by decide +kernel)) (goodIn_sub (fun _ h => List.mem_cons_of_mem _ (List.mem_append_left _ (List.mem_append_left _ (List.mem_append_left _ (List.mem_append_right _ h))))) (by decide +kernel))
set_option maxRecDepth 20000 in
theorem gX11_tellWorth_X11_needQuestion : GoodIn wsX11_tellWorth (wsV RX11 237 RX11 yX11_needQuestion wsX11_needQuestion) := goodIn_app (goodIn_of _ (by decide +kernel)) ggX11_tellWorth_X11_needQuestion
set_option maxRecDepth 20000 in
theorem ggX11_tagged_X11_needQuestion : GoodIn wsX11_tagged wsX11_needQuestion := goodIn_ca (goodIn_r _ [10, 11, 12, 4, 13, 14, 15, 16, 17, 18, 122, 123, 124, 125, 126, 127, 128, 129, 130, 131, 132, 133, 134, 135, 136, 137, 138] rfl (by decide +kernel)) (goodIn_sub (fun _ h => List.mem_cons_of_mem _ (List.mem_append_left _ (List.mem_append_left _ (List.mem_append_right _ h)))) (by decide +kernel))
set_option maxRecDepth 20000 in
theorem gX11_tagged_X11_needQuestion : GoodIn wsX11_tagged (wsV RX11 237 RX11 yX11_needQuestion wsX11_needQuestion) := goodIn_app (goodIn_of _ (by decide +kernel)) ggX11_tagged_X11_needQuestion
set_option maxRecDepth 20000 in
theorem ggX11_valued_X11_needQuestion : GoodIn wsX11_valued wsX11_needQuestion := goodIn_ca (goodIn_r _ [8, 9, 10, 2, 11, 12, 13, 14, 15, 16, 117, 118, 119, 120, 121, 122, 123, 124, 125, 126, 127, 128, 129, 130, 131, 132, 133] rfl (by decide +kernel)) (goodIn_sub (fun _ h => List.mem_cons_of_mem _ (List.mem_append_left _ (List.mem_append_left _ (List.mem_append_right _ h)))) (by decide +kernel))
set_option maxRecDepth 20000 in
theorem gX11_valued_X11_needQuestion : GoodIn wsX11_valued (wsV RX11 237 RX11 yX11_needQuestion wsX11_needQuestion) := goodIn_app (goodIn_of _ (by decide +kernel)) ggX11_valued_X11_needQuestion
set_option maxRecDepth 20000 in
theorem ggX11_spanBegin_X11_needSpan : GoodIn wsX11_spanBegin wsX11_needSpan := goodIn_ca (goodIn_ca (goodIn_ca (goodIn_ca (goodIn_ca (goodIn_r _ [6, 7, 8, 9, 10, 1, 11, 12, 13, 14, 15, 5, 16, 17, 18, 19, 20, 21, 22, 23, 24, 25, 26, 27, 28, 29, 30, 31, 32, 33, 34, 35, 36, 37, 38, 39, 40, 41, 42, 43, 44, 45, 46, 47, 48, 49, 50, 51, 52, 53, 54, 55, 56, 57, 58, 59, 60, 61, 62, 63, 64, 65, 66, 67, 68, 69, 70, 71, 72, 73, 74, 75, 76, 77, 78, 79, 80, 81, 82, 83, 84, 85, 86, 87, 88, 89, 90, 91, 92, 93, 94, 95, 96, 97, 98, 99, 100, 101, 102, 103, 104, 105, 106, 107, 108, 109, 110, 111, 112, 113, 114, 115, 116, 117, 118, 119, 120, 121, 122, 123, 124, 125, 126, 127, 128, 129, 130, 131, 132, 133, 134, 135, 136, 137, 138, 139, 140, 141, 142, 143, 144, 145, 146, 147, 152, 153, 154, 155, 156, 157, 158, 159, 160, 161, 162, 163, 164, 165, 166, 167, 168, 169, 170, 171, 172, 173, 174, 175, 176, 177, 178, 179, 180, 181, 182, 183, 184, 185, 186, 187, 188, 189, 190, 191, 192, 193, 194, 195, 196, 197, 198, 199, 200, 201, 202, 203, 204, 205, 206] rfl (by decide +kernel)) (goodIn_sub (fun _ h => List.mem_cons_of_mem _ (List.mem_append_left _ (List.mem_append_left _ (List.mem_append_left _ (List.mem_append_left _ (List.mem_append_right _ h)))))) (by decide +kernel))) (goodIn_sub (fun _ h => List.mem_cons_of_mem _ (List.mem_append_left _ (List.mem_append_left _ (List.mem_append_left _ (List.mem_append_right _ h))))) (by decide +kernel))) (goodIn_sub (fun _ h => List.mem_cons_of_mem _ (List.mem_append_left _ (List.mem_append_left _ (List.mem_append_right _ h)))) (by decide +kernel))) (goodIn_sub (fun _ h => List.mem_cons_of_mem _ (List.mem_append_left _ (List.mem_append_right _ h))) (by decide +kernel))) (goodIn_sub (fun _ h => List.mem_cons_of_mem _ (List.mem_append_right _ h)) (by decide +kernel))
set_option maxRecDepth 20000 in
theorem gX11_spanBegin_X11_needSpan : GoodIn wsX11_spanBegin (wsV RX11 272 RX11 yX11_needSpan wsX11_needSpan) := goodIn_app (goodIn_of _ (by decide +kernel)) ggX11_spanBegin_X11_needSpan
set_option maxRecDepth 20000 in
theorem ggX11_spanLength_X11_needSpan : GoodIn wsX11_spanLength wsX11_needSpan := goodIn_ca (goodIn_ca (goodIn_ca (goodIn_ca (goodIn_ca (goodIn_r _ [6, 7, 8, 9, 10, 1, 11, 12, 13, 14, 15, 5, 16, 17, 18, 19, 20, 21, 22, 23, 24, 25, 26, 27, 28, 29, 30, 31, 32, 33, 34, 35, 36, 37, 38, 39, 40, 41, 42, 43, 44, 45, 46, 47, 48, 49, 50, 51, 52, 53, 54, 55, 56, 57, 58, 59, 60, 61, 62, 63, 64, 65, 66, 67, 68, 69, 70, 71, 72, 73, 74, 75, 76, 77, 78, 79, 80, 81, 82, 83, 84, 85, 86, 87, 88, 89, 90, 91, 92, 93, 94, 95, 96, 97, 98, 99, 100, 101, 102, 103, 104, 105, 106, 107, 108, 109, 110, 111, 112, 113, 114, 115, 116, 117, 118, 119, 120, 121, 122, 123, 124, 125, 126, 127, 128, 129, 130, 131, 132, 133, 134, 135, 136, 137, 138, 139, 140, 141, 142, 143, 144, 145, 146, 147, 152, 153, 154, 155, 156, 157, 158, 159, 160, 161, 162, 163, 164, 165, 166, 167, 168, 169, 170, 171, 172, 173, 174, 175, 176, 177, 178, 179, 180, 181, 182, 183, 184, 185, 186, 187, 188, 189, 190, 191, 192, 193, 194, 195, 196, 197, 198, 199, 200, 201, 202, 203, 204, 205, 206] rfl (by decide +kernel)) (goodIn_sub (fun _ h => List.mem_cons_of_mem _ (List.mem_append_left _ (List.mem_append_left _ (List.mem_append_left _ (List.mem_append_left _ (List.mem_append_right _ h)))))) (by decide +kernel))) (goodIn_sub (fun _ h => List.mem_cons_of_mem _ (List.mem_append_left _ (List.mem_append_left _ (List.mem_append_left _ (List.mem_append_right _ h))))) (by decide +kernel))) (goodIn_sub (fun _ h => List.mem_cons_of_mem _ (List.mem_append_left _ (List.mem_append_left _ (List.mem_append_right _ h)))) (by decide +kernel))) (goodIn_sub (fun _ h => List.mem_cons_of_mem _ (List.mem_append_left _ (List.mem_append_right _ h))) (by decide +kernel))) (goodIn_sub (fun _ h => List.mem_cons_of_mem _ (List.mem_append_right _ h)) (by decide +kernel))
set_option maxRecDepth 20000 in
theorem gX11_spanLength_X11_needSpan : GoodIn wsX11_spanLength (wsV RX11 272 RX11 yX11_needSpan wsX11_needSpan) := goodIn_app (goodIn_of _ (by decide +kernel)) ggX11_spanLength_X11_needSpan
set_option maxRecDepth 20000 in
theorem ggX11_save_X11_needQuestion : GoodIn wsX11_save wsX11_needQuestion := goodIn_ca (goodIn_r _ [12, 13, 14, 7, 15, 16, 17, 6, 18, 19, 161, 162, 163, 164, 165, 166, 167, 168, 169, 170, 171, 172, 173, 174, 175, 176, 177] rfl (by decide +kernel)) (goodIn_sub (fun _ h => List.mem_cons_of_mem _ (List.mem_append_left _ (List.mem_append_right _ h))) (by decide +kernel))
set_option maxRecDepth 20000 in
theorem gX11_save_X11_needQuestion : GoodIn wsX11_save (wsV RX11 237 RX11 yX11_needQuestion wsX11_needQuestion) := goodIn_app (goodIn_of _ (by decide +kernel)) ggX11_save_X11_needQuestion
set_option maxRecDepth 20000 in
theorem ggX11_news_X11_textOf : GoodIn wsX11_news wsX11_textOf := goodIn_ca (goodIn_r _ [7, 8, 9, 10, 11, 12, 13, 14, 15, 16, 17, 18, 108, 109, 110, 111, 112, 113, 114, 115, 116, 117, 118, 119, 120, 121, 122, 123, 124, 125, 126, 127, 128, 129, 130] rfl (by decide +kernel)) (goodIn_sub (fun _ h => List.mem_cons_of_mem _ (List.mem_append_left _ (List.mem_append_left _ (List.mem_append_right _ h)))) (by decide +kernel))
set_option maxRecDepth 20000 in
theorem gX11_news_X11_textOf : GoodIn wsX11_news (wsV RX11 128 RX11 yX11_textOf wsX11_textOf) := goodIn_app (goodIn_of _ (by decide +kernel)) ggX11_news_X11_textOf
set_option maxRecDepth 20000 in
theorem ggX11_likeness_X11_textOf : GoodIn wsX11_likeness wsX11_textOf := goodIn_ca (goodIn_r _ [8, 9, 10, 11, 12, 13, 14, 15, 16, 17, 18, 19, 41, 42, 43, 44, 45, 46, 47, 48, 49, 50, 51, 52, 53, 54, 55, 56, 57, 35, 36, 37, 38, 39, 40] rfl (by decide +kernel)) (goodIn_sub (fun _ h => List.mem_cons_of_mem _ (List.mem_append_left _ (List.mem_append_right _ h))) (by decide +kernel))
set_option maxRecDepth 20000 in
theorem gX11_likeness_X11_textOf : GoodIn wsX11_likeness (wsV RX11 128 RX11 yX11_textOf wsX11_textOf) := goodIn_app (goodIn_of _ (by decide +kernel)) ggX11_likeness_X11_textOf
set_option maxRecDepth 20000 in
theorem ggX11_write_X8_writeInto : GoodIn wsX11_write wsX8_writeInto := goodIn_ca (goodIn_ca (goodIn_r _ [8, 9, 10, 11, 12, 13, 14, 15, 16, 17, 18, 19, 20, 21, 22, 23, 7, 24, 25, 26, 27, 28, 29, 30, 31, 32, 33, 34, 35, 36, 37, 38, 39, 40, 41, 42, 43, 44, 45, 46, 47, 48, 49, 50, 51, 52, 53, 54, 55, 56, 57, 58, 59, 60, 61, 62, 63, 64, 65, 66, 67, 68, 69, 70, 71, 72, 73, 74, 75, 76, 95, 96, 97, 98, 99, 100, 101, 102, 103, 104, 105, 106, 107, 108] rfl (by decide +kernel)) (goodIn_sub (fun _ h => List.mem_cons_of_mem _ (List.mem_append_left _ (List.mem_append_right _ h))) (by decide +kernel))) (goodIn_sub (fun _ h => List.mem_cons_of_mem _ (List.mem_append_right _ h)) (by decide +kernel))
set_option maxRecDepth 20000 in
theorem gX11_write_X8_writeInto : GoodIn wsX11_write (wsV RX11 296 RX8 yX8_writeInto wsX8_writeInto) := goodIn_app (goodIn_of _ (by decide +kernel)) ggX11_write_X8_writeInto
set_option maxRecDepth 20000 in
theorem ggX11_write_X2_size : GoodIn wsX11_write wsX2_size := goodIn_r _ [80, 19, 104, 105, 106] rfl (by decide +kernel)
set_option maxRecDepth 20000 in
theorem gX11_write_X2_size : GoodIn wsX11_write (wsV RX11 228 RX2 yX2_size wsX2_size) := goodIn_app (goodIn_of _ (by decide +kernel)) ggX11_write_X2_size
set_option maxRecDepth 20000 in
theorem ggX11_writtenAt_X2_size : GoodIn wsX11_writtenAt wsX2_size := goodIn_r _ [8, 9, 29, 30, 31] rfl (by decide +kernel)
set_option maxRecDepth 20000 in
theorem gX11_writtenAt_X2_size : GoodIn wsX11_writtenAt (wsV RX11 228 RX2 yX2_size wsX2_size) := goodIn_app (goodIn_of _ (by decide +kernel)) ggX11_writtenAt_X2_size
set_option maxRecDepth 20000 in
theorem ggX11_checksum_X8_sum : GoodIn wsX11_checksum wsX8_sum := goodIn_ca (goodIn_ca (goodIn_r _ [9, 10, 11, 12, 13, 14, 15, 16, 17, 18, 19, 8, 20, 21, 22, 23, 24, 25, 26, 27, 28, 29, 30, 31, 32, 33, 34, 35, 36, 37, 38, 39, 40, 41, 42, 43, 44, 45, 46, 47, 48, 49, 75, 76, 77, 78, 79, 80, 81, 82, 83, 84, 85] rfl (by decide +kernel)) (goodIn_sub (fun _ h => List.mem_cons_of_mem _ (List.mem_append_left _ (List.mem_append_right _ h))) (by decide +kernel))) (goodIn_sub (fun _ h => List.mem_cons_of_mem _ (List.mem_append_right _ h)) (by decide +kernel))
set_option maxRecDepth 20000 in
theorem gX11_checksum_X8_sum : GoodIn wsX11_checksum (wsV RX11 309 RX8 yX8_sum wsX8_sum) := goodIn_app (goodIn_of _ (by decide +kernel)) ggX11_checksum_X8_sum
set_option maxRecDepth 20000 in
theorem ggX11_checksum_X4_size : GoodIn wsX11_checksum wsX4_size := goodIn_r _ [54, 55, 86, 87] rfl (by decide +kernel)
set_option maxRecDepth 20000 in
theorem gX11_checksum_X4_size : GoodIn wsX11_checksum (wsV RX11 88 RX4 yX4_size wsX4_size) := goodIn_app (goodIn_of _ (by decide +kernel)) ggX11_checksum_X4_size
set_option maxRecDepth 20000 in
theorem ggX11_isSound_X11_areRowsSound : GoodIn wsX11_isSound wsX11_areRowsSound := goodIn_ca (goodIn_r _ [10, 4, 11, 5, 12, 13, 14, 15, 16, 17, 18, 19, 20, 21, 22, 23, 24, 25, 26, 27, 28, 29, 30, 31, 32, 33, 34, 35, 36, 37, 38, 39, 40, 41, 42, 43, 44, 45, 46, 47, 48, 49, 50, 51, 52, 53, 54, 55, 56, 57, 58, 59, 60, 61, 62, 63, 64, 65, 66, 67, 68, 69, 70, 71, 72, 73, 74, 75, 76, 77, 78, 79, 80, 81, 82, 83, 84, 85, 86, 87, 88, 89, 90, 91, 92, 93, 94, 95, 96, 97, 98, 99, 100, 101, 102, 103, 104, 105, 106, 107, 108, 109, 110, 111, 112, 113, 114, 115, 116, 117, 118, 119, 120, 121, 122, 123, 124, 125, 126, 127, 128, 129, 130, 131, 132, 133, 134, 135, 136, 137, 138, 139, 140, 141, 142, 143, 144, 145, 146, 147, 148, 149, 150, 151, 152, 153, 154, 155, 156, 157, 158, 159, 160, 161, 162, 163, 164, 165, 166, 167, 168, 169, 170, 171, 172, 173, 174, 175, 176, 177, 178, 179, 180, 181, 182, 183, 184, 185, 186, 187, 188, 189, 190, 191, 192, 193, 194, 195, 196, 197, 198, 199, 200, 201, 202, 203, 204, 205, 206, 207, 489, 490, 491, 492, 493, 494, 495, 496, 497, 498, 499, 500, 501, 502, 503, 504, 505, 506, 507, 508, 509, 510, 511, 512, 513, 514, 515, 516, 517, 518, 519, 520, 521, 522, 523, 524, 525, 526] rfl (by decide +kernel)) (goodIn_sub (fun _ h => List.mem_cons_of_mem _ (List.mem_append_left _ (List.mem_append_right _ h))) (by decide +kernel))
set_option maxRecDepth 20000 in
theorem gX11_isSound_X11_areRowsSound : GoodIn wsX11_isSound (wsV RX11 314 RX11 yX11_areRowsSound wsX11_areRowsSound) := goodIn_app (goodIn_of _ (by decide +kernel)) ggX11_isSound_X11_areRowsSound
set_option maxRecDepth 20000 in
theorem ggX11_isSound_X6_isEmpty : GoodIn wsX11_isSound wsX6_isEmpty := goodIn_r _ [212, 213, 527, 528, 529] rfl (by decide +kernel)
set_option maxRecDepth 20000 in
theorem gX11_isSound_X6_isEmpty : GoodIn wsX11_isSound (wsV RX11 318 RX6 yX6_isEmpty wsX6_isEmpty) := goodIn_app (goodIn_of _ (by decide +kernel)) ggX11_isSound_X6_isEmpty
set_option maxRecDepth 20000 in
theorem ggX11_textOf_X8_at : GoodIn wsX11_textOf wsX8_at := goodIn_r _ [8, 9, 10, 11, 26, 27, 28, 29, 30, 31, 32, 33, 34] rfl (by decide +kernel)
set_option maxRecDepth 20000 in
theorem gX11_textOf_X8_at : GoodIn wsX11_textOf (wsV RX11 145 RX8 yX8_at wsX8_at) := goodIn_app (goodIn_of _ (by decide +kernel)) ggX11_textOf_X8_at
set_option maxRecDepth 20000 in
theorem ggX11_needPart_X8_partCount : GoodIn wsX11_needPart wsX8_partCount := goodIn_r _ [8, 9, 24, 25, 26] rfl (by decide +kernel)
set_option maxRecDepth 20000 in
theorem gX11_needPart_X8_partCount : GoodIn wsX11_needPart (wsV RX11 198 RX8 yX8_partCount wsX8_partCount) := goodIn_app (goodIn_of _ (by decide +kernel)) ggX11_needPart_X8_partCount
set_option maxRecDepth 20000 in
theorem ggX11_needQuestion_X6_isEmpty : GoodIn wsX11_needQuestion wsX6_isEmpty := goodIn_r _ [8, 9, 24, 25, 26] rfl (by decide +kernel)
set_option maxRecDepth 20000 in
theorem gX11_needQuestion_X6_isEmpty : GoodIn wsX11_needQuestion (wsV RX11 318 RX6 yX6_isEmpty wsX6_isEmpty) := goodIn_app (goodIn_of _ (by decide +kernel)) ggX11_needQuestion_X6_isEmpty
set_option maxRecDepth 20000 in
theorem ggX11_needSpan_X11_needQuestion : GoodIn wsX11_needSpan wsX11_needQuestion := goodIn_ca (goodIn_r _ [12, 13, 14, 6, 15, 16, 17, 18, 19, 20, 144, 145, 146, 147, 148, 149, 150, 151, 152, 153, 154, 155, 156, 157, 164, 165, 166] rfl (by decide +kernel)) (goodIn_sub (fun _ h => List.mem_cons_of_mem _ (List.mem_append_left _ (List.mem_append_left _ (List.mem_append_right _ h)))) (by decide +kernel))
set_option maxRecDepth 20000 in
theorem gX11_needSpan_X11_needQuestion : GoodIn wsX11_needSpan (wsV RX11 237 RX11 yX11_needQuestion wsX11_needQuestion) := goodIn_app (goodIn_of _ (by decide +kernel)) ggX11_needSpan_X11_needQuestion
set_option maxRecDepth 20000 in
theorem ggX11_onlyWord_X4_onlyWord : GoodIn wsX11_onlyWord wsX4_onlyWord := goodIn_ca (goodIn_r _ [8, 9, 10, 11, 12, 7, 13, 14, 15, 16, 17, 18, 19, 20, 21, 22, 23, 24, 25, 26, 27, 28, 29, 30, 45, 46] rfl (by decide +kernel)) (goodIn_sub (fun _ h => List.mem_cons_of_mem _ (List.mem_append_right _ h)) (by decide +kernel))
set_option maxRecDepth 20000 in
theorem gX11_onlyWord_X4_onlyWord : GoodIn wsX11_onlyWord (wsV RX11 343 RX4 yX4_onlyWord wsX4_onlyWord) := goodIn_app (goodIn_of _ (by decide +kernel)) ggX11_onlyWord_X4_onlyWord
set_option maxRecDepth 20000 in
theorem ggX11_areRowsSound_X8_collect : GoodIn wsX11_areRowsSound wsX8_collect := goodIn_ca (goodIn_r _ [10, 11, 12, 13, 14, 15, 16, 17, 18, 19, 20, 21, 22, 9, 23, 24, 25, 26, 27, 28, 29, 30, 31, 32, 33, 34, 35, 36, 37, 38, 39, 40, 41, 42, 43, 44, 45, 46, 47, 48, 49, 50, 51, 52, 53, 54, 55, 56, 57, 58, 59, 60, 61, 62, 63, 64, 65, 66, 67, 68, 69, 70, 71, 72, 73, 74, 75, 76, 77, 78, 214, 215, 216, 217, 218, 219, 220, 221, 222, 223, 224, 225, 226, 227, 228, 229, 230, 231, 232, 233, 234] rfl (by decide +kernel)) (goodIn_sub (fun _ h => List.mem_cons_of_mem _ (List.mem_append_right _ h)) (by decide +kernel))
set_option maxRecDepth 20000 in
theorem gX11_areRowsSound_X8_collect : GoodIn wsX11_areRowsSound (wsV RX11 169 RX8 yX8_collect wsX8_collect) := goodIn_app (goodIn_of _ (by decide +kernel)) ggX11_areRowsSound_X8_collect
set_option maxRecDepth 20000 in
theorem ggX11_areRowsSound_X8_takeFrame : GoodIn wsX11_areRowsSound wsX8_takeFrame := goodIn_r _ [82, 11, 83, 12, 13, 25, 84, 85, 86, 20, 21, 22, 9, 23, 24, 87, 88, 89, 90, 91, 92, 93, 94, 95, 96, 97, 98, 99, 100, 17, 101, 102, 103, 104, 105, 106, 107, 108, 109, 58, 34, 19, 14, 15, 16, 18, 214, 215, 216, 217, 218, 219, 220, 221, 222, 223, 224] rfl (by decide +kernel)
set_option maxRecDepth 20000 in
theorem gX11_areRowsSound_X8_takeFrame : GoodIn wsX11_areRowsSound (wsV RX11 358 RX8 yX8_takeFrame wsX8_takeFrame) := goodIn_app (goodIn_of _ (by decide +kernel)) ggX11_areRowsSound_X8_takeFrame
set_option maxRecDepth 20000 in
theorem ggX11_areRowsSound_X8_partCount : GoodIn wsX11_areRowsSound wsX8_partCount := goodIn_r _ [113, 83, 214, 215, 216] rfl (by decide +kernel)
set_option maxRecDepth 20000 in
theorem gX11_areRowsSound_X8_partCount : GoodIn wsX11_areRowsSound (wsV RX11 198 RX8 yX8_partCount wsX8_partCount) := goodIn_app (goodIn_of _ (by decide +kernel)) ggX11_areRowsSound_X8_partCount
set_option maxRecDepth 20000 in
theorem ggX11_areRowsSound_X7_size : GoodIn wsX11_areRowsSound wsX7_size := goodIn_r _ [29, 19, 223, 224] rfl (by decide +kernel)
set_option maxRecDepth 20000 in
theorem gX11_areRowsSound_X7_size : GoodIn wsX11_areRowsSound (wsV RX11 153 RX7 yX7_size wsX7_size) := goodIn_app (goodIn_of _ (by decide +kernel)) ggX11_areRowsSound_X7_size
set_option maxRecDepth 20000 in
theorem ggX11_areRowsSound_X8_isLike : GoodIn wsX11_areRowsSound wsX8_isLike := goodIn_ca (goodIn_r _ [191, 11, 12, 13, 20, 21, 22, 9, 23, 24, 25, 192, 193, 194, 17, 195, 19, 196, 197, 198, 199, 34, 214, 215, 216, 217, 218, 219, 220, 221, 222, 223, 224] rfl (by decide +kernel)) (goodIn_sub (fun _ h => List.mem_cons_of_mem _ (List.mem_append_right _ h)) (by decide +kernel))
set_option maxRecDepth 20000 in
theorem gX11_areRowsSound_X8_isLike : GoodIn wsX11_areRowsSound (wsV RX11 370 RX8 yX8_isLike wsX8_isLike) := goodIn_app (goodIn_of _ (by decide +kernel)) ggX11_areRowsSound_X8_isLike
set_option maxRecDepth 20000 in
theorem ggX13_isText_X13_in : GoodIn wsX13_isText wsX13_in := goodIn_r _ [6] rfl (by decide +kernel)
set_option maxRecDepth 20000 in
theorem gX13_isText_X13_in : GoodIn wsX13_isText (va_wsS RX13 88 yX13_in wsX13_in) := goodIn_app (goodIn_of _ (by decide +kernel)) ggX13_isText_X13_in
set_option maxRecDepth 20000 in
theorem ggX13_wordsOf_X13_head : GoodIn wsX13_wordsOf wsX13_head := goodIn_ca (goodIn_r _ [38, 1] rfl (by decide +kernel)) (goodIn_sub (fun _ h => List.mem_cons_of_mem _ (List.mem_append_right _ h)) (by decide +kernel))
set_option maxRecDepth 20000 in
theorem gX13_wordsOf_X13_head : GoodIn wsX13_wordsOf (va_wsS RX13 128 yX13_head wsX13_head) := goodIn_app (goodIn_of _ (by decide +kernel)) ggX13_wordsOf_X13_head
set_option maxRecDepth 20000 in
theorem ggX13_all_X13_head : GoodIn wsX13_all wsX13_head := goodIn_ca (goodIn_r _ [9, 1] rfl (by decide +kernel)) (goodIn_sub (fun _ h => List.mem_cons_of_mem _ (List.mem_append_right _ h)) (by decide +kernel))
set_option maxRecDepth 20000 in
theorem gX13_all_X13_head : GoodIn wsX13_all (va_wsS RX13 128 yX13_head wsX13_head) := goodIn_app (goodIn_of _ (by decide +kernel)) ggX13_all_X13_head
set_option maxRecDepth 20000 in
theorem ggX13_type_X13_in : GoodIn wsX13_type wsX13_in := goodIn_r _ [5] rfl (by decide +kernel)
set_option maxRecDepth 20000 in
theorem gX13_type_X13_in : GoodIn wsX13_type (va_wsS RX13 88 yX13_in wsX13_in) := goodIn_app (goodIn_of _ (by decide +kernel)) ggX13_type_X13_in
set_option maxRecDepth 20000 in
theorem ggX13_type_X13_no : GoodIn wsX13_type wsX13_no := goodIn_r _ [9, 10, 16, 17, 18, 19, 20, 21, 22, 23, 24, 25, 26, 27, 28, 29, 30, 31, 32, 33, 34, 35, 36, 37, 38, 39, 40, 41, 42] rfl (by decide +kernel)
set_option maxRecDepth 20000 in
theorem gX13_type_X13_no : GoodIn wsX13_type (wsV RX13 139 RX13 yX13_no wsX13_no) := goodIn_app (goodIn_of _ (by decide +kernel)) ggX13_type_X13_no
set_option maxRecDepth 20000 in
theorem ggX13_type_X13_adds : GoodIn wsX13_type wsX13_adds := goodIn_ca (goodIn_r _ [14, 15, 1, 16, 17, 18, 19, 20, 21, 22, 23, 24, 25, 26, 27, 28, 29, 30, 31, 32, 33, 34, 35, 36, 37, 38, 39, 40, 41, 42] rfl (by decide +kernel)) (goodIn_sub (fun _ h => List.mem_cons_of_mem _ (List.mem_append_right _ h)) (by decide +kernel))
set_option maxRecDepth 20000 in
theorem gX13_type_X13_adds : GoodIn wsX13_type (wsV RX13 143 RX13 yX13_adds wsX13_adds) := goodIn_app (goodIn_of _ (by decide +kernel)) ggX13_type_X13_adds
set_option maxRecDepth 20000 in
theorem ggX13_signAt_X13_in : GoodIn wsX13_signAt wsX13_in := goodIn_r _ [6] rfl (by decide +kernel)
set_option maxRecDepth 20000 in
theorem gX13_signAt_X13_in : GoodIn wsX13_signAt (va_wsS RX13 88 yX13_in wsX13_in) := goodIn_app (goodIn_of _ (by decide +kernel)) ggX13_signAt_X13_in
set_option maxRecDepth 20000 in
theorem ggX13_signAt_X13_no : GoodIn wsX13_signAt wsX13_no := goodIn_r _ [10, 11, 12, 13, 14, 15, 16, 17, 18, 19, 20, 21, 22, 23, 24, 25, 26, 27, 28, 29, 30, 31, 32, 33, 34, 35, 36, 37, 38] rfl (by decide +kernel)
set_option maxRecDepth 20000 in
theorem gX13_signAt_X13_no : GoodIn wsX13_signAt (wsV RX13 139 RX13 yX13_no wsX13_no) := goodIn_app (goodIn_of _ (by decide +kernel)) ggX13_signAt_X13_no
set_option maxRecDepth 20000 in
theorem ggX13_reads_X13_wordsOf : GoodIn wsX13_reads wsX13_wordsOf := goodIn_ca (goodIn_r _ [12, 4, 13, 2, 14, 15, 11, 16, 17, 18, 19, 20, 21, 22, 23, 24, 25, 26, 27, 28, 29, 30, 31, 32, 33, 34, 35, 36, 37, 38, 39, 40, 41, 42, 43, 44, 45, 46, 47, 48, 49, 50, 51, 52, 53, 54, 55, 56, 57, 58, 59, 60, 61, 62, 63, 64, 65, 66, 67, 68, 69, 70, 71, 72, 73, 74] rfl (by decide +kernel)) (goodIn_sub (fun _ h => List.mem_cons_of_mem _ (List.mem_append_right _ h)) (by decide +kernel))
set_option maxRecDepth 20000 in
theorem gX13_reads_X13_wordsOf : GoodIn wsX13_reads (wsV RX13 154 RX13 yX13_wordsOf wsX13_wordsOf) := goodIn_app (goodIn_of _ (by decide +kernel)) ggX13_reads_X13_wordsOf
set_option maxRecDepth 20000 in
theorem ggX13_add_X13_in : GoodIn wsX13_add wsX13_in := goodIn_r _ [8] rfl (by decide +kernel)
set_option maxRecDepth 20000 in
theorem gX13_add_X13_in : GoodIn wsX13_add (va_wsS RX13 88 yX13_in wsX13_in) := goodIn_app (goodIn_of _ (by decide +kernel)) ggX13_add_X13_in
set_option maxRecDepth 20000 in
theorem ggX13_add_X13_no : GoodIn wsX13_add wsX13_no := goodIn_r _ [12, 13, 61, 62, 63, 64, 65, 66, 67, 68, 69, 70, 71, 72, 73, 74, 75, 76, 77, 78, 79, 80, 81, 82, 83, 84, 85, 86, 87] rfl (by decide +kernel)
set_option maxRecDepth 20000 in
theorem gX13_add_X13_no : GoodIn wsX13_add (wsV RX13 139 RX13 yX13_no wsX13_no) := goodIn_app (goodIn_of _ (by decide +kernel)) ggX13_add_X13_no
set_option maxRecDepth 20000 in
theorem ggX13_add_X13_reads : GoodIn wsX13_add wsX13_reads := goodIn_ca (goodIn_r _ [17, 18, 19, 20, 21, 22, 23, 24, 25, 26, 27, 7, 28, 29, 30, 31, 32, 5, 6, 8, 33, 34, 35, 36, 37, 38, 39, 40, 41, 42, 43, 44, 45, 46, 47, 48, 49, 50, 51, 52, 53, 54, 55, 56, 57, 58, 59, 60, 61, 62, 63, 64, 65, 66, 67, 68, 69, 70, 71, 72, 73, 74, 75, 76, 77, 78, 79, 80, 81, 82, 83, 84, 85, 86, 87] rfl (by decide +kernel)) (goodIn_sub (fun _ h => List.mem_cons_of_mem _ (List.mem_append_right _ h)) (by decide +kernel))
set_option maxRecDepth 20000 in
theorem gX13_add_X13_reads : GoodIn wsX13_add (wsV RX13 158 RX13 yX13_reads wsX13_reads) := goodIn_app (goodIn_of _ (by decide +kernel)) ggX13_add_X13_reads
set_option maxRecDepth 20000 in
theorem ggX13_revise_X13_isText : GoodIn wsX13_revise wsX13_isText := goodIn_ca (goodIn_r _ [5, 6, 7, 8, 9, 4, 10, 67, 68, 69, 70, 71, 72, 73, 74, 75, 76, 77, 78, 79, 80, 81, 82, 83, 84, 85, 86, 87, 88, 89, 90, 91, 92, 93] rfl (by decide +kernel)) (goodIn_sub (fun _ h => List.mem_cons_of_mem _ (List.mem_append_right _ h)) (by decide +kernel))
set_option maxRecDepth 20000 in
theorem gX13_revise_X13_isText : GoodIn wsX13_revise (wsV RX13 161 RX13 yX13_isText wsX13_isText) := goodIn_app (goodIn_of _ (by decide +kernel)) ggX13_revise_X13_isText
set_option maxRecDepth 20000 in
theorem ggX13_revise_X13_no : GoodIn wsX13_revise wsX13_no := goodIn_r _ [14, 15, 67, 68, 69, 70, 71, 72, 73, 74, 75, 76, 77, 78, 79, 80, 81, 82, 83, 84, 85, 86, 87, 88, 89, 90, 91, 92, 93] rfl (by decide +kernel)
set_option maxRecDepth 20000 in
theorem gX13_revise_X13_no : GoodIn wsX13_revise (wsV RX13 139 RX13 yX13_no wsX13_no) := goodIn_app (goodIn_of _ (by decide +kernel)) ggX13_revise_X13_no
set_option maxRecDepth 20000 in
theorem ggX13_drop_X13_isText : GoodIn wsX13_drop wsX13_isText := goodIn_ca (goodIn_r _ [6, 7, 1, 8, 9, 5, 10, 20, 21, 22, 23, 24, 25, 26, 27, 28, 29, 30, 31, 32, 33, 34, 35, 36, 37, 38, 39, 40, 41, 42, 43, 44, 45, 46] rfl (by decide +kernel)) (goodIn_sub (fun _ h => List.mem_cons_of_mem _ (List.mem_append_right _ h)) (by decide +kernel))
set_option maxRecDepth 20000 in
theorem gX13_drop_X13_isText : GoodIn wsX13_drop (wsV RX13 161 RX13 yX13_isText wsX13_isText) := goodIn_app (goodIn_of _ (by decide +kernel)) ggX13_drop_X13_isText
set_option maxRecDepth 20000 in
theorem ggX13_drop_X13_no : GoodIn wsX13_drop wsX13_no := goodIn_r _ [14, 15, 20, 21, 22, 23, 24, 25, 26, 27, 28, 29, 30, 31, 32, 33, 34, 35, 36, 37, 38, 39, 40, 41, 42, 43, 44, 45, 46] rfl (by decide +kernel)
set_option maxRecDepth 20000 in
theorem gX13_drop_X13_no : GoodIn wsX13_drop (wsV RX13 139 RX13 yX13_no wsX13_no) := goodIn_app (goodIn_of _ (by decide +kernel)) ggX13_drop_X13_no
set_option maxRecDepth 20000 in
theorem ggX13_texts_X13_many : GoodIn wsX13_texts wsX13_many := goodIn_ca (goodIn_r _ [6, 7, 8, 9, 10, 11, 12, 13, 14, 15, 16, 17, 18, 19, 20, 21, 22, 23, 24, 25, 26, 27, 28, 29, 30, 31, 32, 33, 34] rfl (by decide +kernel)) (goodIn_sub (fun _ h => List.mem_cons_of_mem _ (List.mem_append_right _ h)) (by decide +kernel))
set_option maxRecDepth 20000 in
theorem gX13_texts_X13_many : GoodIn wsX13_texts (wsV RX13 167 RX13 yX13_many wsX13_many) := goodIn_app (goodIn_of _ (by decide +kernel)) ggX13_texts_X13_many
set_option maxRecDepth 20000 in
theorem ggX13_isThere_X13_isText : GoodIn wsX13_isThere wsX13_isText := goodIn_ca (goodIn_r _ [6, 7, 8, 9, 10, 5, 11, 12, 13, 14, 15, 16, 17, 18, 19, 20, 21, 22, 23, 24, 25, 26, 27, 28, 29, 30, 31, 32, 33, 34, 35, 36, 37, 38] rfl (by decide +kernel)) (goodIn_sub (fun _ h => List.mem_cons_of_mem _ (List.mem_append_right _ h)) (by decide +kernel))
set_option maxRecDepth 20000 in
theorem gX13_isThere_X13_isText : GoodIn wsX13_isThere (wsV RX13 161 RX13 yX13_isText wsX13_isText) := goodIn_app (goodIn_of _ (by decide +kernel)) ggX13_isThere_X13_isText
set_option maxRecDepth 20000 in
theorem ggX13_length_X13_isText : GoodIn wsX13_length wsX13_isText := goodIn_ca (goodIn_r _ [5, 6, 7, 8, 9, 4, 10, 22, 23, 24, 25, 26, 27, 28, 29, 30, 31, 32, 33, 34, 35, 36, 37, 38, 39, 40, 41, 42, 43, 44, 45, 46, 47, 48] rfl (by decide +kernel)) (goodIn_sub (fun _ h => List.mem_cons_of_mem _ (List.mem_append_right _ h)) (by decide +kernel))
set_option maxRecDepth 20000 in
theorem gX13_length_X13_isText : GoodIn wsX13_length (wsV RX13 161 RX13 yX13_isText wsX13_isText) := goodIn_app (goodIn_of _ (by decide +kernel)) ggX13_length_X13_isText
set_option maxRecDepth 20000 in
theorem ggX13_length_X13_no : GoodIn wsX13_length wsX13_no := goodIn_r _ [14, 15, 22, 23, 24, 25, 26, 27, 28, 29, 30, 31, 32, 33, 34, 35, 36, 37, 38, 39, 40, 41, 42, 43, 44, 45, 46, 47, 48] rfl (by decide +kernel)
set_option maxRecDepth 20000 in
theorem gX13_length_X13_no : GoodIn wsX13_length (wsV RX13 139 RX13 yX13_no wsX13_no) := goodIn_app (goodIn_of _ (by decide +kernel)) ggX13_length_X13_no
set_option maxRecDepth 20000 in
theorem ggX13_tellWord_X13_isText : GoodIn wsX13_tellWord wsX13_isText := goodIn_ca (goodIn_r _ [7, 8, 9, 10, 11, 6, 12, 43, 44, 45, 46, 47, 48, 49, 50, 51, 52, 53, 54, 55, 56, 57, 58, 59, 60, 61, 62, 63, 64, 65, 66, 67, 68, 69] rfl (by decide +kernel)) (goodIn_sub (fun _ h => List.mem_cons_of_mem _ (List.mem_append_right _ h)) (by decide +kernel))
set_option maxRecDepth 20000 in
theorem gX13_tellWord_X13_isText : GoodIn wsX13_tellWord (wsV RX13 161 RX13 yX13_isText wsX13_isText) := goodIn_app (goodIn_of _ (by decide +kernel)) ggX13_tellWord_X13_isText
set_option maxRecDepth 20000 in
theorem ggX13_tellWord_X13_no : GoodIn wsX13_tellWord wsX13_no := goodIn_r _ [16, 17, 43, 44, 45, 46, 47, 48, 49, 50, 51, 52, 53, 54, 55, 56, 57, 58, 59, 60, 61, 62, 63, 64, 65, 66, 67, 68, 69] rfl (by decide +kernel)
set_option maxRecDepth 20000 in
theorem gX13_tellWord_X13_no : GoodIn wsX13_tellWord (wsV RX13 139 RX13 yX13_no wsX13_no) := goodIn_app (goodIn_of _ (by decide +kernel)) ggX13_tellWord_X13_no
set_option maxRecDepth 20000 in
theorem ggX13_value_X13_isText : GoodIn wsX13_value wsX13_isText := goodIn_ca (goodIn_r _ [6, 7, 8, 9, 10, 5, 11, 17, 18, 19, 20, 21, 22, 23, 24, 25, 26, 27, 28, 29, 30, 31, 32, 33, 34, 35, 36, 37, 38, 39, 40, 41, 42, 43] rfl (by decide +kernel)) (goodIn_sub (fun _ h => List.mem_cons_of_mem _ (List.mem_append_right _ h)) (by decide +kernel))
set_option maxRecDepth 20000 in
theorem gX13_value_X13_isText : GoodIn wsX13_value (wsV RX13 161 RX13 yX13_isText wsX13_isText) := goodIn_app (goodIn_of _ (by decide +kernel)) ggX13_value_X13_isText
set_option maxRecDepth 20000 in
theorem ggX13_value_X13_no : GoodIn wsX13_value wsX13_no := goodIn_r _ [15, 16, 17, 18, 19, 20, 21, 22, 23, 24, 25, 26, 27, 28, 29, 30, 31, 32, 33, 34, 35, 36, 37, 38, 39, 40, 41, 42, 43] rfl (by decide +kernel)
set_option maxRecDepth 20000 in
theorem gX13_value_X13_no : GoodIn wsX13_value (wsV RX13 139 RX13 yX13_no wsX13_no) := goodIn_app (goodIn_of _ (by decide +kernel)) ggX13_value_X13_no
set_option maxRecDepth 20000 in
theorem ggX13_tag_X13_isText : GoodIn wsX13_tag wsX13_isText := goodIn_ca (goodIn_r _ [6, 7, 8, 9, 10, 5, 11, 17, 18, 19, 20, 21, 22, 23, 24, 25, 26, 27, 28, 29, 30, 31, 32, 33, 34, 35, 36, 37, 38, 39, 40, 41, 42, 43] rfl (by decide +kernel)) (goodIn_sub (fun _ h => List.mem_cons_of_mem _ (List.mem_append_right _ h)) (by decide +kernel))
set_option maxRecDepth 20000 in
theorem gX13_tag_X13_isText : GoodIn wsX13_tag (wsV RX13 161 RX13 yX13_isText wsX13_isText) := goodIn_app (goodIn_of _ (by decide +kernel)) ggX13_tag_X13_isText
set_option maxRecDepth 20000 in
theorem ggX13_tag_X13_no : GoodIn wsX13_tag wsX13_no := goodIn_r _ [15, 16, 17, 18, 19, 20, 21, 22, 23, 24, 25, 26, 27, 28, 29, 30, 31, 32, 33, 34, 35, 36, 37, 38, 39, 40, 41, 42, 43] rfl (by decide +kernel)
set_option maxRecDepth 20000 in
theorem gX13_tag_X13_no : GoodIn wsX13_tag (wsV RX13 139 RX13 yX13_no wsX13_no) := goodIn_app (goodIn_of _ (by decide +kernel)) ggX13_tag_X13_no
set_option maxRecDepth 20000 in
theorem ggX13_words_X13_all : GoodIn wsX13_words wsX13_all := goodIn_ca (goodIn_r _ [6, 7, 8, 9, 10, 11, 12, 13, 5, 14, 15, 16, 17, 18, 19, 20, 21, 22, 23, 24, 25, 26, 27, 28, 29, 30, 31, 32, 33, 34, 35, 36, 37, 38, 39, 40, 41] rfl (by decide +kernel)) (goodIn_sub (fun _ h => List.mem_cons_of_mem _ (List.mem_append_right _ h)) (by decide +kernel))
set_option maxRecDepth 20000 in
theorem gX13_words_X13_all : GoodIn wsX13_words (wsV RX13 174 RX13 yX13_all wsX13_all) := goodIn_app (goodIn_of _ (by decide +kernel)) ggX13_words_X13_all
set_option maxRecDepth 20000 in
theorem ggX13_tellOf_X13_all : GoodIn wsX13_tellOf wsX13_all := goodIn_ca (goodIn_r _ [5, 6, 7, 8, 9, 10, 11, 12, 4, 13, 47, 48, 49, 50, 51, 52, 53, 54, 55, 56, 57, 58, 59, 60, 61, 62, 63, 64, 65, 66, 67, 68, 69, 70, 71, 72, 73] rfl (by decide +kernel)) (goodIn_sub (fun _ h => List.mem_cons_of_mem _ (List.mem_append_right _ h)) (by decide +kernel))
set_option maxRecDepth 20000 in
theorem gX13_tellOf_X13_all : GoodIn wsX13_tellOf (wsV RX13 174 RX13 yX13_all wsX13_all) := goodIn_app (goodIn_of _ (by decide +kernel)) ggX13_tellOf_X13_all
set_option maxRecDepth 20000 in
theorem ggX13_tellOf_X13_in : GoodIn wsX13_tellOf wsX13_in := goodIn_r _ [16] rfl (by decide +kernel)
set_option maxRecDepth 20000 in
theorem gX13_tellOf_X13_in : GoodIn wsX13_tellOf (va_wsS RX13 88 yX13_in wsX13_in) := goodIn_app (goodIn_of _ (by decide +kernel)) ggX13_tellOf_X13_in
set_option maxRecDepth 20000 in
theorem ggX13_tellOf_X13_no : GoodIn wsX13_tellOf wsX13_no := goodIn_r _ [20, 21, 47, 48, 49, 50, 51, 52, 53, 54, 55, 56, 57, 58, 59, 60, 61, 62, 63, 64, 65, 66, 67, 68, 69, 70, 71, 72, 73] rfl (by decide +kernel)
set_option maxRecDepth 20000 in
theorem gX13_tellOf_X13_no : GoodIn wsX13_tellOf (wsV RX13 139 RX13 yX13_no wsX13_no) := goodIn_app (goodIn_of _ (by decide +kernel)) ggX13_tellOf_X13_no
set_option maxRecDepth 20000 in
theorem ggX13_having_X13_isWord : GoodIn wsX13_having wsX13_isWord := goodIn_ca (goodIn_r _ [5, 6, 7, 8, 9, 4, 10, 11, 12, 13, 60, 61, 62, 63, 64, 65, 66, 67, 68, 69, 70, 71, 72, 73, 74, 75, 76, 77, 78, 79, 80, 81, 82, 83, 84, 85, 86] rfl (by decide +kernel)) (goodIn_sub (fun _ h => List.mem_cons_of_mem _ (List.mem_append_right _ h)) (by decide +kernel))
set_option maxRecDepth 20000 in
theorem gX13_having_X13_isWord : GoodIn wsX13_having (wsV RX13 178 RX13 yX13_isWord wsX13_isWord) := goodIn_app (goodIn_of _ (by decide +kernel)) ggX13_having_X13_isWord
set_option maxRecDepth 20000 in
theorem ggX13_having_X13_no : GoodIn wsX13_having wsX13_no := goodIn_r _ [17, 18, 60, 61, 62, 63, 64, 65, 66, 67, 68, 69, 70, 71, 72, 73, 74, 75, 76, 77, 78, 79, 80, 81, 82, 83, 84, 85, 86] rfl (by decide +kernel)
set_option maxRecDepth 20000 in
theorem gX13_having_X13_no : GoodIn wsX13_having (wsV RX13 139 RX13 yX13_no wsX13_no) := goodIn_app (goodIn_of _ (by decide +kernel)) ggX13_having_X13_no
set_option maxRecDepth 20000 in
theorem ggX13_beginning_X13_isWord : GoodIn wsX13_beginning wsX13_isWord := goodIn_ca (goodIn_r _ [5, 6, 7, 8, 9, 4, 10, 11, 12, 13, 52, 53, 54, 55, 56, 57, 58, 59, 60, 61, 62, 63, 64, 65, 66, 67, 68, 69, 70, 71, 72, 73, 74, 75, 76, 77, 78] rfl (by decide +kernel)) (goodIn_sub (fun _ h => List.mem_cons_of_mem _ (List.mem_append_right _ h)) (by decide +kernel))
set_option maxRecDepth 20000 in
theorem gX13_beginning_X13_isWord : GoodIn wsX13_beginning (wsV RX13 178 RX13 yX13_isWord wsX13_isWord) := goodIn_app (goodIn_of _ (by decide +kernel)) ggX13_beginning_X13_isWord
set_option maxRecDepth 20000 in
theorem ggX13_beginning_X13_no : GoodIn wsX13_beginning wsX13_no := goodIn_r _ [17, 18, 52, 53, 54, 55, 56, 57, 58, 59, 60, 61, 62, 63, 64, 65, 66, 67, 68, 69, 70, 71, 72, 73, 74, 75, 76, 77, 78] rfl (by decide +kernel)
set_option maxRecDepth 20000 in
theorem gX13_beginning_X13_no : GoodIn wsX13_beginning (wsV RX13 139 RX13 yX13_no wsX13_no) := goodIn_app (goodIn_of _ (by decide +kernel)) ggX13_beginning_X13_no
set_option maxRecDepth 20000 in
theorem ggX13_slips_X13_isWord : GoodIn wsX13_slips wsX13_isWord := goodIn_ca (goodIn_r _ [5, 6, 7, 8, 9, 4, 10, 11, 12, 13, 58, 59, 60, 61, 62, 63, 64, 65, 66, 67, 68, 69, 70, 71, 72, 73, 74, 75, 76, 77, 78, 79, 80, 81, 82, 83, 84] rfl (by decide +kernel)) (goodIn_sub (fun _ h => List.mem_cons_of_mem _ (List.mem_append_right _ h)) (by decide +kernel))
set_option maxRecDepth 20000 in
theorem gX13_slips_X13_isWord : GoodIn wsX13_slips (wsV RX13 178 RX13 yX13_isWord wsX13_isWord) := goodIn_app (goodIn_of _ (by decide +kernel)) ggX13_slips_X13_isWord
set_option maxRecDepth 20000 in
theorem ggX13_slips_X13_no : GoodIn wsX13_slips wsX13_no := goodIn_r _ [17, 18, 58, 59, 60, 61, 62, 63, 64, 65, 66, 67, 68, 69, 70, 71, 72, 73, 74, 75, 76, 77, 78, 79, 80, 81, 82, 83, 84] rfl (by decide +kernel)
set_option maxRecDepth 20000 in
theorem gX13_slips_X13_no : GoodIn wsX13_slips (wsV RX13 139 RX13 yX13_no wsX13_no) := goodIn_app (goodIn_of _ (by decide +kernel)) ggX13_slips_X13_no
set_option maxRecDepth 20000 in
theorem ggX13_suggest_X13_isWord : GoodIn wsX13_suggest wsX13_isWord := goodIn_ca (goodIn_r _ [6, 1, 7, 8, 9, 5, 10, 11, 12, 13, 77, 78, 79, 80, 81, 82, 83, 84, 85, 86, 87, 88, 89, 90, 91, 92, 93, 94, 95, 96, 97, 98, 99, 100, 101, 102, 103] rfl (by decide +kernel)) (goodIn_sub (fun _ h => List.mem_cons_of_mem _ (List.mem_append_right _ h)) (by decide +kernel))
set_option maxRecDepth 20000 in
theorem gX13_suggest_X13_isWord : GoodIn wsX13_suggest (wsV RX13 178 RX13 yX13_isWord wsX13_isWord) := goodIn_app (goodIn_of _ (by decide +kernel)) ggX13_suggest_X13_isWord
set_option maxRecDepth 20000 in
theorem ggX13_suggest_X13_no : GoodIn wsX13_suggest wsX13_no := goodIn_r _ [17, 18, 77, 78, 79, 80, 81, 82, 83, 84, 85, 86, 87, 88, 89, 90, 91, 92, 93, 94, 95, 96, 97, 98, 99, 100, 101, 102, 103] rfl (by decide +kernel)
set_option maxRecDepth 20000 in
theorem gX13_suggest_X13_no : GoodIn wsX13_suggest (wsV RX13 139 RX13 yX13_no wsX13_no) := goodIn_app (goodIn_of _ (by decide +kernel)) ggX13_suggest_X13_no
set_option maxRecDepth 20000 in
theorem ggX13_partSize_X13_in : GoodIn wsX13_partSize wsX13_in := goodIn_r _ [5] rfl (by decide +kernel)
set_option maxRecDepth 20000 in
theorem gX13_partSize_X13_in : GoodIn wsX13_partSize (va_wsS RX13 88 yX13_in wsX13_in) := goodIn_app (goodIn_of _ (by decide +kernel)) ggX13_partSize_X13_in
set_option maxRecDepth 20000 in
theorem ggX13_partSize_X13_no : GoodIn wsX13_partSize wsX13_no := goodIn_r _ [9, 10, 18, 19, 20, 21, 22, 23, 24, 25, 26, 27, 28, 29, 30, 31, 32, 33, 34, 35, 36, 37, 38, 39, 40, 41, 42, 43, 44] rfl (by decide +kernel)
set_option maxRecDepth 20000 in
theorem gX13_partSize_X13_no : GoodIn wsX13_partSize (wsV RX13 139 RX13 yX13_no wsX13_no) := goodIn_app (goodIn_of _ (by decide +kernel)) ggX13_partSize_X13_no
set_option maxRecDepth 20000 in
theorem ggX13_partSize_X13_sizeOf : GoodIn wsX13_partSize wsX13_sizeOf := goodIn_ca (goodIn_r _ [14, 15, 16, 17, 18, 19, 20, 21, 22, 23, 24, 25, 26, 27, 28, 29, 30, 31, 32, 33, 34, 35, 36, 37, 38, 39, 40, 41, 42, 43, 44] rfl (by decide +kernel)) (goodIn_sub (fun _ h => List.mem_cons_of_mem _ (List.mem_append_right _ h)) (by decide +kernel))
set_option maxRecDepth 20000 in
theorem gX13_partSize_X13_sizeOf : GoodIn wsX13_partSize (wsV RX13 196 RX13 yX13_sizeOf wsX13_sizeOf) := goodIn_app (goodIn_of _ (by decide +kernel)) ggX13_partSize_X13_sizeOf
set_option maxRecDepth 20000 in
theorem ggX13_seal_X13_sizeOf : GoodIn wsX13_seal wsX13_sizeOf := goodIn_ca (goodIn_r _ [6, 7, 8, 9, 15, 16, 17, 18, 19, 20, 21, 22, 23, 24, 25, 26, 27, 28, 29, 30, 31, 32, 33, 34, 35, 36, 37, 38, 39, 40, 41] rfl (by decide +kernel)) (goodIn_sub (fun _ h => List.mem_cons_of_mem _ (List.mem_append_right _ h)) (by decide +kernel))
set_option maxRecDepth 20000 in
theorem gX13_seal_X13_sizeOf : GoodIn wsX13_seal (wsV RX13 196 RX13 yX13_sizeOf wsX13_sizeOf) := goodIn_app (goodIn_of _ (by decide +kernel)) ggX13_seal_X13_sizeOf
set_option maxRecDepth 20000 in
theorem ggX13_seal_X13_no : GoodIn wsX13_seal wsX13_no := goodIn_r _ [13, 14, 15, 16, 17, 18, 19, 20, 21, 22, 23, 24, 25, 26, 27, 28, 29, 30, 31, 32, 33, 34, 35, 36, 37, 38, 39, 40, 41] rfl (by decide +kernel)
set_option maxRecDepth 20000 in
theorem gX13_seal_X13_no : GoodIn wsX13_seal (wsV RX13 139 RX13 yX13_no wsX13_no) := goodIn_app (goodIn_of _ (by decide +kernel)) ggX13_seal_X13_no
set_option maxRecDepth 20000 in
theorem ggX13_join_X13_in : GoodIn wsX13_join wsX13_in := goodIn_r _ [7] rfl (by decide +kernel)
set_option maxRecDepth 20000 in
theorem gX13_join_X13_in : GoodIn wsX13_join (va_wsS RX13 88 yX13_in wsX13_in) := goodIn_app (goodIn_of _ (by decide +kernel)) ggX13_join_X13_in
set_option maxRecDepth 20000 in
theorem ggX13_join_X13_no : GoodIn wsX13_join wsX13_no := goodIn_r _ [11, 12, 18, 19, 20, 21, 22, 23, 24, 25, 26, 27, 28, 29, 30, 31, 32, 33, 34, 35, 36, 37, 38, 39, 40, 41, 42, 43, 44] rfl (by decide +kernel)
set_option maxRecDepth 20000 in
theorem gX13_join_X13_no : GoodIn wsX13_join (wsV RX13 139 RX13 yX13_no wsX13_no) := goodIn_app (goodIn_of _ (by decide +kernel)) ggX13_join_X13_no
set_option maxRecDepth 20000 in
theorem ggX13_packed_X13_in : GoodIn wsX13_packed wsX13_in := goodIn_r _ [12] rfl (by decide +kernel)
set_option maxRecDepth 20000 in
theorem gX13_packed_X13_in : GoodIn wsX13_packed (va_wsS RX13 88 yX13_in wsX13_in) := goodIn_app (goodIn_of _ (by decide +kernel)) ggX13_packed_X13_in
set_option maxRecDepth 20000 in
theorem ggX13_packed_X13_no : GoodIn wsX13_packed wsX13_no := goodIn_r _ [16, 17, 68, 69, 70, 71, 72, 73, 74, 75, 76, 77, 78, 79, 80, 81, 82, 83, 84, 85, 86, 87, 88, 89, 90, 91, 92, 93, 94] rfl (by decide +kernel)
set_option maxRecDepth 20000 in
theorem gX13_packed_X13_no : GoodIn wsX13_packed (wsV RX13 139 RX13 yX13_no wsX13_no) := goodIn_app (goodIn_of _ (by decide +kernel)) ggX13_packed_X13_no
set_option maxRecDepth 20000 in
theorem ggX13_packed_X13_isWord : GoodIn wsX13_packed wsX13_isWord := goodIn_ca (goodIn_r _ [21, 22, 23, 24, 25, 11, 26, 9, 10, 12, 68, 69, 70, 71, 72, 73, 74, 75, 76, 77, 78, 79, 80, 81, 82, 83, 84, 85, 86, 87, 88, 89, 90, 91, 92, 93, 94] rfl (by decide +kernel)) (goodIn_sub (fun _ h => List.mem_cons_of_mem _ (List.mem_append_right _ h)) (by decide +kernel))
set_option maxRecDepth 20000 in
theorem gX13_packed_X13_isWord : GoodIn wsX13_packed (wsV RX13 178 RX13 yX13_isWord wsX13_isWord) := goodIn_app (goodIn_of _ (by decide +kernel)) ggX13_packed_X13_isWord
set_option maxRecDepth 20000 in
theorem ggX13_byteAt_X13_in : GoodIn wsX13_byteAt wsX13_in := goodIn_r _ [5] rfl (by decide +kernel)
set_option maxRecDepth 20000 in
theorem gX13_byteAt_X13_in : GoodIn wsX13_byteAt (va_wsS RX13 88 yX13_in wsX13_in) := goodIn_app (goodIn_of _ (by decide +kernel)) ggX13_byteAt_X13_in
set_option maxRecDepth 20000 in
theorem ggX13_byteAt_X13_no : GoodIn wsX13_byteAt wsX13_no := goodIn_r _ [9, 10, 11, 12, 13, 14, 15, 16, 17, 18, 19, 20, 21, 22, 23, 24, 25, 26, 27, 28, 29, 30, 31, 32, 33, 34, 35, 36, 37] rfl (by decide +kernel)
set_option maxRecDepth 20000 in
theorem gX13_byteAt_X13_no : GoodIn wsX13_byteAt (wsV RX13 139 RX13 yX13_no wsX13_no) := goodIn_app (goodIn_of _ (by decide +kernel)) ggX13_byteAt_X13_no
set_option maxRecDepth 20000 in
theorem ggX13_rowOf_X12_init : GoodIn wsX13_rowOf wsX12_init := goodIn_r _ [9, 10, 11, 12, 13, 14, 15, 16, 17, 18, 19, 127, 128, 129, 130, 131, 132, 133, 134] rfl (by decide +kernel)
set_option maxRecDepth 20000 in
theorem gX13_rowOf_X12_init : GoodIn wsX13_rowOf (wsX12_init) := ggX13_rowOf_X12_init
set_option maxRecDepth 20000 in
theorem ggX13_rowOf_X13_rowOf : GoodIn wsX13_rowOf wsX13_rowOf := goodIn_ca (goodIn_r _ [0, 1, 2, 3, 4, 5, 6, 7, 8, 9, 10, 11, 12, 13, 14, 15, 16, 17, 18, 19, 20, 21, 22, 23, 24, 25, 26, 27, 28, 29, 30, 31, 32, 33, 34, 35, 36, 37, 38, 39, 40, 41, 42, 43, 44, 45, 46, 47, 48, 49, 50, 51, 52, 53, 54, 55, 56, 57, 58, 59, 60, 61, 62, 63, 64, 65, 66, 67, 68, 69, 70, 71, 72, 73, 74, 75, 76, 77, 78, 79, 80, 81, 82, 83, 84, 85, 86, 87, 88, 89, 90, 91, 92, 93, 94, 95, 96, 97, 98, 99, 100, 101, 102, 103, 104, 105, 106, 107, 108, 109, 110, 111, 112, 113, 114, 115, 116, 117, 118, 119, 120, 121, 122, 123, 124, 125, 126, 127, 128, 129, 130, 131, 132, 133, 134] rfl (by decide +kernel)) (goodIn_sub (fun _ h => List.mem_cons_of_mem _ (List.mem_append_right _ h)) (by decide +kernel))
set_option maxRecDepth 20000 in
theorem gX13_rowOf_X13_rowOf : GoodIn wsX13_rowOf (wsV RX13 222 RX13 yX13_rowOf wsX13_rowOf) := goodIn_app (goodIn_of _ (by decide +kernel)) ggX13_rowOf_X13_rowOf
set_option maxRecDepth 20000 in
theorem ggX13_rowOf_X13_term : GoodIn wsX13_rowOf wsX13_term := goodIn_ca (goodIn_r _ [42, 5, 4, 35, 36, 1, 2, 3, 43, 44, 31, 32, 33, 23, 34, 45, 46, 47, 48, 49, 50, 51, 52, 53, 54, 55, 7, 8, 9, 10, 11, 12, 13, 14, 15, 16, 17, 18, 19, 56, 57, 58, 59, 60, 61, 62, 63, 64, 65, 66, 67, 68, 69, 70, 71, 72, 73, 74, 75, 76, 77, 78, 79, 80, 81, 82, 83, 84, 85, 86, 87, 88, 89, 90, 91, 92, 93, 94, 95, 38, 39, 40, 41, 96, 97, 98, 99, 27, 28, 29, 30, 37, 20, 21, 22, 0, 6, 24, 25, 26, 100, 101, 102, 103, 104, 105, 106, 107, 108, 109, 110, 111, 112, 113, 114, 115, 116, 117, 118, 119, 120, 121, 122, 123, 124, 125, 126, 127, 128, 129, 130, 131, 132, 133, 134] rfl (by decide +kernel)) (goodIn_sub (fun _ h => List.mem_cons_of_mem _ (List.mem_append_right _ h)) (by decide +kernel))
set_option maxRecDepth 20000 in
theorem gX13_rowOf_X13_term : GoodIn wsX13_rowOf (wsV RX13 226 RX13 yX13_term wsX13_term) := goodIn_app (goodIn_of _ (by decide +kernel)) ggX13_rowOf_X13_term
set_option maxRecDepth 20000 in
theorem ggX13_rowOf_X12_gets : GoodIn wsX13_rowOf wsX12_gets := goodIn_r _ [30, 15, 14, 127, 128, 129, 130, 131, 132, 133, 134] rfl (by decide +kernel)
set_option maxRecDepth 20000 in
theorem gX13_rowOf_X12_gets : GoodIn wsX13_rowOf (wsV RX13 230 RX12 yX12_gets wsX12_gets) := goodIn_app (goodIn_of _ (by decide +kernel)) ggX13_rowOf_X12_gets
set_option maxRecDepth 20000 in
theorem ggX13_term_X13_is : GoodIn wsX13_term wsX13_is := goodIn_ca (goodIn_r _ [14, 1, 3, 4, 100, 101, 102, 103, 104, 105, 106, 107, 108, 109, 110, 111, 112, 113, 114, 115, 116, 117, 118, 119, 120, 121, 122, 123, 124, 125, 126] rfl (by decide +kernel)) (goodIn_sub (fun _ h => List.mem_cons_of_mem _ (List.mem_append_right _ h)) (by decide +kernel))
set_option maxRecDepth 20000 in
theorem gX13_term_X13_is : GoodIn wsX13_term (wsV RX13 213 RX13 yX13_is wsX13_is) := goodIn_app (goodIn_of _ (by decide +kernel)) ggX13_term_X13_is
set_option maxRecDepth 20000 in
theorem ggX13_term_X13_unit : GoodIn wsX13_term wsX13_unit := goodIn_ca (goodIn_r _ [21, 1, 5, 6, 7, 2, 3, 4, 22, 23, 24, 25, 10, 11, 12, 13, 14, 26, 27, 28, 29, 30, 31, 32, 33, 34, 35, 36, 37, 38, 39, 40, 41, 42, 43, 44, 45, 46, 47, 48, 49, 50, 51, 52, 53, 54, 55, 56, 57, 58, 59, 60, 61, 62, 63, 64, 65, 66, 67, 68, 69, 70, 71, 72, 73, 74, 75, 76, 77, 78, 79, 80, 81, 82, 83, 84, 85, 86, 100, 101, 102, 103, 104, 105, 106, 107, 108, 109, 110, 111, 112, 113, 114, 115, 116, 117, 118, 119, 120, 121, 122, 123, 124, 125, 126, 127, 128, 129, 130, 131, 132, 133, 134] rfl (by decide +kernel)) (goodIn_sub (fun _ h => List.mem_cons_of_mem _ (List.mem_append_right _ h)) (by decide +kernel))
set_option maxRecDepth 20000 in
theorem gX13_term_X13_unit : GoodIn wsX13_term (wsV RX13 240 RX13 yX13_unit wsX13_unit) := goodIn_app (goodIn_of _ (by decide +kernel)) ggX13_term_X13_unit
set_option maxRecDepth 20000 in
theorem ggX13_wordAt_X13_word : GoodIn wsX13_wordAt wsX13_word := goodIn_ca (goodIn_r _ [15, 16, 17, 18, 8, 19, 10, 11, 12, 20, 21, 22] rfl (by decide +kernel)) (goodIn_sub (fun _ h => List.mem_cons_of_mem _ (List.mem_append_right _ h)) (by decide +kernel))
set_option maxRecDepth 20000 in
theorem gX13_wordAt_X13_word : GoodIn wsX13_wordAt (va_wsS RX13 116 yX13_word wsX13_word) := goodIn_app (goodIn_of _ (by decide +kernel)) ggX13_wordAt_X13_word
set_option maxRecDepth 20000 in
theorem ggX13_unit_X13_is : GoodIn wsX13_unit wsX13_is := goodIn_ca (goodIn_r _ [16, 1, 6, 7, 78, 79, 80, 81, 82, 83, 84, 85, 86, 87, 88, 89, 90, 91, 92, 93, 94, 95, 96, 97, 98, 99, 100, 101, 102, 103, 104] rfl (by decide +kernel)) (goodIn_sub (fun _ h => List.mem_cons_of_mem _ (List.mem_append_right _ h)) (by decide +kernel))
set_option maxRecDepth 20000 in
theorem gX13_unit_X13_is : GoodIn wsX13_unit (wsV RX13 213 RX13 yX13_is wsX13_is) := goodIn_app (goodIn_of _ (by decide +kernel)) ggX13_unit_X13_is
set_option maxRecDepth 20000 in
theorem ggX13_unit_X12_init : GoodIn wsX13_unit wsX12_init := goodIn_r _ [19, 20, 21, 22, 23, 24, 25, 26, 27, 28, 29, 105, 106, 107, 108, 109, 110, 111, 112] rfl (by decide +kernel)
set_option maxRecDepth 20000 in
theorem gX13_unit_X12_init : GoodIn wsX13_unit (wsX12_init) := ggX13_unit_X12_init
set_option maxRecDepth 20000 in
theorem ggX13_unit_X13_wordAt : GoodIn wsX13_unit wsX13_wordAt := goodIn_ca (goodIn_r _ [33, 34, 1, 6, 7, 5, 35, 36, 15, 37, 38, 39, 40, 41, 42, 43, 44, 45, 46, 47, 48, 49, 50, 78, 79, 80, 81, 82, 83, 84, 85, 86, 87, 88, 89, 90, 91, 92, 93, 94, 95, 96, 97, 98, 99, 100, 101, 102, 103, 104] rfl (by decide +kernel)) (goodIn_sub (fun _ h => List.mem_cons_of_mem _ (List.mem_append_right _ h)) (by decide +kernel))
set_option maxRecDepth 20000 in
theorem gX13_unit_X13_wordAt : GoodIn wsX13_unit (wsV RX13 253 RX13 yX13_wordAt wsX13_wordAt) := goodIn_app (goodIn_of _ (by decide +kernel)) ggX13_unit_X13_wordAt
set_option maxRecDepth 20000 in
theorem ggX13_unit_X12_hears : GoodIn wsX13_unit wsX12_hears := goodIn_ca (goodIn_r _ [69, 28, 27, 105, 106, 107, 108, 109, 110, 111, 112] rfl (by decide +kernel)) (goodIn_sub (fun _ h => List.mem_cons_of_mem _ (List.mem_append_right _ h)) (by decide +kernel))
set_option maxRecDepth 20000 in
theorem gX13_unit_X12_hears : GoodIn wsX13_unit (wsV RX13 256 RX12 yX12_hears wsX12_hears) := goodIn_app (goodIn_of _ (by decide +kernel)) ggX13_unit_X12_hears
set_option maxRecDepth 20000 in
theorem ggX13_ask_X13_rowOf : GoodIn wsX13_ask wsX13_rowOf := goodIn_ca (goodIn_r _ [10, 11, 12, 13, 3, 2, 14, 15, 16, 17, 18, 19, 20, 21, 22, 23, 24, 25, 26, 27, 6, 7, 8, 9, 28, 29, 30, 31, 32, 33, 34, 35, 36, 37, 38, 4, 39, 40, 41, 42, 43, 44, 45, 46, 47, 48, 49, 50, 51, 52, 53, 54, 55, 56, 57, 58, 59, 60, 61, 62, 63, 64, 65, 66, 67, 68, 69, 70, 71, 72, 73, 74, 75, 76, 77, 78, 79, 80, 81, 82, 83, 84, 85, 86, 87, 88, 89, 90, 91, 92, 93, 94, 95, 96, 97, 98, 99, 100, 101, 102, 112, 113, 114, 115, 116, 117, 118, 119, 120, 121, 122, 123, 124, 125, 126, 127, 128, 129, 130, 131, 132, 133, 134, 135, 136, 137, 138, 139, 140, 141, 142, 143, 144, 145, 146] rfl (by decide +kernel)) (goodIn_sub (fun _ h => List.mem_cons_of_mem _ (List.mem_append_right _ h)) (by decide +kernel))
set_option maxRecDepth 20000 in
theorem gX13_ask_X13_rowOf : GoodIn wsX13_ask (wsV RX13 222 RX13 yX13_rowOf wsX13_rowOf) := goodIn_app (goodIn_of _ (by decide +kernel)) ggX13_ask_X13_rowOf
set_option maxRecDepth 20000 in
theorem ggX13_tellQuestion_X13_no : GoodIn wsX13_tellQuestion wsX13_no := goodIn_r _ [7, 8, 59, 60, 61, 62, 63, 64, 65, 66, 67, 68, 69, 70, 71, 72, 73, 74, 75, 76, 77, 78, 79, 80, 81, 82, 83, 84, 85] rfl (by decide +kernel)
set_option maxRecDepth 20000 in
theorem gX13_tellQuestion_X13_no : GoodIn wsX13_tellQuestion (wsV RX13 139 RX13 yX13_no wsX13_no) := goodIn_app (goodIn_of _ (by decide +kernel)) ggX13_tellQuestion_X13_no
set_option maxRecDepth 20000 in
theorem ggX13_simplify_X13_no : GoodIn wsX13_simplify wsX13_no := goodIn_r _ [6, 7, 110, 111, 112, 113, 114, 115, 116, 117, 118, 119, 120, 121, 122, 123, 124, 125, 126, 127, 128, 129, 130, 131, 132, 133, 134, 135, 136] rfl (by decide +kernel)
set_option maxRecDepth 20000 in
theorem gX13_simplify_X13_no : GoodIn wsX13_simplify (wsV RX13 139 RX13 yX13_no wsX13_no) := goodIn_app (goodIn_of _ (by decide +kernel)) ggX13_simplify_X13_no
set_option maxRecDepth 20000 in
theorem ggX13_fits_X13_no : GoodIn wsX13_fits wsX13_no := goodIn_r _ [6, 7, 70, 71, 72, 73, 74, 75, 76, 77, 78, 79, 80, 81, 82, 83, 84, 85, 86, 87, 88, 89, 90, 91, 92, 93, 94, 95, 96] rfl (by decide +kernel)
set_option maxRecDepth 20000 in
theorem gX13_fits_X13_no : GoodIn wsX13_fits (wsV RX13 139 RX13 yX13_no wsX13_no) := goodIn_app (goodIn_of _ (by decide +kernel)) ggX13_fits_X13_no
set_option maxRecDepth 20000 in
theorem ggX13_hits_X13_no : GoodIn wsX13_hits wsX13_no := goodIn_r _ [6, 7, 70, 71, 72, 73, 74, 75, 76, 77, 78, 79, 80, 81, 82, 83, 84, 85, 86, 87, 88, 89, 90, 91, 92, 93, 94, 95, 96] rfl (by decide +kernel)
set_option maxRecDepth 20000 in
theorem gX13_hits_X13_no : GoodIn wsX13_hits (wsV RX13 139 RX13 yX13_no wsX13_no) := goodIn_app (goodIn_of _ (by decide +kernel)) ggX13_hits_X13_no
set_option maxRecDepth 20000 in
theorem ggX13_hitAt_X13_no : GoodIn wsX13_hitAt wsX13_no := goodIn_r _ [6, 7, 123, 124, 125, 126, 127, 128, 129, 130, 131, 132, 133, 134, 135, 136, 137, 138, 139, 140, 141, 142, 143, 144, 145, 146, 147, 148, 149] rfl (by decide +kernel)
set_option maxRecDepth 20000 in
theorem gX13_hitAt_X13_no : GoodIn wsX13_hitAt (wsV RX13 139 RX13 yX13_no wsX13_no) := goodIn_app (goodIn_of _ (by decide +kernel)) ggX13_hitAt_X13_no
set_option maxRecDepth 20000 in
theorem ggX13_top_X13_no : GoodIn wsX13_top wsX13_no := goodIn_r _ [6, 7, 123, 124, 125, 126, 127, 128, 129, 130, 131, 132, 133, 134, 135, 136, 137, 138, 139, 140, 141, 142, 143, 144, 145, 146, 147, 148, 149] rfl (by decide +kernel)
set_option maxRecDepth 20000 in
theorem gX13_top_X13_no : GoodIn wsX13_top (wsV RX13 139 RX13 yX13_no wsX13_no) := goodIn_app (goodIn_of _ (by decide +kernel)) ggX13_top_X13_no
set_option maxRecDepth 20000 in
theorem ggX13_tellWorth_X13_no : GoodIn wsX13_tellWorth wsX13_no := goodIn_r _ [9, 10, 129, 130, 131, 132, 133, 134, 135, 136, 137, 138, 139, 140, 141, 142, 143, 144, 145, 146, 147, 148, 149, 150, 151, 152, 153, 154, 155] rfl (by decide +kernel)
set_option maxRecDepth 20000 in
theorem gX13_tellWorth_X13_no : GoodIn wsX13_tellWorth (wsV RX13 139 RX13 yX13_no wsX13_no) := goodIn_app (goodIn_of _ (by decide +kernel)) ggX13_tellWorth_X13_no
set_option maxRecDepth 20000 in
theorem ggX13_tagged_X13_no : GoodIn wsX13_tagged wsX13_no := goodIn_r _ [9, 10, 67, 68, 69, 70, 71, 72, 73, 74, 75, 76, 77, 78, 79, 80, 81, 82, 83, 84, 85, 86, 87, 88, 89, 90, 91, 92, 93] rfl (by decide +kernel)
set_option maxRecDepth 20000 in
theorem gX13_tagged_X13_no : GoodIn wsX13_tagged (wsV RX13 139 RX13 yX13_no wsX13_no) := goodIn_app (goodIn_of _ (by decide +kernel)) ggX13_tagged_X13_no
set_option maxRecDepth 20000 in
theorem ggX13_valued_X13_no : GoodIn wsX13_valued wsX13_no := goodIn_r _ [9, 10, 66, 67, 68, 69, 70, 71, 72, 73, 74, 75, 76, 77, 78, 79, 80, 81, 82, 83, 84, 85, 86, 87, 88, 89, 90, 91, 92] rfl (by decide +kernel)
set_option maxRecDepth 20000 in
theorem gX13_valued_X13_no : GoodIn wsX13_valued (wsV RX13 139 RX13 yX13_no wsX13_no) := goodIn_app (goodIn_of _ (by decide +kernel)) ggX13_valued_X13_no
set_option maxRecDepth 20000 in
theorem ggX13_lacksSpan_X13_no : GoodIn wsX13_lacksSpan wsX13_no := goodIn_r _ [6, 7, 95, 96, 97, 98, 99, 100, 101, 102, 103, 104, 105, 106, 107, 108, 109, 110, 111, 112, 113, 114, 115, 116, 117, 118, 119, 120, 121] rfl (by decide +kernel)
set_option maxRecDepth 20000 in
theorem gX13_lacksSpan_X13_no : GoodIn wsX13_lacksSpan (wsV RX13 139 RX13 yX13_no wsX13_no) := goodIn_app (goodIn_of _ (by decide +kernel)) ggX13_lacksSpan_X13_no
set_option maxRecDepth 20000 in
theorem ggX13_spanBegin_X13_lacksSpan : GoodIn wsX13_spanBegin wsX13_lacksSpan := goodIn_ca (goodIn_r _ [5, 6, 7, 8, 9, 4, 10, 11, 12, 13, 14, 15, 16, 17, 18, 19, 20, 21, 22, 23, 24, 25, 26, 27, 28, 29, 30, 31, 32, 33, 34, 35, 36, 37, 38, 39, 40, 41, 42, 43, 44, 45, 46, 47, 48, 49, 50, 51, 52, 53, 54, 55, 56, 57, 58, 59, 60, 61, 62, 63, 64, 65, 66, 67, 68, 69, 70, 71, 72, 73, 74, 75, 76, 77, 78, 79, 80, 81, 82, 83, 84, 85, 86, 87, 88, 89, 90, 91, 92, 93, 94, 95, 96, 97, 98, 99, 100, 101, 102, 103, 104, 105, 106, 107, 108, 109, 110, 111, 112, 113, 114, 115, 116, 117, 118, 119, 120, 121, 122, 123, 124, 125, 126, 127, 128, 129, 130, 131, 132, 133] rfl (by decide +kernel)) (goodIn_sub (fun _ h => List.mem_cons_of_mem _ (List.mem_append_right _ h)) (by decide +kernel))
set_option maxRecDepth 20000 in
theorem gX13_spanBegin_X13_lacksSpan : GoodIn wsX13_spanBegin (wsV RX13 415 RX13 yX13_lacksSpan wsX13_lacksSpan) := goodIn_app (goodIn_of _ (by decide +kernel)) ggX13_spanBegin_X13_lacksSpan
set_option maxRecDepth 20000 in
theorem ggX13_spanLength_X13_lacksSpan : GoodIn wsX13_spanLength wsX13_lacksSpan := goodIn_ca (goodIn_r _ [5, 6, 7, 8, 9, 4, 10, 11, 12, 13, 14, 15, 16, 17, 18, 19, 20, 21, 22, 23, 24, 25, 26, 27, 28, 29, 30, 31, 32, 33, 34, 35, 36, 37, 38, 39, 40, 41, 42, 43, 44, 45, 46, 47, 48, 49, 50, 51, 52, 53, 54, 55, 56, 57, 58, 59, 60, 61, 62, 63, 64, 65, 66, 67, 68, 69, 70, 71, 72, 73, 74, 75, 76, 77, 78, 79, 80, 81, 82, 83, 84, 85, 86, 87, 88, 89, 90, 91, 92, 93, 94, 95, 96, 97, 98, 99, 100, 101, 102, 103, 104, 105, 106, 107, 108, 109, 110, 111, 112, 113, 114, 115, 116, 117, 118, 119, 120, 121, 122, 123, 124, 125, 126, 127, 128, 129, 130, 131, 132, 133] rfl (by decide +kernel)) (goodIn_sub (fun _ h => List.mem_cons_of_mem _ (List.mem_append_right _ h)) (by decide +kernel))
set_option maxRecDepth 20000 in
theorem gX13_spanLength_X13_lacksSpan : GoodIn wsX13_spanLength (wsV RX13 415 RX13 yX13_lacksSpan wsX13_lacksSpan) := goodIn_app (goodIn_of _ (by decide +kernel)) ggX13_spanLength_X13_lacksSpan
set_option maxRecDepth 20000 in
theorem ggX13_save_X13_no : GoodIn wsX13_save wsX13_no := goodIn_r _ [7, 8, 12, 13, 14, 15, 16, 17, 18, 19, 20, 21, 22, 23, 24, 25, 26, 27, 28, 29, 30, 31, 32, 33, 34, 35, 36, 37, 38] rfl (by decide +kernel)
set_option maxRecDepth 20000 in
theorem gX13_save_X13_no : GoodIn wsX13_save (wsV RX13 139 RX13 yX13_no wsX13_no) := goodIn_app (goodIn_of _ (by decide +kernel)) ggX13_save_X13_no
set_option maxRecDepth 20000 in
theorem ggX13_news_X13_isText : GoodIn wsX13_news wsX13_isText := goodIn_ca (goodIn_r _ [6, 7, 8, 9, 10, 5, 11, 70, 71, 72, 73, 74, 75, 76, 77, 78, 79, 80, 81, 82, 83, 84, 85, 86, 87, 88, 89, 90, 91, 92, 93, 94, 95, 96] rfl (by decide +kernel)) (goodIn_sub (fun _ h => List.mem_cons_of_mem _ (List.mem_append_right _ h)) (by decide +kernel))
set_option maxRecDepth 20000 in
theorem gX13_news_X13_isText : GoodIn wsX13_news (wsV RX13 161 RX13 yX13_isText wsX13_isText) := goodIn_app (goodIn_of _ (by decide +kernel)) ggX13_news_X13_isText
set_option maxRecDepth 20000 in
theorem ggX13_news_X13_no : GoodIn wsX13_news wsX13_no := goodIn_r _ [15, 16, 70, 71, 72, 73, 74, 75, 76, 77, 78, 79, 80, 81, 82, 83, 84, 85, 86, 87, 88, 89, 90, 91, 92, 93, 94, 95, 96] rfl (by decide +kernel)
set_option maxRecDepth 20000 in
theorem gX13_news_X13_no : GoodIn wsX13_news (wsV RX13 139 RX13 yX13_no wsX13_no) := goodIn_app (goodIn_of _ (by decide +kernel)) ggX13_news_X13_no
set_option maxRecDepth 20000 in
theorem ggX13_likeness_X13_isText : GoodIn wsX13_likeness wsX13_isText := goodIn_ca (goodIn_r _ [6, 7, 8, 9, 10, 5, 11, 20, 21, 22, 23, 24, 25, 26, 27, 28, 29, 30, 31, 32, 33, 34, 35, 36, 37, 38, 39, 40, 41, 42, 43, 44, 45, 46] rfl (by decide +kernel)) (goodIn_sub (fun _ h => List.mem_cons_of_mem _ (List.mem_append_left _ (List.mem_append_right _ h))) (by decide +kernel))
set_option maxRecDepth 20000 in
theorem gX13_likeness_X13_isText : GoodIn wsX13_likeness (wsV RX13 161 RX13 yX13_isText wsX13_isText) := goodIn_app (goodIn_of _ (by decide +kernel)) ggX13_likeness_X13_isText
set_option maxRecDepth 20000 in
theorem ggX13_likeness_X13_no : GoodIn wsX13_likeness wsX13_no := goodIn_r _ [15, 16, 20, 21, 22, 23, 24, 25, 26, 27, 28, 29, 30, 31, 32, 33, 34, 35, 36, 37, 38, 39, 40, 41, 42, 43, 44, 45, 46] rfl (by decide +kernel)
set_option maxRecDepth 20000 in
theorem gX13_likeness_X13_no : GoodIn wsX13_likeness (wsV RX13 139 RX13 yX13_no wsX13_no) := goodIn_app (goodIn_of _ (by decide +kernel)) ggX13_likeness_X13_no
set_option maxRecDepth 20000 in
theorem ggX13_write_X13_head_ : GoodIn wsX13_write wsX13_head_ := goodIn_ca (goodIn_r _ [33, 2] rfl (by decide +kernel)) (goodIn_sub (fun _ h => List.mem_cons_of_mem _ (List.mem_append_right _ h)) (by decide +kernel))
set_option maxRecDepth 20000 in
theorem gX13_write_X13_head_ : GoodIn wsX13_write (va_wsS RX13 207 yX13_head_ wsX13_head_) := goodIn_app (goodIn_of _ (by decide +kernel)) ggX13_write_X13_head_
set_option maxRecDepth 20000 in
theorem ggX13_writtenAt_X13_no : GoodIn wsX13_writtenAt wsX13_no := goodIn_r _ [9, 10, 11, 12, 13, 14, 15, 16, 17, 18, 19, 20, 21, 22, 23, 24, 25, 26, 27, 28, 29, 30, 31, 32, 33, 34, 35, 36, 37] rfl (by decide +kernel)
set_option maxRecDepth 20000 in
theorem gX13_writtenAt_X13_no : GoodIn wsX13_writtenAt (wsV RX13 139 RX13 yX13_no wsX13_no) := goodIn_app (goodIn_of _ (by decide +kernel)) ggX13_writtenAt_X13_no
set_option maxRecDepth 20000 in
theorem ggX13_reread_X13_no : GoodIn wsX13_reread wsX13_no := goodIn_r _ [18, 19, 24, 25, 26, 27, 28, 29, 30, 31, 32, 33, 34, 35, 36, 37, 38, 39, 40, 41, 42, 43, 44, 45, 46, 47, 48, 49, 50] rfl (by decide +kernel)
set_option maxRecDepth 20000 in
theorem gX13_reread_X13_no : GoodIn wsX13_reread (wsV RX13 139 RX13 yX13_no wsX13_no) := goodIn_app (goodIn_of _ (by decide +kernel)) ggX13_reread_X13_no
set_option maxRecDepth 20000 in
theorem ggX13_checksum_X13_sizeOf : GoodIn wsX13_checksum wsX13_sizeOf := goodIn_ca (goodIn_r _ [31, 3, 4, 32, 33, 34, 35, 36, 37, 38, 39, 40, 41, 42, 43, 44, 45, 46, 47, 48, 49, 50, 51, 52, 53, 54, 55, 56, 57, 58, 59] rfl (by decide +kernel)) (goodIn_sub (fun _ h => List.mem_cons_of_mem _ (List.mem_append_right _ h)) (by decide +kernel))
set_option maxRecDepth 20000 in
theorem gX13_checksum_X13_sizeOf : GoodIn wsX13_checksum (wsV RX13 196 RX13 yX13_sizeOf wsX13_sizeOf) := goodIn_app (goodIn_of _ (by decide +kernel)) ggX13_checksum_X13_sizeOf
set_option maxRecDepth 20000 in
theorem ggL_type_X11_type : GoodIn wsL_type wsX11_type := goodIn_ca (goodIn_ca (goodIn_ca (goodIn_r _ [6, 7, 8, 9, 10, 11, 12, 13, 14, 15, 16, 17, 18, 19, 20, 21, 22, 23, 24, 25, 26, 27, 28, 29, 30, 31, 32, 33, 34, 35, 36, 37, 38] rfl (by decide +kernel)) (goodIn_sub (fun _ h => List.mem_cons_of_mem _ (List.mem_append_left _ (List.mem_append_right _ h))) (by decide +kernel))) (goodIn_sub (fun _ h => List.mem_cons_of_mem _ (List.mem_append_right _ h)) (by decide +kernel))) (goodIn_sub (fun _ h => List.mem_cons_of_mem _ (List.mem_append_left _ (List.mem_append_left _ (List.mem_append_right _ h)))) (by decide +kernel))
set_option maxRecDepth 20000 in
theorem gL_type_X11_type : GoodIn wsL_type (wsV RL 7 RX11 yX11_type wsX11_type) := goodIn_app (goodIn_of _ (by decide +kernel)) ggL_type_X11_type
set_option maxRecDepth 20000 in
theorem ggL_signAt_X11_signAt : GoodIn wsL_signAt wsX11_signAt := goodIn_ca (goodIn_ca (goodIn_r _ [6, 7, 8, 9, 10, 11, 12, 13, 14, 15, 16, 17, 18, 19, 20, 21, 22, 23, 24, 25, 26, 27, 28, 29, 30, 31, 32, 33, 34, 35, 36] rfl (by decide +kernel)) (goodIn_sub (fun _ h => List.mem_cons_of_mem _ (List.mem_append_right _ h)) (by decide +kernel))) (goodIn_sub (fun _ h => List.mem_cons_of_mem _ (List.mem_append_left _ (List.mem_append_right _ h))) (by decide +kernel))
set_option maxRecDepth 20000 in
theorem gL_signAt_X11_signAt : GoodIn wsL_signAt (wsV RL 17 RX11 yX11_signAt wsX11_signAt) := goodIn_app (goodIn_of _ (by decide +kernel)) ggL_signAt_X11_signAt
set_option maxRecDepth 20000 in
theorem ggL_add_X11_add : GoodIn wsL_add wsX11_add := goodIn_ca (goodIn_ca (goodIn_ca (goodIn_ca (goodIn_r _ [6, 7, 8, 9, 10, 11, 12, 13, 14, 5, 15, 16, 17, 18, 19, 20, 21, 22, 23, 24, 25, 26, 27, 28, 29, 30, 31, 32, 33, 34, 35, 36, 37, 38, 39, 40, 41, 42, 43, 44, 45, 46, 47, 48, 49, 50, 51, 52, 53, 54, 55, 56, 57, 58, 59, 60, 61, 62, 63, 64, 65, 66, 67, 68, 69, 70, 71, 72, 73, 74, 75, 76, 77, 78, 79, 80, 81, 82, 83, 84, 85, 86, 87, 88, 89, 90, 91, 92, 93, 94, 95, 96, 97, 98, 99, 100, 101, 102, 103, 104, 105, 106, 107, 108, 109, 110, 111, 112, 113, 114, 115, 116, 117, 118, 119, 120, 121, 122, 123, 124, 125, 126, 127, 128, 129, 130, 131, 132, 133, 134, 135, 136, 137, 138, 139, 140, 141, 142, 143, 144, 145, 146, 147, 148, 149, 150, 151, 152, 153, 154, 155, 156, 157, 158, 159, 160, 161, 162, 163, 164, 165, 166, 167, 168, 169, 170, 171, 172, 173, 174, 175, 176, 177, 178, 179, 180, 181, 182, 183, 184, 185, 186, 187, 188, 189, 190, 191, 192, 193] rfl (by decide +kernel)) (goodIn_sub (fun _ h => List.mem_cons_of_mem _ (List.mem_append_left _ (List.mem_append_left _ (List.mem_append_right _ h)))) (by decide +kernel))) (goodIn_sub (fun _ h => List.mem_cons_of_mem _ (List.mem_append_left _ (List.mem_append_right _ h))) (by decide +kernel))) (goodIn_sub (fun _ h => List.mem_cons_of_mem _ (List.mem_append_left _ (List.mem_append_left _ (List.mem_append_left _ (List.mem_append_right _ h))))) (by decide +kernel))) (goodIn_sub (fun _ h => List.mem_cons_of_mem _ (List.mem_append_right _ h)) (by decide +kernel))
set_option maxRecDepth 20000 in
theorem gL_add_X11_add : GoodIn wsL_add (wsV RL 23 RX11 yX11_add wsX11_add) := goodIn_app (goodIn_of _ (by decide +kernel)) ggL_add_X11_add
