set_option maxRecDepth 20000 in
theorem ggX5_addWord_X5_add : GoodIn wsX5_addWord wsX5_add := goodIn_r _ [5, 6, 7, 8, 9] rfl (by decide +kernel)
set_option maxRecDepth 20000 in
theorem ggX11_feed_X5_size : GoodIn wsX11_feed wsX5_size := goodIn_r _ [6, 7, 27, 28] rfl (by decide +kernel)
set_option maxRecDepth 20000 in
theorem ggX11_feed_X5_addWord : GoodIn wsX11_feed wsX5_addWord := goodIn_r _ [11, 12, 13, 14, 5, 15, 7, 16, 27, 28] rfl (by decide +kernel)
set_option maxRecDepth 20000 in
theorem ggX11_end_X5_size : GoodIn wsX11_end wsX5_size := goodIn_r _ [6, 7, 22, 23] rfl (by decide +kernel)
set_option maxRecDepth 20000 in
theorem ggX11_end_X5_cut : GoodIn wsX11_end wsX5_cut := goodIn_r _ [11, 7, 22, 23] rfl (by decide +kernel)
set_option maxRecDepth 20000 in
theorem ggX11_font_X8_size : GoodIn wsX11_font wsX8_size := goodIn_r _ [6, 7, 25, 26, 27, 28, 29, 30] rfl (by decide +kernel)
set_option maxRecDepth 20000 in
theorem ggX11_part_X6_kindOf : GoodIn wsX11_part wsX6_kindOf := goodIn_r _ [6, 7, 8, 19, 20, 21, 22, 23, 24, 25] rfl (by decide +kernel)
set_option maxRecDepth 20000 in
theorem ggX6_pointOf_X6_kindOf : GoodIn wsX6_pointOf wsX6_kindOf := goodIn_r _ [6, 7, 8, 9, 10, 11, 12, 13, 14, 15] rfl (by decide +kernel)
set_option maxRecDepth 20000 in
theorem ggX11_at_X6_pointOf : GoodIn wsX11_at wsX6_pointOf := goodIn_r _ [6, 7, 8, 9, 10, 5, 11, 12, 13, 24, 25, 26, 27, 28, 29, 30] rfl (by decide +kernel)
set_option maxRecDepth 20000 in
theorem ggX5_addAll_X5_get : GoodIn wsX5_addAll wsX5_get := goodIn_r _ [10, 5, 11, 16, 17] rfl (by decide +kernel)
set_option maxRecDepth 20000 in
theorem ggX5_addAll_X5_add : GoodIn wsX5_addAll wsX5_add := goodIn_r _ [15, 5, 11, 16, 17] rfl (by decide +kernel)
set_option maxRecDepth 20000 in
theorem ggX5_encipher_X5_nextKey : GoodIn wsX5_encipher wsX5_nextKey := goodIn_r _ [6, 7, 8] rfl (by decide +kernel)
set_option maxRecDepth 20000 in
theorem ggX11_cipher_X11_isKeyAndNumber : GoodIn wsX11_cipher wsX11_isKeyAndNumber := goodIn_r _ [6, 7] rfl (by decide +kernel)
set_option maxRecDepth 20000 in
theorem ggX11_cipher_X5_cut : GoodIn wsX11_cipher wsX5_cut := goodIn_r _ [12, 13, 55, 56] rfl (by decide +kernel)
set_option maxRecDepth 20000 in
theorem ggX11_cipher_X5_addAll : GoodIn wsX11_cipher wsX5_addAll := goodIn_r _ [22, 23, 24, 25, 26, 13, 27, 28, 29, 11, 30, 18, 31, 15, 16, 17, 55, 56] rfl (by decide +kernel)
set_option maxRecDepth 20000 in
theorem ggX11_cipher_X5_encipher : GoodIn wsX11_cipher wsX5_encipher := goodIn_r _ [35, 13, 18, 36, 37, 11, 38, 39, 40, 55, 56] rfl (by decide +kernel)
set_option maxRecDepth 20000 in
theorem ggX11_cipher_X5_size : GoodIn wsX11_cipher wsX5_size := goodIn_r _ [44, 13, 55, 56] rfl (by decide +kernel)
set_option maxRecDepth 20000 in
theorem ggX11_cipher_X5_add : GoodIn wsX11_cipher wsX5_add := goodIn_r _ [17, 13, 18, 55, 56] rfl (by decide +kernel)
set_option maxRecDepth 20000 in
theorem ggX5_decipher_X5_nextKey : GoodIn wsX5_decipher wsX5_nextKey := goodIn_r _ [10, 11, 12] rfl (by decide +kernel)
set_option maxRecDepth 20000 in
theorem ggX11_plain_X11_isKeyAndNumber : GoodIn wsX11_plain wsX11_isKeyAndNumber := goodIn_r _ [6, 7] rfl (by decide +kernel)
set_option maxRecDepth 20000 in
theorem ggX11_plain_X5_size : GoodIn wsX11_plain wsX5_size := goodIn_r _ [12, 13, 54, 55] rfl (by decide +kernel)
set_option maxRecDepth 20000 in
theorem ggX11_plain_X5_decipher : GoodIn wsX11_plain wsX5_decipher := goodIn_r _ [17, 18, 19, 20, 21, 13, 22, 23, 24, 11, 25, 26, 27, 54, 55] rfl (by decide +kernel)
set_option maxRecDepth 20000 in
theorem ggX11_plain_X5_cut : GoodIn wsX11_plain wsX5_cut := goodIn_r _ [31, 13, 54, 55] rfl (by decide +kernel)
set_option maxRecDepth 20000 in
theorem ggX11_plain_X5_addAll : GoodIn wsX11_plain wsX5_addAll := goodIn_r _ [35, 18, 19, 20, 21, 13, 36, 37, 38, 11, 39, 22, 40, 41, 42, 43, 54, 55] rfl (by decide +kernel)
set_option maxRecDepth 20000 in
theorem ggX11_octet_X5_get : GoodIn wsX11_octet wsX5_get := goodIn_r _ [6, 7, 8, 19, 20] rfl (by decide +kernel)
set_option maxRecDepth 20000 in
theorem ggX11_back_X5_size : GoodIn wsX11_back wsX5_size := goodIn_r _ [7, 8, 40, 41] rfl (by decide +kernel)
set_option maxRecDepth 20000 in
theorem ggX11_back_X5_addAll : GoodIn wsX11_back wsX5_addAll := goodIn_r _ [12, 13, 14, 15, 16, 8, 17, 18, 19, 6, 20, 21, 22, 23, 24, 25, 40, 41] rfl (by decide +kernel)
set_option maxRecDepth 20000 in
theorem ggX11_back_X5_cut : GoodIn wsX11_back wsX5_cut := goodIn_r _ [29, 8, 40, 41] rfl (by decide +kernel)
set_option maxRecDepth 20000 in
theorem ggX11_count_X5_size : GoodIn wsX11_count wsX5_size := goodIn_r _ [7, 8, 19, 20] rfl (by decide +kernel)
set_option maxRecDepth 20000 in
theorem ggX8_objectAt_X5_get : GoodIn wsX8_objectAt wsX5_get := goodIn_r _ [9, 10, 11, 18, 19] rfl (by decide +kernel)
set_option maxRecDepth 20000 in
theorem ggX8_finishOf_X8_has : GoodIn wsX8_finishOf wsX8_has := goodIn_r _ [7, 8, 1, 9, 23, 24, 25, 26, 27, 28] rfl (by decide +kernel)
set_option maxRecDepth 20000 in
theorem ggX8_finishOf_X8_objectAt : GoodIn wsX8_finishOf wsX8_objectAt := goodIn_r _ [13, 1, 14, 15, 8, 16, 17, 18, 19, 20, 21, 22, 23, 24, 25, 26, 27, 28, 29, 30] rfl (by decide +kernel)
set_option maxRecDepth 20000 in
theorem ggX8_beginOf_X8_has : GoodIn wsX8_beginOf wsX8_has := goodIn_r _ [7, 8, 1, 2, 22, 23, 24, 25, 26, 27] rfl (by decide +kernel)
set_option maxRecDepth 20000 in
theorem ggX8_beginOf_X8_objectAt : GoodIn wsX8_beginOf wsX8_objectAt := goodIn_r _ [12, 1, 13, 14, 8, 15, 16, 17, 18, 19, 20, 21, 22, 23, 24, 25, 26, 27, 28, 29] rfl (by decide +kernel)
set_option maxRecDepth 20000 in
theorem ggX11_code_X3_shelfOf : GoodIn wsX11_code wsX3_shelfOf := goodIn_r _ [6, 7, 8, 9, 52, 53, 54, 55, 56, 57, 58] rfl (by decide +kernel)
set_option maxRecDepth 20000 in
theorem ggX11_code_X8_has : GoodIn wsX11_code wsX8_has := goodIn_r _ [14, 15, 16, 17, 59, 60, 61, 62, 63, 64] rfl (by decide +kernel)
set_option maxRecDepth 20000 in
theorem ggX11_code_X8_finishOf : GoodIn wsX11_code wsX8_finishOf := goodIn_r _ [21, 16, 22, 23, 11, 12, 13, 14, 15, 17, 24, 25, 26, 27, 28, 29, 30, 31, 32, 33, 34, 35, 36, 59, 60, 61, 62, 63, 64, 65, 66] rfl (by decide +kernel)
set_option maxRecDepth 20000 in
theorem ggX11_code_X8_beginOf : GoodIn wsX11_code wsX8_beginOf := goodIn_r _ [40, 16, 17, 23, 11, 12, 13, 14, 15, 24, 25, 26, 27, 28, 29, 30, 31, 32, 33, 34, 35, 36, 59, 60, 61, 62, 63, 64, 65, 66] rfl (by decide +kernel)
set_option maxRecDepth 20000 in
theorem ggX11_code_X5_get : GoodIn wsX11_code wsX5_get := goodIn_r _ [34, 35, 36, 65, 66] rfl (by decide +kernel)
set_option maxRecDepth 20000 in
theorem ggJ7_fill_fda19_J7_rangeCheck_23922 : GoodIn wsJ7_fill_fda19 wsJ7_rangeCheck_23922 := goodIn_r _ [4] rfl (by decide +kernel)
set_option maxRecDepth 20000 in
theorem ggX8_lay_J7_fill_fda19 : GoodIn wsX8_lay wsJ7_fill_fda19 := goodIn_r _ [14, 15, 16, 13, 17] rfl (by decide +kernel)
set_option maxRecDepth 20000 in
theorem ggX3_begin_X5_cut : GoodIn wsX3_begin wsX5_cut := goodIn_r _ [12, 13, 57, 58] rfl (by decide +kernel)
set_option maxRecDepth 20000 in
theorem ggX3_begin_X5_addAll : GoodIn wsX3_begin wsX5_addAll := goodIn_r _ [17, 18, 19, 20, 21, 13, 22, 23, 24, 11, 25, 26, 27, 28, 29, 30, 57, 58] rfl (by decide +kernel)
set_option maxRecDepth 20000 in
theorem ggX3_begin_X8_lay : GoodIn wsX3_begin wsX8_lay := goodIn_r _ [35, 36, 37, 38, 20, 39, 40, 19, 21, 41, 42, 43, 44, 45, 46, 47, 48, 49, 59, 60, 61, 62, 63, 64] rfl (by decide +kernel)
set_option maxRecDepth 20000 in
theorem ggX1_take_X1_wrong : GoodIn wsX1_take wsX1_wrong := goodIn_r _ [15, 4, 21, 22, 23, 24, 25, 26, 27, 28, 29, 30] rfl (by decide +kernel)
set_option maxRecDepth 20000 in
theorem ggX1_take_X5_get : GoodIn wsX1_take wsX5_get := goodIn_r _ [19, 10, 20, 31, 32] rfl (by decide +kernel)
set_option maxRecDepth 20000 in
theorem ggX1_take_X5_size : GoodIn wsX1_take wsX5_size := goodIn_r _ [9, 10, 31, 32] rfl (by decide +kernel)
set_option maxRecDepth 20000 in
theorem ggX1_want_X1_wrong : GoodIn wsX1_want wsX1_wrong := goodIn_r _ [5, 6, 7, 8, 9, 10, 11, 12, 13, 14, 15, 16] rfl (by decide +kernel)
set_option maxRecDepth 20000 in
theorem ggX1_takeHeader_X1_take : GoodIn wsX1_takeHeader wsX1_take := goodIn_r _ [6, 1, 7, 8, 9, 10, 11, 12, 13, 14, 15, 16, 17, 18, 5, 19, 20, 21, 22, 23, 24, 29, 30, 31, 32, 33, 34, 35, 36, 37, 38, 39, 40] rfl (by decide +kernel)
set_option maxRecDepth 20000 in
theorem ggX1_takeHeader_X1_want : GoodIn wsX1_takeHeader wsX1_want := goodIn_r _ [28, 16, 17, 18, 5, 19, 9, 29, 30, 31, 32, 33, 34, 35, 36, 37, 38] rfl (by decide +kernel)
set_option maxRecDepth 20000 in
theorem ggX1_takeNumber_X1_take : GoodIn wsX1_takeNumber wsX1_take := goodIn_r _ [7, 8, 9, 10, 1, 11, 12, 13, 14, 15, 16, 17, 18, 19, 6, 20, 21, 22, 23, 24, 25, 26, 27, 28, 29, 30, 31, 32, 33, 34, 35, 36, 37] rfl (by decide +kernel)
set_option maxRecDepth 20000 in
theorem ggX1_takeIndex_X1_takeNumber : GoodIn wsX1_takeIndex wsX1_takeNumber := goodIn_r _ [12, 2, 13, 14, 15, 16, 11, 17, 4, 7, 18, 19, 20, 21, 22, 23, 24, 25, 26, 27, 28, 29, 30, 31, 32, 33, 38, 39, 40, 41, 42, 43, 44, 45, 46, 47, 48, 49] rfl (by decide +kernel)
set_option maxRecDepth 20000 in
theorem ggX1_takeIndex_X1_want : GoodIn wsX1_takeIndex wsX1_want := goodIn_r _ [37, 25, 26, 27, 11, 28, 2, 38, 39, 40, 41, 42, 43, 44, 45, 46, 47] rfl (by decide +kernel)
set_option maxRecDepth 20000 in
theorem ggX1_takeIndex_X1_take : GoodIn wsX1_takeIndex wsX1_take := goodIn_r _ [17, 4, 7, 18, 2, 19, 20, 21, 22, 23, 24, 25, 26, 27, 11, 28, 29, 30, 31, 32, 33, 38, 39, 40, 41, 42, 43, 44, 45, 46, 47, 48, 49] rfl (by decide +kernel)
set_option maxRecDepth 20000 in
theorem ggX1_takeIndex_X5_size : GoodIn wsX1_takeIndex wsX5_size := goodIn_r _ [23, 24, 48, 49] rfl (by decide +kernel)
set_option maxRecDepth 20000 in
theorem ggX1_takeIndex_X1_wrong : GoodIn wsX1_takeIndex wsX1_wrong := goodIn_r _ [28, 2, 38, 39, 40, 41, 42, 43, 44, 45, 46, 47] rfl (by decide +kernel)
set_option maxRecDepth 20000 in
theorem ggX1_shelve_X8_layIndex : GoodIn wsX1_shelve wsX8_layIndex := goodIn_r _ [9, 10, 11, 12, 23, 24, 25, 26, 27, 28] rfl (by decide +kernel)
set_option maxRecDepth 20000 in
theorem ggX2_clear_J7_fill_53178 : GoodIn wsX2_clear wsJ7_fill_53178 := goodIn_r _ [7] rfl (by decide +kernel)
set_option maxRecDepth 20000 in
theorem ggX2_add_X2_isFull : GoodIn wsX2_add wsX2_isFull := goodIn_r _ [7, 2, 8, 9, 10, 11, 12, 13] rfl (by decide +kernel)
set_option maxRecDepth 20000 in
theorem ggX1_takeReal_X1_take : GoodIn wsX1_takeReal wsX1_take := goodIn_r _ [6, 7, 8, 9, 1, 10, 11, 12, 13, 14, 15, 16, 17, 18, 5, 19, 20, 21, 22, 23, 24, 29, 30, 31, 32, 33, 34, 35, 36, 37, 38, 39, 40] rfl (by decide +kernel)
set_option maxRecDepth 20000 in
theorem ggX1_takeReal_X1_want : GoodIn wsX1_takeReal wsX1_want := goodIn_r _ [28, 16, 17, 18, 5, 19, 1, 29, 30, 31, 32, 33, 34, 35, 36, 37, 38] rfl (by decide +kernel)
set_option maxRecDepth 20000 in
theorem ggX2_addReal_X2_add : GoodIn wsX2_addReal wsX2_add := goodIn_r _ [6, 7, 8, 9, 10, 11, 5, 12, 13, 14, 15, 16, 17, 18] rfl (by decide +kernel)
set_option maxRecDepth 20000 in
theorem ggX2_tell_X2_slotOf : GoodIn wsX2_tell wsX2_slotOf := goodIn_r _ [10] rfl (by decide +kernel)
set_option maxRecDepth 20000 in
theorem ggX1_takeOperandOrOperator_X1_take : GoodIn wsX1_takeOperandOrOperator wsX1_take := goodIn_r _ [7, 8, 9, 10, 1, 11, 12, 13, 14, 15, 16, 17, 18, 19, 6, 20, 21, 22, 23, 24, 25, 75, 76, 77, 78, 79, 80, 81, 82, 83, 84, 85, 86] rfl (by decide +kernel)
set_option maxRecDepth 20000 in
theorem ggX1_takeOperandOrOperator_X2_isFull : GoodIn wsX1_takeOperandOrOperator wsX2_isFull := goodIn_r _ [43, 33, 87, 88, 89, 90, 91, 92] rfl (by decide +kernel)
set_option maxRecDepth 20000 in
theorem ggX1_takeOperandOrOperator_X1_isOperand : GoodIn wsX1_takeOperandOrOperator wsX1_isOperand := goodIn_r _ [46] rfl (by decide +kernel)
set_option maxRecDepth 20000 in
theorem ggX1_takeOperandOrOperator_X1_want : GoodIn wsX1_takeOperandOrOperator wsX1_want := goodIn_r _ [50, 17, 18, 19, 6, 20, 1, 75, 76, 77, 78, 79, 80, 81, 82, 83, 84] rfl (by decide +kernel)
set_option maxRecDepth 20000 in
theorem ggX1_takeOperandOrOperator_X11_bytesBehind : GoodIn wsX1_takeOperandOrOperator wsX11_bytesBehind := goodIn_r _ [66] rfl (by decide +kernel)
set_option maxRecDepth 20000 in
theorem ggX1_takeOperandOrOperator_X1_takeNumber : GoodIn wsX1_takeOperandOrOperator wsX1_takeNumber := goodIn_r _ [70, 1, 71, 3, 4, 5, 6, 7, 8, 9, 10, 11, 12, 13, 14, 15, 16, 17, 18, 19, 20, 21, 22, 23, 24, 25, 75, 76, 77, 78, 79, 80, 81, 82, 83, 84, 85, 86] rfl (by decide +kernel)
set_option maxRecDepth 20000 in
theorem ggX1_takeOperandOrOperator_X11_wholeNumber : GoodIn wsX1_takeOperandOrOperator wsX11_wholeNumber := goodIn_r _ [73] rfl (by decide +kernel)
set_option maxRecDepth 20000 in
theorem ggX1_takeOperandOrOperator_X2_add : GoodIn wsX1_takeOperandOrOperator wsX2_add := goodIn_r _ [62, 35, 33, 63, 41, 42, 29, 43, 87, 88, 89, 90, 91, 92] rfl (by decide +kernel)
set_option maxRecDepth 20000 in
theorem ggX1_takeOperandOrOperator_X1_takeReal : GoodIn wsX1_takeOperandOrOperator wsX1_takeReal := goodIn_r _ [54, 1, 3, 4, 5, 6, 7, 8, 9, 10, 11, 12, 13, 14, 15, 16, 17, 18, 19, 20, 21, 22, 23, 24, 25, 47, 48, 49, 50, 75, 76, 77, 78, 79, 80, 81, 82, 83, 84, 85, 86] rfl (by decide +kernel)
set_option maxRecDepth 20000 in
theorem ggX1_takeOperandOrOperator_X2_addReal : GoodIn wsX1_takeOperandOrOperator wsX2_addReal := goodIn_r _ [58, 32, 59, 60, 61, 29, 62, 35, 33, 63, 41, 42, 43, 87, 88, 89, 90, 91, 92] rfl (by decide +kernel)
set_option maxRecDepth 20000 in
theorem ggX1_takeOperandOrOperator_X2_tell : GoodIn wsX1_takeOperandOrOperator wsX2_tell := goodIn_r _ [30, 31, 32, 33, 34, 35, 36, 37, 38, 29, 39, 87, 88, 89, 90, 91, 92] rfl (by decide +kernel)
set_option maxRecDepth 20000 in
theorem ggX1_takeDict_X2_clear : GoodIn wsX1_takeDict wsX2_clear := goodIn_r _ [10, 11, 12, 13, 14, 15, 16, 17, 102, 103, 104, 105, 106, 107] rfl (by decide +kernel)
set_option maxRecDepth 20000 in
theorem ggX1_takeDict_X2_isBetween : GoodIn wsX1_takeDict wsX2_isBetween := goodIn_r _ [91, 11, 102, 103, 104, 105, 106, 107] rfl (by decide +kernel)
set_option maxRecDepth 20000 in
theorem ggX1_takeDict_X1_want : GoodIn wsX1_takeDict wsX1_want := goodIn_r _ [63, 34, 35, 36, 21, 37, 4, 92, 93, 94, 95, 96, 97, 98, 99, 100, 101] rfl (by decide +kernel)
set_option maxRecDepth 20000 in
theorem ggX1_takeDict_X1_takeOperandOrOperator : GoodIn wsX1_takeDict wsX1_takeOperandOrOperator := goodIn_r _ [22, 4, 1, 23, 24, 25, 21, 26, 2, 27, 3, 28, 29, 30, 31, 32, 33, 34, 35, 36, 37, 38, 39, 40, 41, 42, 43, 44, 45, 9, 46, 13, 12, 11, 47, 48, 49, 50, 51, 52, 53, 54, 55, 56, 57, 58, 59, 60, 61, 62, 63, 64, 65, 66, 67, 68, 69, 70, 71, 72, 73, 74, 75, 76, 77, 78, 79, 80, 81, 82, 83, 84, 85, 86, 87, 92, 93, 94, 95, 96, 97, 98, 99, 100, 101, 108, 109, 102, 103, 104, 105, 106, 107] rfl (by decide +kernel)
set_option maxRecDepth 20000 in
theorem ggX2_isTold_X2_slotOf : GoodIn wsX2_isTold wsX2_slotOf := goodIn_r _ [5] rfl (by decide +kernel)
set_option maxRecDepth 20000 in
theorem ggX2_fits_X2_slotOf : GoodIn wsX2_fits wsX2_slotOf := goodIn_r _ [5] rfl (by decide +kernel)
set_option maxRecDepth 20000 in
theorem ggX2_first_X2_isTold : GoodIn wsX2_first wsX2_isTold := goodIn_r _ [6, 7, 8, 9, 5, 10, 11, 12, 13, 14, 15, 16] rfl (by decide +kernel)
set_option maxRecDepth 20000 in
theorem ggX2_first_X2_slotOf : GoodIn wsX2_first wsX2_slotOf := goodIn_r _ [10] rfl (by decide +kernel)
set_option maxRecDepth 20000 in
theorem ggX1_takeTop_X1_takeDict : GoodIn wsX1_takeTop wsX1_takeDict := goodIn_r _ [6, 1, 7, 8, 9, 10, 11, 12, 13, 14, 15, 16, 17, 18, 19, 20, 21, 22, 23, 24, 25, 5, 26, 27, 28, 29, 30, 31, 32, 33, 34, 35, 36, 37, 38, 39, 40, 41, 42, 43, 44, 45, 46, 47, 48, 49, 50, 51, 52, 53, 54, 55, 56, 57, 58, 59, 60, 61, 62, 63, 64, 65, 66, 67, 68, 69, 70, 71, 72, 73, 74, 75, 76, 77, 78, 79, 80, 81, 82, 83, 84, 85, 86, 87, 88, 89, 90, 91, 92, 93, 94, 95, 109, 110, 111, 112, 113, 114, 115, 116, 117, 118, 119, 120, 121, 122, 123, 124, 125, 126] rfl (by decide +kernel)
set_option maxRecDepth 20000 in
theorem ggX1_takeTop_X2_isTold : GoodIn wsX1_takeTop wsX2_isTold := goodIn_r _ [99, 18, 54, 55, 14, 56, 119, 120, 121, 122, 123, 124] rfl (by decide +kernel)
set_option maxRecDepth 20000 in
theorem ggX1_takeTop_X1_want : GoodIn wsX1_takeTop wsX1_want := goodIn_r _ [67, 38, 39, 40, 5, 41, 9, 109, 110, 111, 112, 113, 114, 115, 116, 117, 118] rfl (by decide +kernel)
set_option maxRecDepth 20000 in
theorem ggX1_takeTop_X2_fits : GoodIn wsX1_takeTop wsX2_fits := goodIn_r _ [103, 18, 54, 55, 14, 56, 119, 120, 121, 122, 123, 124] rfl (by decide +kernel)
set_option maxRecDepth 20000 in
theorem ggX1_takeTop_X2_first : GoodIn wsX1_takeTop wsX2_first := goodIn_r _ [107, 51, 108, 97, 98, 14, 99, 18, 54, 55, 56, 119, 120, 121, 122, 123, 124] rfl (by decide +kernel)
set_option maxRecDepth 20000 in
theorem ggX2_second_X2_isTold : GoodIn wsX2_second wsX2_isTold := goodIn_r _ [6, 7, 8, 9, 5, 10, 11, 12, 13, 14, 15, 16] rfl (by decide +kernel)
set_option maxRecDepth 20000 in
theorem ggX2_second_X2_slotOf : GoodIn wsX2_second wsX2_slotOf := goodIn_r _ [10] rfl (by decide +kernel)
set_option maxRecDepth 20000 in
theorem ggX1_takePrivate_X1_wrong : GoodIn wsX1_takePrivate wsX1_wrong := goodIn_r _ [17, 4, 131, 132, 133, 134, 135, 136, 137, 138, 139, 140] rfl (by decide +kernel)
set_option maxRecDepth 20000 in
theorem ggX1_takePrivate_X1_want : GoodIn wsX1_takePrivate wsX1_want := goodIn_r _ [21, 13, 14, 15, 16, 17, 4, 131, 132, 133, 134, 135, 136, 137, 138, 139, 140] rfl (by decide +kernel)
set_option maxRecDepth 20000 in
theorem ggX1_takePrivate_X1_takeDict : GoodIn wsX1_takePrivate wsX1_takeDict := goodIn_r _ [25, 2, 5, 26, 4, 27, 28, 29, 30, 31, 32, 33, 34, 35, 36, 37, 38, 39, 40, 41, 42, 16, 43, 44, 45, 46, 47, 1, 7, 8, 9, 10, 11, 12, 13, 14, 15, 17, 48, 49, 50, 51, 52, 53, 54, 55, 56, 57, 58, 59, 60, 61, 62, 63, 64, 65, 66, 67, 68, 69, 18, 19, 20, 21, 70, 71, 72, 73, 74, 75, 76, 77, 78, 79, 80, 81, 82, 83, 84, 85, 86, 87, 88, 89, 90, 91, 92, 93, 94, 95, 96, 97, 131, 132, 133, 134, 135, 136, 137, 138, 139, 140, 150, 151, 152, 153, 154, 155, 148, 149] rfl (by decide +kernel)
set_option maxRecDepth 20000 in
theorem ggX1_takePrivate_X2_fits : GoodIn wsX1_takePrivate wsX2_fits := goodIn_r _ [101, 35, 60, 61, 31, 62, 150, 151, 152, 153, 154, 155] rfl (by decide +kernel)
set_option maxRecDepth 20000 in
theorem ggX1_takePrivate_X2_first : GoodIn wsX1_takePrivate wsX2_first := goodIn_r _ [105, 57, 106, 107, 108, 31, 109, 35, 60, 61, 62, 150, 151, 152, 153, 154, 155] rfl (by decide +kernel)
set_option maxRecDepth 20000 in
theorem ggX1_takePrivate_X2_isTold : GoodIn wsX1_takePrivate wsX2_isTold := goodIn_r _ [109, 35, 60, 61, 31, 62, 150, 151, 152, 153, 154, 155] rfl (by decide +kernel)
set_option maxRecDepth 20000 in
theorem ggX1_takePrivate_X1_takeIndex : GoodIn wsX1_takePrivate wsX1_takeIndex := goodIn_r _ [114, 115, 4, 116, 5, 117, 118, 1, 86, 87, 88, 16, 89, 90, 44, 45, 46, 47, 26, 7, 8, 9, 10, 11, 12, 13, 14, 15, 17, 48, 49, 50, 51, 52, 18, 19, 20, 21, 131, 132, 133, 134, 135, 136, 137, 138, 139, 140, 148, 149] rfl (by decide +kernel)
set_option maxRecDepth 20000 in
theorem ggX1_takePrivate_X1_shelve : GoodIn wsX1_takePrivate wsX1_shelve := goodIn_r _ [122, 4, 115, 117, 116, 123, 124, 125, 126, 127, 128, 129, 130, 131, 132, 133, 134, 135, 136, 137, 138, 139, 140, 156, 157, 158, 159, 160, 161] rfl (by decide +kernel)
set_option maxRecDepth 20000 in
theorem ggX1_takePrivate_X5_size : GoodIn wsX1_takePrivate wsX5_size := goodIn_r _ [11, 12, 148, 149] rfl (by decide +kernel)
set_option maxRecDepth 20000 in
theorem ggX1_parse_X3_begin : GoodIn wsX1_parse wsX3_begin := goodIn_r _ [14, 15, 16, 17, 18, 19, 20, 21, 22, 23, 24, 25, 26, 27, 28, 29, 30, 31, 32, 33, 34, 35, 36, 37, 38, 39, 40, 41, 42, 43, 44, 45, 46, 47, 48, 49, 50, 51, 52, 53, 54, 55, 56, 57, 58, 59, 60, 61, 62, 63, 201, 202, 203, 204, 205, 206, 207, 208, 209, 210, 211, 212, 213, 214, 215] rfl (by decide +kernel)
set_option maxRecDepth 20000 in
theorem ggX1_parse_X1_takeHeader : GoodIn wsX1_parse wsX1_takeHeader := goodIn_r _ [68, 7, 69, 70, 71, 67, 72, 2, 5, 3, 73, 74, 75, 25, 76, 27, 77, 78, 79, 80, 81, 37, 38, 39, 40, 82, 83, 84, 85, 191, 192, 193, 194, 195, 196, 197, 198, 199, 200, 208, 209] rfl (by decide +kernel)
set_option maxRecDepth 20000 in
theorem ggX1_parse_X1_takeIndex : GoodIn wsX1_parse wsX1_takeIndex := goodIn_r _ [89, 90, 3, 91, 7, 92, 6, 2, 93, 94, 95, 67, 96, 97, 69, 70, 71, 72, 5, 73, 74, 75, 25, 76, 27, 77, 78, 79, 80, 81, 37, 38, 39, 40, 82, 83, 84, 85, 191, 192, 193, 194, 195, 196, 197, 198, 199, 200, 208, 209] rfl (by decide +kernel)
set_option maxRecDepth 20000 in
theorem ggX1_parse_X1_shelve : GoodIn wsX1_parse wsX1_shelve := goodIn_r _ [101, 3, 90, 92, 91, 102, 103, 104, 48, 105, 55, 106, 56, 191, 192, 193, 194, 195, 196, 197, 198, 199, 200, 210, 211, 212, 213, 214, 215] rfl (by decide +kernel)
set_option maxRecDepth 20000 in
theorem ggX1_parse_X1_takeTop : GoodIn wsX1_parse wsX1_takeTop := goodIn_r _ [110, 9, 111, 112, 113, 67, 114, 7, 5, 3, 4, 115, 116, 117, 118, 119, 120, 121, 122, 123, 124, 59, 125, 126, 127, 128, 129, 69, 70, 71, 72, 2, 73, 74, 75, 25, 76, 27, 77, 78, 79, 80, 81, 37, 38, 39, 40, 130, 131, 132, 133, 134, 135, 136, 137, 138, 139, 140, 141, 142, 143, 144, 145, 146, 82, 83, 84, 85, 147, 148, 149, 150, 151, 152, 153, 154, 155, 156, 157, 158, 159, 160, 161, 162, 93, 94, 95, 96, 97, 163, 164, 165, 166, 167, 168, 169, 170, 171, 172, 173, 174, 175, 176, 177, 178, 179, 180, 181, 182, 191, 192, 193, 194, 195, 196, 197, 198, 199, 200, 216, 217, 218, 219, 220, 221, 208, 209] rfl (by decide +kernel)
set_option maxRecDepth 20000 in
theorem ggX1_parse_X2_second : GoodIn wsX1_parse wsX2_second := goodIn_r _ [186, 136, 182, 171, 172, 118, 173, 122, 137, 138, 139, 216, 217, 218, 219, 220, 221] rfl (by decide +kernel)
set_option maxRecDepth 20000 in
theorem ggX1_parse_X2_first : GoodIn wsX1_parse wsX2_first := goodIn_r _ [181, 134, 182, 171, 172, 118, 173, 122, 137, 138, 139, 216, 217, 218, 219, 220, 221] rfl (by decide +kernel)
set_option maxRecDepth 20000 in
theorem ggX1_parse_X2_isTold : GoodIn wsX1_parse wsX2_isTold := goodIn_r _ [173, 122, 137, 138, 118, 139, 216, 217, 218, 219, 220, 221] rfl (by decide +kernel)
set_option maxRecDepth 20000 in
theorem ggX1_parse_X1_takePrivate : GoodIn wsX1_parse wsX1_takePrivate := goodIn_r _ [190, 2, 9, 1, 3, 7, 8, 73, 74, 75, 25, 76, 27, 77, 78, 79, 67, 80, 82, 83, 84, 85, 111, 112, 113, 114, 5, 4, 115, 116, 117, 118, 119, 120, 121, 122, 123, 124, 59, 125, 126, 127, 128, 129, 69, 70, 71, 72, 81, 37, 38, 39, 40, 130, 131, 132, 133, 134, 135, 136, 137, 138, 139, 140, 141, 142, 143, 144, 145, 146, 147, 148, 149, 150, 151, 152, 153, 154, 155, 156, 157, 158, 159, 160, 161, 162, 93, 94, 95, 96, 97, 163, 164, 165, 166, 167, 168, 169, 174, 175, 176, 177, 178, 179, 180, 181, 182, 171, 172, 173, 170, 86, 87, 88, 89, 90, 91, 92, 6, 98, 99, 100, 101, 102, 103, 104, 48, 105, 55, 106, 56, 191, 192, 193, 194, 195, 196, 197, 198, 199, 200, 201, 202, 203, 204, 205, 206, 207, 208, 209, 216, 217, 218, 219, 220, 221, 210, 211, 212, 213, 214, 215] rfl (by decide +kernel)
set_option maxRecDepth 20000 in
theorem ggJ0_length_8abf5_J0_coder_7d493 : GoodIn wsJ0_length_8abf5 wsJ0_coder_7d493 := goodIn_r _ [6, 7, 8] rfl (by decide +kernel)
set_option maxRecDepth 20000 in
theorem ggJ0_checkIndex_df160_J3_checkIndex_8e157 : GoodIn wsJ0_checkIndex_df160 wsJ3_checkIndex_8e157 := goodIn_r _ [5] rfl (by decide +kernel)
set_option maxRecDepth 20000 in
theorem ggJ1_charAt_3b067_J0_checkIndex_df160 : GoodIn wsJ1_charAt_3b067 wsJ0_checkIndex_df160 := goodIn_r _ [4, 5, 6, 7, 8, 9] rfl (by decide +kernel)
set_option maxRecDepth 20000 in
theorem ggJ0_charAt_5068e_J0_isLatin1_aae02 : GoodIn wsJ0_charAt_5068e wsJ0_isLatin1_aae02 := goodIn_r _ [6, 7, 8] rfl (by decide +kernel)
set_option maxRecDepth 20000 in
theorem ggJ0_charAt_5068e_J1_charAt_3b067 : GoodIn wsJ0_charAt_5068e wsJ1_charAt_3b067 := goodIn_r _ [12, 13, 14, 5, 15, 16, 17, 18, 19, 20] rfl (by decide +kernel)
set_option maxRecDepth 20000 in
theorem ggX10_isAt_J0_length_8abf5 : GoodIn wsX10_isAt wsJ0_length_8abf5 := goodIn_r _ [5, 6, 7, 8, 9, 4, 10, 11, 12] rfl (by decide +kernel)
set_option maxRecDepth 20000 in
theorem ggX10_isAt_X5_get : GoodIn wsX10_isAt wsX5_get := goodIn_r _ [17, 18, 19, 57, 58] rfl (by decide +kernel)
set_option maxRecDepth 20000 in
theorem ggX10_isAt_J0_charAt_5068e : GoodIn wsX10_isAt wsJ0_charAt_5068e := goodIn_r _ [23, 6, 24, 25, 26, 4, 27, 11, 12, 28, 29, 30, 31, 32, 33, 34, 35, 36, 37, 38, 39, 40, 41, 42, 43, 44, 45, 46, 47, 48, 49, 50, 51, 52, 53, 54, 55, 56] rfl (by decide +kernel)
set_option maxRecDepth 20000 in
theorem ggX10_behindEexec_J0_length_8abf5 : GoodIn wsX10_behindEexec wsJ0_length_8abf5 := goodIn_r _ [5, 6, 7, 8, 9, 4, 10, 11, 12] rfl (by decide +kernel)
set_option maxRecDepth 20000 in
theorem ggX10_behindEexec_X5_size : GoodIn wsX10_behindEexec wsX5_size := goodIn_r _ [17, 18, 68, 69] rfl (by decide +kernel)
set_option maxRecDepth 20000 in
theorem ggX10_behindEexec_X10_isAt : GoodIn wsX10_behindEexec wsX10_isAt := goodIn_r _ [22, 1, 2, 3, 4, 5, 6, 7, 8, 9, 10, 11, 12, 23, 24, 25, 16, 26, 18, 27, 28, 29, 30, 31, 32, 33, 34, 35, 36, 37, 38, 39, 40, 41, 42, 43, 44, 45, 46, 47, 48, 49, 50, 51, 52, 53, 54, 55, 56, 57, 58, 59, 60, 61, 62, 63, 64, 68, 69] rfl (by decide +kernel)
set_option maxRecDepth 20000 in
theorem ggX10_behindEexec_X5_get : GoodIn wsX10_behindEexec wsX5_get := goodIn_r _ [26, 18, 27, 68, 69] rfl (by decide +kernel)
set_option maxRecDepth 20000 in
theorem ggX10_behindEexec_X11_isBlank : GoodIn wsX10_behindEexec wsX11_isBlank := goodIn_r _ [67] rfl (by decide +kernel)
set_option maxRecDepth 20000 in
theorem ggX10_isToldByDigits_X5_get : GoodIn wsX10_isToldByDigits wsX5_get := goodIn_r _ [6, 7, 8, 22, 23] rfl (by decide +kernel)
set_option maxRecDepth 20000 in
theorem ggX10_isToldByDigits_X11_digitOf : GoodIn wsX10_isToldByDigits wsX11_digitOf := goodIn_r _ [11] rfl (by decide +kernel)
set_option maxRecDepth 20000 in
theorem ggX10_takeWord_X5_size : GoodIn wsX10_takeWord wsX5_size := goodIn_r _ [9, 10, 29, 30] rfl (by decide +kernel)
set_option maxRecDepth 20000 in
theorem ggX10_takeWord_X5_get : GoodIn wsX10_takeWord wsX5_get := goodIn_r _ [14, 10, 15, 29, 30] rfl (by decide +kernel)
set_option maxRecDepth 20000 in
theorem ggX10_takeWord_X11_isBlank : GoodIn wsX10_takeWord wsX11_isBlank := goodIn_r _ [18] rfl (by decide +kernel)
set_option maxRecDepth 20000 in
theorem ggX10_isWord_J0_length_8abf5 : GoodIn wsX10_isWord wsJ0_length_8abf5 := goodIn_r _ [8, 9, 10, 11, 12, 7, 13, 14, 15] rfl (by decide +kernel)
set_option maxRecDepth 20000 in
theorem ggX10_isWord_X10_isAt : GoodIn wsX10_isWord wsX10_isAt := goodIn_r _ [19, 4, 5, 6, 7, 8, 9, 10, 11, 12, 13, 14, 15, 20, 21, 22, 23, 24, 25, 26, 27, 28, 29, 30, 31, 32, 33, 34, 35, 36, 37, 38, 39, 40, 41, 42, 43, 44, 45, 46, 47, 48, 49, 50, 51, 52, 53, 54, 55, 56, 57, 58, 59, 60, 61, 62, 63, 74, 75] rfl (by decide +kernel)
set_option maxRecDepth 20000 in
theorem ggX10_countOfWord_X5_get : GoodIn wsX10_countOfWord wsX5_get := goodIn_r _ [12, 13, 14, 25, 26] rfl (by decide +kernel)
set_option maxRecDepth 20000 in
theorem ggX10_takeCount_X10_takeWord : GoodIn wsX10_takeCount wsX10_takeWord := goodIn_r _ [6, 7, 8, 9, 10, 11, 12, 13, 14, 15, 16, 17, 18, 19, 20, 21, 22, 23, 24, 33, 34, 35, 36, 37, 38, 39, 40, 41, 42, 43, 44] rfl (by decide +kernel)
set_option maxRecDepth 20000 in
theorem ggX10_takeCount_X10_countOfWord : GoodIn wsX10_takeCount wsX10_countOfWord := goodIn_r _ [28, 9, 10, 7, 29, 30, 31, 32, 17, 18, 19, 14, 20, 16, 21, 33, 34, 35, 36, 37, 38, 39, 40, 41, 42, 43, 44] rfl (by decide +kernel)
set_option maxRecDepth 20000 in
theorem ggX10_takeProgram_X10_takeCount : GoodIn wsX10_takeProgram wsX10_takeCount := goodIn_r _ [15, 1, 16, 17, 18, 14, 19, 3, 2, 20, 21, 22, 23, 24, 25, 26, 27, 28, 29, 30, 31, 32, 33, 34, 35, 36, 37, 38, 39, 5, 6, 7, 8, 108, 109, 110, 111, 112, 113, 114, 115, 116, 117, 118, 119] rfl (by decide +kernel)
set_option maxRecDepth 20000 in
theorem ggX10_takeProgram_X10_takeWord : GoodIn wsX10_takeProgram wsX10_takeWord := goodIn_r _ [19, 3, 2, 20, 21, 22, 23, 24, 25, 26, 27, 28, 29, 30, 31, 32, 33, 34, 35, 108, 109, 110, 111, 112, 113, 114, 115, 116, 117, 118, 119] rfl (by decide +kernel)
set_option maxRecDepth 20000 in
theorem ggX10_takeProgram_X10_isWord : GoodIn wsX10_takeProgram wsX10_isWord := goodIn_r _ [43, 21, 20, 3, 44, 45, 46, 47, 48, 49, 50, 51, 52, 53, 54, 55, 56, 57, 14, 58, 28, 29, 30, 25, 31, 27, 32, 59, 60, 61, 62, 63, 64, 65, 66, 67, 68, 69, 70, 71, 72, 73, 74, 75, 76, 77, 78, 79, 80, 81, 82, 83, 84, 85, 86, 87, 88, 89, 90, 91, 92, 93, 94, 95, 108, 109, 110, 111, 112, 113, 114, 115, 116, 117, 118, 119] rfl (by decide +kernel)
set_option maxRecDepth 20000 in
theorem ggX10_takeProgram_X5_size : GoodIn wsX10_takeProgram wsX5_size := goodIn_r _ [26, 27, 118, 119] rfl (by decide +kernel)
set_option maxRecDepth 20000 in
theorem ggX10_takeProgram_X5_decipher : GoodIn wsX10_takeProgram wsX5_decipher := goodIn_r _ [99, 100, 101, 7, 102, 27, 32, 103, 104, 25, 105, 106, 107, 118, 119] rfl (by decide +kernel)
set_option maxRecDepth 20000 in
theorem ggX10_takeLocal_X10_takeWord : GoodIn wsX10_takeLocal wsX10_takeWord := goodIn_r _ [9, 10, 1, 11, 12, 13, 14, 15, 16, 17, 18, 19, 20, 21, 22, 23, 24, 25, 26, 125, 126, 127, 128, 129, 130, 131, 132, 133, 134, 142, 143] rfl (by decide +kernel)
set_option maxRecDepth 20000 in
theorem ggX10_takeLocal_X10_countOfWord : GoodIn wsX10_takeLocal wsX10_countOfWord := goodIn_r _ [30, 11, 12, 10, 31, 32, 33, 34, 19, 20, 21, 16, 22, 18, 23, 125, 126, 127, 128, 129, 130, 131, 132, 133, 134, 142, 143] rfl (by decide +kernel)
set_option maxRecDepth 20000 in
theorem ggX10_takeLocal_X8_size : GoodIn wsX10_takeLocal wsX8_size := goodIn_r _ [39, 40, 144, 145, 146, 147, 148, 149] rfl (by decide +kernel)
set_option maxRecDepth 20000 in
theorem ggX10_takeLocal_X10_takeProgram : GoodIn wsX10_takeLocal wsX10_takeProgram := goodIn_r _ [44, 45, 1, 10, 46, 31, 32, 33, 34, 3, 4, 47, 48, 49, 8, 50, 5, 6, 7, 9, 11, 12, 13, 14, 15, 16, 17, 18, 19, 20, 21, 22, 23, 24, 25, 26, 27, 28, 29, 30, 51, 52, 53, 54, 55, 56, 57, 58, 59, 60, 61, 62, 63, 64, 65, 66, 67, 68, 69, 70, 71, 72, 73, 74, 75, 76, 77, 78, 79, 80, 81, 82, 83, 84, 85, 86, 87, 88, 89, 90, 91, 92, 93, 94, 95, 96, 97, 98, 99, 100, 101, 102, 103, 104, 105, 106, 107, 108, 109, 110, 111, 112, 113, 114, 115, 116, 117, 118, 125, 126, 127, 128, 129, 130, 131, 132, 133, 134, 142, 143] rfl (by decide +kernel)
set_option maxRecDepth 20000 in
theorem ggX10_takeLocal_X8_put : GoodIn wsX10_takeLocal wsX8_put := goodIn_r _ [122, 40, 123, 124, 144, 145, 146, 147, 148, 149] rfl (by decide +kernel)
set_option maxRecDepth 20000 in
theorem ggX10_takeThisWord_X10_takeWord : GoodIn wsX10_takeThisWord wsX10_takeWord := goodIn_r _ [5, 6, 7, 8, 9, 10, 11, 12, 13, 14, 15, 16, 17, 18, 19, 20, 21, 22, 23, 80, 81, 82, 83, 84, 85, 86, 87, 88, 89, 90, 91] rfl (by decide +kernel)
set_option maxRecDepth 20000 in
theorem ggX10_takeThisWord_X10_isWord : GoodIn wsX10_takeThisWord wsX10_isWord := goodIn_r _ [27, 9, 8, 6, 28, 29, 30, 31, 32, 33, 34, 35, 36, 37, 38, 39, 40, 41, 4, 42, 16, 17, 18, 13, 19, 15, 20, 43, 44, 45, 46, 47, 48, 49, 50, 51, 52, 53, 54, 55, 56, 57, 58, 59, 60, 61, 62, 63, 64, 65, 66, 67, 68, 69, 70, 71, 72, 73, 74, 75, 76, 77, 78, 79, 80, 81, 82, 83, 84, 85, 86, 87, 88, 89, 90, 91] rfl (by decide +kernel)
set_option maxRecDepth 20000 in
theorem ggX10_takeLocals_X10_takeCount : GoodIn wsX10_takeLocals wsX10_takeCount := goodIn_r _ [8, 1, 9, 10, 11, 7, 12, 13, 14, 15, 16, 17, 18, 19, 20, 21, 22, 23, 24, 25, 26, 27, 28, 29, 30, 31, 32, 33, 34, 35, 36, 37, 38, 118, 119, 120, 121, 122, 123, 124, 125, 126, 127, 135, 136] rfl (by decide +kernel)
set_option maxRecDepth 20000 in
theorem ggX10_takeLocals_X8_lay : GoodIn wsX10_takeLocals wsX8_lay := goodIn_r _ [43, 44, 45, 36, 37, 38, 46, 47, 48, 49, 50, 51, 52, 53, 54, 55, 56, 57, 137, 138, 139, 140, 141, 142] rfl (by decide +kernel)
set_option maxRecDepth 20000 in
theorem ggX10_takeLocals_X10_takeThisWord : GoodIn wsX10_takeLocals wsX10_takeThisWord := goodIn_r _ [61, 9, 10, 11, 7, 12, 13, 14, 15, 16, 17, 18, 19, 20, 21, 22, 23, 24, 25, 26, 27, 28, 29, 30, 62, 63, 64, 65, 66, 67, 68, 69, 70, 71, 72, 73, 74, 75, 76, 77, 78, 79, 80, 81, 82, 83, 84, 85, 86, 87, 88, 89, 90, 91, 92, 93, 94, 95, 96, 97, 98, 99, 100, 101, 102, 103, 104, 105, 106, 107, 108, 109, 110, 111, 112, 113, 114, 115, 116, 117, 118, 119, 120, 121, 122, 123, 124, 125, 126, 127, 135, 136] rfl (by decide +kernel)
set_option maxRecDepth 20000 in
theorem ggX10_takeSettings_X5_size : GoodIn wsX10_takeSettings wsX5_size := goodIn_r _ [9, 10, 162, 163] rfl (by decide +kernel)
set_option maxRecDepth 20000 in
theorem ggX10_takeSettings_X10_takeWord : GoodIn wsX10_takeSettings wsX10_takeWord := goodIn_r _ [15, 1, 16, 17, 18, 5, 6, 7, 8, 9, 10, 19, 20, 21, 22, 23, 24, 25, 26, 152, 153, 154, 155, 156, 157, 158, 159, 160, 161, 162, 163] rfl (by decide +kernel)
set_option maxRecDepth 20000 in
theorem ggX10_takeSettings_X10_isWord : GoodIn wsX10_takeSettings wsX10_isWord := goodIn_r _ [30, 18, 17, 1, 31, 32, 33, 34, 35, 36, 37, 38, 39, 40, 41, 42, 43, 44, 14, 45, 19, 20, 21, 8, 22, 10, 23, 46, 47, 48, 49, 50, 51, 52, 53, 54, 55, 56, 57, 58, 59, 60, 61, 62, 63, 64, 65, 66, 67, 68, 69, 70, 71, 72, 73, 74, 75, 76, 77, 78, 79, 80, 81, 82, 152, 153, 154, 155, 156, 157, 158, 159, 160, 161, 162, 163] rfl (by decide +kernel)
set_option maxRecDepth 20000 in
theorem ggX10_takeSettings_X10_takeLocal : GoodIn wsX10_takeSettings wsX10_takeLocal := goodIn_r _ [126, 16, 99, 127, 128, 11, 12, 13, 14, 15, 1, 17, 18, 5, 6, 7, 8, 9, 10, 19, 20, 21, 22, 23, 24, 25, 26, 87, 88, 89, 90, 91, 92, 93, 94, 129, 130, 131, 103, 132, 110, 133, 134, 135, 136, 2, 3, 83, 84, 85, 86, 27, 28, 29, 30, 31, 32, 33, 34, 35, 36, 37, 38, 39, 40, 41, 42, 43, 44, 45, 46, 47, 48, 49, 50, 51, 52, 53, 54, 55, 56, 57, 58, 59, 60, 61, 62, 63, 64, 65, 66, 67, 68, 69, 70, 71, 72, 73, 74, 75, 76, 77, 78, 79, 80, 81, 82, 137, 138, 139, 140, 141, 108, 109, 142, 143, 144, 145, 146, 147, 148, 149, 150, 105, 151, 152, 153, 154, 155, 156, 157, 158, 159, 160, 161, 164, 165, 166, 167, 168, 169, 170, 162, 163, 171, 172, 173, 174, 175, 176] rfl (by decide +kernel)
set_option maxRecDepth 20000 in
theorem ggX10_takeSettings_X10_takeLocals : GoodIn wsX10_takeSettings wsX10_takeLocals := goodIn_r _ [98, 2, 99, 4, 83, 84, 85, 14, 86, 11, 12, 13, 15, 1, 16, 17, 18, 5, 6, 7, 8, 9, 10, 19, 20, 21, 22, 23, 24, 25, 26, 87, 88, 89, 90, 91, 92, 93, 94, 100, 101, 102, 103, 104, 105, 106, 107, 108, 109, 110, 111, 112, 113, 114, 115, 116, 117, 118, 119, 120, 121, 122, 27, 28, 29, 30, 31, 32, 33, 34, 35, 36, 37, 38, 39, 40, 41, 42, 43, 44, 45, 46, 47, 48, 49, 50, 51, 52, 53, 54, 55, 56, 57, 58, 59, 60, 61, 62, 63, 64, 65, 66, 67, 68, 69, 70, 71, 72, 73, 74, 75, 76, 77, 78, 79, 80, 81, 82, 152, 153, 154, 155, 156, 157, 158, 159, 160, 161, 164, 165, 166, 167, 168, 169, 170, 162, 163, 171, 172, 173, 174, 175, 176] rfl (by decide +kernel)
set_option maxRecDepth 20000 in
theorem ggX10_takeSettings_X10_takeCount : GoodIn wsX10_takeSettings wsX10_takeCount := goodIn_r _ [86, 2, 11, 12, 13, 14, 15, 1, 16, 17, 18, 5, 6, 7, 8, 9, 10, 19, 20, 21, 22, 23, 24, 25, 26, 87, 88, 89, 90, 91, 92, 93, 94, 152, 153, 154, 155, 156, 157, 158, 159, 160, 161, 162, 163] rfl (by decide +kernel)
set_option maxRecDepth 20000 in
theorem ggX8_add_X8_isFull : GoodIn wsX8_add wsX8_isFull := goodIn_r _ [6, 1, 7, 13, 14, 15, 16, 17, 18] rfl (by decide +kernel)
set_option maxRecDepth 20000 in
theorem ggX8_add_X8_put : GoodIn wsX8_add wsX8_put := goodIn_r _ [11, 1, 7, 12, 13, 14, 15, 16, 17, 18] rfl (by decide +kernel)
set_option maxRecDepth 20000 in
theorem ggX10_takeLetter_X5_get : GoodIn wsX10_takeLetter wsX5_get := goodIn_r _ [11, 12, 13, 147, 148] rfl (by decide +kernel)
set_option maxRecDepth 20000 in
theorem ggX10_takeLetter_X8_isFull : GoodIn wsX10_takeLetter wsX8_isFull := goodIn_r _ [18, 19, 20, 149, 150, 151, 152, 153, 154] rfl (by decide +kernel)
set_option maxRecDepth 20000 in
theorem ggX10_takeLetter_X10_takeProgram : GoodIn wsX10_takeLetter wsX10_takeProgram := goodIn_r _ [25, 26, 27, 1, 28, 29, 30, 31, 32, 5, 6, 33, 34, 35, 24, 36, 37, 38, 39, 40, 2, 3, 41, 42, 43, 10, 44, 12, 7, 8, 9, 11, 13, 45, 46, 47, 48, 49, 50, 51, 52, 53, 54, 55, 56, 57, 58, 59, 60, 61, 62, 63, 64, 65, 66, 67, 68, 69, 70, 71, 72, 73, 74, 75, 76, 77, 78, 79, 80, 81, 82, 83, 84, 85, 86, 87, 88, 89, 90, 91, 92, 93, 94, 95, 96, 97, 98, 99, 100, 101, 102, 103, 104, 105, 106, 107, 108, 109, 110, 111, 112, 113, 114, 115, 116, 117, 118, 119, 130, 131, 132, 133, 134, 135, 136, 137, 138, 139, 147, 148] rfl (by decide +kernel)
set_option maxRecDepth 20000 in
theorem ggX10_takeLetter_X8_add : GoodIn wsX10_takeLetter wsX8_add := goodIn_r _ [123, 19, 124, 15, 16, 17, 18, 20, 125, 126, 127, 128, 129, 149, 150, 151, 152, 153, 154] rfl (by decide +kernel)
set_option maxRecDepth 20000 in
theorem ggX10_takeLetter_X10_takeWord : GoodIn wsX10_takeLetter wsX10_takeWord := goodIn_r _ [40, 1, 27, 2, 3, 41, 42, 43, 10, 44, 12, 7, 8, 9, 11, 13, 45, 46, 47, 130, 131, 132, 133, 134, 135, 136, 137, 138, 139, 147, 148] rfl (by decide +kernel)
set_option maxRecDepth 20000 in
theorem ggX10_takeLetters_X10_takeCount : GoodIn wsX10_takeLetters wsX10_takeCount := goodIn_r _ [7, 8, 9, 10, 11, 6, 12, 1, 13, 14, 15, 16, 17, 18, 19, 20, 21, 22, 23, 24, 25, 26, 27, 28, 29, 30, 31, 32, 33, 34, 35, 36, 37, 142, 143, 144, 145, 146, 147, 148, 149, 150, 151, 159, 160] rfl (by decide +kernel)
set_option maxRecDepth 20000 in
theorem ggX10_takeLetters_X5_size : GoodIn wsX10_takeLetters wsX5_size := goodIn_r _ [20, 21, 159, 160] rfl (by decide +kernel)
set_option maxRecDepth 20000 in
theorem ggX10_takeLetters_X10_takeWord : GoodIn wsX10_takeLetters wsX10_takeWord := goodIn_r _ [12, 1, 13, 14, 15, 16, 17, 18, 19, 20, 21, 22, 23, 24, 25, 26, 27, 28, 29, 142, 143, 144, 145, 146, 147, 148, 149, 150, 151, 159, 160] rfl (by decide +kernel)
set_option maxRecDepth 20000 in
theorem ggX10_takeLetters_X10_isWord : GoodIn wsX10_takeLetters wsX10_isWord := goodIn_r _ [45, 15, 14, 1, 46, 47, 48, 49, 50, 51, 52, 53, 54, 55, 56, 57, 58, 59, 6, 60, 22, 23, 24, 19, 25, 21, 26, 61, 62, 63, 64, 65, 66, 67, 68, 69, 70, 71, 72, 73, 74, 75, 76, 77, 78, 79, 80, 81, 82, 83, 84, 85, 86, 87, 88, 89, 90, 91, 92, 93, 94, 95, 96, 97, 142, 143, 144, 145, 146, 147, 148, 149, 150, 151, 159, 160] rfl (by decide +kernel)
set_option maxRecDepth 20000 in
theorem ggX10_takeLetters_X10_takeLetter : GoodIn wsX10_takeLetters wsX10_takeLetter := goodIn_r _ [107, 1, 14, 15, 2, 108, 109, 22, 23, 24, 19, 25, 21, 26, 110, 111, 112, 101, 113, 103, 114, 115, 116, 117, 6, 118, 8, 13, 119, 34, 35, 36, 37, 3, 4, 5, 7, 9, 10, 11, 12, 16, 17, 18, 20, 27, 28, 29, 30, 31, 32, 33, 42, 43, 44, 45, 46, 47, 48, 49, 50, 51, 52, 53, 54, 55, 56, 57, 58, 59, 60, 61, 62, 63, 64, 65, 66, 67, 68, 69, 70, 71, 72, 73, 74, 75, 76, 77, 78, 79, 80, 81, 82, 83, 84, 85, 86, 87, 88, 89, 90, 91, 92, 93, 94, 95, 96, 97, 120, 121, 122, 123, 124, 125, 126, 127, 128, 129, 130, 131, 132, 133, 134, 135, 136, 137, 138, 139, 140, 141, 142, 143, 144, 145, 146, 147, 148, 149, 150, 151, 152, 153, 154, 155, 156, 157, 158, 159, 160, 161, 162, 163, 164, 165, 166] rfl (by decide +kernel)
set_option maxRecDepth 20000 in
theorem ggX10_takeLetters_X8_size : GoodIn wsX10_takeLetters wsX8_size := goodIn_r _ [102, 103, 161, 162, 163, 164, 165, 166] rfl (by decide +kernel)
set_option maxRecDepth 20000 in
theorem ggX10_takeLetters_X10_takeThisWord : GoodIn wsX10_takeLetters wsX10_takeThisWord := goodIn_r _ [41, 9, 10, 11, 6, 12, 1, 13, 14, 15, 16, 17, 18, 19, 20, 21, 22, 23, 24, 25, 26, 27, 28, 29, 42, 43, 44, 45, 46, 47, 48, 49, 50, 51, 52, 53, 54, 55, 56, 57, 58, 59, 60, 61, 62, 63, 64, 65, 66, 67, 68, 69, 70, 71, 72, 73, 74, 75, 76, 77, 78, 79, 80, 81, 82, 83, 84, 85, 86, 87, 88, 89, 90, 91, 92, 93, 94, 95, 96, 97, 142, 143, 144, 145, 146, 147, 148, 149, 150, 151, 159, 160] rfl (by decide +kernel)
set_option maxRecDepth 20000 in
theorem ggX5_turnFromDigits_X11_digitOf : GoodIn wsX5_turnFromDigits wsX11_digitOf := goodIn_r _ [5] rfl (by decide +kernel)
set_option maxRecDepth 20000 in
theorem ggX5_turnFromDigits_X11_isBlank : GoodIn wsX5_turnFromDigits wsX11_isBlank := goodIn_r _ [7] rfl (by decide +kernel)
set_option maxRecDepth 20000 in
theorem ggX10_parse_X10_behindEexec : GoodIn wsX10_parse wsX10_behindEexec := goodIn_r _ [10, 11, 12, 13, 14, 15, 16, 17, 18, 19, 20, 21, 22, 23, 24, 25, 26, 27, 28, 29, 30, 9, 31, 32, 33, 34, 35, 36, 37, 38, 39, 40, 41, 42, 43, 44, 45, 46, 47, 48, 49, 50, 51, 52, 53, 54, 55, 56, 57, 58, 59, 60, 61, 62, 63, 64, 65, 66, 67, 68, 69, 70, 71, 72, 73, 74, 75, 76, 231, 232] rfl (by decide +kernel)
set_option maxRecDepth 20000 in
theorem ggX10_parse_X5_size : GoodIn wsX10_parse wsX5_size := goodIn_r _ [27, 28, 231, 232] rfl (by decide +kernel)
set_option maxRecDepth 20000 in
theorem ggX10_parse_X3_begin : GoodIn wsX10_parse wsX3_begin := goodIn_r _ [81, 82, 83, 84, 85, 86, 87, 88, 89, 90, 91, 26, 92, 28, 93, 94, 95, 96, 97, 98, 99, 100, 101, 33, 34, 35, 36, 102, 103, 104, 105, 106, 107, 108, 109, 110, 111, 112, 113, 114, 115, 116, 117, 118, 119, 120, 121, 122, 123, 124, 224, 225, 226, 227, 228, 229, 230, 231, 232, 233, 234, 235, 236, 237, 238] rfl (by decide +kernel)
set_option maxRecDepth 20000 in
theorem ggX10_parse_X10_isToldByDigits : GoodIn wsX10_parse wsX10_isToldByDigits := goodIn_r _ [128, 2, 32, 33, 34, 26, 35, 28, 36, 129, 75, 130, 214, 215, 216, 217, 218, 219, 220, 221, 222, 223, 231, 232] rfl (by decide +kernel)
set_option maxRecDepth 20000 in
theorem ggX10_parse_X5_decipher : GoodIn wsX10_parse wsX5_decipher := goodIn_r _ [138, 97, 98, 99, 100, 28, 36, 139, 140, 26, 141, 142, 143, 231, 232] rfl (by decide +kernel)
set_option maxRecDepth 20000 in
theorem ggX10_parse_X10_takeSettings : GoodIn wsX10_parse wsX10_takeSettings := goodIn_r _ [147, 2, 148, 5, 6, 23, 24, 25, 26, 27, 28, 149, 150, 151, 9, 152, 4, 153, 154, 32, 33, 34, 35, 36, 74, 75, 76, 155, 156, 157, 158, 11, 12, 13, 14, 15, 16, 17, 18, 19, 20, 21, 22, 29, 30, 31, 37, 38, 39, 40, 41, 42, 43, 44, 45, 46, 47, 48, 49, 50, 51, 52, 53, 54, 55, 56, 57, 58, 59, 60, 61, 62, 63, 64, 65, 66, 67, 68, 69, 70, 71, 72, 73, 159, 160, 161, 162, 163, 164, 165, 166, 167, 113, 99, 114, 168, 169, 170, 171, 1, 172, 107, 108, 109, 110, 111, 112, 115, 98, 100, 116, 117, 118, 119, 120, 121, 122, 123, 124, 173, 174, 175, 176, 177, 178, 179, 180, 181, 182, 183, 184, 185, 186, 187, 188, 189, 190, 135, 136, 137, 138, 97, 139, 140, 141, 142, 143, 191, 192, 193, 194, 195, 214, 215, 216, 217, 218, 219, 220, 221, 222, 223, 231, 232, 224, 225, 226, 227, 228, 229, 230, 233, 234, 235, 236, 237, 238] rfl (by decide +kernel)
set_option maxRecDepth 20000 in
theorem ggX10_parse_X10_takeLetters : GoodIn wsX10_parse wsX10_takeLetters := goodIn_r _ [199, 2, 1, 159, 160, 161, 9, 162, 148, 149, 150, 151, 152, 4, 153, 154, 23, 24, 25, 26, 27, 28, 32, 33, 34, 35, 36, 74, 75, 76, 163, 164, 165, 166, 167, 113, 99, 114, 173, 174, 175, 176, 155, 156, 157, 158, 11, 12, 13, 14, 15, 16, 17, 18, 19, 20, 21, 22, 29, 30, 31, 37, 38, 39, 40, 41, 42, 43, 44, 45, 46, 47, 48, 49, 50, 51, 52, 53, 54, 55, 56, 57, 58, 59, 60, 61, 62, 63, 64, 65, 66, 67, 68, 69, 70, 71, 72, 73, 183, 184, 185, 109, 186, 116, 200, 201, 202, 203, 181, 182, 204, 205, 206, 207, 111, 187, 188, 189, 190, 5, 135, 136, 137, 138, 97, 98, 100, 139, 140, 141, 142, 143, 208, 209, 210, 211, 212, 213, 192, 193, 194, 195, 214, 215, 216, 217, 218, 219, 220, 221, 222, 223, 224, 225, 226, 227, 228, 229, 230, 231, 232, 233, 234, 235, 236, 237, 238] rfl (by decide +kernel)
set_option maxRecDepth 20000 in
theorem ggX10_parse_X5_turnFromDigits : GoodIn wsX10_parse wsX5_turnFromDigits := goodIn_r _ [134, 28, 36, 129, 75, 130, 74, 76, 231, 232] rfl (by decide +kernel)
set_option maxRecDepth 20000 in
theorem ggX11_read_X1_parse : GoodIn wsX11_read wsX1_parse := goodIn_r _ [10, 11, 12, 13, 14, 15, 16, 17, 18, 19, 20, 21, 22, 23, 24, 25, 26, 27, 28, 29, 30, 31, 32, 33, 34, 35, 36, 37, 38, 39, 40, 41, 42, 43, 44, 45, 46, 47, 48, 49, 50, 51, 52, 53, 54, 55, 56, 57, 58, 59, 60, 61, 62, 63, 64, 65, 66, 67, 68, 69, 70, 71, 72, 73, 74, 75, 76, 9, 77, 78, 79, 80, 81, 82, 83, 84, 85, 86, 87, 88, 89, 90, 91, 92, 93, 94, 95, 96, 97, 98, 99, 100, 101, 102, 103, 104, 105, 106, 107, 108, 109, 110, 111, 112, 113, 114, 115, 116, 117, 118, 119, 120, 121, 122, 123, 124, 125, 126, 127, 128, 129, 130, 131, 132, 133, 134, 135, 136, 137, 138, 139, 140, 141, 142, 143, 144, 145, 146, 147, 148, 149, 150, 151, 152, 153, 154, 155, 156, 157, 158, 159, 160, 161, 162, 163, 164, 165, 166, 167, 168, 169, 170, 171, 172, 173, 174, 175, 176, 177, 178, 179, 180, 181, 182, 183, 184, 185, 186, 187, 188, 189, 190, 191, 192, 193, 194, 195, 196, 197, 198, 199, 371, 372, 373, 374, 375, 376, 377, 378, 379, 380, 381, 382, 383, 384, 385, 386, 387, 388, 389, 390, 391, 392, 393, 394, 395, 396, 397, 398, 399, 400, 401] rfl (by decide +kernel)
set_option maxRecDepth 20000 in
theorem ggX11_read_X5_cut : GoodIn wsX11_read wsX5_cut := goodIn_r _ [36, 37, 388, 389] rfl (by decide +kernel)
set_option maxRecDepth 20000 in
theorem ggX11_read_X10_parse : GoodIn wsX11_read wsX10_parse := goodIn_r _ [204, 205, 206, 207, 208, 209, 210, 211, 212, 203, 213, 214, 215, 216, 217, 218, 219, 220, 221, 222, 223, 224, 225, 226, 83, 84, 35, 85, 37, 227, 228, 229, 230, 47, 48, 49, 50, 231, 232, 233, 234, 235, 236, 237, 238, 239, 240, 241, 242, 243, 244, 245, 246, 247, 248, 249, 250, 251, 252, 253, 254, 255, 256, 257, 258, 259, 260, 261, 262, 263, 264, 265, 266, 267, 268, 170, 269, 270, 21, 22, 23, 24, 25, 26, 27, 28, 29, 30, 31, 32, 33, 34, 36, 38, 39, 40, 41, 42, 43, 44, 45, 46, 51, 52, 53, 54, 55, 56, 57, 58, 59, 60, 61, 62, 63, 64, 65, 66, 67, 68, 69, 70, 71, 72, 73, 271, 272, 273, 274, 275, 276, 277, 278, 279, 280, 281, 282, 283, 284, 285, 286, 287, 288, 289, 290, 291, 292, 293, 294, 295, 296, 297, 298, 299, 300, 301, 302, 303, 304, 305, 306, 307, 308, 309, 310, 311, 312, 313, 314, 315, 316, 317, 318, 319, 320, 321, 322, 323, 324, 325, 326, 327, 328, 329, 330, 331, 332, 333, 334, 335, 336, 337, 338, 339, 340, 341, 342, 343, 344, 345, 346, 347, 348, 349, 350, 351, 352, 353, 354, 355, 356, 357, 358, 359, 402, 403, 404, 405, 406, 407, 408, 409, 410, 411, 381, 382, 383, 384, 385, 386, 387, 388, 389, 390, 391, 392, 393, 394, 395] rfl (by decide +kernel)
set_option maxRecDepth 20000 in
theorem ggX6_begin_X6_goTo : GoodIn wsX6_begin wsX6_goTo := goodIn_r _ [15, 16, 17, 18, 19, 20, 21, 22, 23, 24] rfl (by decide +kernel)
set_option maxRecDepth 20000 in
theorem ggX7_begin_J7_fill_d0a16 : GoodIn wsX7_begin wsJ7_fill_d0a16 := goodIn_r _ [11] rfl (by decide +kernel)
set_option maxRecDepth 20000 in
theorem ggX9_prepare_X7_begin : GoodIn wsX9_prepare wsX7_begin := goodIn_r _ [10, 11, 12, 13, 14, 15, 16, 17, 18, 19, 20, 21, 57, 58, 59, 60] rfl (by decide +kernel)
set_option maxRecDepth 20000 in
theorem ggX4_takeByte_X5_get : GoodIn wsX4_takeByte wsX5_get := goodIn_r _ [8, 9, 10, 53, 54] rfl (by decide +kernel)
set_option maxRecDepth 20000 in
theorem ggX4_takeNumber_X11_bytesBehind : GoodIn wsX4_takeNumber wsX11_bytesBehind := goodIn_r _ [5] rfl (by decide +kernel)
set_option maxRecDepth 20000 in
theorem ggX4_takeNumber_X11_wholeNumber : GoodIn wsX4_takeNumber wsX11_wholeNumber := goodIn_r _ [35] rfl (by decide +kernel)
set_option maxRecDepth 20000 in
theorem ggX4_takeNumber_X7_push : GoodIn wsX4_takeNumber wsX7_push := goodIn_r _ [40, 41, 42, 43, 88, 89, 90, 91] rfl (by decide +kernel)
set_option maxRecDepth 20000 in
theorem ggX4_takeNumber_X9_longNumber : GoodIn wsX4_takeNumber wsX9_longNumber := goodIn_r _ [32, 33] rfl (by decide +kernel)
set_option maxRecDepth 20000 in
theorem ggX4_takeNumber_X4_takeByte : GoodIn wsX4_takeNumber wsX4_takeByte := goodIn_r _ [11, 12, 13, 14, 15, 16, 17, 18, 19, 20, 21, 44, 45, 46, 47, 48, 49, 50, 51, 52, 53, 54, 55, 56, 57, 58, 59, 60, 61, 62, 63, 64, 65, 66, 67, 68, 69, 70, 71, 72, 73, 74, 75, 76, 77, 78, 79, 80, 81, 82, 83, 84, 85, 86, 87] rfl (by decide +kernel)
set_option maxRecDepth 20000 in
theorem ggX4_takeOperator_X4_takeByte : GoodIn wsX4_takeOperator wsX4_takeByte := goodIn_r _ [7, 8, 9, 10, 11, 12, 13, 14, 15, 16, 17, 59, 60, 61, 62, 63, 64, 65, 66, 67, 68, 69, 70, 71, 72, 73, 74, 75, 76, 77, 78, 79, 80, 81, 82, 83, 84, 85, 86, 87, 88, 89, 90, 91, 92, 93, 94, 95, 96, 97, 98, 99, 100, 101, 102] rfl (by decide +kernel)
set_option maxRecDepth 20000 in
theorem ggX4_takeOperator_X9_isNumber : GoodIn wsX4_takeOperator wsX9_isNumber := goodIn_r _ [28] rfl (by decide +kernel)
set_option maxRecDepth 20000 in
theorem ggX4_takeOperator_X4_takeNumber : GoodIn wsX4_takeOperator wsX4_takeNumber := goodIn_r _ [33, 34, 35, 36, 37, 38, 2, 3, 4, 5, 6, 7, 8, 9, 10, 11, 12, 13, 14, 15, 16, 17, 18, 39, 40, 41, 42, 23, 43, 44, 45, 27, 46, 47, 48, 49, 50, 51, 52, 53, 54, 55, 56, 57, 59, 60, 61, 62, 63, 64, 65, 66, 67, 68, 69, 70, 71, 72, 73, 74, 75, 76, 77, 78, 79, 80, 81, 82, 83, 84, 85, 86, 87, 88, 89, 90, 91, 92, 93, 94, 95, 96, 97, 98, 99, 100, 101, 102, 103, 104, 105, 106] rfl (by decide +kernel)
set_option maxRecDepth 20000 in
theorem ggX7_below_X7_get : GoodIn wsX7_below wsX7_get := goodIn_r _ [6, 1, 7, 8, 9, 10, 11] rfl (by decide +kernel)
set_option maxRecDepth 20000 in
theorem ggX7_wholeBelow_X7_below : GoodIn wsX7_wholeBelow wsX7_below := goodIn_r _ [5, 6, 7, 8, 9, 4, 10, 11, 12, 13, 14, 15] rfl (by decide +kernel)
set_option maxRecDepth 20000 in
theorem ggX4_call_X7_size : GoodIn wsX4_call wsX7_size := goodIn_r _ [13, 14, 98, 99, 100, 101] rfl (by decide +kernel)
set_option maxRecDepth 20000 in
theorem ggX4_call_X7_wholeBelow : GoodIn wsX4_call wsX7_wholeBelow := goodIn_r _ [18, 19, 20, 21, 12, 22, 14, 23, 24, 25, 26, 27, 98, 99, 100, 101] rfl (by decide +kernel)
set_option maxRecDepth 20000 in
theorem ggX4_call_X8_has : GoodIn wsX4_call wsX8_has := goodIn_r _ [32, 33, 34, 35, 102, 103, 104, 105, 106, 107] rfl (by decide +kernel)
set_option maxRecDepth 20000 in
theorem ggX4_call_X7_drop : GoodIn wsX4_call wsX7_drop := goodIn_r _ [39, 14, 98, 99, 100, 101] rfl (by decide +kernel)
set_option maxRecDepth 20000 in
theorem ggX4_call_X8_beginOf : GoodIn wsX4_call wsX8_beginOf := goodIn_r _ [43, 34, 35, 44, 29, 30, 31, 32, 33, 45, 46, 47, 48, 49, 50, 51, 52, 53, 54, 55, 56, 57, 102, 103, 104, 105, 106, 107, 108, 109] rfl (by decide +kernel)
set_option maxRecDepth 20000 in
theorem ggX4_call_X8_finishOf : GoodIn wsX4_call wsX8_finishOf := goodIn_r _ [61, 34, 62, 44, 29, 30, 31, 32, 33, 35, 45, 46, 47, 48, 49, 50, 51, 52, 53, 54, 55, 56, 57, 102, 103, 104, 105, 106, 107, 108, 109] rfl (by decide +kernel)
set_option maxRecDepth 20000 in
theorem ggX7_replace_X7_drop : GoodIn wsX7_replace wsX7_drop := goodIn_r _ [5, 6, 13, 14, 15, 16] rfl (by decide +kernel)
set_option maxRecDepth 20000 in
theorem ggX7_replace_X7_push : GoodIn wsX7_replace wsX7_push := goodIn_r _ [10, 6, 11, 12, 13, 14, 15, 16] rfl (by decide +kernel)
set_option maxRecDepth 20000 in
theorem ggX7_divide_X7_below : GoodIn wsX7_divide wsX7_below := goodIn_r _ [7, 1, 8, 9, 10, 6, 11, 12, 26, 27, 28, 29] rfl (by decide +kernel)
set_option maxRecDepth 20000 in
theorem ggX7_divide_X7_replace : GoodIn wsX7_divide wsX7_replace := goodIn_r _ [16, 17, 18, 19, 6, 20, 1, 21, 22, 23, 24, 25, 12, 26, 27, 28, 29] rfl (by decide +kernel)
set_option maxRecDepth 20000 in
theorem ggX9_putAllBy_X7_below : GoodIn wsX9_putAllBy wsX7_below := goodIn_r _ [7, 8, 9, 10, 11, 6, 12, 13, 56, 57, 58, 59] rfl (by decide +kernel)
set_option maxRecDepth 20000 in
theorem ggX9_putAllBy_X9_putOneBy : GoodIn wsX9_putAllBy wsX9_putOneBy := goodIn_r _ [18, 19, 20, 36, 37, 38, 39, 40, 41, 42, 43, 44, 45, 46, 47, 48, 49, 50, 51, 52, 53, 54, 55] rfl (by decide +kernel)
set_option maxRecDepth 20000 in
theorem ggX6_curveBy_X6_add : GoodIn wsX6_curveBy wsX6_add := goodIn_r _ [10, 4, 11, 12, 5, 1, 2, 13, 14, 15, 16, 17, 18, 19] rfl (by decide +kernel)
set_option maxRecDepth 20000 in
theorem ggX9_endFlex_X7_below : GoodIn wsX9_endFlex wsX7_below := goodIn_r _ [13, 14, 15, 16, 17, 12, 18, 19, 85, 86, 87, 88] rfl (by decide +kernel)
set_option maxRecDepth 20000 in
theorem ggX9_endFlex_X9_putOneBy : GoodIn wsX9_endFlex wsX9_putOneBy := goodIn_r _ [24, 25, 26, 43, 44, 45, 46, 47, 48, 49, 50, 51, 52, 53, 54, 55, 56, 57, 58, 59, 60, 61, 62] rfl (by decide +kernel)
set_option maxRecDepth 20000 in
theorem ggX9_endFlex_X6_curveBy : GoodIn wsX9_endFlex wsX6_curveBy := goodIn_r _ [31, 32, 33, 34, 35, 36, 37, 38, 39, 30, 40, 41, 42, 78, 79, 80, 81, 82, 83, 84] rfl (by decide +kernel)
set_option maxRecDepth 20000 in
theorem ggX9_callOther_X7_size : GoodIn wsX9_callOther wsX7_size := goodIn_r _ [11, 12, 113, 114, 115, 116] rfl (by decide +kernel)
set_option maxRecDepth 20000 in
theorem ggX9_callOther_X7_wholeBelow : GoodIn wsX9_callOther wsX7_wholeBelow := goodIn_r _ [16, 17, 18, 19, 10, 20, 12, 21, 22, 23, 24, 25, 113, 114, 115, 116] rfl (by decide +kernel)
set_option maxRecDepth 20000 in
theorem ggX9_callOther_X7_drop : GoodIn wsX9_callOther wsX7_drop := goodIn_r _ [29, 12, 113, 114, 115, 116] rfl (by decide +kernel)
set_option maxRecDepth 20000 in
theorem ggX9_callOther_X9_putAllBy : GoodIn wsX9_callOther wsX9_putAllBy := goodIn_r _ [34, 1, 2, 35, 18, 19, 10, 20, 12, 21, 22, 23, 24, 25, 36, 37, 38, 33, 39, 3, 40, 78, 79, 80, 81, 82, 83, 84, 85, 86, 87, 88, 89, 90, 91, 92, 93, 94, 95, 96, 97, 98, 99, 100, 101, 102, 103, 104, 105, 106, 107, 108, 109, 110, 111, 112, 113, 114, 115, 116] rfl (by decide +kernel)
set_option maxRecDepth 20000 in
theorem ggX9_callOther_X9_takenBy : GoodIn wsX9_callOther wsX9_takenBy := goodIn_r _ [43] rfl (by decide +kernel)
set_option maxRecDepth 20000 in
theorem ggX9_callOther_X9_putOneBy : GoodIn wsX9_callOther wsX9_putOneBy := goodIn_r _ [39, 3, 40, 93, 94, 95, 96, 97, 98, 99, 100, 101, 102, 103, 104, 105, 106, 107, 108, 109, 110, 111, 112] rfl (by decide +kernel)
set_option maxRecDepth 20000 in
theorem ggX9_callOther_X9_keepPoint : GoodIn wsX9_callOther wsX9_keepPoint := goodIn_r _ [77, 48, 49, 52, 50, 51, 53, 93, 94, 95, 96, 97, 98, 99, 100, 101, 102, 103, 104, 105, 106, 107, 108, 109, 110, 111, 112, 78, 79, 80, 81, 82, 83, 84, 85, 86, 87, 88, 89, 90, 91, 92, 117, 118, 119, 120, 121, 122, 123] rfl (by decide +kernel)
set_option maxRecDepth 20000 in
theorem ggX9_callOther_X9_beginFlex : GoodIn wsX9_callOther wsX9_beginFlex := goodIn_r _ [73, 48, 49, 93, 94, 95, 96, 97, 98, 99, 100, 101, 102, 103, 104, 105, 106, 107, 108, 109, 110, 111, 112] rfl (by decide +kernel)
set_option maxRecDepth 20000 in
theorem ggX9_callOther_X9_endFlex : GoodIn wsX9_callOther wsX9_endFlex := goodIn_r _ [47, 48, 49, 1, 2, 50, 51, 52, 53, 35, 18, 19, 10, 20, 12, 21, 22, 23, 24, 25, 36, 37, 38, 33, 39, 3, 40, 54, 55, 56, 57, 58, 59, 60, 61, 62, 63, 64, 65, 66, 67, 68, 69, 93, 94, 95, 96, 97, 98, 99, 100, 101, 102, 103, 104, 105, 106, 107, 108, 109, 110, 111, 112, 78, 79, 80, 81, 82, 83, 84, 85, 86, 87, 88, 89, 90, 91, 92, 117, 118, 119, 120, 121, 122, 123, 113, 114, 115, 116] rfl (by decide +kernel)
set_option maxRecDepth 20000 in
theorem ggX9_popPutBy_X7_push : GoodIn wsX9_popPutBy wsX7_push := goodIn_r _ [9, 10, 11, 12, 48, 49, 50, 51] rfl (by decide +kernel)
set_option maxRecDepth 20000 in
theorem ggX6_moveBy_X6_add : GoodIn wsX6_moveBy wsX6_add := goodIn_r _ [8, 9, 10, 11, 12, 1, 2, 13, 14, 15, 16, 17, 18, 19] rfl (by decide +kernel)
set_option maxRecDepth 20000 in
theorem ggX9_move_X6_moveBy : GoodIn wsX9_move wsX6_moveBy := goodIn_r _ [14, 9, 10, 15, 16, 17, 18, 7, 19, 20, 21, 22, 23, 59, 60, 61, 62, 63, 64, 65] rfl (by decide +kernel)
set_option maxRecDepth 20000 in
theorem ggX9_move_X6_goBy : GoodIn wsX9_move wsX6_goBy := goodIn_r _ [8, 9, 10, 59, 60, 61, 62, 63, 64, 65] rfl (by decide +kernel)
set_option maxRecDepth 20000 in
theorem ggX6_lineBy_X6_add : GoodIn wsX6_lineBy wsX6_add := goodIn_r _ [8, 9, 10, 11, 12, 1, 2, 13, 14, 15, 16, 17, 18, 19] rfl (by decide +kernel)
set_option maxRecDepth 20000 in
theorem ggX4_curves_X7_get : GoodIn wsX4_curves wsX7_get := goodIn_r _ [7, 8, 9, 61, 62, 63, 64] rfl (by decide +kernel)
set_option maxRecDepth 20000 in
theorem ggX4_curves_X6_curveBy : GoodIn wsX4_curves wsX6_curveBy := goodIn_r _ [14, 15, 16, 17, 18, 19, 20, 21, 22, 13, 23, 24, 25, 65, 66, 67, 68, 69, 70, 71] rfl (by decide +kernel)
set_option maxRecDepth 20000 in
theorem ggX6_close_X6_add : GoodIn wsX6_close wsX6_add := goodIn_r _ [5, 6, 7, 8, 9, 10, 11, 12, 13, 14, 15, 16, 17, 18] rfl (by decide +kernel)
set_option maxRecDepth 20000 in
theorem ggX9_paintNothing_X7_get : GoodIn wsX9_paintNothing wsX7_get := goodIn_r _ [11, 12, 13, 63, 64, 65, 66] rfl (by decide +kernel)
set_option maxRecDepth 20000 in
theorem ggX9_paintNothing_X6_goTo : GoodIn wsX9_paintNothing wsX6_goTo := goodIn_r _ [18, 19, 20, 67, 68, 69, 70, 71, 72, 73] rfl (by decide +kernel)
set_option maxRecDepth 20000 in
theorem ggX9_paintNothing_X4_finishAll : GoodIn wsX9_paintNothing wsX4_finishAll := goodIn_r _ [26, 27, 28, 29, 30, 31, 32, 33, 34, 35, 36, 37, 38, 39, 40, 41, 42, 43, 44, 45, 46, 47, 48, 49, 50, 51, 52, 53, 54, 55, 56, 57, 58, 59, 60, 61, 62] rfl (by decide +kernel)
set_option maxRecDepth 20000 in
theorem ggX4_turningCurves_X7_size : GoodIn wsX4_turningCurves wsX7_size := goodIn_r _ [7, 8, 65, 66, 67, 68] rfl (by decide +kernel)
set_option maxRecDepth 20000 in
theorem ggX4_turningCurves_X7_get : GoodIn wsX4_turningCurves wsX7_get := goodIn_r _ [12, 8, 13, 65, 66, 67, 68] rfl (by decide +kernel)
set_option maxRecDepth 20000 in
theorem ggX4_turningCurves_X6_curveBy : GoodIn wsX4_turningCurves wsX6_curveBy := goodIn_r _ [18, 19, 20, 21, 22, 23, 24, 25, 26, 17, 27, 28, 29, 69, 70, 71, 72, 73, 74, 75] rfl (by decide +kernel)
set_option maxRecDepth 20000 in
theorem ggX9_paint_X7_get : GoodIn wsX9_paint wsX7_get := goodIn_r _ [9, 10, 11, 119, 120, 121, 122] rfl (by decide +kernel)
set_option maxRecDepth 20000 in
theorem ggX9_paint_X9_move : GoodIn wsX9_paint wsX9_move := goodIn_r _ [16, 17, 3, 4, 18, 19, 20, 21, 22, 23, 24, 25, 26, 27, 28, 29, 30, 31, 32, 33, 34, 35, 36, 37, 99, 100, 101, 102, 103, 104, 105, 106, 107, 108, 109, 110, 111, 112, 113, 114, 115, 116, 117, 118, 84, 85, 86, 87, 88, 89, 90, 91, 92, 93, 94, 95, 96, 97, 98, 123, 124, 125, 126, 127, 128, 129] rfl (by decide +kernel)
set_option maxRecDepth 20000 in
theorem ggX9_paint_X6_lineBy : GoodIn wsX9_paint wsX6_lineBy := goodIn_r _ [41, 23, 24, 29, 30, 31, 32, 21, 33, 34, 35, 36, 37, 123, 124, 125, 126, 127, 128, 129] rfl (by decide +kernel)
set_option maxRecDepth 20000 in
theorem ggX9_paint_X4_curves : GoodIn wsX9_paint wsX4_curves := goodIn_r _ [47, 48, 49, 50, 6, 7, 8, 9, 10, 11, 51, 52, 53, 21, 54, 23, 24, 29, 34, 37, 30, 31, 32, 33, 35, 36, 84, 85, 86, 87, 88, 89, 90, 91, 92, 93, 94, 95, 96, 97, 98, 99, 100, 101, 102, 103, 104, 105, 106, 107, 108, 109, 110, 111, 112, 113, 114, 115, 116, 117, 118, 119, 120, 121, 122, 123, 124, 125, 126, 127, 128, 129] rfl (by decide +kernel)
set_option maxRecDepth 20000 in
theorem ggX9_paint_X6_close : GoodIn wsX9_paint wsX6_close := goodIn_r _ [58, 30, 31, 32, 21, 33, 34, 35, 36, 37, 23, 24, 123, 124, 125, 126, 127, 128, 129] rfl (by decide +kernel)
set_option maxRecDepth 20000 in
theorem ggX9_paint_X9_paintNothing : GoodIn wsX9_paint wsX9_paintNothing := goodIn_r _ [71, 1, 2, 72, 73, 3, 4, 5, 6, 7, 8, 9, 10, 11, 74, 75, 76, 21, 77, 23, 24, 78, 79, 80, 81, 46, 82, 83, 84, 85, 86, 87, 88, 89, 90, 91, 92, 93, 94, 95, 96, 97, 98, 99, 100, 101, 102, 103, 104, 105, 106, 107, 108, 109, 110, 111, 112, 113, 114, 115, 116, 117, 118, 119, 120, 121, 122, 123, 124, 125, 126, 127, 128, 129] rfl (by decide +kernel)
set_option maxRecDepth 20000 in
theorem ggX9_paint_X4_turningCurves : GoodIn wsX9_paint wsX4_turningCurves := goodIn_r _ [63, 49, 48, 64, 65, 66, 8, 67, 10, 50, 6, 7, 9, 11, 51, 52, 53, 21, 54, 23, 24, 29, 34, 37, 30, 31, 32, 33, 35, 36, 84, 85, 86, 87, 88, 89, 90, 91, 92, 93, 94, 95, 96, 97, 98, 99, 100, 101, 102, 103, 104, 105, 106, 107, 108, 109, 110, 111, 112, 113, 114, 115, 116, 117, 118, 119, 120, 121, 122, 123, 124, 125, 126, 127, 128, 129] rfl (by decide +kernel)
set_option maxRecDepth 20000 in
theorem ggX9_operate_X4_call : GoodIn wsX9_operate wsX4_call := goodIn_r _ [10, 11, 12, 13, 14, 15, 16, 17, 18, 19, 20, 21, 22, 23, 24, 25, 26, 27, 28, 29, 30, 31, 32, 33, 34, 35, 36, 37, 38, 39, 40, 41, 42, 43, 44, 45, 46, 47, 48, 49, 50, 51, 52, 53, 54, 55, 56, 57, 58, 59, 60, 61, 62, 63, 64, 65, 66, 67, 68, 69, 70, 71, 72, 218, 219, 220, 221, 222, 223, 224, 225, 226, 227, 228, 229, 230, 231, 232, 233, 234, 235, 236, 237, 238, 239, 240, 241, 242, 243, 244, 245, 246, 247, 248, 249, 250, 251, 252, 260, 261, 262, 263, 264, 265, 266, 267, 268, 269, 270, 271] rfl (by decide +kernel)
set_option maxRecDepth 20000 in
theorem ggX9_operate_X4_goBack : GoodIn wsX9_operate wsX4_goBack := goodIn_r _ [77, 12, 13, 14, 15, 16, 17, 18, 218, 219, 220, 221, 222, 223, 224, 225, 226, 227, 228, 229, 230, 231, 232, 233, 234, 235, 236, 237, 238, 239, 240, 241, 242, 243, 244, 245, 246, 247, 248, 249, 250, 251, 252] rfl (by decide +kernel)
set_option maxRecDepth 20000 in
theorem ggX9_operate_X7_divide : GoodIn wsX9_operate wsX7_divide := goodIn_r _ [81, 24, 82, 29, 30, 31, 22, 32, 33, 34, 35, 36, 37, 83, 84, 85, 86, 87, 47, 48, 49, 88, 89, 90, 91, 92, 260, 261, 262, 263] rfl (by decide +kernel)
set_option maxRecDepth 20000 in
theorem ggX9_operate_X9_callOther : GoodIn wsX9_operate wsX9_callOther := goodIn_r _ [97, 3, 4, 98, 99, 100, 101, 102, 20, 21, 22, 23, 24, 103, 26, 27, 28, 29, 30, 31, 32, 33, 34, 35, 36, 37, 104, 47, 48, 49, 105, 106, 107, 96, 108, 109, 110, 111, 112, 113, 114, 115, 116, 117, 118, 119, 120, 121, 122, 123, 124, 125, 126, 127, 128, 129, 130, 131, 132, 133, 134, 135, 136, 137, 138, 139, 140, 141, 142, 143, 144, 145, 146, 147, 148, 149, 150, 151, 218, 219, 220, 221, 222, 223, 224, 225, 226, 227, 228, 229, 230, 231, 232, 233, 234, 235, 236, 237, 238, 239, 240, 241, 242, 243, 244, 245, 246, 247, 248, 249, 250, 251, 252, 260, 261, 262, 263, 272, 273, 274, 275, 276, 277, 278] rfl (by decide +kernel)
set_option maxRecDepth 20000 in
theorem ggX9_operate_X9_popPutBy : GoodIn wsX9_operate wsX9_popPutBy := goodIn_r _ [155, 98, 3, 4, 114, 156, 89, 90, 22, 91, 24, 92, 37, 233, 234, 235, 236, 237, 238, 239, 240, 241, 242, 243, 244, 245, 246, 247, 248, 249, 250, 251, 252, 218, 219, 220, 221, 222, 223, 224, 225, 226, 227, 228, 229, 230, 231, 232, 260, 261, 262, 263] rfl (by decide +kernel)
set_option maxRecDepth 20000 in
theorem ggX9_operate_X9_wantedBy : GoodIn wsX9_operate wsX9_wantedBy := goodIn_r _ [159] rfl (by decide +kernel)
set_option maxRecDepth 20000 in
theorem ggX9_operate_X7_size : GoodIn wsX9_operate wsX7_size := goodIn_r _ [23, 24, 260, 261, 262, 263] rfl (by decide +kernel)
set_option maxRecDepth 20000 in
theorem ggX9_operate_X9_paint : GoodIn wsX9_operate wsX9_paint := goodIn_r _ [163, 3, 4, 124, 125, 164, 34, 35, 22, 36, 24, 37, 165, 166, 167, 96, 168, 122, 169, 170, 171, 131, 172, 133, 134, 173, 174, 175, 176, 135, 138, 139, 140, 141, 136, 142, 143, 137, 177, 178, 179, 180, 181, 182, 183, 184, 9, 185, 186, 11, 187, 188, 129, 130, 132, 189, 190, 191, 192, 193, 194, 195, 196, 197, 19, 20, 21, 23, 198, 199, 200, 201, 202, 203, 204, 205, 206, 207, 208, 209, 210, 211, 212, 213, 218, 219, 220, 221, 222, 223, 224, 225, 226, 227, 228, 229, 230, 231, 232, 233, 234, 235, 236, 237, 238, 239, 240, 241, 242, 243, 244, 245, 246, 247, 248, 249, 250, 251, 252, 260, 261, 262, 263, 272, 273, 274, 275, 276, 277, 278] rfl (by decide +kernel)
set_option maxRecDepth 20000 in
theorem ggX9_operate_X7_clear : GoodIn wsX9_operate wsX7_clear := goodIn_r _ [217, 24, 260, 261, 262, 263] rfl (by decide +kernel)
set_option maxRecDepth 20000 in
theorem ggX4_run_X8_beginOf : GoodIn wsX4_run wsX8_beginOf := goodIn_r _ [14, 15, 16, 17, 18, 19, 13, 20, 21, 22, 23, 24, 25, 26, 27, 28, 29, 30, 31, 32, 33, 34, 519, 520, 521, 522, 523, 524, 525, 526] rfl (by decide +kernel)
set_option maxRecDepth 20000 in
theorem ggX4_run_X8_finishOf : GoodIn wsX4_run wsX8_finishOf := goodIn_r _ [38, 15, 39, 17, 18, 19, 13, 20, 21, 16, 22, 23, 24, 25, 26, 27, 28, 29, 30, 31, 32, 33, 34, 519, 520, 521, 522, 523, 524, 525, 526] rfl (by decide +kernel)
set_option maxRecDepth 20000 in
theorem ggX4_run_X9_prepare : GoodIn wsX4_run wsX9_prepare := goodIn_r _ [68, 69, 70, 71, 72, 73, 74, 50, 51, 52, 53, 54, 55, 56, 57, 58, 59, 60, 61, 62, 63, 64, 477, 478, 479, 480, 481, 482, 483, 484, 485, 486, 487, 488, 489, 490, 491, 492, 493, 494, 495, 496, 497, 498, 499, 500, 501, 502, 503, 504, 505, 506, 507, 508, 509, 510, 511, 527, 528, 529, 530] rfl (by decide +kernel)
set_option maxRecDepth 20000 in
theorem ggX4_run_X4_takeOperator : GoodIn wsX4_run wsX4_takeOperator := goodIn_r _ [80, 7, 81, 82, 83, 84, 79, 85, 4, 3, 1, 86, 29, 30, 31, 32, 33, 34, 87, 88, 89, 90, 91, 44, 92, 93, 94, 67, 95, 96, 97, 98, 99, 100, 101, 102, 103, 104, 105, 106, 107, 108, 109, 110, 111, 112, 113, 114, 115, 116, 117, 118, 119, 52, 120, 54, 59, 121, 122, 477, 478, 479, 480, 481, 482, 483, 484, 485, 486, 487, 488, 489, 490, 491, 492, 493, 494, 495, 496, 497, 498, 499, 500, 501, 502, 503, 504, 505, 506, 507, 508, 509, 510, 511, 512, 513, 514, 515, 516, 517, 518, 525, 526, 527, 528, 529, 530] rfl (by decide +kernel)
set_option maxRecDepth 20000 in
theorem ggX4_run_X9_operate : GoodIn wsX4_run wsX9_operate := goodIn_r _ [380, 381, 382, 69, 70, 383, 384, 385, 143, 79, 144, 101, 6, 145, 2, 146, 3, 147, 4, 148, 149, 150, 52, 151, 54, 152, 153, 154, 155, 156, 157, 158, 159, 160, 161, 162, 163, 121, 164, 18, 19, 13, 20, 21, 15, 16, 165, 166, 167, 168, 10, 11, 12, 14, 17, 22, 23, 24, 25, 26, 27, 28, 29, 30, 31, 32, 33, 34, 35, 36, 37, 38, 39, 386, 387, 388, 172, 173, 389, 390, 391, 392, 191, 195, 196, 197, 198, 199, 200, 118, 119, 120, 59, 393, 394, 395, 67, 396, 73, 397, 398, 399, 400, 401, 402, 403, 404, 405, 406, 407, 408, 409, 410, 411, 412, 413, 414, 415, 416, 417, 418, 419, 71, 72, 420, 421, 422, 423, 424, 340, 341, 282, 342, 297, 298, 284, 293, 296, 289, 290, 291, 292, 294, 295, 425, 426, 427, 428, 429, 430, 431, 432, 433, 434, 435, 436, 437, 438, 439, 440, 441, 442, 443, 444, 445, 446, 447, 448, 449, 450, 451, 452, 453, 454, 300, 301, 302, 455, 329, 330, 331, 456, 457, 458, 335, 336, 337, 338, 339, 459, 286, 287, 288, 460, 461, 462, 359, 360, 463, 464, 465, 466, 467, 468, 469, 470, 471, 472, 473, 474, 475, 310, 311, 5, 476, 375, 376, 377, 477, 478, 479, 480, 481, 482, 483, 484, 485, 486, 487, 488, 489, 490, 491, 492, 493, 494, 495, 496, 497, 498, 499, 500, 501, 502, 503, 504, 505, 506, 507, 508, 509, 510, 511, 512, 513, 514, 515, 516, 517, 518, 527, 528, 529, 530, 519, 520, 521, 522, 523, 524, 525, 526, 531, 532, 533, 534, 535, 536, 537] rfl (by decide +kernel)
set_option maxRecDepth 20000 in
theorem ggX0_prepare_X7_begin : GoodIn wsX0_prepare wsX7_begin := goodIn_r _ [8, 9, 10, 11, 12, 13, 14, 15, 16, 17, 18, 19, 55, 56, 57, 58] rfl (by decide +kernel)
set_option maxRecDepth 20000 in
theorem ggX4_takeNumber_X0_longNumber : GoodIn wsX4_takeNumber wsX0_longNumber := goodIn_r _ [28] rfl (by decide +kernel)
set_option maxRecDepth 20000 in
theorem ggX4_takeOperator_X0_isNumber : GoodIn wsX4_takeOperator wsX0_isNumber := goodIn_r _ [24] rfl (by decide +kernel)
set_option maxRecDepth 20000 in
theorem ggX0_biasOf_X8_size : GoodIn wsX0_biasOf wsX8_size := goodIn_r _ [7, 8, 9, 10, 11, 12, 13, 14] rfl (by decide +kernel)
set_option maxRecDepth 20000 in
theorem ggX0_lines_X7_get : GoodIn wsX0_lines wsX7_get := goodIn_r _ [9, 10, 11, 63, 64, 65, 66] rfl (by decide +kernel)
set_option maxRecDepth 20000 in
theorem ggX0_lines_X6_lineBy : GoodIn wsX0_lines wsX6_lineBy := goodIn_r _ [16, 17, 18, 19, 20, 21, 22, 15, 23, 24, 25, 26, 27, 67, 68, 69, 70, 71, 72, 73] rfl (by decide +kernel)
set_option maxRecDepth 20000 in
theorem ggX0_pairsThenSixes_X7_size : GoodIn wsX0_pairsThenSixes wsX7_size := goodIn_r _ [7, 8, 85, 86, 87, 88] rfl (by decide +kernel)
set_option maxRecDepth 20000 in
theorem ggX0_pairsThenSixes_X0_lines : GoodIn wsX0_pairsThenSixes wsX0_lines := goodIn_r _ [13, 14, 15, 1, 2, 16, 17, 18, 6, 19, 8, 20, 21, 22, 23, 24, 25, 26, 27, 28, 29, 30, 31, 32, 33, 34, 35, 36, 50, 51, 52, 53, 54, 55, 56, 57, 58, 59, 60, 61, 62, 63, 64, 65, 66, 67, 68, 69, 70, 71, 72, 73, 74, 75, 76, 77, 78, 79, 80, 81, 82, 83, 84, 85, 86, 87, 88, 89, 90, 91, 92, 93, 94, 95] rfl (by decide +kernel)
set_option maxRecDepth 20000 in
theorem ggX0_pairsThenSixes_X4_curves : GoodIn wsX0_pairsThenSixes wsX4_curves := goodIn_r _ [42, 43, 44, 45, 17, 18, 6, 19, 8, 20, 46, 47, 48, 24, 49, 26, 27, 28, 33, 36, 29, 30, 31, 32, 34, 35, 50, 51, 52, 53, 54, 55, 56, 57, 58, 59, 60, 61, 62, 63, 64, 65, 66, 67, 68, 69, 70, 71, 72, 73, 74, 75, 76, 77, 78, 79, 80, 81, 82, 83, 84, 85, 86, 87, 88, 89, 90, 91, 92, 93, 94, 95] rfl (by decide +kernel)
set_option maxRecDepth 20000 in
theorem ggX0_turningLines_X7_size : GoodIn wsX0_turningLines wsX7_size := goodIn_r _ [9, 10, 67, 68, 69, 70] rfl (by decide +kernel)
set_option maxRecDepth 20000 in
theorem ggX0_turningLines_X7_get : GoodIn wsX0_turningLines wsX7_get := goodIn_r _ [14, 10, 15, 67, 68, 69, 70] rfl (by decide +kernel)
set_option maxRecDepth 20000 in
theorem ggX0_turningLines_X6_lineBy : GoodIn wsX0_turningLines wsX6_lineBy := goodIn_r _ [20, 21, 22, 23, 24, 25, 26, 19, 27, 28, 29, 30, 31, 71, 72, 73, 74, 75, 76, 77] rfl (by decide +kernel)
set_option maxRecDepth 20000 in
theorem ggX0_sixesThenPair_X7_size : GoodIn wsX0_sixesThenPair wsX7_size := goodIn_r _ [7, 8, 85, 86, 87, 88] rfl (by decide +kernel)
set_option maxRecDepth 20000 in
theorem ggX0_sixesThenPair_X4_curves : GoodIn wsX0_sixesThenPair wsX4_curves := goodIn_r _ [14, 15, 16, 17, 18, 19, 6, 20, 8, 21, 22, 23, 24, 25, 26, 27, 28, 29, 30, 31, 32, 33, 34, 35, 36, 37, 50, 51, 52, 53, 54, 55, 56, 57, 58, 59, 60, 61, 62, 63, 64, 65, 66, 67, 68, 69, 70, 71, 72, 73, 74, 75, 76, 77, 78, 79, 80, 81, 82, 83, 84, 85, 86, 87, 88, 89, 90, 91, 92, 93, 94, 95] rfl (by decide +kernel)
set_option maxRecDepth 20000 in
theorem ggX0_sixesThenPair_X0_lines : GoodIn wsX0_sixesThenPair wsX0_lines := goodIn_r _ [42, 43, 44, 1, 2, 45, 18, 19, 6, 20, 8, 21, 46, 47, 48, 25, 49, 27, 28, 29, 32, 33, 34, 35, 30, 36, 37, 31, 50, 51, 52, 53, 54, 55, 56, 57, 58, 59, 60, 61, 62, 63, 64, 65, 66, 67, 68, 69, 70, 71, 72, 73, 74, 75, 76, 77, 78, 79, 80, 81, 82, 83, 84, 85, 86, 87, 88, 89, 90, 91, 92, 93, 94, 95] rfl (by decide +kernel)
set_option maxRecDepth 20000 in
theorem ggX0_straightCurves_X7_size : GoodIn wsX0_straightCurves wsX7_size := goodIn_r _ [9, 10, 67, 68, 69, 70] rfl (by decide +kernel)
set_option maxRecDepth 20000 in
theorem ggX0_straightCurves_X7_get : GoodIn wsX0_straightCurves wsX7_get := goodIn_r _ [14, 10, 15, 67, 68, 69, 70] rfl (by decide +kernel)
set_option maxRecDepth 20000 in
theorem ggX0_straightCurves_X6_curveBy : GoodIn wsX0_straightCurves wsX6_curveBy := goodIn_r _ [20, 21, 22, 23, 24, 25, 26, 27, 28, 19, 29, 30, 31, 71, 72, 73, 74, 75, 76, 77] rfl (by decide +kernel)
set_option maxRecDepth 20000 in
theorem ggX0_flexAlongX_X7_get : GoodIn wsX0_flexAlongX wsX7_get := goodIn_r _ [9, 10, 11, 63, 64, 65, 66] rfl (by decide +kernel)
set_option maxRecDepth 20000 in
theorem ggX0_flexAlongX_X6_curveBy : GoodIn wsX0_flexAlongX wsX6_curveBy := goodIn_r _ [16, 17, 18, 19, 20, 21, 22, 23, 24, 15, 25, 26, 27, 67, 68, 69, 70, 71, 72, 73] rfl (by decide +kernel)
set_option maxRecDepth 20000 in
theorem ggX0_flexBackToY_X7_get : GoodIn wsX0_flexBackToY wsX7_get := goodIn_r _ [9, 10, 11, 63, 64, 65, 66] rfl (by decide +kernel)
set_option maxRecDepth 20000 in
theorem ggX0_flexBackToY_X6_curveBy : GoodIn wsX0_flexBackToY wsX6_curveBy := goodIn_r _ [16, 17, 18, 19, 20, 21, 22, 23, 24, 15, 25, 26, 27, 67, 68, 69, 70, 71, 72, 73] rfl (by decide +kernel)
set_option maxRecDepth 20000 in
theorem ggX0_flexBack_X7_get : GoodIn wsX0_flexBack wsX7_get := goodIn_r _ [13, 14, 15, 77, 78, 79, 80] rfl (by decide +kernel)
set_option maxRecDepth 20000 in
theorem ggX0_flexBack_X4_curves : GoodIn wsX0_flexBack wsX4_curves := goodIn_r _ [21, 22, 23, 24, 10, 11, 12, 13, 14, 15, 25, 26, 27, 28, 29, 30, 31, 32, 33, 34, 35, 36, 37, 38, 39, 40, 42, 43, 44, 45, 46, 47, 48, 49, 50, 51, 52, 53, 54, 55, 56, 57, 58, 59, 60, 61, 62, 63, 64, 65, 66, 67, 68, 69, 70, 71, 72, 73, 74, 75, 76, 77, 78, 79, 80, 81, 82, 83, 84, 85, 86, 87] rfl (by decide +kernel)
set_option maxRecDepth 20000 in
theorem ggX0_flexBack_X6_curveBy : GoodIn wsX0_flexBack wsX6_curveBy := goodIn_r _ [29, 30, 31, 32, 33, 34, 35, 36, 37, 28, 38, 39, 40, 81, 82, 83, 84, 85, 86, 87] rfl (by decide +kernel)
set_option maxRecDepth 20000 in
theorem ggX0_linesAndCurves_X0_pairsThenSixes : GoodIn wsX0_linesAndCurves wsX0_pairsThenSixes := goodIn_r _ [7, 1, 2, 8, 9, 10, 11, 12, 13, 14, 15, 16, 6, 17, 18, 19, 20, 21, 22, 23, 24, 25, 26, 27, 28, 29, 30, 31, 32, 33, 34, 35, 36, 37, 38, 39, 40, 41, 42, 43, 44, 45, 46, 47, 48, 49, 50, 51, 52, 53, 89, 90, 91, 92, 93, 94, 95, 96, 97, 98, 99, 100, 101, 102, 103, 104, 105, 106, 107, 108, 109, 110, 111, 112, 113, 114, 115, 116, 117, 118, 119, 120, 121, 122, 123, 124, 125, 126, 127, 128, 129, 130, 131, 132, 133, 134] rfl (by decide +kernel)
set_option maxRecDepth 20000 in
theorem ggX0_linesAndCurves_X0_turningLines : GoodIn wsX0_linesAndCurves wsX0_turningLines := goodIn_r _ [57, 1, 2, 18, 19, 8, 9, 10, 11, 12, 13, 20, 21, 22, 23, 24, 25, 26, 27, 28, 29, 30, 31, 32, 33, 34, 35, 36, 37, 38, 39, 40, 89, 90, 91, 92, 93, 94, 95, 96, 97, 98, 99, 100, 101, 102, 103, 104, 105, 106, 107, 108, 109, 110, 111, 112, 113, 114, 115, 116, 117, 118, 119, 120, 121, 122, 123, 124, 125, 126, 127, 128, 129, 130, 131, 132, 133, 134] rfl (by decide +kernel)
set_option maxRecDepth 20000 in
theorem ggX0_linesAndCurves_X0_sixesThenPair : GoodIn wsX0_linesAndCurves wsX0_sixesThenPair := goodIn_r _ [61, 1, 2, 8, 9, 10, 11, 12, 13, 41, 42, 43, 44, 45, 46, 47, 48, 49, 21, 22, 23, 24, 50, 51, 52, 28, 53, 30, 31, 32, 37, 40, 33, 34, 35, 36, 38, 39, 14, 15, 16, 6, 17, 18, 19, 20, 25, 26, 27, 29, 89, 90, 91, 92, 93, 94, 95, 96, 97, 98, 99, 100, 101, 102, 103, 104, 105, 106, 107, 108, 109, 110, 111, 112, 113, 114, 115, 116, 117, 118, 119, 120, 121, 122, 123, 124, 125, 126, 127, 128, 129, 130, 131, 132, 133, 134] rfl (by decide +kernel)
set_option maxRecDepth 20000 in
theorem ggX0_linesAndCurves_X0_straightCurves : GoodIn wsX0_linesAndCurves wsX0_straightCurves := goodIn_r _ [65, 1, 2, 18, 19, 8, 9, 10, 11, 12, 13, 20, 21, 22, 23, 24, 66, 51, 52, 28, 53, 30, 31, 32, 37, 40, 33, 34, 35, 36, 38, 39, 89, 90, 91, 92, 93, 94, 95, 96, 97, 98, 99, 100, 101, 102, 103, 104, 105, 106, 107, 108, 109, 110, 111, 112, 113, 114, 115, 116, 117, 118, 119, 120, 121, 122, 123, 124, 125, 126, 127, 128, 129, 130, 131, 132, 133, 134] rfl (by decide +kernel)
set_option maxRecDepth 20000 in
theorem ggX0_linesAndCurves_X4_turningCurves : GoodIn wsX0_linesAndCurves wsX4_turningCurves := goodIn_r _ [71, 48, 47, 72, 9, 10, 11, 12, 13, 49, 21, 22, 23, 24, 50, 51, 52, 28, 53, 30, 31, 32, 37, 40, 33, 34, 35, 36, 38, 39, 89, 90, 91, 92, 93, 94, 95, 96, 97, 98, 99, 100, 101, 102, 103, 104, 105, 106, 107, 108, 109, 110, 111, 112, 113, 114, 115, 116, 117, 118, 119, 120, 121, 122, 123, 124, 125, 126, 127, 128, 129, 130, 131, 132, 133, 134] rfl (by decide +kernel)
set_option maxRecDepth 20000 in
theorem ggX0_linesAndCurves_X7_size : GoodIn wsX0_linesAndCurves wsX7_size := goodIn_r _ [12, 13, 124, 125, 126, 127] rfl (by decide +kernel)
set_option maxRecDepth 20000 in
theorem ggX0_linesAndCurves_X0_flexAlongX : GoodIn wsX0_linesAndCurves wsX0_flexAlongX := goodIn_r _ [76, 1, 2, 18, 19, 20, 21, 22, 11, 23, 13, 24, 66, 51, 52, 28, 53, 30, 31, 32, 37, 40, 33, 34, 35, 36, 38, 39, 89, 90, 91, 92, 93, 94, 95, 96, 97, 98, 99, 100, 101, 102, 103, 104, 105, 106, 107, 108, 109, 110, 111, 112, 113, 114, 115, 116, 117, 118, 119, 120, 121, 122, 123, 124, 125, 126, 127, 128, 129, 130, 131, 132, 133, 134] rfl (by decide +kernel)
set_option maxRecDepth 20000 in
theorem ggX0_linesAndCurves_X4_curves : GoodIn wsX0_linesAndCurves wsX4_curves := goodIn_r _ [46, 47, 48, 49, 21, 22, 11, 23, 13, 24, 50, 51, 52, 28, 53, 30, 31, 32, 37, 40, 33, 34, 35, 36, 38, 39, 89, 90, 91, 92, 93, 94, 95, 96, 97, 98, 99, 100, 101, 102, 103, 104, 105, 106, 107, 108, 109, 110, 111, 112, 113, 114, 115, 116, 117, 118, 119, 120, 121, 122, 123, 124, 125, 126, 127, 128, 129, 130, 131, 132, 133, 134] rfl (by decide +kernel)
set_option maxRecDepth 20000 in
theorem ggX0_linesAndCurves_X0_flexBackToY : GoodIn wsX0_linesAndCurves wsX0_flexBackToY := goodIn_r _ [80, 1, 2, 18, 19, 20, 21, 22, 11, 23, 13, 24, 66, 51, 52, 28, 53, 30, 31, 32, 37, 40, 33, 34, 35, 36, 38, 39, 89, 90, 91, 92, 93, 94, 95, 96, 97, 98, 99, 100, 101, 102, 103, 104, 105, 106, 107, 108, 109, 110, 111, 112, 113, 114, 115, 116, 117, 118, 119, 120, 121, 122, 123, 124, 125, 126, 127, 128, 129, 130, 131, 132, 133, 134] rfl (by decide +kernel)
set_option maxRecDepth 20000 in
theorem ggX0_linesAndCurves_X0_flexBack : GoodIn wsX0_linesAndCurves wsX0_flexBack := goodIn_r _ [84, 1, 2, 85, 86, 87, 88, 18, 19, 20, 21, 22, 11, 23, 13, 24, 41, 42, 43, 44, 45, 46, 47, 48, 49, 50, 51, 52, 28, 53, 30, 31, 32, 37, 40, 33, 34, 35, 36, 38, 39, 66, 89, 90, 91, 92, 93, 94, 95, 96, 97, 98, 99, 100, 101, 102, 103, 104, 105, 106, 107, 108, 109, 110, 111, 112, 113, 114, 115, 116, 117, 118, 119, 120, 121, 122, 123, 124, 125, 126, 127, 128, 129, 130, 131, 132, 133, 134] rfl (by decide +kernel)
set_option maxRecDepth 20000 in
theorem ggX0_tellWidth_X7_get : GoodIn wsX0_tellWidth wsX7_get := goodIn_r _ [13, 14, 15, 58, 59, 60, 61] rfl (by decide +kernel)
set_option maxRecDepth 20000 in
theorem ggX6_closeIfOpen_X6_close : GoodIn wsX6_closeIfOpen wsX6_close := goodIn_r _ [6, 7, 8, 9, 5, 10, 11, 12, 13, 14, 15, 16, 17, 18, 19, 20, 21, 22, 23] rfl (by decide +kernel)
set_option maxRecDepth 20000 in
theorem ggX0_move_X7_size : GoodIn wsX0_move wsX7_size := goodIn_r _ [9, 10, 90, 91, 92, 93] rfl (by decide +kernel)
set_option maxRecDepth 20000 in
theorem ggX0_move_X0_widthsShare : GoodIn wsX0_move wsX0_widthsShare := goodIn_r _ [15, 16, 55, 56, 57, 58, 59, 60, 61, 62, 63, 64, 65, 66, 67, 68, 69] rfl (by decide +kernel)
set_option maxRecDepth 20000 in
theorem ggX0_move_X0_tellWidth : GoodIn wsX0_move wsX0_tellWidth := goodIn_r _ [20, 16, 21, 22, 23, 1, 2, 24, 25, 26, 27, 28, 8, 29, 10, 30, 55, 56, 57, 58, 59, 60, 61, 62, 63, 64, 65, 66, 67, 68, 69, 70, 71, 72, 73, 74, 75, 76, 77, 78, 79, 80, 81, 82, 83, 84, 85, 86, 87, 88, 89, 94, 95, 96, 97, 98, 99, 100, 90, 91, 92, 93] rfl (by decide +kernel)
set_option maxRecDepth 20000 in
theorem ggX0_move_X6_closeIfOpen : GoodIn wsX0_move wsX6_closeIfOpen := goodIn_r _ [35, 36, 37, 38, 39, 34, 40, 41, 42, 43, 44, 45, 46, 47, 48, 49, 50, 101, 102, 103, 104, 105, 106, 107] rfl (by decide +kernel)
set_option maxRecDepth 20000 in
theorem ggX0_move_X7_get : GoodIn wsX0_move wsX7_get := goodIn_r _ [29, 10, 30, 90, 91, 92, 93] rfl (by decide +kernel)
set_option maxRecDepth 20000 in
theorem ggX0_move_X6_moveBy : GoodIn wsX0_move wsX6_moveBy := goodIn_r _ [54, 49, 50, 36, 41, 42, 43, 34, 44, 45, 46, 47, 48, 101, 102, 103, 104, 105, 106, 107] rfl (by decide +kernel)
set_option maxRecDepth 20000 in
theorem ggX0_stems_X7_size : GoodIn wsX0_stems wsX7_size := goodIn_r _ [9, 10, 66, 67, 68, 69] rfl (by decide +kernel)
set_option maxRecDepth 20000 in
theorem ggX0_stems_X0_widthsShare : GoodIn wsX0_stems wsX0_widthsShare := goodIn_r _ [15, 16, 31, 32, 33, 34, 35, 36, 37, 38, 39, 40, 41, 42, 43, 44, 45] rfl (by decide +kernel)
set_option maxRecDepth 20000 in
theorem ggX0_stems_X0_tellWidth : GoodIn wsX0_stems wsX0_tellWidth := goodIn_r _ [20, 16, 21, 22, 23, 1, 2, 24, 25, 26, 27, 28, 8, 29, 10, 30, 31, 32, 33, 34, 35, 36, 37, 38, 39, 40, 41, 42, 43, 44, 45, 46, 47, 48, 49, 50, 51, 52, 53, 54, 55, 56, 57, 58, 59, 60, 61, 62, 63, 64, 65, 70, 71, 72, 73, 74, 75, 76, 66, 67, 68, 69] rfl (by decide +kernel)
set_option maxRecDepth 20000 in
theorem ggX0_endLetter_X7_size : GoodIn wsX0_endLetter wsX7_size := goodIn_r _ [9, 10, 93, 94, 95, 96] rfl (by decide +kernel)
set_option maxRecDepth 20000 in
theorem ggX0_endLetter_X0_widthsShare : GoodIn wsX0_endLetter wsX0_widthsShare := goodIn_r _ [15, 16, 58, 59, 60, 61, 62, 63, 64, 65, 66, 67, 68, 69, 70, 71, 72] rfl (by decide +kernel)
set_option maxRecDepth 20000 in
theorem ggX0_endLetter_X0_tellWidth : GoodIn wsX0_endLetter wsX0_tellWidth := goodIn_r _ [20, 16, 21, 22, 23, 1, 2, 24, 25, 26, 27, 28, 8, 29, 10, 30, 58, 59, 60, 61, 62, 63, 64, 65, 66, 67, 68, 69, 70, 71, 72, 73, 74, 75, 76, 77, 78, 79, 80, 81, 82, 83, 84, 85, 86, 87, 88, 89, 90, 91, 92, 97, 98, 99, 100, 101, 102, 103, 93, 94, 95, 96] rfl (by decide +kernel)
set_option maxRecDepth 20000 in
theorem ggX0_endLetter_X6_closeIfOpen : GoodIn wsX0_endLetter wsX6_closeIfOpen := goodIn_r _ [35, 36, 37, 38, 39, 34, 40, 41, 42, 43, 44, 45, 46, 47, 48, 49, 50, 104, 105, 106, 107, 108, 109, 110] rfl (by decide +kernel)
set_option maxRecDepth 20000 in
theorem ggX0_endLetter_X4_finishAll : GoodIn wsX0_endLetter wsX4_finishAll := goodIn_r _ [56, 57, 58, 59, 60, 61, 62, 63, 64, 65, 66, 67, 68, 69, 70, 71, 72, 73, 74, 75, 76, 77, 78, 79, 80, 81, 82, 83, 84, 85, 86, 87, 88, 89, 90, 91, 92] rfl (by decide +kernel)
set_option maxRecDepth 20000 in
theorem ggX0_mask_X7_size : GoodIn wsX0_mask wsX7_size := goodIn_r _ [9, 10, 78, 79, 80, 81] rfl (by decide +kernel)
set_option maxRecDepth 20000 in
theorem ggX0_mask_X0_widthsShare : GoodIn wsX0_mask wsX0_widthsShare := goodIn_r _ [15, 16, 43, 44, 45, 46, 47, 48, 49, 50, 51, 52, 53, 54, 55, 56, 57] rfl (by decide +kernel)
set_option maxRecDepth 20000 in
theorem ggX0_mask_X0_tellWidth : GoodIn wsX0_mask wsX0_tellWidth := goodIn_r _ [20, 16, 21, 22, 23, 1, 2, 24, 25, 26, 27, 28, 8, 29, 10, 30, 43, 44, 45, 46, 47, 48, 49, 50, 51, 52, 53, 54, 55, 56, 57, 58, 59, 60, 61, 62, 63, 64, 65, 66, 67, 68, 69, 70, 71, 72, 73, 74, 75, 76, 77, 82, 83, 84, 85, 86, 87, 88, 78, 79, 80, 81] rfl (by decide +kernel)
set_option maxRecDepth 20000 in
theorem ggX0_mask_X4_skipBytes : GoodIn wsX0_mask wsX4_skipBytes := goodIn_r _ [36, 37, 38, 39, 40, 41, 42, 43, 44, 45, 46, 47, 48, 49, 50, 51, 52, 53, 54, 55, 56, 57, 58, 59, 60, 61, 62, 63, 64, 65, 66, 67, 68, 69, 70, 71, 72, 73, 74, 75, 76, 77] rfl (by decide +kernel)
set_option maxRecDepth 20000 in
theorem ggX0_hintOrMove_X0_move : GoodIn wsX0_hintOrMove wsX0_move := goodIn_r _ [50, 6, 7, 51, 52, 10, 11, 12, 13, 14, 15, 16, 17, 18, 4, 19, 20, 21, 22, 23, 24, 25, 26, 27, 28, 29, 30, 31, 32, 33, 34, 53, 54, 55, 56, 57, 58, 59, 60, 61, 62, 63, 64, 65, 66, 67, 68, 69, 70, 71, 72, 73, 74, 75, 76, 91, 92, 93, 94, 95, 96, 97, 98, 99, 100, 101, 102, 103, 104, 105, 106, 107, 108, 109, 110, 111, 112, 113, 114, 115, 116, 117, 118, 119, 120, 121, 122, 123, 124, 125, 126, 127, 128, 129, 130, 131, 132, 133, 134, 135, 136, 137, 138, 139, 140, 141, 142, 143] rfl (by decide +kernel)
set_option maxRecDepth 20000 in
theorem ggX0_hintOrMove_X0_stems : GoodIn wsX0_hintOrMove wsX0_stems := goodIn_r _ [90, 6, 7, 8, 9, 10, 11, 12, 13, 14, 15, 16, 17, 18, 4, 19, 20, 21, 22, 23, 24, 25, 26, 27, 28, 29, 30, 31, 32, 33, 34, 91, 92, 93, 94, 95, 96, 97, 98, 99, 100, 101, 102, 103, 104, 105, 106, 107, 108, 109, 110, 111, 112, 113, 114, 115, 116, 117, 118, 119, 120, 121, 122, 123, 124, 125, 126, 127, 128, 129, 130, 131, 132, 133, 134, 135, 136] rfl (by decide +kernel)
set_option maxRecDepth 20000 in
theorem ggX0_hintOrMove_X0_endLetter : GoodIn wsX0_hintOrMove wsX0_endLetter := goodIn_r _ [80, 6, 7, 51, 52, 10, 11, 12, 13, 14, 15, 16, 17, 18, 4, 19, 20, 21, 22, 23, 24, 25, 26, 27, 28, 29, 30, 31, 32, 33, 34, 53, 54, 55, 56, 57, 58, 59, 60, 61, 62, 63, 64, 65, 66, 67, 68, 69, 70, 71, 72, 81, 82, 83, 84, 39, 85, 86, 91, 92, 93, 94, 95, 96, 97, 98, 99, 100, 101, 102, 103, 104, 105, 106, 107, 108, 109, 110, 111, 112, 113, 114, 115, 116, 117, 118, 119, 120, 121, 122, 123, 124, 125, 126, 127, 128, 129, 130, 131, 132, 133, 134, 135, 136, 137, 138, 139, 140, 141, 142, 143] rfl (by decide +kernel)
set_option maxRecDepth 20000 in
theorem ggX0_hintOrMove_X0_mask : GoodIn wsX0_hintOrMove wsX0_mask := goodIn_r _ [5, 6, 7, 8, 9, 10, 11, 12, 13, 14, 15, 16, 17, 18, 4, 19, 20, 21, 22, 23, 24, 25, 26, 27, 28, 29, 30, 31, 32, 33, 34, 35, 36, 37, 38, 39, 40, 41, 42, 43, 44, 45, 46, 91, 92, 93, 94, 95, 96, 97, 98, 99, 100, 101, 102, 103, 104, 105, 106, 107, 108, 109, 110, 111, 112, 113, 114, 115, 116, 117, 118, 119, 120, 121, 122, 123, 124, 125, 126, 127, 128, 129, 130, 131, 132, 133, 134, 135, 136] rfl (by decide +kernel)
set_option maxRecDepth 20000 in
theorem ggX7_pick_X7_below : GoodIn wsX7_pick wsX7_below := goodIn_r _ [14, 9, 15, 16, 17, 13, 18, 19, 33, 34, 35, 36] rfl (by decide +kernel)
set_option maxRecDepth 20000 in
theorem ggX7_pick_X7_replace : GoodIn wsX7_pick wsX7_replace := goodIn_r _ [23, 24, 25, 26, 13, 27, 9, 28, 29, 30, 31, 32, 19, 33, 34, 35, 36] rfl (by decide +kernel)
set_option maxRecDepth 20000 in
theorem ggX7_fetch_X7_replace : GoodIn wsX7_fetch wsX7_replace := goodIn_r _ [7, 8, 9, 10, 6, 11, 12, 13, 14, 15, 16, 17, 18, 19, 20, 21, 22] rfl (by decide +kernel)
set_option maxRecDepth 20000 in
theorem ggX7_reckonOne_X7_below : GoodIn wsX7_reckonOne wsX7_below := goodIn_r _ [10, 11, 12, 13, 14, 9, 15, 16, 57, 58, 59, 60] rfl (by decide +kernel)
set_option maxRecDepth 20000 in
theorem ggX7_reckonOne_X7_truth : GoodIn wsX7_reckonOne wsX7_truth := goodIn_r _ [19, 5] rfl (by decide +kernel)
set_option maxRecDepth 20000 in
theorem ggX7_reckonOne_X7_replace : GoodIn wsX7_reckonOne wsX7_replace := goodIn_r _ [23, 24, 25, 26, 9, 27, 11, 28, 29, 30, 31, 32, 16, 57, 58, 59, 60] rfl (by decide +kernel)
set_option maxRecDepth 20000 in
theorem ggX7_reckonOne_X7_wholeBelow : GoodIn wsX7_reckonOne wsX7_wholeBelow := goodIn_r _ [36, 6, 7, 8, 9, 10, 11, 12, 13, 14, 15, 16, 57, 58, 59, 60] rfl (by decide +kernel)
set_option maxRecDepth 20000 in
theorem ggX7_reckonOne_X7_pick : GoodIn wsX7_reckonOne wsX7_pick := goodIn_r _ [49, 50, 51, 52, 3, 53, 54, 55, 56, 11, 6, 7, 8, 9, 10, 12, 13, 14, 15, 16, 20, 21, 22, 23, 24, 25, 26, 27, 28, 29, 30, 31, 32, 57, 58, 59, 60] rfl (by decide +kernel)
set_option maxRecDepth 20000 in
theorem ggX7_reckonOne_X7_drop : GoodIn wsX7_reckonOne wsX7_drop := goodIn_r _ [27, 11, 57, 58, 59, 60] rfl (by decide +kernel)
set_option maxRecDepth 20000 in
theorem ggX7_reckonOne_X7_fetch : GoodIn wsX7_reckonOne wsX7_fetch := goodIn_r _ [40, 41, 42, 20, 21, 22, 9, 23, 24, 25, 26, 27, 11, 28, 29, 30, 31, 32, 16, 57, 58, 59, 60] rfl (by decide +kernel)
set_option maxRecDepth 20000 in
theorem ggX7_reckonOne_X7_rootOf : GoodIn wsX7_reckonOne wsX7_rootOf := goodIn_r _ [45] rfl (by decide +kernel)
set_option maxRecDepth 20000 in
theorem ggX7_reckonOne_X7_push : GoodIn wsX7_reckonOne wsX7_push := goodIn_r _ [31, 11, 32, 16, 57, 58, 59, 60] rfl (by decide +kernel)
set_option maxRecDepth 20000 in
theorem ggX7_roll_X7_drop : GoodIn wsX7_roll wsX7_drop := goodIn_r _ [6, 1, 16, 17, 18, 19] rfl (by decide +kernel)
set_option maxRecDepth 20000 in
theorem ggX7_roll_J9_floorMod_f86c9 : GoodIn wsX7_roll wsJ9_floorMod_f86c9 := goodIn_r _ [10] rfl (by decide +kernel)
set_option maxRecDepth 20000 in
theorem ggX7_roll_X7_turnRound : GoodIn wsX7_roll wsX7_turnRound := goodIn_r _ [14, 1, 15, 16, 17, 18, 19] rfl (by decide +kernel)
set_option maxRecDepth 20000 in
theorem ggX7_keep_X7_drop : GoodIn wsX7_keep wsX7_drop := goodIn_r _ [7, 8, 9, 10, 11, 12] rfl (by decide +kernel)
set_option maxRecDepth 20000 in
theorem ggX7_reckonTwo_X7_below : GoodIn wsX7_reckonTwo wsX7_below := goodIn_r _ [6, 7, 8, 9, 10, 5, 11, 12, 51, 52, 53, 54] rfl (by decide +kernel)
set_option maxRecDepth 20000 in
theorem ggX7_reckonTwo_X7_truth : GoodIn wsX7_reckonTwo wsX7_truth := goodIn_r _ [15, 1] rfl (by decide +kernel)
set_option maxRecDepth 20000 in
theorem ggX7_reckonTwo_X7_replace : GoodIn wsX7_reckonTwo wsX7_replace := goodIn_r _ [19, 20, 21, 22, 5, 23, 7, 24, 25, 26, 27, 28, 12, 51, 52, 53, 54] rfl (by decide +kernel)
set_option maxRecDepth 20000 in
theorem ggX7_reckonTwo_X7_wholeBelow : GoodIn wsX7_reckonTwo wsX7_wholeBelow := goodIn_r _ [32, 2, 3, 4, 5, 6, 7, 8, 9, 10, 11, 12, 51, 52, 53, 54] rfl (by decide +kernel)
set_option maxRecDepth 20000 in
theorem ggX7_reckonTwo_X7_roll : GoodIn wsX7_reckonTwo wsX7_roll := goodIn_r _ [42, 7, 20, 21, 22, 5, 23, 43, 44, 45, 46, 47, 48, 49, 50, 12, 51, 52, 53, 54] rfl (by decide +kernel)
set_option maxRecDepth 20000 in
theorem ggX7_reckonTwo_X7_keep : GoodIn wsX7_reckonTwo wsX7_keep := goodIn_r _ [36, 37, 38, 20, 21, 22, 5, 23, 7, 51, 52, 53, 54] rfl (by decide +kernel)
set_option maxRecDepth 20000 in
theorem ggX7_reckonTwo_X7_push : GoodIn wsX7_reckonTwo wsX7_push := goodIn_r _ [27, 7, 28, 12, 51, 52, 53, 54] rfl (by decide +kernel)
set_option maxRecDepth 20000 in
theorem ggX7_reckon_X7_wantedBy : GoodIn wsX7_reckon wsX7_wantedBy := goodIn_r _ [5] rfl (by decide +kernel)
set_option maxRecDepth 20000 in
theorem ggX7_reckon_X7_reckonOne : GoodIn wsX7_reckon wsX7_reckonOne := goodIn_r _ [9, 10, 11, 12, 13, 14, 15, 16, 17, 4, 18, 1, 19, 20, 21, 22, 23, 24, 25, 26, 27, 28, 29, 30, 31, 32, 33, 34, 35, 36, 37, 38, 39, 40, 41, 42, 43, 44, 45, 46, 47, 48, 49, 50, 51, 52, 53, 54, 55, 56, 57, 58, 59, 60, 61, 62, 63, 84, 85, 86, 87] rfl (by decide +kernel)
set_option maxRecDepth 20000 in
theorem ggX7_reckon_X7_reckonTwo : GoodIn wsX7_reckon wsX7_reckonTwo := goodIn_r _ [67, 14, 15, 16, 17, 4, 18, 1, 19, 20, 21, 22, 23, 24, 25, 26, 27, 28, 29, 30, 31, 32, 33, 34, 35, 36, 37, 38, 39, 40, 41, 42, 43, 68, 69, 70, 71, 48, 49, 72, 73, 74, 75, 76, 77, 78, 79, 80, 81, 82, 83, 84, 85, 86, 87] rfl (by decide +kernel)
set_option maxRecDepth 20000 in
theorem ggX7_reckon_X7_below : GoodIn wsX7_reckon wsX7_below := goodIn_r _ [18, 1, 19, 20, 21, 4, 22, 23, 84, 85, 86, 87] rfl (by decide +kernel)
set_option maxRecDepth 20000 in
theorem ggX7_reckon_X7_replace : GoodIn wsX7_reckon wsX7_replace := goodIn_r _ [30, 31, 32, 33, 4, 34, 1, 35, 36, 37, 38, 39, 23, 84, 85, 86, 87] rfl (by decide +kernel)
set_option maxRecDepth 20000 in
theorem ggX0_operate_X0_biasOf : GoodIn wsX0_operate wsX0_biasOf := goodIn_r _ [8, 9, 10, 11, 12, 13, 14, 15, 16, 344, 345, 346, 347, 348, 349] rfl (by decide +kernel)
set_option maxRecDepth 20000 in
theorem ggX0_operate_X4_call : GoodIn wsX0_operate wsX4_call := goodIn_r _ [22, 23, 24, 25, 26, 27, 28, 29, 30, 31, 32, 33, 34, 35, 36, 37, 38, 39, 40, 41, 42, 43, 44, 45, 46, 47, 48, 49, 50, 51, 52, 14, 53, 16, 54, 55, 56, 57, 58, 59, 60, 61, 62, 63, 64, 65, 66, 67, 68, 69, 70, 71, 72, 73, 74, 75, 76, 77, 78, 79, 80, 81, 82, 302, 303, 304, 305, 306, 307, 308, 309, 310, 311, 312, 313, 314, 315, 316, 317, 318, 319, 320, 321, 322, 323, 324, 325, 326, 327, 328, 329, 330, 331, 332, 333, 334, 335, 336, 350, 351, 352, 353, 344, 345, 346, 347, 348, 349, 354, 355] rfl (by decide +kernel)
set_option maxRecDepth 20000 in
theorem ggX0_operate_X4_goBack : GoodIn wsX0_operate wsX4_goBack := goodIn_r _ [87, 24, 25, 26, 27, 28, 29, 30, 302, 303, 304, 305, 306, 307, 308, 309, 310, 311, 312, 313, 314, 315, 316, 317, 318, 319, 320, 321, 322, 323, 324, 325, 326, 327, 328, 329, 330, 331, 332, 333, 334, 335, 336] rfl (by decide +kernel)
set_option maxRecDepth 20000 in
theorem ggX0_operate_X0_mayTellWidth : GoodIn wsX0_operate wsX0_mayTellWidth := goodIn_r _ [163] rfl (by decide +kernel)
set_option maxRecDepth 20000 in
theorem ggX0_operate_X0_linesAndCurves : GoodIn wsX0_operate wsX0_linesAndCurves := goodIn_r _ [243, 3, 4, 244, 245, 246, 7, 247, 174, 32, 33, 34, 35, 36, 248, 249, 250, 251, 200, 201, 187, 46, 47, 48, 49, 252, 253, 254, 205, 255, 220, 221, 207, 212, 213, 214, 215, 216, 217, 218, 219, 256, 257, 258, 259, 21, 260, 261, 23, 262, 263, 264, 265, 266, 267, 268, 269, 270, 271, 272, 273, 274, 275, 276, 277, 278, 279, 280, 281, 282, 283, 284, 31, 285, 286, 287, 288, 289, 290, 291, 292, 293, 294, 295, 296, 297, 103, 104, 105, 302, 303, 304, 305, 306, 307, 308, 309, 310, 311, 312, 313, 314, 315, 316, 317, 318, 319, 320, 321, 322, 323, 324, 325, 326, 327, 328, 329, 330, 331, 332, 333, 334, 335, 336, 350, 351, 352, 353, 356, 357, 358, 359, 360, 361, 362] rfl (by decide +kernel)
set_option maxRecDepth 20000 in
theorem ggX0_operate_X7_clear : GoodIn wsX0_operate wsX7_clear := goodIn_r _ [301, 36, 350, 351, 352, 353] rfl (by decide +kernel)
set_option maxRecDepth 20000 in
theorem ggX0_operate_X0_hintOrMove : GoodIn wsX0_operate wsX0_hintOrMove := goodIn_r _ [167, 168, 169, 170, 7, 171, 3, 4, 172, 173, 174, 32, 33, 34, 35, 36, 175, 176, 177, 178, 179, 180, 181, 182, 183, 1, 2, 184, 185, 186, 187, 46, 47, 48, 49, 188, 189, 190, 191, 21, 192, 28, 30, 193, 194, 104, 195, 196, 197, 198, 199, 200, 201, 202, 203, 204, 205, 206, 207, 208, 209, 210, 211, 212, 213, 214, 215, 216, 217, 218, 219, 220, 221, 222, 223, 224, 225, 226, 227, 228, 229, 230, 231, 232, 233, 234, 235, 236, 237, 238, 239, 302, 303, 304, 305, 306, 307, 308, 309, 310, 311, 312, 313, 314, 315, 316, 317, 318, 319, 320, 321, 322, 323, 324, 325, 326, 327, 328, 329, 330, 331, 332, 333, 334, 335, 336, 350, 351, 352, 353, 337, 338, 339, 340, 341, 342, 343, 356, 357, 358, 359, 360, 361, 362] rfl (by decide +kernel)
set_option maxRecDepth 20000 in
theorem ggX0_operate_X0_isFlex : GoodIn wsX0_operate wsX0_isFlex := goodIn_r _ [90] rfl (by decide +kernel)
set_option maxRecDepth 20000 in
theorem ggX0_operate_X7_reckon : GoodIn wsX0_operate wsX7_reckon := goodIn_r _ [94, 36, 95, 96, 34, 97, 98, 99, 100, 101, 102, 103, 104, 105, 106, 41, 42, 43, 44, 45, 46, 47, 48, 49, 107, 108, 109, 110, 111, 112, 113, 114, 57, 58, 59, 115, 116, 117, 118, 119, 120, 38, 39, 40, 121, 122, 123, 124, 125, 126, 127, 128, 129, 130, 131, 132, 133, 134, 135, 136, 137, 138, 139, 140, 141, 142, 143, 144, 145, 146, 147, 148, 149, 150, 151, 152, 153, 154, 155, 156, 157, 158, 159, 160, 350, 351, 352, 353] rfl (by decide +kernel)
set_option maxRecDepth 20000 in
theorem ggX4_run_X0_prepare : GoodIn wsX4_run wsX0_prepare := goodIn_r _ [45, 46, 47, 48, 49, 50, 51, 52, 53, 54, 55, 56, 57, 58, 59, 60, 61, 62, 63, 64, 477, 478, 479, 480, 481, 482, 483, 484, 485, 486, 487, 488, 489, 490, 491, 492, 493, 494, 495, 496, 497, 498, 499, 500, 501, 502, 503, 504, 505, 506, 507, 508, 509, 510, 511, 527, 528, 529, 530] rfl (by decide +kernel)
set_option maxRecDepth 20000 in
theorem ggX4_run_X0_operate : GoodIn wsX4_run wsX0_operate := goodIn_r _ [128, 129, 130, 46, 47, 131, 132, 44, 133, 134, 135, 136, 137, 138, 13, 139, 21, 140, 141, 142, 143, 79, 144, 101, 6, 145, 2, 146, 3, 147, 4, 148, 149, 150, 52, 151, 54, 152, 153, 154, 155, 156, 157, 158, 159, 160, 161, 162, 163, 121, 164, 18, 19, 20, 15, 16, 165, 166, 167, 168, 10, 11, 12, 14, 17, 22, 23, 24, 25, 26, 27, 28, 29, 30, 31, 32, 33, 34, 35, 36, 37, 38, 39, 169, 170, 171, 172, 173, 174, 175, 176, 177, 178, 179, 180, 181, 182, 183, 184, 185, 186, 187, 188, 189, 57, 190, 191, 192, 193, 194, 195, 196, 197, 198, 199, 200, 118, 119, 120, 59, 201, 202, 203, 204, 205, 206, 60, 207, 208, 209, 210, 211, 212, 213, 214, 215, 216, 217, 218, 219, 220, 221, 222, 223, 224, 225, 226, 227, 228, 229, 230, 231, 232, 233, 234, 235, 236, 237, 238, 239, 240, 241, 242, 243, 244, 245, 246, 247, 248, 249, 250, 251, 252, 253, 254, 255, 256, 257, 258, 48, 259, 260, 261, 262, 263, 264, 265, 266, 267, 268, 269, 270, 271, 272, 56, 58, 273, 274, 275, 276, 277, 278, 279, 280, 281, 282, 283, 284, 285, 286, 287, 288, 289, 290, 291, 292, 293, 294, 295, 296, 297, 298, 299, 300, 301, 302, 303, 304, 305, 306, 307, 308, 309, 310, 311, 5, 312, 313, 314, 315, 316, 317, 318, 319, 320, 321, 322, 323, 324, 325, 326, 327, 328, 329, 330, 331, 332, 333, 334, 335, 336, 337, 338, 339, 340, 341, 342, 343, 344, 345, 346, 347, 348, 349, 350, 351, 352, 353, 354, 355, 356, 357, 358, 359, 360, 361, 362, 363, 364, 365, 366, 367, 368, 369, 370, 371, 372, 373, 374, 375, 376, 377, 477, 478, 479, 480, 481, 482, 483, 484, 485, 486, 487, 488, 489, 490, 491, 492, 493, 494, 495, 496, 497, 498, 499, 500, 501, 502, 503, 504, 505, 506, 507, 508, 509, 510, 511, 512, 513, 514, 515, 516, 517, 518, 519, 520, 521, 522, 523, 524, 527, 528, 529, 530, 525, 526, 531, 532, 533, 534, 535, 536, 537] rfl (by decide +kernel)
set_option maxRecDepth 20000 in
theorem ggX11_draw_X8_has : GoodIn wsX11_draw wsX8_has := goodIn_r _ [10, 11, 12, 13, 515, 516, 517, 518, 519, 520] rfl (by decide +kernel)
set_option maxRecDepth 20000 in
theorem ggX11_draw_X6_begin : GoodIn wsX11_draw wsX6_begin := goodIn_r _ [18, 19, 20, 21, 22, 23, 24, 25, 26, 27, 28, 29, 30, 31, 17, 32, 33, 34, 521, 522, 523, 524, 525, 526, 527] rfl (by decide +kernel)
set_option maxRecDepth 20000 in
theorem ggX11_draw_X4_run : GoodIn wsX11_draw wsX4_run := goodIn_r _ [40, 41, 42, 43, 44, 45, 46, 47, 48, 49, 50, 51, 52, 9, 53, 12, 13, 54, 7, 8, 10, 11, 55, 56, 57, 58, 59, 60, 61, 62, 63, 64, 65, 66, 67, 68, 69, 70, 71, 72, 73, 74, 75, 76, 77, 78, 79, 80, 81, 82, 83, 84, 85, 86, 87, 88, 21, 22, 23, 89, 90, 91, 92, 93, 94, 95, 96, 97, 98, 99, 100, 101, 102, 103, 104, 105, 106, 107, 108, 39, 109, 110, 111, 112, 113, 114, 115, 116, 117, 118, 119, 120, 121, 122, 123, 124, 125, 126, 127, 128, 129, 130, 131, 132, 133, 134, 135, 136, 137, 138, 139, 140, 141, 142, 143, 144, 145, 146, 147, 148, 149, 150, 151, 152, 153, 154, 155, 156, 157, 158, 159, 160, 161, 162, 163, 164, 165, 166, 167, 168, 169, 170, 171, 172, 173, 174, 175, 176, 177, 178, 179, 180, 181, 182, 183, 184, 185, 186, 187, 188, 189, 190, 191, 192, 193, 194, 195, 196, 197, 198, 199, 200, 201, 202, 203, 204, 205, 206, 207, 208, 209, 210, 211, 212, 213, 214, 215, 216, 217, 218, 219, 220, 221, 222, 223, 224, 225, 226, 227, 228, 229, 230, 231, 232, 233, 234, 235, 236, 237, 238, 239, 240, 241, 242, 243, 244, 245, 246, 247, 248, 249, 250, 251, 252, 253, 254, 255, 256, 257, 258, 259, 260, 261, 262, 263, 264, 265, 266, 267, 268, 269, 270, 271, 272, 273, 274, 275, 276, 277, 278, 279, 280, 281, 282, 283, 284, 285, 286, 287, 288, 289, 290, 291, 292, 293, 294, 295, 296, 297, 298, 299, 300, 301, 302, 303, 304, 305, 306, 307, 308, 309, 310, 17, 311, 28, 312, 313, 314, 315, 316, 317, 318, 319, 19, 27, 320, 321, 33, 34, 322, 323, 324, 325, 326, 327, 328, 329, 330, 331, 332, 333, 334, 335, 336, 337, 338, 339, 340, 341, 342, 343, 344, 345, 346, 347, 348, 349, 350, 351, 352, 353, 354, 355, 356, 357, 358, 359, 360, 361, 362, 363, 364, 365, 366, 367, 368, 369, 370, 371, 372, 373, 374, 375, 376, 377, 378, 379, 380, 381, 382, 383, 384, 385, 386, 387, 388, 389, 390, 391, 392, 393, 394, 395, 396, 397, 398, 399, 400, 401, 402, 403, 404, 405, 406, 407, 408, 409, 410, 411, 412, 413, 414, 415, 416, 417, 418, 419, 420, 421, 422, 423, 424, 425, 426, 427, 428, 429, 430, 431, 432, 433, 434, 435, 436, 437, 438, 439, 440, 441, 442, 443, 444, 445, 446, 447, 448, 449, 450, 451, 452, 453, 454, 455, 456, 457, 458, 459, 460, 461, 462, 463, 464, 465, 466, 467, 468, 469, 470, 471, 472, 473, 474, 475, 476, 477, 478, 479, 480, 481, 482, 483, 484, 485, 486, 487, 488, 489, 490, 491, 492, 30, 31, 32, 493, 494, 495, 496, 528, 529, 530, 531, 532, 533, 534, 535, 536, 537, 538, 539, 540, 541, 542, 543, 544, 545, 546, 547, 548, 549, 550, 551, 552, 553, 554, 555, 556, 557, 558, 559, 560, 561, 562, 508, 509, 510, 511, 512, 513, 514, 515, 516, 517, 518, 519, 520, 563, 564, 565, 566, 567, 568, 521, 522, 523, 524, 525, 526, 527] rfl (by decide +kernel)
set_option maxRecDepth 20000 in
theorem ggX11_drawn_X6_size : GoodIn wsX11_drawn wsX6_size := goodIn_r _ [9, 10, 65, 66, 67, 68, 69, 70, 71] rfl (by decide +kernel)
set_option maxRecDepth 20000 in
theorem ggX11_drawn_X4_bytesDone : GoodIn wsX11_drawn wsX4_bytesDone := goodIn_r _ [16, 17, 18, 30, 31, 32, 33, 34, 35, 36, 37, 38, 39, 40, 41, 42, 43, 44, 45, 46, 47, 48, 49, 50, 51, 52, 53, 54, 55, 56, 57, 58, 59, 60, 61, 62, 63, 64] rfl (by decide +kernel)
set_option maxRecDepth 20000 in
theorem gX5_addWord_X5_add : GoodIn wsX5_addWord (wsV RX5 19 RX5 yX5_add wsX5_add) := goodIn_app (goodIn_of _ (by decide +kernel)) ggX5_addWord_X5_add
set_option maxRecDepth 20000 in
theorem gX11_feed_X5_size : GoodIn wsX11_feed (wsV RX11 75 RX5 yX5_size wsX5_size) := goodIn_app (goodIn_of _ (by decide +kernel)) ggX11_feed_X5_size
set_option maxRecDepth 20000 in
theorem gX11_feed_X5_addWord : GoodIn wsX11_feed (wsV RX11 79 RX5 yX5_addWord wsX5_addWord) := goodIn_app (goodIn_of _ (by decide +kernel)) ggX11_feed_X5_addWord
set_option maxRecDepth 20000 in
theorem gX11_end_X5_size : GoodIn wsX11_end (wsV RX11 75 RX5 yX5_size wsX5_size) := goodIn_app (goodIn_of _ (by decide +kernel)) ggX11_end_X5_size
set_option maxRecDepth 20000 in
theorem gX11_end_X5_cut : GoodIn wsX11_end (wsV RX11 82 RX5 yX5_cut wsX5_cut) := goodIn_app (goodIn_of _ (by decide +kernel)) ggX11_end_X5_cut
set_option maxRecDepth 20000 in
theorem gX11_font_X8_size : GoodIn wsX11_font (wsV RX11 98 RX8 yX8_size wsX8_size) := goodIn_app (goodIn_of _ (by decide +kernel)) ggX11_font_X8_size
set_option maxRecDepth 20000 in
theorem gX11_part_X6_kindOf : GoodIn wsX11_part (wsV RX11 158 RX6 yX6_kindOf wsX6_kindOf) := goodIn_app (goodIn_of _ (by decide +kernel)) ggX11_part_X6_kindOf
set_option maxRecDepth 20000 in
theorem gX6_pointOf_X6_kindOf : GoodIn wsX6_pointOf (wsV RX6 43 RX6 yX6_kindOf wsX6_kindOf) := goodIn_app (goodIn_of _ (by decide +kernel)) ggX6_pointOf_X6_kindOf
set_option maxRecDepth 20000 in
theorem gX11_at_X6_pointOf : GoodIn wsX11_at (wsV RX11 161 RX6 yX6_pointOf wsX6_pointOf) := goodIn_app (goodIn_of _ (by decide +kernel)) ggX11_at_X6_pointOf
set_option maxRecDepth 20000 in
theorem gX5_addAll_X5_get : GoodIn wsX5_addAll (wsV RX5 29 RX5 yX5_get wsX5_get) := goodIn_app (goodIn_of _ (by decide +kernel)) ggX5_addAll_X5_get
set_option maxRecDepth 20000 in
theorem gX5_addAll_X5_add : GoodIn wsX5_addAll (wsV RX5 19 RX5 yX5_add wsX5_add) := goodIn_app (goodIn_of _ (by decide +kernel)) ggX5_addAll_X5_add
set_option maxRecDepth 20000 in
theorem gX5_encipher_X5_nextKey : GoodIn wsX5_encipher (va_wsS RX5 33 yX5_nextKey wsX5_nextKey) := goodIn_app (goodIn_of _ (by decide +kernel)) ggX5_encipher_X5_nextKey
set_option maxRecDepth 20000 in
theorem gX11_cipher_X11_isKeyAndNumber : GoodIn wsX11_cipher (va_wsS RX11 165 yX11_isKeyAndNumber wsX11_isKeyAndNumber) := goodIn_app (goodIn_of _ (by decide +kernel)) ggX11_cipher_X11_isKeyAndNumber
set_option maxRecDepth 20000 in
theorem gX11_cipher_X5_cut : GoodIn wsX11_cipher (wsV RX11 82 RX5 yX5_cut wsX5_cut) := goodIn_app (goodIn_of _ (by decide +kernel)) ggX11_cipher_X5_cut
set_option maxRecDepth 20000 in
theorem gX11_cipher_X5_addAll : GoodIn wsX11_cipher (wsV RX11 172 RX5 yX5_addAll wsX5_addAll) := goodIn_app (goodIn_of _ (by decide +kernel)) ggX11_cipher_X5_addAll
set_option maxRecDepth 20000 in
theorem gX11_cipher_X5_encipher : GoodIn wsX11_cipher (wsV RX11 176 RX5 yX5_encipher wsX5_encipher) := goodIn_app (goodIn_of _ (by decide +kernel)) ggX11_cipher_X5_encipher
set_option maxRecDepth 20000 in
theorem gX11_cipher_X5_size : GoodIn wsX11_cipher (wsV RX11 75 RX5 yX5_size wsX5_size) := goodIn_app (goodIn_of _ (by decide +kernel)) ggX11_cipher_X5_size
set_option maxRecDepth 20000 in
theorem gX11_cipher_X5_add : GoodIn wsX11_cipher (wsV RX11 169 RX5 yX5_add wsX5_add) := goodIn_app (goodIn_of _ (by decide +kernel)) ggX11_cipher_X5_add
set_option maxRecDepth 20000 in
theorem gX5_decipher_X5_nextKey : GoodIn wsX5_decipher (va_wsS RX5 33 yX5_nextKey wsX5_nextKey) := goodIn_app (goodIn_of _ (by decide +kernel)) ggX5_decipher_X5_nextKey
set_option maxRecDepth 20000 in
theorem gX11_plain_X11_isKeyAndNumber : GoodIn wsX11_plain (va_wsS RX11 165 yX11_isKeyAndNumber wsX11_isKeyAndNumber) := goodIn_app (goodIn_of _ (by decide +kernel)) ggX11_plain_X11_isKeyAndNumber
set_option maxRecDepth 20000 in
theorem gX11_plain_X5_size : GoodIn wsX11_plain (wsV RX11 75 RX5 yX5_size wsX5_size) := goodIn_app (goodIn_of _ (by decide +kernel)) ggX11_plain_X5_size
set_option maxRecDepth 20000 in
theorem gX11_plain_X5_decipher : GoodIn wsX11_plain (wsV RX11 179 RX5 yX5_decipher wsX5_decipher) := goodIn_app (goodIn_of _ (by decide +kernel)) ggX11_plain_X5_decipher
set_option maxRecDepth 20000 in
theorem gX11_plain_X5_cut : GoodIn wsX11_plain (wsV RX11 82 RX5 yX5_cut wsX5_cut) := goodIn_app (goodIn_of _ (by decide +kernel)) ggX11_plain_X5_cut
set_option maxRecDepth 20000 in
theorem gX11_plain_X5_addAll : GoodIn wsX11_plain (wsV RX11 172 RX5 yX5_addAll wsX5_addAll) := goodIn_app (goodIn_of _ (by decide +kernel)) ggX11_plain_X5_addAll
set_option maxRecDepth 20000 in
theorem gX11_octet_X5_get : GoodIn wsX11_octet (wsV RX11 131 RX5 yX5_get wsX5_get) := goodIn_app (goodIn_of _ (by decide +kernel)) ggX11_octet_X5_get
set_option maxRecDepth 20000 in
theorem gX11_back_X5_size : GoodIn wsX11_back (wsV RX11 75 RX5 yX5_size wsX5_size) := goodIn_app (goodIn_of _ (by decide +kernel)) ggX11_back_X5_size
set_option maxRecDepth 20000 in
theorem gX11_back_X5_addAll : GoodIn wsX11_back (wsV RX11 172 RX5 yX5_addAll wsX5_addAll) := goodIn_app (goodIn_of _ (by decide +kernel)) ggX11_back_X5_addAll
set_option maxRecDepth 20000 in
theorem gX11_back_X5_cut : GoodIn wsX11_back (wsV RX11 82 RX5 yX5_cut wsX5_cut) := goodIn_app (goodIn_of _ (by decide +kernel)) ggX11_back_X5_cut
set_option maxRecDepth 20000 in
theorem gX11_count_X5_size : GoodIn wsX11_count (wsV RX11 75 RX5 yX5_size wsX5_size) := goodIn_app (goodIn_of _ (by decide +kernel)) ggX11_count_X5_size
set_option maxRecDepth 20000 in
theorem gX8_objectAt_X5_get : GoodIn wsX8_objectAt (wsV RX8 63 RX5 yX5_get wsX5_get) := goodIn_app (goodIn_of _ (by decide +kernel)) ggX8_objectAt_X5_get
set_option maxRecDepth 20000 in
theorem gX8_finishOf_X8_has : GoodIn wsX8_finishOf (wsV RX8 55 RX8 yX8_has wsX8_has) := goodIn_app (goodIn_of _ (by decide +kernel)) ggX8_finishOf_X8_has
set_option maxRecDepth 20000 in
theorem gX8_finishOf_X8_objectAt : GoodIn wsX8_finishOf (wsV RX8 59 RX8 yX8_objectAt wsX8_objectAt) := goodIn_app (goodIn_of _ (by decide +kernel)) ggX8_finishOf_X8_objectAt
set_option maxRecDepth 20000 in
theorem gX8_beginOf_X8_has : GoodIn wsX8_beginOf (wsV RX8 55 RX8 yX8_has wsX8_has) := goodIn_app (goodIn_of _ (by decide +kernel)) ggX8_beginOf_X8_has
set_option maxRecDepth 20000 in
theorem gX8_beginOf_X8_objectAt : GoodIn wsX8_beginOf (wsV RX8 59 RX8 yX8_objectAt wsX8_objectAt) := goodIn_app (goodIn_of _ (by decide +kernel)) ggX8_beginOf_X8_objectAt
set_option maxRecDepth 20000 in
theorem gX11_code_X3_shelfOf : GoodIn wsX11_code (wsV RX11 113 RX3 yX3_shelfOf wsX3_shelfOf) := goodIn_app (goodIn_of _ (by decide +kernel)) ggX11_code_X3_shelfOf
set_option maxRecDepth 20000 in
theorem gX11_code_X8_has : GoodIn wsX11_code (wsV RX11 117 RX8 yX8_has wsX8_has) := goodIn_app (goodIn_of _ (by decide +kernel)) ggX11_code_X8_has
set_option maxRecDepth 20000 in
theorem gX11_code_X8_finishOf : GoodIn wsX11_code (wsV RX11 121 RX8 yX8_finishOf wsX8_finishOf) := goodIn_app (goodIn_of _ (by decide +kernel)) ggX11_code_X8_finishOf
set_option maxRecDepth 20000 in
theorem gX11_code_X8_beginOf : GoodIn wsX11_code (wsV RX11 125 RX8 yX8_beginOf wsX8_beginOf) := goodIn_app (goodIn_of _ (by decide +kernel)) ggX11_code_X8_beginOf
set_option maxRecDepth 20000 in
theorem gX11_code_X5_get : GoodIn wsX11_code (wsV RX11 131 RX5 yX5_get wsX5_get) := goodIn_app (goodIn_of _ (by decide +kernel)) ggX11_code_X5_get
set_option maxRecDepth 20000 in
theorem gJ7_fill_fda19_J7_rangeCheck_23922 : GoodIn wsJ7_fill_fda19 (va_wsS RJ7 13 yJ7_rangeCheck_23922 wsJ7_rangeCheck_23922) := goodIn_app (goodIn_of _ (by decide +kernel)) ggJ7_fill_fda19_J7_rangeCheck_23922
set_option maxRecDepth 20000 in
theorem gX8_lay_J7_fill_fda19 : GoodIn wsX8_lay (va_wsS RX8 41 yJ7_fill_fda19 wsJ7_fill_fda19) := goodIn_app (goodIn_of _ (by decide +kernel)) ggX8_lay_J7_fill_fda19
set_option maxRecDepth 20000 in
theorem gX3_begin_X5_cut : GoodIn wsX3_begin (wsV RX3 45 RX5 yX5_cut wsX5_cut) := goodIn_app (goodIn_of _ (by decide +kernel)) ggX3_begin_X5_cut
set_option maxRecDepth 20000 in
theorem gX3_begin_X5_addAll : GoodIn wsX3_begin (wsV RX3 48 RX5 yX5_addAll wsX5_addAll) := goodIn_app (goodIn_of _ (by decide +kernel)) ggX3_begin_X5_addAll
set_option maxRecDepth 20000 in
theorem gX3_begin_X8_lay : GoodIn wsX3_begin (wsV RX3 51 RX8 yX8_lay wsX8_lay) := goodIn_app (goodIn_of _ (by decide +kernel)) ggX3_begin_X8_lay
set_option maxRecDepth 20000 in
theorem gX1_take_X1_wrong : GoodIn wsX1_take (wsV RX1 88 RX1 yX1_wrong wsX1_wrong) := goodIn_app (goodIn_of _ (by decide +kernel)) ggX1_take_X1_wrong
set_option maxRecDepth 20000 in
theorem gX1_take_X5_get : GoodIn wsX1_take (wsV RX1 98 RX5 yX5_get wsX5_get) := goodIn_app (goodIn_of _ (by decide +kernel)) ggX1_take_X5_get
set_option maxRecDepth 20000 in
theorem gX1_take_X5_size : GoodIn wsX1_take (wsV RX1 92 RX5 yX5_size wsX5_size) := goodIn_app (goodIn_of _ (by decide +kernel)) ggX1_take_X5_size
set_option maxRecDepth 20000 in
theorem gX1_want_X1_wrong : GoodIn wsX1_want (wsV RX1 88 RX1 yX1_wrong wsX1_wrong) := goodIn_app (goodIn_of _ (by decide +kernel)) ggX1_want_X1_wrong
set_option maxRecDepth 20000 in
theorem gX1_takeHeader_X1_take : GoodIn wsX1_takeHeader (wsV RX1 104 RX1 yX1_take wsX1_take) := goodIn_app (goodIn_of _ (by decide +kernel)) ggX1_takeHeader_X1_take
set_option maxRecDepth 20000 in
theorem gX1_takeHeader_X1_want : GoodIn wsX1_takeHeader (wsV RX1 107 RX1 yX1_want wsX1_want) := goodIn_app (goodIn_of _ (by decide +kernel)) ggX1_takeHeader_X1_want
set_option maxRecDepth 20000 in
theorem gX1_takeNumber_X1_take : GoodIn wsX1_takeNumber (wsV RX1 104 RX1 yX1_take wsX1_take) := goodIn_app (goodIn_of _ (by decide +kernel)) ggX1_takeNumber_X1_take
set_option maxRecDepth 20000 in
theorem gX1_takeIndex_X1_takeNumber : GoodIn wsX1_takeIndex (wsV RX1 111 RX1 yX1_takeNumber wsX1_takeNumber) := goodIn_app (goodIn_of _ (by decide +kernel)) ggX1_takeIndex_X1_takeNumber
set_option maxRecDepth 20000 in
theorem gX1_takeIndex_X1_want : GoodIn wsX1_takeIndex (wsV RX1 107 RX1 yX1_want wsX1_want) := goodIn_app (goodIn_of _ (by decide +kernel)) ggX1_takeIndex_X1_want
set_option maxRecDepth 20000 in
theorem gX1_takeIndex_X1_take : GoodIn wsX1_takeIndex (wsV RX1 104 RX1 yX1_take wsX1_take) := goodIn_app (goodIn_of _ (by decide +kernel)) ggX1_takeIndex_X1_take
set_option maxRecDepth 20000 in
theorem gX1_takeIndex_X5_size : GoodIn wsX1_takeIndex (wsV RX1 92 RX5 yX5_size wsX5_size) := goodIn_app (goodIn_of _ (by decide +kernel)) ggX1_takeIndex_X5_size
set_option maxRecDepth 20000 in
theorem gX1_takeIndex_X1_wrong : GoodIn wsX1_takeIndex (wsV RX1 88 RX1 yX1_wrong wsX1_wrong) := goodIn_app (goodIn_of _ (by decide +kernel)) ggX1_takeIndex_X1_wrong
set_option maxRecDepth 20000 in
theorem gX1_shelve_X8_layIndex : GoodIn wsX1_shelve (wsV RX1 124 RX8 yX8_layIndex wsX8_layIndex) := goodIn_app (goodIn_of _ (by decide +kernel)) ggX1_shelve_X8_layIndex
set_option maxRecDepth 20000 in
theorem gX2_clear_J7_fill_53178 : GoodIn wsX2_clear (va_wsS RX2 32 yJ7_fill_53178 wsJ7_fill_53178) := goodIn_app (goodIn_of _ (by decide +kernel)) ggX2_clear_J7_fill_53178
set_option maxRecDepth 20000 in
theorem gX2_add_X2_isFull : GoodIn wsX2_add (wsV RX2 38 RX2 yX2_isFull wsX2_isFull) := goodIn_app (goodIn_of _ (by decide +kernel)) ggX2_add_X2_isFull
set_option maxRecDepth 20000 in
theorem gX1_takeReal_X1_take : GoodIn wsX1_takeReal (wsV RX1 104 RX1 yX1_take wsX1_take) := goodIn_app (goodIn_of _ (by decide +kernel)) ggX1_takeReal_X1_take
set_option maxRecDepth 20000 in
theorem gX1_takeReal_X1_want : GoodIn wsX1_takeReal (wsV RX1 107 RX1 yX1_want wsX1_want) := goodIn_app (goodIn_of _ (by decide +kernel)) ggX1_takeReal_X1_want
set_option maxRecDepth 20000 in
theorem gX2_addReal_X2_add : GoodIn wsX2_addReal (wsV RX2 42 RX2 yX2_add wsX2_add) := goodIn_app (goodIn_of _ (by decide +kernel)) ggX2_addReal_X2_add
set_option maxRecDepth 20000 in
theorem gX2_tell_X2_slotOf : GoodIn wsX2_tell (va_wsS RX2 46 yX2_slotOf wsX2_slotOf) := goodIn_app (goodIn_of _ (by decide +kernel)) ggX2_tell_X2_slotOf
set_option maxRecDepth 20000 in
theorem gX1_takeOperandOrOperator_X1_take : GoodIn wsX1_takeOperandOrOperator (wsV RX1 104 RX1 yX1_take wsX1_take) := goodIn_app (goodIn_of _ (by decide +kernel)) ggX1_takeOperandOrOperator_X1_take
set_option maxRecDepth 20000 in
theorem gX1_takeOperandOrOperator_X2_isFull : GoodIn wsX1_takeOperandOrOperator (wsV RX1 159 RX2 yX2_isFull wsX2_isFull) := goodIn_app (goodIn_of _ (by decide +kernel)) ggX1_takeOperandOrOperator_X2_isFull
set_option maxRecDepth 20000 in
theorem gX1_takeOperandOrOperator_X1_isOperand : GoodIn wsX1_takeOperandOrOperator (va_wsS RX1 162 yX1_isOperand wsX1_isOperand) := goodIn_app (goodIn_of _ (by decide +kernel)) ggX1_takeOperandOrOperator_X1_isOperand
set_option maxRecDepth 20000 in
theorem gX1_takeOperandOrOperator_X1_want : GoodIn wsX1_takeOperandOrOperator (wsV RX1 107 RX1 yX1_want wsX1_want) := goodIn_app (goodIn_of _ (by decide +kernel)) ggX1_takeOperandOrOperator_X1_want
set_option maxRecDepth 20000 in
theorem gX1_takeOperandOrOperator_X11_bytesBehind_n171 : GoodIn wsX1_takeOperandOrOperator (wsX11_bytesBehind) := ggX1_takeOperandOrOperator_X11_bytesBehind
set_option maxRecDepth 20000 in
theorem gX1_takeOperandOrOperator_X1_takeNumber : GoodIn wsX1_takeOperandOrOperator (wsV RX1 111 RX1 yX1_takeNumber wsX1_takeNumber) := goodIn_app (goodIn_of _ (by decide +kernel)) ggX1_takeOperandOrOperator_X1_takeNumber
set_option maxRecDepth 20000 in
theorem gX1_takeOperandOrOperator_X11_wholeNumber_n174 : GoodIn wsX1_takeOperandOrOperator (wsX11_wholeNumber) := ggX1_takeOperandOrOperator_X11_wholeNumber
set_option maxRecDepth 20000 in
theorem gX1_takeOperandOrOperator_X2_add : GoodIn wsX1_takeOperandOrOperator (wsV RX1 178 RX2 yX2_add wsX2_add) := goodIn_app (goodIn_of _ (by decide +kernel)) ggX1_takeOperandOrOperator_X2_add
set_option maxRecDepth 20000 in
theorem gX1_takeOperandOrOperator_X1_takeReal : GoodIn wsX1_takeOperandOrOperator (wsV RX1 165 RX1 yX1_takeReal wsX1_takeReal) := goodIn_app (goodIn_of _ (by decide +kernel)) ggX1_takeOperandOrOperator_X1_takeReal
set_option maxRecDepth 20000 in
theorem gX1_takeOperandOrOperator_X2_addReal : GoodIn wsX1_takeOperandOrOperator (wsV RX1 168 RX2 yX2_addReal wsX2_addReal) := goodIn_app (goodIn_of _ (by decide +kernel)) ggX1_takeOperandOrOperator_X2_addReal
set_option maxRecDepth 20000 in
theorem gX1_takeOperandOrOperator_X2_tell : GoodIn wsX1_takeOperandOrOperator (wsV RX1 156 RX2 yX2_tell wsX2_tell) := goodIn_app (goodIn_of _ (by decide +kernel)) ggX1_takeOperandOrOperator_X2_tell
set_option maxRecDepth 20000 in
theorem gX1_takeDict_X2_clear : GoodIn wsX1_takeDict (wsV RX1 146 RX2 yX2_clear wsX2_clear) := goodIn_app (goodIn_of _ (by decide +kernel)) ggX1_takeDict_X2_clear
set_option maxRecDepth 20000 in
theorem gX1_takeDict_X2_isBetween : GoodIn wsX1_takeDict (wsV RX1 152 RX2 yX2_isBetween wsX2_isBetween) := goodIn_app (goodIn_of _ (by decide +kernel)) ggX1_takeDict_X2_isBetween
set_option maxRecDepth 20000 in
theorem gX1_takeDict_X1_want : GoodIn wsX1_takeDict (wsV RX1 107 RX1 yX1_want wsX1_want) := goodIn_app (goodIn_of _ (by decide +kernel)) ggX1_takeDict_X1_want
set_option maxRecDepth 20000 in
theorem gX1_takeDict_X1_takeOperandOrOperator : GoodIn wsX1_takeDict (wsV RX1 149 RX1 yX1_takeOperandOrOperator wsX1_takeOperandOrOperator) := goodIn_app (goodIn_of _ (by decide +kernel)) ggX1_takeDict_X1_takeOperandOrOperator
set_option maxRecDepth 20000 in
theorem gX2_isTold_X2_slotOf : GoodIn wsX2_isTold (va_wsS RX2 46 yX2_slotOf wsX2_slotOf) := goodIn_app (goodIn_of _ (by decide +kernel)) ggX2_isTold_X2_slotOf
set_option maxRecDepth 20000 in
theorem gX2_fits_X2_slotOf : GoodIn wsX2_fits (va_wsS RX2 46 yX2_slotOf wsX2_slotOf) := goodIn_app (goodIn_of _ (by decide +kernel)) ggX2_fits_X2_slotOf
set_option maxRecDepth 20000 in
theorem gX2_first_X2_isTold : GoodIn wsX2_first (wsV RX2 50 RX2 yX2_isTold wsX2_isTold) := goodIn_app (goodIn_of _ (by decide +kernel)) ggX2_first_X2_isTold
set_option maxRecDepth 20000 in
theorem gX2_first_X2_slotOf : GoodIn wsX2_first (va_wsS RX2 46 yX2_slotOf wsX2_slotOf) := goodIn_app (goodIn_of _ (by decide +kernel)) ggX2_first_X2_slotOf
set_option maxRecDepth 20000 in
theorem gX1_takeTop_X1_takeDict : GoodIn wsX1_takeTop (wsV RX1 130 RX1 yX1_takeDict wsX1_takeDict) := goodIn_app (goodIn_of _ (by decide +kernel)) ggX1_takeTop_X1_takeDict
set_option maxRecDepth 20000 in
theorem gX1_takeTop_X2_isTold : GoodIn wsX1_takeTop (wsV RX1 78 RX2 yX2_isTold wsX2_isTold) := goodIn_app (goodIn_of _ (by decide +kernel)) ggX1_takeTop_X2_isTold
set_option maxRecDepth 20000 in
theorem gX1_takeTop_X1_want : GoodIn wsX1_takeTop (wsV RX1 107 RX1 yX1_want wsX1_want) := goodIn_app (goodIn_of _ (by decide +kernel)) ggX1_takeTop_X1_want
set_option maxRecDepth 20000 in
theorem gX1_takeTop_X2_fits : GoodIn wsX1_takeTop (wsV RX1 133 RX2 yX2_fits wsX2_fits) := goodIn_app (goodIn_of _ (by decide +kernel)) ggX1_takeTop_X2_fits
set_option maxRecDepth 20000 in
theorem gX1_takeTop_X2_first : GoodIn wsX1_takeTop (wsV RX1 75 RX2 yX2_first wsX2_first) := goodIn_app (goodIn_of _ (by decide +kernel)) ggX1_takeTop_X2_first
set_option maxRecDepth 20000 in
theorem gX2_second_X2_isTold : GoodIn wsX2_second (wsV RX2 50 RX2 yX2_isTold wsX2_isTold) := goodIn_app (goodIn_of _ (by decide +kernel)) ggX2_second_X2_isTold
set_option maxRecDepth 20000 in
theorem gX2_second_X2_slotOf : GoodIn wsX2_second (va_wsS RX2 46 yX2_slotOf wsX2_slotOf) := goodIn_app (goodIn_of _ (by decide +kernel)) ggX2_second_X2_slotOf
set_option maxRecDepth 20000 in
theorem gX1_takePrivate_X1_wrong : GoodIn wsX1_takePrivate (wsV RX1 88 RX1 yX1_wrong wsX1_wrong) := goodIn_app (goodIn_of _ (by decide +kernel)) ggX1_takePrivate_X1_wrong
set_option maxRecDepth 20000 in
theorem gX1_takePrivate_X1_want : GoodIn wsX1_takePrivate (wsV RX1 107 RX1 yX1_want wsX1_want) := goodIn_app (goodIn_of _ (by decide +kernel)) ggX1_takePrivate_X1_want
set_option maxRecDepth 20000 in
theorem gX1_takePrivate_X1_takeDict : GoodIn wsX1_takePrivate (wsV RX1 130 RX1 yX1_takeDict wsX1_takeDict) := goodIn_app (goodIn_of _ (by decide +kernel)) ggX1_takePrivate_X1_takeDict
set_option maxRecDepth 20000 in
theorem gX1_takePrivate_X2_fits : GoodIn wsX1_takePrivate (wsV RX1 133 RX2 yX2_fits wsX2_fits) := goodIn_app (goodIn_of _ (by decide +kernel)) ggX1_takePrivate_X2_fits
set_option maxRecDepth 20000 in
theorem gX1_takePrivate_X2_first : GoodIn wsX1_takePrivate (wsV RX1 75 RX2 yX2_first wsX2_first) := goodIn_app (goodIn_of _ (by decide +kernel)) ggX1_takePrivate_X2_first
set_option maxRecDepth 20000 in
theorem gX1_takePrivate_X2_isTold : GoodIn wsX1_takePrivate (wsV RX1 78 RX2 yX2_isTold wsX2_isTold) := goodIn_app (goodIn_of _ (by decide +kernel)) ggX1_takePrivate_X2_isTold
set_option maxRecDepth 20000 in
theorem gX1_takePrivate_X1_takeIndex : GoodIn wsX1_takePrivate (wsV RX1 48 RX1 yX1_takeIndex wsX1_takeIndex) := goodIn_app (goodIn_of _ (by decide +kernel)) ggX1_takePrivate_X1_takeIndex
set_option maxRecDepth 20000 in
theorem gX1_takePrivate_X1_shelve : GoodIn wsX1_takePrivate (wsV RX1 63 RX1 yX1_shelve wsX1_shelve) := goodIn_app (goodIn_of _ (by decide +kernel)) ggX1_takePrivate_X1_shelve
set_option maxRecDepth 20000 in
theorem gX1_takePrivate_X5_size : GoodIn wsX1_takePrivate (wsV RX1 92 RX5 yX5_size wsX5_size) := goodIn_app (goodIn_of _ (by decide +kernel)) ggX1_takePrivate_X5_size
set_option maxRecDepth 20000 in
theorem gX1_parse_X3_begin : GoodIn wsX1_parse (wsV RX1 34 RX3 yX3_begin wsX3_begin) := goodIn_app (goodIn_of _ (by decide +kernel)) ggX1_parse_X3_begin
set_option maxRecDepth 20000 in
theorem gX1_parse_X1_takeHeader : GoodIn wsX1_parse (wsV RX1 45 RX1 yX1_takeHeader wsX1_takeHeader) := goodIn_app (goodIn_of _ (by decide +kernel)) ggX1_parse_X1_takeHeader
set_option maxRecDepth 20000 in
theorem gX1_parse_X1_takeIndex : GoodIn wsX1_parse (wsV RX1 48 RX1 yX1_takeIndex wsX1_takeIndex) := goodIn_app (goodIn_of _ (by decide +kernel)) ggX1_parse_X1_takeIndex
set_option maxRecDepth 20000 in
theorem gX1_parse_X1_shelve : GoodIn wsX1_parse (wsV RX1 63 RX1 yX1_shelve wsX1_shelve) := goodIn_app (goodIn_of _ (by decide +kernel)) ggX1_parse_X1_shelve
set_option maxRecDepth 20000 in
theorem gX1_parse_X1_takeTop : GoodIn wsX1_parse (wsV RX1 67 RX1 yX1_takeTop wsX1_takeTop) := goodIn_app (goodIn_of _ (by decide +kernel)) ggX1_parse_X1_takeTop
set_option maxRecDepth 20000 in
theorem gX1_parse_X2_second : GoodIn wsX1_parse (wsV RX1 71 RX2 yX2_second wsX2_second) := goodIn_app (goodIn_of _ (by decide +kernel)) ggX1_parse_X2_second
set_option maxRecDepth 20000 in
theorem gX1_parse_X2_first : GoodIn wsX1_parse (wsV RX1 75 RX2 yX2_first wsX2_first) := goodIn_app (goodIn_of _ (by decide +kernel)) ggX1_parse_X2_first
set_option maxRecDepth 20000 in
theorem gX1_parse_X2_isTold : GoodIn wsX1_parse (wsV RX1 78 RX2 yX2_isTold wsX2_isTold) := goodIn_app (goodIn_of _ (by decide +kernel)) ggX1_parse_X2_isTold
set_option maxRecDepth 20000 in
theorem gX1_parse_X1_takePrivate : GoodIn wsX1_parse (wsV RX1 85 RX1 yX1_takePrivate wsX1_takePrivate) := goodIn_app (goodIn_of _ (by decide +kernel)) ggX1_parse_X1_takePrivate
set_option maxRecDepth 20000 in
theorem gJ0_length_8abf5_J0_coder_7d493 : GoodIn wsJ0_length_8abf5 (wsV RJ0 335 RJ0 yJ0_coder_7d493 wsJ0_coder_7d493) := goodIn_app (goodIn_of _ (by decide +kernel)) ggJ0_length_8abf5_J0_coder_7d493
set_option maxRecDepth 20000 in
theorem gJ0_checkIndex_df160_J3_checkIndex_8e157 : GoodIn wsJ0_checkIndex_df160 (va_wsS RJ0 1059 yJ3_checkIndex_8e157 wsJ3_checkIndex_8e157) := goodIn_app (goodIn_of _ (by decide +kernel)) ggJ0_checkIndex_df160_J3_checkIndex_8e157
set_option maxRecDepth 20000 in
theorem gJ1_charAt_3b067_J0_checkIndex_df160 : GoodIn wsJ1_charAt_3b067 (va_wsS RJ1 9 yJ0_checkIndex_df160 wsJ0_checkIndex_df160) := goodIn_app (goodIn_of _ (by decide +kernel)) ggJ1_charAt_3b067_J0_checkIndex_df160
set_option maxRecDepth 20000 in
theorem gJ0_charAt_5068e_J0_isLatin1_aae02 : GoodIn wsJ0_charAt_5068e (wsV RJ0 492 RJ0 yJ0_isLatin1_aae02 wsJ0_isLatin1_aae02) := goodIn_app (goodIn_of _ (by decide +kernel)) ggJ0_charAt_5068e_J0_isLatin1_aae02
set_option maxRecDepth 20000 in
theorem gJ0_charAt_5068e_J1_charAt_3b067 : GoodIn wsJ0_charAt_5068e (va_wsS RJ0 495 yJ1_charAt_3b067 wsJ1_charAt_3b067) := goodIn_app (goodIn_of _ (by decide +kernel)) ggJ0_charAt_5068e_J1_charAt_3b067
set_option maxRecDepth 20000 in
theorem gX10_isAt_J0_length_8abf5 : GoodIn wsX10_isAt (wsV RX10 67 RJ0 yJ0_length_8abf5 wsJ0_length_8abf5) := goodIn_app (goodIn_of _ (by decide +kernel)) ggX10_isAt_J0_length_8abf5
set_option maxRecDepth 20000 in
theorem gX10_isAt_X5_get : GoodIn wsX10_isAt (wsV RX10 76 RX5 yX5_get wsX5_get) := goodIn_app (goodIn_of _ (by decide +kernel)) ggX10_isAt_X5_get
set_option maxRecDepth 20000 in
theorem gX10_isAt_J0_charAt_5068e : GoodIn wsX10_isAt (wsV RX10 84 RJ0 yJ0_charAt_5068e wsJ0_charAt_5068e) := goodIn_app (goodIn_of _ (by decide +kernel)) ggX10_isAt_J0_charAt_5068e
set_option maxRecDepth 20000 in
theorem gX10_behindEexec_J0_length_8abf5 : GoodIn wsX10_behindEexec (wsV RX10 67 RJ0 yJ0_length_8abf5 wsJ0_length_8abf5) := goodIn_app (goodIn_of _ (by decide +kernel)) ggX10_behindEexec_J0_length_8abf5
set_option maxRecDepth 20000 in
theorem gX10_behindEexec_X5_size : GoodIn wsX10_behindEexec (wsV RX10 23 RX5 yX5_size wsX5_size) := goodIn_app (goodIn_of _ (by decide +kernel)) ggX10_behindEexec_X5_size
set_option maxRecDepth 20000 in
theorem gX10_behindEexec_X10_isAt : GoodIn wsX10_behindEexec (va_wsS RX10 72 yX10_isAt wsX10_isAt) := goodIn_app (goodIn_of _ (by decide +kernel)) ggX10_behindEexec_X10_isAt
set_option maxRecDepth 20000 in
theorem gX10_behindEexec_X5_get : GoodIn wsX10_behindEexec (wsV RX10 76 RX5 yX5_get wsX5_get) := goodIn_app (goodIn_of _ (by decide +kernel)) ggX10_behindEexec_X5_get
set_option maxRecDepth 20000 in
theorem gX10_behindEexec_X11_isBlank_n80 : GoodIn wsX10_behindEexec (wsX11_isBlank) := ggX10_behindEexec_X11_isBlank
set_option maxRecDepth 20000 in
theorem gX10_isToldByDigits_X5_get : GoodIn wsX10_isToldByDigits (wsV RX10 76 RX5 yX5_get wsX5_get) := goodIn_app (goodIn_of _ (by decide +kernel)) ggX10_isToldByDigits_X5_get
set_option maxRecDepth 20000 in
theorem gX10_isToldByDigits_X11_digitOf_n88 : GoodIn wsX10_isToldByDigits (wsX11_digitOf) := ggX10_isToldByDigits_X11_digitOf
set_option maxRecDepth 20000 in
theorem gX10_takeWord_X5_size : GoodIn wsX10_takeWord (wsV RX10 23 RX5 yX5_size wsX5_size) := goodIn_app (goodIn_of _ (by decide +kernel)) ggX10_takeWord_X5_size
set_option maxRecDepth 20000 in
theorem gX10_takeWord_X5_get : GoodIn wsX10_takeWord (wsV RX10 76 RX5 yX5_get wsX5_get) := goodIn_app (goodIn_of _ (by decide +kernel)) ggX10_takeWord_X5_get
set_option maxRecDepth 20000 in
theorem gX10_takeWord_X11_isBlank_n80 : GoodIn wsX10_takeWord (wsX11_isBlank) := ggX10_takeWord_X11_isBlank
set_option maxRecDepth 20000 in
theorem gX10_isWord_J0_length_8abf5 : GoodIn wsX10_isWord (wsV RX10 67 RJ0 yJ0_length_8abf5 wsJ0_length_8abf5) := goodIn_app (goodIn_of _ (by decide +kernel)) ggX10_isWord_J0_length_8abf5
set_option maxRecDepth 20000 in
theorem gX10_isWord_X10_isAt : GoodIn wsX10_isWord (va_wsS RX10 72 yX10_isAt wsX10_isAt) := goodIn_app (goodIn_of _ (by decide +kernel)) ggX10_isWord_X10_isAt
set_option maxRecDepth 20000 in
theorem gX10_countOfWord_X5_get : GoodIn wsX10_countOfWord (wsV RX10 76 RX5 yX5_get wsX5_get) := goodIn_app (goodIn_of _ (by decide +kernel)) ggX10_countOfWord_X5_get
set_option maxRecDepth 20000 in
theorem gX10_takeCount_X10_takeWord : GoodIn wsX10_takeCount (wsV RX10 92 RX10 yX10_takeWord wsX10_takeWord) := goodIn_app (goodIn_of _ (by decide +kernel)) ggX10_takeCount_X10_takeWord
set_option maxRecDepth 20000 in
theorem gX10_takeCount_X10_countOfWord : GoodIn wsX10_takeCount (wsV RX10 135 RX10 yX10_countOfWord wsX10_countOfWord) := goodIn_app (goodIn_of _ (by decide +kernel)) ggX10_takeCount_X10_countOfWord
set_option maxRecDepth 20000 in
theorem gX10_takeProgram_X10_takeCount : GoodIn wsX10_takeProgram (wsV RX10 103 RX10 yX10_takeCount wsX10_takeCount) := goodIn_app (goodIn_of _ (by decide +kernel)) ggX10_takeProgram_X10_takeCount
set_option maxRecDepth 20000 in
theorem gX10_takeProgram_X10_takeWord : GoodIn wsX10_takeProgram (wsV RX10 92 RX10 yX10_takeWord wsX10_takeWord) := goodIn_app (goodIn_of _ (by decide +kernel)) ggX10_takeProgram_X10_takeWord
set_option maxRecDepth 20000 in
theorem gX10_takeProgram_X10_isWord : GoodIn wsX10_takeProgram (wsV RX10 97 RX10 yX10_isWord wsX10_isWord) := goodIn_app (goodIn_of _ (by decide +kernel)) ggX10_takeProgram_X10_isWord
set_option maxRecDepth 20000 in
theorem gX10_takeProgram_X5_size : GoodIn wsX10_takeProgram (wsV RX10 23 RX5 yX5_size wsX5_size) := goodIn_app (goodIn_of _ (by decide +kernel)) ggX10_takeProgram_X5_size
set_option maxRecDepth 20000 in
theorem gX10_takeProgram_X5_decipher : GoodIn wsX10_takeProgram (wsV RX10 44 RX5 yX5_decipher wsX5_decipher) := goodIn_app (goodIn_of _ (by decide +kernel)) ggX10_takeProgram_X5_decipher
set_option maxRecDepth 20000 in
theorem gX10_takeLocal_X10_takeWord : GoodIn wsX10_takeLocal (wsV RX10 92 RX10 yX10_takeWord wsX10_takeWord) := goodIn_app (goodIn_of _ (by decide +kernel)) ggX10_takeLocal_X10_takeWord
set_option maxRecDepth 20000 in
theorem gX10_takeLocal_X10_countOfWord : GoodIn wsX10_takeLocal (wsV RX10 135 RX10 yX10_countOfWord wsX10_countOfWord) := goodIn_app (goodIn_of _ (by decide +kernel)) ggX10_takeLocal_X10_countOfWord
set_option maxRecDepth 20000 in
theorem gX10_takeLocal_X8_size : GoodIn wsX10_takeLocal (wsV RX10 138 RX8 yX8_size wsX8_size) := goodIn_app (goodIn_of _ (by decide +kernel)) ggX10_takeLocal_X8_size
set_option maxRecDepth 20000 in
theorem gX10_takeLocal_X10_takeProgram : GoodIn wsX10_takeLocal (wsV RX10 139 RX10 yX10_takeProgram wsX10_takeProgram) := goodIn_app (goodIn_of _ (by decide +kernel)) ggX10_takeLocal_X10_takeProgram
set_option maxRecDepth 20000 in
theorem gX10_takeLocal_X8_put : GoodIn wsX10_takeLocal (wsV RX10 148 RX8 yX8_put wsX8_put) := goodIn_app (goodIn_of _ (by decide +kernel)) ggX10_takeLocal_X8_put
set_option maxRecDepth 20000 in
theorem gX10_takeThisWord_X10_takeWord : GoodIn wsX10_takeThisWord (wsV RX10 92 RX10 yX10_takeWord wsX10_takeWord) := goodIn_app (goodIn_of _ (by decide +kernel)) ggX10_takeThisWord_X10_takeWord
set_option maxRecDepth 20000 in
theorem gX10_takeThisWord_X10_isWord : GoodIn wsX10_takeThisWord (wsV RX10 97 RX10 yX10_isWord wsX10_isWord) := goodIn_app (goodIn_of _ (by decide +kernel)) ggX10_takeThisWord_X10_isWord
set_option maxRecDepth 20000 in
theorem gX10_takeLocals_X10_takeCount : GoodIn wsX10_takeLocals (wsV RX10 103 RX10 yX10_takeCount wsX10_takeCount) := goodIn_app (goodIn_of _ (by decide +kernel)) ggX10_takeLocals_X10_takeCount
set_option maxRecDepth 20000 in
theorem gX10_takeLocals_X8_lay : GoodIn wsX10_takeLocals (wsV RX10 123 RX8 yX8_lay wsX8_lay) := goodIn_app (goodIn_of _ (by decide +kernel)) ggX10_takeLocals_X8_lay
set_option maxRecDepth 20000 in
theorem gX10_takeLocals_X10_takeThisWord : GoodIn wsX10_takeLocals (wsV RX10 131 RX10 yX10_takeThisWord wsX10_takeThisWord) := goodIn_app (goodIn_of _ (by decide +kernel)) ggX10_takeLocals_X10_takeThisWord
set_option maxRecDepth 20000 in
theorem gX10_takeSettings_X5_size : GoodIn wsX10_takeSettings (wsV RX10 23 RX5 yX5_size wsX5_size) := goodIn_app (goodIn_of _ (by decide +kernel)) ggX10_takeSettings_X5_size
set_option maxRecDepth 20000 in
theorem gX10_takeSettings_X10_takeWord : GoodIn wsX10_takeSettings (wsV RX10 92 RX10 yX10_takeWord wsX10_takeWord) := goodIn_app (goodIn_of _ (by decide +kernel)) ggX10_takeSettings_X10_takeWord
set_option maxRecDepth 20000 in
theorem gX10_takeSettings_X10_isWord : GoodIn wsX10_takeSettings (wsV RX10 97 RX10 yX10_isWord wsX10_isWord) := goodIn_app (goodIn_of _ (by decide +kernel)) ggX10_takeSettings_X10_isWord
set_option maxRecDepth 20000 in
theorem gX10_takeSettings_X10_takeLocal : GoodIn wsX10_takeSettings (wsV RX10 116 RX10 yX10_takeLocal wsX10_takeLocal) := goodIn_app (goodIn_of _ (by decide +kernel)) ggX10_takeSettings_X10_takeLocal
set_option maxRecDepth 20000 in
theorem gX10_takeSettings_X10_takeLocals : GoodIn wsX10_takeSettings (wsV RX10 111 RX10 yX10_takeLocals wsX10_takeLocals) := goodIn_app (goodIn_of _ (by decide +kernel)) ggX10_takeSettings_X10_takeLocals
set_option maxRecDepth 20000 in
theorem gX10_takeSettings_X10_takeCount : GoodIn wsX10_takeSettings (wsV RX10 103 RX10 yX10_takeCount wsX10_takeCount) := goodIn_app (goodIn_of _ (by decide +kernel)) ggX10_takeSettings_X10_takeCount
set_option maxRecDepth 20000 in
theorem gX8_add_X8_isFull : GoodIn wsX8_add (wsV RX8 47 RX8 yX8_isFull wsX8_isFull) := goodIn_app (goodIn_of _ (by decide +kernel)) ggX8_add_X8_isFull
set_option maxRecDepth 20000 in
theorem gX8_add_X8_put : GoodIn wsX8_add (wsV RX8 51 RX8 yX8_put wsX8_put) := goodIn_app (goodIn_of _ (by decide +kernel)) ggX8_add_X8_put
set_option maxRecDepth 20000 in
theorem gX10_takeLetter_X5_get : GoodIn wsX10_takeLetter (wsV RX10 76 RX5 yX5_get wsX5_get) := goodIn_app (goodIn_of _ (by decide +kernel)) ggX10_takeLetter_X5_get
set_option maxRecDepth 20000 in
theorem gX10_takeLetter_X8_isFull : GoodIn wsX10_takeLetter (wsV RX10 168 RX8 yX8_isFull wsX8_isFull) := goodIn_app (goodIn_of _ (by decide +kernel)) ggX10_takeLetter_X8_isFull
set_option maxRecDepth 20000 in
theorem gX10_takeLetter_X10_takeProgram : GoodIn wsX10_takeLetter (wsV RX10 139 RX10 yX10_takeProgram wsX10_takeProgram) := goodIn_app (goodIn_of _ (by decide +kernel)) ggX10_takeLetter_X10_takeProgram
set_option maxRecDepth 20000 in
theorem gX10_takeLetter_X8_add : GoodIn wsX10_takeLetter (wsV RX10 171 RX8 yX8_add wsX8_add) := goodIn_app (goodIn_of _ (by decide +kernel)) ggX10_takeLetter_X8_add
set_option maxRecDepth 20000 in
theorem gX10_takeLetter_X10_takeWord : GoodIn wsX10_takeLetter (wsV RX10 92 RX10 yX10_takeWord wsX10_takeWord) := goodIn_app (goodIn_of _ (by decide +kernel)) ggX10_takeLetter_X10_takeWord
set_option maxRecDepth 20000 in
theorem gX10_takeLetters_X10_takeCount : GoodIn wsX10_takeLetters (wsV RX10 103 RX10 yX10_takeCount wsX10_takeCount) := goodIn_app (goodIn_of _ (by decide +kernel)) ggX10_takeLetters_X10_takeCount
set_option maxRecDepth 20000 in
theorem gX10_takeLetters_X5_size : GoodIn wsX10_takeLetters (wsV RX10 23 RX5 yX5_size wsX5_size) := goodIn_app (goodIn_of _ (by decide +kernel)) ggX10_takeLetters_X5_size
set_option maxRecDepth 20000 in
theorem gX10_takeLetters_X10_takeWord : GoodIn wsX10_takeLetters (wsV RX10 92 RX10 yX10_takeWord wsX10_takeWord) := goodIn_app (goodIn_of _ (by decide +kernel)) ggX10_takeLetters_X10_takeWord
set_option maxRecDepth 20000 in
theorem gX10_takeLetters_X10_isWord : GoodIn wsX10_takeLetters (wsV RX10 97 RX10 yX10_isWord wsX10_isWord) := goodIn_app (goodIn_of _ (by decide +kernel)) ggX10_takeLetters_X10_isWord
set_option maxRecDepth 20000 in
theorem gX10_takeLetters_X10_takeLetter : GoodIn wsX10_takeLetters (wsV RX10 159 RX10 yX10_takeLetter wsX10_takeLetter) := goodIn_app (goodIn_of _ (by decide +kernel)) ggX10_takeLetters_X10_takeLetter
set_option maxRecDepth 20000 in
theorem gX10_takeLetters_X8_size : GoodIn wsX10_takeLetters (wsV RX10 138 RX8 yX8_size wsX8_size) := goodIn_app (goodIn_of _ (by decide +kernel)) ggX10_takeLetters_X8_size
set_option maxRecDepth 20000 in
theorem gX10_takeLetters_X10_takeThisWord : GoodIn wsX10_takeLetters (wsV RX10 131 RX10 yX10_takeThisWord wsX10_takeThisWord) := goodIn_app (goodIn_of _ (by decide +kernel)) ggX10_takeLetters_X10_takeThisWord
set_option maxRecDepth 20000 in
theorem gX5_turnFromDigits_X11_digitOf_n38 : GoodIn wsX5_turnFromDigits (wsX11_digitOf) := ggX5_turnFromDigits_X11_digitOf
set_option maxRecDepth 20000 in
theorem gX5_turnFromDigits_X11_isBlank_n42 : GoodIn wsX5_turnFromDigits (wsX11_isBlank) := ggX5_turnFromDigits_X11_isBlank
set_option maxRecDepth 20000 in
theorem gX10_parse_X10_behindEexec : GoodIn wsX10_parse (va_wsS RX10 19 yX10_behindEexec wsX10_behindEexec) := goodIn_app (goodIn_of _ (by decide +kernel)) ggX10_parse_X10_behindEexec
set_option maxRecDepth 20000 in
theorem gX10_parse_X5_size : GoodIn wsX10_parse (wsV RX10 23 RX5 yX5_size wsX5_size) := goodIn_app (goodIn_of _ (by decide +kernel)) ggX10_parse_X5_size
set_option maxRecDepth 20000 in
theorem gX10_parse_X3_begin : GoodIn wsX10_parse (wsV RX10 29 RX3 yX3_begin wsX3_begin) := goodIn_app (goodIn_of _ (by decide +kernel)) ggX10_parse_X3_begin
set_option maxRecDepth 20000 in
theorem gX10_parse_X10_isToldByDigits : GoodIn wsX10_parse (wsV RX10 36 RX10 yX10_isToldByDigits wsX10_isToldByDigits) := goodIn_app (goodIn_of _ (by decide +kernel)) ggX10_parse_X10_isToldByDigits
set_option maxRecDepth 20000 in
theorem gX10_parse_X5_decipher : GoodIn wsX10_parse (wsV RX10 44 RX5 yX5_decipher wsX5_decipher) := goodIn_app (goodIn_of _ (by decide +kernel)) ggX10_parse_X5_decipher
set_option maxRecDepth 20000 in
theorem gX10_parse_X10_takeSettings : GoodIn wsX10_parse (wsV RX10 59 RX10 yX10_takeSettings wsX10_takeSettings) := goodIn_app (goodIn_of _ (by decide +kernel)) ggX10_parse_X10_takeSettings
set_option maxRecDepth 20000 in
theorem gX10_parse_X10_takeLetters : GoodIn wsX10_parse (wsV RX10 62 RX10 yX10_takeLetters wsX10_takeLetters) := goodIn_app (goodIn_of _ (by decide +kernel)) ggX10_parse_X10_takeLetters
set_option maxRecDepth 20000 in
theorem gX10_parse_X5_turnFromDigits : GoodIn wsX10_parse (wsV RX10 40 RX5 yX5_turnFromDigits wsX5_turnFromDigits) := goodIn_app (goodIn_of _ (by decide +kernel)) ggX10_parse_X5_turnFromDigits
set_option maxRecDepth 20000 in
theorem gX11_read_X1_parse : GoodIn wsX11_read (wsV RX11 85 RX1 yX1_parse wsX1_parse) := goodIn_app (goodIn_of _ (by decide +kernel)) ggX11_read_X1_parse
set_option maxRecDepth 20000 in
theorem gX11_read_X5_cut : GoodIn wsX11_read (wsV RX11 82 RX5 yX5_cut wsX5_cut) := goodIn_app (goodIn_of _ (by decide +kernel)) ggX11_read_X5_cut
set_option maxRecDepth 20000 in
theorem gX11_read_X10_parse : GoodIn wsX11_read (wsV RX11 89 RX10 yX10_parse wsX10_parse) := goodIn_app (goodIn_of _ (by decide +kernel)) ggX11_read_X10_parse
set_option maxRecDepth 20000 in
theorem gX6_begin_X6_goTo : GoodIn wsX6_begin (wsV RX6 35 RX6 yX6_goTo wsX6_goTo) := goodIn_app (goodIn_of _ (by decide +kernel)) ggX6_begin_X6_goTo
set_option maxRecDepth 20000 in
theorem gX7_begin_J7_fill_d0a16 : GoodIn wsX7_begin (va_wsS RX7 31 yJ7_fill_d0a16 wsJ7_fill_d0a16) := goodIn_app (goodIn_of _ (by decide +kernel)) ggX7_begin_J7_fill_d0a16
set_option maxRecDepth 20000 in
theorem gX9_prepare_X7_begin : GoodIn wsX9_prepare (wsV RX9 36 RX7 yX7_begin wsX7_begin) := goodIn_app (goodIn_of _ (by decide +kernel)) ggX9_prepare_X7_begin
set_option maxRecDepth 20000 in
theorem gX4_takeByte_X5_get : GoodIn wsX4_takeByte (wsV RX4 99 RX5 yX5_get wsX5_get) := goodIn_app (goodIn_of _ (by decide +kernel)) ggX4_takeByte_X5_get
set_option maxRecDepth 20000 in
theorem gX4_takeNumber_X11_bytesBehind_n105 : GoodIn wsX4_takeNumber (wsX11_bytesBehind) := ggX4_takeNumber_X11_bytesBehind
set_option maxRecDepth 20000 in
theorem gX4_takeNumber_X11_wholeNumber_n112 : GoodIn wsX4_takeNumber (wsX11_wholeNumber) := ggX4_takeNumber_X11_wholeNumber
set_option maxRecDepth 20000 in
theorem gX4_takeNumber_X7_push : GoodIn wsX4_takeNumber (wsV RX4 118 RX7 yX7_push wsX7_push) := goodIn_app (goodIn_of _ (by decide +kernel)) ggX4_takeNumber_X7_push
set_option maxRecDepth 20000 in
theorem gX4_takeNumber_X9_longNumber_u108X9 : GoodIn wsX4_takeNumber (va_wsU RX4 108 RX9 "CharstringPress$Machine" ⟨"CharstringPress$Machine", "longNumber", "(I)J"⟩ yX9_longNumber wsX9_longNumber) := goodIn_app (goodIn_of _ (by decide +kernel)) ggX4_takeNumber_X9_longNumber
set_option maxRecDepth 20000 in
theorem gX4_takeNumber_X4_takeByte_u85X9 : GoodIn wsX4_takeNumber (va_wsU RX4 85 RX9 "CharstringPress$Machine" ⟨"CharstringPress$Machine", "takeByte", "()I"⟩ yX4_takeByte wsX4_takeByte) := goodIn_app (goodIn_of _ (by decide +kernel)) ggX4_takeNumber_X4_takeByte
set_option maxRecDepth 20000 in
theorem gX4_takeOperator_X4_takeByte_u85X9 : GoodIn wsX4_takeOperator (va_wsU RX4 85 RX9 "CharstringPress$Machine" ⟨"CharstringPress$Machine", "takeByte", "()I"⟩ yX4_takeByte wsX4_takeByte) := goodIn_app (goodIn_of _ (by decide +kernel)) ggX4_takeOperator_X4_takeByte
set_option maxRecDepth 20000 in
theorem gX4_takeOperator_X9_isNumber_u88X9 : GoodIn wsX4_takeOperator (va_wsU RX4 88 RX9 "CharstringPress$Machine" ⟨"CharstringPress$Machine", "isNumber", "(I)Z"⟩ yX9_isNumber wsX9_isNumber) := goodIn_app (goodIn_of _ (by decide +kernel)) ggX4_takeOperator_X9_isNumber
set_option maxRecDepth 20000 in
theorem gX4_takeOperator_X4_takeNumber_u92X9 : GoodIn wsX4_takeOperator (va_wsU RX4 92 RX9 "CharstringPress$Machine" ⟨"CharstringPress$Machine", "takeNumber", "(I)I"⟩ yX4_takeNumber wsX4_takeNumber) := goodIn_app (goodIn_of _ (by decide +kernel)) ggX4_takeOperator_X4_takeNumber
set_option maxRecDepth 20000 in
theorem gX7_below_X7_get : GoodIn wsX7_below (wsV RX7 37 RX7 yX7_get wsX7_get) := goodIn_app (goodIn_of _ (by decide +kernel)) ggX7_below_X7_get
set_option maxRecDepth 20000 in
theorem gX7_wholeBelow_X7_below : GoodIn wsX7_wholeBelow (wsV RX7 41 RX7 yX7_below wsX7_below) := goodIn_app (goodIn_of _ (by decide +kernel)) ggX7_wholeBelow_X7_below
set_option maxRecDepth 20000 in
theorem gX4_call_X7_size : GoodIn wsX4_call (wsV RX4 128 RX7 yX7_size wsX7_size) := goodIn_app (goodIn_of _ (by decide +kernel)) ggX4_call_X7_size
set_option maxRecDepth 20000 in
theorem gX4_call_X7_wholeBelow : GoodIn wsX4_call (wsV RX4 131 RX7 yX7_wholeBelow wsX7_wholeBelow) := goodIn_app (goodIn_of _ (by decide +kernel)) ggX4_call_X7_wholeBelow
set_option maxRecDepth 20000 in
theorem gX4_call_X8_has : GoodIn wsX4_call (wsV RX4 134 RX8 yX8_has wsX8_has) := goodIn_app (goodIn_of _ (by decide +kernel)) ggX4_call_X8_has
set_option maxRecDepth 20000 in
theorem gX4_call_X7_drop : GoodIn wsX4_call (wsV RX4 138 RX7 yX7_drop wsX7_drop) := goodIn_app (goodIn_of _ (by decide +kernel)) ggX4_call_X7_drop
set_option maxRecDepth 20000 in
theorem gX4_call_X8_beginOf : GoodIn wsX4_call (wsV RX4 39 RX8 yX8_beginOf wsX8_beginOf) := goodIn_app (goodIn_of _ (by decide +kernel)) ggX4_call_X8_beginOf
set_option maxRecDepth 20000 in
theorem gX4_call_X8_finishOf : GoodIn wsX4_call (wsV RX4 49 RX8 yX8_finishOf wsX8_finishOf) := goodIn_app (goodIn_of _ (by decide +kernel)) ggX4_call_X8_finishOf
set_option maxRecDepth 20000 in
theorem gX7_replace_X7_drop : GoodIn wsX7_replace (wsV RX7 46 RX7 yX7_drop wsX7_drop) := goodIn_app (goodIn_of _ (by decide +kernel)) ggX7_replace_X7_drop
set_option maxRecDepth 20000 in
theorem gX7_replace_X7_push : GoodIn wsX7_replace (wsV RX7 50 RX7 yX7_push wsX7_push) := goodIn_app (goodIn_of _ (by decide +kernel)) ggX7_replace_X7_push
set_option maxRecDepth 20000 in
theorem gX7_divide_X7_below : GoodIn wsX7_divide (wsV RX7 41 RX7 yX7_below wsX7_below) := goodIn_app (goodIn_of _ (by decide +kernel)) ggX7_divide_X7_below
set_option maxRecDepth 20000 in
theorem gX7_divide_X7_replace : GoodIn wsX7_divide (wsV RX7 56 RX7 yX7_replace wsX7_replace) := goodIn_app (goodIn_of _ (by decide +kernel)) ggX7_divide_X7_replace
set_option maxRecDepth 20000 in
theorem gX9_putAllBy_X7_below : GoodIn wsX9_putAllBy (wsV RX9 170 RX7 yX7_below wsX7_below) := goodIn_app (goodIn_of _ (by decide +kernel)) ggX9_putAllBy_X7_below
set_option maxRecDepth 20000 in
theorem gX9_putAllBy_X9_putOneBy : GoodIn wsX9_putAllBy (wsV RX9 160 RX9 yX9_putOneBy wsX9_putOneBy) := goodIn_app (goodIn_of _ (by decide +kernel)) ggX9_putAllBy_X9_putOneBy
set_option maxRecDepth 20000 in
theorem gX6_curveBy_X6_add : GoodIn wsX6_curveBy (wsV RX6 54 RX6 yX6_add wsX6_add) := goodIn_app (goodIn_of _ (by decide +kernel)) ggX6_curveBy_X6_add
set_option maxRecDepth 20000 in
theorem gX9_endFlex_X7_below : GoodIn wsX9_endFlex (wsV RX9 170 RX7 yX7_below wsX7_below) := goodIn_app (goodIn_of _ (by decide +kernel)) ggX9_endFlex_X7_below
set_option maxRecDepth 20000 in
theorem gX9_endFlex_X9_putOneBy : GoodIn wsX9_endFlex (wsV RX9 160 RX9 yX9_putOneBy wsX9_putOneBy) := goodIn_app (goodIn_of _ (by decide +kernel)) ggX9_endFlex_X9_putOneBy
set_option maxRecDepth 20000 in
theorem gX9_endFlex_X6_curveBy : GoodIn wsX9_endFlex (wsV RX9 173 RX6 yX6_curveBy wsX6_curveBy) := goodIn_app (goodIn_of _ (by decide +kernel)) ggX9_endFlex_X6_curveBy
set_option maxRecDepth 20000 in
theorem gX9_callOther_X7_size : GoodIn wsX9_callOther (wsV RX9 75 RX7 yX7_size wsX7_size) := goodIn_app (goodIn_of _ (by decide +kernel)) ggX9_callOther_X7_size
set_option maxRecDepth 20000 in
theorem gX9_callOther_X7_wholeBelow : GoodIn wsX9_callOther (wsV RX9 133 RX7 yX7_wholeBelow wsX7_wholeBelow) := goodIn_app (goodIn_of _ (by decide +kernel)) ggX9_callOther_X7_wholeBelow
set_option maxRecDepth 20000 in
theorem gX9_callOther_X7_drop : GoodIn wsX9_callOther (wsV RX9 136 RX7 yX7_drop wsX7_drop) := goodIn_app (goodIn_of _ (by decide +kernel)) ggX9_callOther_X7_drop
set_option maxRecDepth 20000 in
theorem gX9_callOther_X9_putAllBy : GoodIn wsX9_callOther (wsV RX9 141 RX9 yX9_putAllBy wsX9_putAllBy) := goodIn_app (goodIn_of _ (by decide +kernel)) ggX9_callOther_X9_putAllBy
set_option maxRecDepth 20000 in
theorem gX9_callOther_X9_takenBy : GoodIn wsX9_callOther (va_wsS RX9 144 yX9_takenBy wsX9_takenBy) := goodIn_app (goodIn_of _ (by decide +kernel)) ggX9_callOther_X9_takenBy
set_option maxRecDepth 20000 in
theorem gX9_callOther_X9_putOneBy : GoodIn wsX9_callOther (wsV RX9 160 RX9 yX9_putOneBy wsX9_putOneBy) := goodIn_app (goodIn_of _ (by decide +kernel)) ggX9_callOther_X9_putOneBy
set_option maxRecDepth 20000 in
theorem gX9_callOther_X9_keepPoint : GoodIn wsX9_callOther (wsV RX9 155 RX9 yX9_keepPoint wsX9_keepPoint) := goodIn_app (goodIn_of _ (by decide +kernel)) ggX9_callOther_X9_keepPoint
set_option maxRecDepth 20000 in
theorem gX9_callOther_X9_beginFlex : GoodIn wsX9_callOther (wsV RX9 150 RX9 yX9_beginFlex wsX9_beginFlex) := goodIn_app (goodIn_of _ (by decide +kernel)) ggX9_callOther_X9_beginFlex
set_option maxRecDepth 20000 in
theorem gX9_callOther_X9_endFlex : GoodIn wsX9_callOther (wsV RX9 147 RX9 yX9_endFlex wsX9_endFlex) := goodIn_app (goodIn_of _ (by decide +kernel)) ggX9_callOther_X9_endFlex
set_option maxRecDepth 20000 in
theorem gX9_popPutBy_X7_push : GoodIn wsX9_popPutBy (wsV RX9 177 RX7 yX7_push wsX7_push) := goodIn_app (goodIn_of _ (by decide +kernel)) ggX9_popPutBy_X7_push
set_option maxRecDepth 20000 in
theorem gX6_moveBy_X6_add : GoodIn wsX6_moveBy (wsV RX6 54 RX6 yX6_add wsX6_add) := goodIn_app (goodIn_of _ (by decide +kernel)) ggX6_moveBy_X6_add
set_option maxRecDepth 20000 in
theorem gX9_move_X6_moveBy : GoodIn wsX9_move (wsV RX9 130 RX6 yX6_moveBy wsX6_moveBy) := goodIn_app (goodIn_of _ (by decide +kernel)) ggX9_move_X6_moveBy
set_option maxRecDepth 20000 in
theorem gX9_move_X6_goBy : GoodIn wsX9_move (wsV RX9 127 RX6 yX6_goBy wsX6_goBy) := goodIn_app (goodIn_of _ (by decide +kernel)) ggX9_move_X6_goBy
set_option maxRecDepth 20000 in
theorem gX6_lineBy_X6_add : GoodIn wsX6_lineBy (wsV RX6 54 RX6 yX6_add wsX6_add) := goodIn_app (goodIn_of _ (by decide +kernel)) ggX6_lineBy_X6_add
set_option maxRecDepth 20000 in
theorem gX4_curves_X7_get : GoodIn wsX4_curves (wsV RX4 142 RX7 yX7_get wsX7_get) := goodIn_app (goodIn_of _ (by decide +kernel)) ggX4_curves_X7_get
set_option maxRecDepth 20000 in
theorem gX4_curves_X6_curveBy : GoodIn wsX4_curves (wsV RX4 144 RX6 yX6_curveBy wsX6_curveBy) := goodIn_app (goodIn_of _ (by decide +kernel)) ggX4_curves_X6_curveBy
set_option maxRecDepth 20000 in
theorem gX6_close_X6_add : GoodIn wsX6_close (wsV RX6 54 RX6 yX6_add wsX6_add) := goodIn_app (goodIn_of _ (by decide +kernel)) ggX6_close_X6_add
set_option maxRecDepth 20000 in
theorem gX9_paintNothing_X7_get : GoodIn wsX9_paintNothing (wsV RX9 85 RX7 yX7_get wsX7_get) := goodIn_app (goodIn_of _ (by decide +kernel)) ggX9_paintNothing_X7_get
set_option maxRecDepth 20000 in
theorem gX9_paintNothing_X6_goTo : GoodIn wsX9_paintNothing (wsV RX9 120 RX6 yX6_goTo wsX6_goTo) := goodIn_app (goodIn_of _ (by decide +kernel)) ggX9_paintNothing_X6_goTo
set_option maxRecDepth 20000 in
theorem gX9_paintNothing_X4_finishAll_u124X9 : GoodIn wsX9_paintNothing (va_wsU RX9 124 RX9 "CharstringPress$Machine" ⟨"CharstringPress$TypeOneMachine", "finishAll", "()V"⟩ yX4_finishAll wsX4_finishAll) := goodIn_app (goodIn_of _ (by decide +kernel)) ggX9_paintNothing_X4_finishAll
set_option maxRecDepth 20000 in
theorem gX4_turningCurves_X7_size : GoodIn wsX4_turningCurves (wsV RX4 128 RX7 yX7_size wsX7_size) := goodIn_app (goodIn_of _ (by decide +kernel)) ggX4_turningCurves_X7_size
set_option maxRecDepth 20000 in
theorem gX4_turningCurves_X7_get : GoodIn wsX4_turningCurves (wsV RX4 142 RX7 yX7_get wsX7_get) := goodIn_app (goodIn_of _ (by decide +kernel)) ggX4_turningCurves_X7_get
set_option maxRecDepth 20000 in
theorem gX4_turningCurves_X6_curveBy : GoodIn wsX4_turningCurves (wsV RX4 144 RX6 yX6_curveBy wsX6_curveBy) := goodIn_app (goodIn_of _ (by decide +kernel)) ggX4_turningCurves_X6_curveBy
set_option maxRecDepth 20000 in
theorem gX9_paint_X7_get : GoodIn wsX9_paint (wsV RX9 85 RX7 yX7_get wsX7_get) := goodIn_app (goodIn_of _ (by decide +kernel)) ggX9_paint_X7_get
set_option maxRecDepth 20000 in
theorem gX9_paint_X9_move : GoodIn wsX9_paint (wsV RX9 89 RX9 yX9_move wsX9_move) := goodIn_app (goodIn_of _ (by decide +kernel)) ggX9_paint_X9_move
set_option maxRecDepth 20000 in
theorem gX9_paint_X6_lineBy : GoodIn wsX9_paint (wsV RX9 97 RX6 yX6_lineBy wsX6_lineBy) := goodIn_app (goodIn_of _ (by decide +kernel)) ggX9_paint_X6_lineBy
set_option maxRecDepth 20000 in
theorem gX9_paint_X4_curves_u102X9 : GoodIn wsX9_paint (va_wsU RX9 102 RX9 "CharstringPress$Machine" ⟨"CharstringPress$TypeOneMachine", "curves", "(II)I"⟩ yX4_curves wsX4_curves) := goodIn_app (goodIn_of _ (by decide +kernel)) ggX9_paint_X4_curves
set_option maxRecDepth 20000 in
theorem gX9_paint_X6_close : GoodIn wsX9_paint (wsV RX9 106 RX6 yX6_close wsX6_close) := goodIn_app (goodIn_of _ (by decide +kernel)) ggX9_paint_X6_close
set_option maxRecDepth 20000 in
theorem gX9_paint_X9_paintNothing : GoodIn wsX9_paint (wsV RX9 113 RX9 yX9_paintNothing wsX9_paintNothing) := goodIn_app (goodIn_of _ (by decide +kernel)) ggX9_paint_X9_paintNothing
set_option maxRecDepth 20000 in
theorem gX9_paint_X4_turningCurves_u109X9 : GoodIn wsX9_paint (va_wsU RX9 109 RX9 "CharstringPress$Machine" ⟨"CharstringPress$TypeOneMachine", "turningCurves", "(Z)I"⟩ yX4_turningCurves wsX4_turningCurves) := goodIn_app (goodIn_of _ (by decide +kernel)) ggX9_paint_X4_turningCurves
set_option maxRecDepth 20000 in
theorem gX9_operate_X4_call_u54X9 : GoodIn wsX9_operate (va_wsU RX9 54 RX9 "CharstringPress$Machine" ⟨"CharstringPress$TypeOneMachine", "call", "(LCharstringPress$Shelf;I)I"⟩ yX4_call wsX4_call) := goodIn_app (goodIn_of _ (by decide +kernel)) ggX9_operate_X4_call
set_option maxRecDepth 20000 in
theorem gX9_operate_X4_goBack_u58X9 : GoodIn wsX9_operate (va_wsU RX9 58 RX9 "CharstringPress$Machine" ⟨"CharstringPress$TypeOneMachine", "goBack", "()I"⟩ yX4_goBack wsX4_goBack) := goodIn_app (goodIn_of _ (by decide +kernel)) ggX9_operate_X4_goBack
set_option maxRecDepth 20000 in
theorem gX9_operate_X7_divide : GoodIn wsX9_operate (wsV RX9 62 RX7 yX7_divide wsX7_divide) := goodIn_app (goodIn_of _ (by decide +kernel)) ggX9_operate_X7_divide
set_option maxRecDepth 20000 in
theorem gX9_operate_X9_callOther : GoodIn wsX9_operate (wsV RX9 65 RX9 yX9_callOther wsX9_callOther) := goodIn_app (goodIn_of _ (by decide +kernel)) ggX9_operate_X9_callOther
set_option maxRecDepth 20000 in
theorem gX9_operate_X9_popPutBy : GoodIn wsX9_operate (wsV RX9 68 RX9 yX9_popPutBy wsX9_popPutBy) := goodIn_app (goodIn_of _ (by decide +kernel)) ggX9_operate_X9_popPutBy
set_option maxRecDepth 20000 in
theorem gX9_operate_X9_wantedBy : GoodIn wsX9_operate (va_wsS RX9 71 yX9_wantedBy wsX9_wantedBy) := goodIn_app (goodIn_of _ (by decide +kernel)) ggX9_operate_X9_wantedBy
set_option maxRecDepth 20000 in
theorem gX9_operate_X7_size : GoodIn wsX9_operate (wsV RX9 75 RX7 yX7_size wsX7_size) := goodIn_app (goodIn_of _ (by decide +kernel)) ggX9_operate_X7_size
set_option maxRecDepth 20000 in
theorem gX9_operate_X9_paint : GoodIn wsX9_operate (wsV RX9 78 RX9 yX9_paint wsX9_paint) := goodIn_app (goodIn_of _ (by decide +kernel)) ggX9_operate_X9_paint
set_option maxRecDepth 20000 in
theorem gX9_operate_X7_clear : GoodIn wsX9_operate (wsV RX9 81 RX7 yX7_clear wsX7_clear) := goodIn_app (goodIn_of _ (by decide +kernel)) ggX9_operate_X7_clear
set_option maxRecDepth 20000 in
theorem gX4_run_X8_beginOf : GoodIn wsX4_run (wsV RX4 39 RX8 yX8_beginOf wsX8_beginOf) := goodIn_app (goodIn_of _ (by decide +kernel)) ggX4_run_X8_beginOf
set_option maxRecDepth 20000 in
theorem gX4_run_X8_finishOf : GoodIn wsX4_run (wsV RX4 49 RX8 yX8_finishOf wsX8_finishOf) := goodIn_app (goodIn_of _ (by decide +kernel)) ggX4_run_X8_finishOf
set_option maxRecDepth 20000 in
theorem gX4_run_X9_prepare_u75X9 : GoodIn wsX4_run (va_wsU RX4 75 RX9 "CharstringPress$Machine" ⟨"CharstringPress$Machine", "prepare", "()V"⟩ yX9_prepare wsX9_prepare) := goodIn_app (goodIn_of _ (by decide +kernel)) ggX4_run_X9_prepare
set_option maxRecDepth 20000 in
theorem gX4_run_X4_takeOperator_u78X9 : GoodIn wsX4_run (va_wsU RX4 78 RX9 "CharstringPress$Machine" ⟨"CharstringPress$Machine", "takeOperator", "()I"⟩ yX4_takeOperator wsX4_takeOperator) := goodIn_app (goodIn_of _ (by decide +kernel)) ggX4_run_X4_takeOperator
set_option maxRecDepth 20000 in
theorem gX4_run_X9_operate_u82X9 : GoodIn wsX4_run (va_wsU RX4 82 RX9 "CharstringPress$Machine" ⟨"CharstringPress$Machine", "operate", "(I)I"⟩ yX9_operate wsX9_operate) := goodIn_app (goodIn_of _ (by decide +kernel)) ggX4_run_X9_operate
set_option maxRecDepth 20000 in
theorem gX0_prepare_X7_begin : GoodIn wsX0_prepare (wsV RX0 19 RX7 yX7_begin wsX7_begin) := goodIn_app (goodIn_of _ (by decide +kernel)) ggX0_prepare_X7_begin
set_option maxRecDepth 20000 in
theorem gX4_takeNumber_X0_longNumber_u108X0 : GoodIn wsX4_takeNumber (va_wsU RX4 108 RX0 "CharstringPress$Machine" ⟨"CharstringPress$Machine", "longNumber", "(I)J"⟩ yX0_longNumber wsX0_longNumber) := goodIn_app (goodIn_of _ (by decide +kernel)) ggX4_takeNumber_X0_longNumber
set_option maxRecDepth 20000 in
theorem gX4_takeNumber_X4_takeByte_u85X0 : GoodIn wsX4_takeNumber (va_wsU RX4 85 RX0 "CharstringPress$Machine" ⟨"CharstringPress$Machine", "takeByte", "()I"⟩ yX4_takeByte wsX4_takeByte) := goodIn_app (goodIn_of _ (by decide +kernel)) ggX4_takeNumber_X4_takeByte
set_option maxRecDepth 20000 in
theorem gX4_takeOperator_X4_takeByte_u85X0 : GoodIn wsX4_takeOperator (va_wsU RX4 85 RX0 "CharstringPress$Machine" ⟨"CharstringPress$Machine", "takeByte", "()I"⟩ yX4_takeByte wsX4_takeByte) := goodIn_app (goodIn_of _ (by decide +kernel)) ggX4_takeOperator_X4_takeByte
set_option maxRecDepth 20000 in
theorem gX4_takeOperator_X0_isNumber_u88X0 : GoodIn wsX4_takeOperator (va_wsU RX4 88 RX0 "CharstringPress$Machine" ⟨"CharstringPress$Machine", "isNumber", "(I)Z"⟩ yX0_isNumber wsX0_isNumber) := goodIn_app (goodIn_of _ (by decide +kernel)) ggX4_takeOperator_X0_isNumber
set_option maxRecDepth 20000 in
theorem gX4_takeOperator_X4_takeNumber_u92X0 : GoodIn wsX4_takeOperator (va_wsU RX4 92 RX0 "CharstringPress$Machine" ⟨"CharstringPress$Machine", "takeNumber", "(I)I"⟩ yX4_takeNumber wsX4_takeNumber) := goodIn_app (goodIn_of _ (by decide +kernel)) ggX4_takeOperator_X4_takeNumber
set_option maxRecDepth 20000 in
theorem gX0_biasOf_X8_size : GoodIn wsX0_biasOf (wsV RX0 71 RX8 yX8_size wsX8_size) := goodIn_app (goodIn_of _ (by decide +kernel)) ggX0_biasOf_X8_size
set_option maxRecDepth 20000 in
theorem gX0_lines_X7_get : GoodIn wsX0_lines (wsV RX0 126 RX7 yX7_get wsX7_get) := goodIn_app (goodIn_of _ (by decide +kernel)) ggX0_lines_X7_get
set_option maxRecDepth 20000 in
theorem gX0_lines_X6_lineBy : GoodIn wsX0_lines (wsV RX0 168 RX6 yX6_lineBy wsX6_lineBy) := goodIn_app (goodIn_of _ (by decide +kernel)) ggX0_lines_X6_lineBy
set_option maxRecDepth 20000 in
theorem gX0_pairsThenSixes_X7_size : GoodIn wsX0_pairsThenSixes (wsV RX0 106 RX7 yX7_size wsX7_size) := goodIn_app (goodIn_of _ (by decide +kernel)) ggX0_pairsThenSixes_X7_size
set_option maxRecDepth 20000 in
theorem gX0_pairsThenSixes_X0_lines : GoodIn wsX0_pairsThenSixes (wsV RX0 165 RX0 yX0_lines wsX0_lines) := goodIn_app (goodIn_of _ (by decide +kernel)) ggX0_pairsThenSixes_X0_lines
set_option maxRecDepth 20000 in
theorem gX0_pairsThenSixes_X4_curves_u110X0 : GoodIn wsX0_pairsThenSixes (va_wsU RX0 110 RX0 "CharstringPress$Machine" ⟨"CharstringPress$CffMachine", "curves", "(II)I"⟩ yX4_curves wsX4_curves) := goodIn_app (goodIn_of _ (by decide +kernel)) ggX0_pairsThenSixes_X4_curves
set_option maxRecDepth 20000 in
theorem gX0_turningLines_X7_size : GoodIn wsX0_turningLines (wsV RX0 106 RX7 yX7_size wsX7_size) := goodIn_app (goodIn_of _ (by decide +kernel)) ggX0_turningLines_X7_size
set_option maxRecDepth 20000 in
theorem gX0_turningLines_X7_get : GoodIn wsX0_turningLines (wsV RX0 126 RX7 yX7_get wsX7_get) := goodIn_app (goodIn_of _ (by decide +kernel)) ggX0_turningLines_X7_get
set_option maxRecDepth 20000 in
theorem gX0_turningLines_X6_lineBy : GoodIn wsX0_turningLines (wsV RX0 168 RX6 yX6_lineBy wsX6_lineBy) := goodIn_app (goodIn_of _ (by decide +kernel)) ggX0_turningLines_X6_lineBy
set_option maxRecDepth 20000 in
theorem gX0_sixesThenPair_X7_size : GoodIn wsX0_sixesThenPair (wsV RX0 106 RX7 yX7_size wsX7_size) := goodIn_app (goodIn_of _ (by decide +kernel)) ggX0_sixesThenPair_X7_size
set_option maxRecDepth 20000 in
theorem gX0_sixesThenPair_X4_curves_u110X0 : GoodIn wsX0_sixesThenPair (va_wsU RX0 110 RX0 "CharstringPress$Machine" ⟨"CharstringPress$CffMachine", "curves", "(II)I"⟩ yX4_curves wsX4_curves) := goodIn_app (goodIn_of _ (by decide +kernel)) ggX0_sixesThenPair_X4_curves
set_option maxRecDepth 20000 in
theorem gX0_sixesThenPair_X0_lines : GoodIn wsX0_sixesThenPair (wsV RX0 165 RX0 yX0_lines wsX0_lines) := goodIn_app (goodIn_of _ (by decide +kernel)) ggX0_sixesThenPair_X0_lines
set_option maxRecDepth 20000 in
theorem gX0_straightCurves_X7_size : GoodIn wsX0_straightCurves (wsV RX0 106 RX7 yX7_size wsX7_size) := goodIn_app (goodIn_of _ (by decide +kernel)) ggX0_straightCurves_X7_size
set_option maxRecDepth 20000 in
theorem gX0_straightCurves_X7_get : GoodIn wsX0_straightCurves (wsV RX0 126 RX7 yX7_get wsX7_get) := goodIn_app (goodIn_of _ (by decide +kernel)) ggX0_straightCurves_X7_get
set_option maxRecDepth 20000 in
theorem gX0_straightCurves_X6_curveBy : GoodIn wsX0_straightCurves (wsV RX0 171 RX6 yX6_curveBy wsX6_curveBy) := goodIn_app (goodIn_of _ (by decide +kernel)) ggX0_straightCurves_X6_curveBy
set_option maxRecDepth 20000 in
theorem gX0_flexAlongX_X7_get : GoodIn wsX0_flexAlongX (wsV RX0 126 RX7 yX7_get wsX7_get) := goodIn_app (goodIn_of _ (by decide +kernel)) ggX0_flexAlongX_X7_get
set_option maxRecDepth 20000 in
theorem gX0_flexAlongX_X6_curveBy : GoodIn wsX0_flexAlongX (wsV RX0 171 RX6 yX6_curveBy wsX6_curveBy) := goodIn_app (goodIn_of _ (by decide +kernel)) ggX0_flexAlongX_X6_curveBy
set_option maxRecDepth 20000 in
theorem gX0_flexBackToY_X7_get : GoodIn wsX0_flexBackToY (wsV RX0 126 RX7 yX7_get wsX7_get) := goodIn_app (goodIn_of _ (by decide +kernel)) ggX0_flexBackToY_X7_get
set_option maxRecDepth 20000 in
theorem gX0_flexBackToY_X6_curveBy : GoodIn wsX0_flexBackToY (wsV RX0 171 RX6 yX6_curveBy wsX6_curveBy) := goodIn_app (goodIn_of _ (by decide +kernel)) ggX0_flexBackToY_X6_curveBy
set_option maxRecDepth 20000 in
theorem gX0_flexBack_X7_get : GoodIn wsX0_flexBack (wsV RX0 126 RX7 yX7_get wsX7_get) := goodIn_app (goodIn_of _ (by decide +kernel)) ggX0_flexBack_X7_get
set_option maxRecDepth 20000 in
theorem gX0_flexBack_X4_curves_u110X0 : GoodIn wsX0_flexBack (va_wsU RX0 110 RX0 "CharstringPress$Machine" ⟨"CharstringPress$CffMachine", "curves", "(II)I"⟩ yX4_curves wsX4_curves) := goodIn_app (goodIn_of _ (by decide +kernel)) ggX0_flexBack_X4_curves
set_option maxRecDepth 20000 in
theorem gX0_flexBack_X6_curveBy : GoodIn wsX0_flexBack (wsV RX0 171 RX6 yX6_curveBy wsX6_curveBy) := goodIn_app (goodIn_of _ (by decide +kernel)) ggX0_flexBack_X6_curveBy
set_option maxRecDepth 20000 in
theorem gX0_linesAndCurves_X0_pairsThenSixes : GoodIn wsX0_linesAndCurves (wsV RX0 90 RX0 yX0_pairsThenSixes wsX0_pairsThenSixes) := goodIn_app (goodIn_of _ (by decide +kernel)) ggX0_linesAndCurves_X0_pairsThenSixes
set_option maxRecDepth 20000 in
theorem gX0_linesAndCurves_X0_turningLines : GoodIn wsX0_linesAndCurves (wsV RX0 93 RX0 yX0_turningLines wsX0_turningLines) := goodIn_app (goodIn_of _ (by decide +kernel)) ggX0_linesAndCurves_X0_turningLines
set_option maxRecDepth 20000 in
theorem gX0_linesAndCurves_X0_sixesThenPair : GoodIn wsX0_linesAndCurves (wsV RX0 97 RX0 yX0_sixesThenPair wsX0_sixesThenPair) := goodIn_app (goodIn_of _ (by decide +kernel)) ggX0_linesAndCurves_X0_sixesThenPair
set_option maxRecDepth 20000 in
theorem gX0_linesAndCurves_X0_straightCurves : GoodIn wsX0_linesAndCurves (wsV RX0 100 RX0 yX0_straightCurves wsX0_straightCurves) := goodIn_app (goodIn_of _ (by decide +kernel)) ggX0_linesAndCurves_X0_straightCurves
set_option maxRecDepth 20000 in
theorem gX0_linesAndCurves_X4_turningCurves_u103X0 : GoodIn wsX0_linesAndCurves (va_wsU RX0 103 RX0 "CharstringPress$Machine" ⟨"CharstringPress$CffMachine", "turningCurves", "(Z)I"⟩ yX4_turningCurves wsX4_turningCurves) := goodIn_app (goodIn_of _ (by decide +kernel)) ggX0_linesAndCurves_X4_turningCurves
set_option maxRecDepth 20000 in
theorem gX0_linesAndCurves_X7_size : GoodIn wsX0_linesAndCurves (wsV RX0 106 RX7 yX7_size wsX7_size) := goodIn_app (goodIn_of _ (by decide +kernel)) ggX0_linesAndCurves_X7_size
set_option maxRecDepth 20000 in
theorem gX0_linesAndCurves_X0_flexAlongX : GoodIn wsX0_linesAndCurves (wsV RX0 107 RX0 yX0_flexAlongX wsX0_flexAlongX) := goodIn_app (goodIn_of _ (by decide +kernel)) ggX0_linesAndCurves_X0_flexAlongX
set_option maxRecDepth 20000 in
theorem gX0_linesAndCurves_X4_curves_u110X0 : GoodIn wsX0_linesAndCurves (va_wsU RX0 110 RX0 "CharstringPress$Machine" ⟨"CharstringPress$CffMachine", "curves", "(II)I"⟩ yX4_curves wsX4_curves) := goodIn_app (goodIn_of _ (by decide +kernel)) ggX0_linesAndCurves_X4_curves
set_option maxRecDepth 20000 in
theorem gX0_linesAndCurves_X0_flexBackToY : GoodIn wsX0_linesAndCurves (wsV RX0 114 RX0 yX0_flexBackToY wsX0_flexBackToY) := goodIn_app (goodIn_of _ (by decide +kernel)) ggX0_linesAndCurves_X0_flexBackToY
set_option maxRecDepth 20000 in
theorem gX0_linesAndCurves_X0_flexBack : GoodIn wsX0_linesAndCurves (wsV RX0 117 RX0 yX0_flexBack wsX0_flexBack) := goodIn_app (goodIn_of _ (by decide +kernel)) ggX0_linesAndCurves_X0_flexBack
set_option maxRecDepth 20000 in
theorem gX0_tellWidth_X7_get : GoodIn wsX0_tellWidth (wsV RX0 126 RX7 yX7_get wsX7_get) := goodIn_app (goodIn_of _ (by decide +kernel)) ggX0_tellWidth_X7_get
set_option maxRecDepth 20000 in
theorem gX6_closeIfOpen_X6_close : GoodIn wsX6_closeIfOpen (wsV RX6 57 RX6 yX6_close wsX6_close) := goodIn_app (goodIn_of _ (by decide +kernel)) ggX6_closeIfOpen_X6_close
set_option maxRecDepth 20000 in
theorem gX0_move_X7_size : GoodIn wsX0_move (wsV RX0 106 RX7 yX7_size wsX7_size) := goodIn_app (goodIn_of _ (by decide +kernel)) ggX0_move_X7_size
set_option maxRecDepth 20000 in
theorem gX0_move_X0_widthsShare : GoodIn wsX0_move (wsV RX0 137 RX0 yX0_widthsShare wsX0_widthsShare) := goodIn_app (goodIn_of _ (by decide +kernel)) ggX0_move_X0_widthsShare
set_option maxRecDepth 20000 in
theorem gX0_move_X0_tellWidth : GoodIn wsX0_move (wsV RX0 140 RX0 yX0_tellWidth wsX0_tellWidth) := goodIn_app (goodIn_of _ (by decide +kernel)) ggX0_move_X0_tellWidth
set_option maxRecDepth 20000 in
theorem gX0_move_X6_closeIfOpen : GoodIn wsX0_move (wsV RX0 153 RX6 yX6_closeIfOpen wsX6_closeIfOpen) := goodIn_app (goodIn_of _ (by decide +kernel)) ggX0_move_X6_closeIfOpen
set_option maxRecDepth 20000 in
theorem gX0_move_X7_get : GoodIn wsX0_move (wsV RX0 126 RX7 yX7_get wsX7_get) := goodIn_app (goodIn_of _ (by decide +kernel)) ggX0_move_X7_get
set_option maxRecDepth 20000 in
theorem gX0_move_X6_moveBy : GoodIn wsX0_move (wsV RX0 158 RX6 yX6_moveBy wsX6_moveBy) := goodIn_app (goodIn_of _ (by decide +kernel)) ggX0_move_X6_moveBy
set_option maxRecDepth 20000 in
theorem gX0_stems_X7_size : GoodIn wsX0_stems (wsV RX0 106 RX7 yX7_size wsX7_size) := goodIn_app (goodIn_of _ (by decide +kernel)) ggX0_stems_X7_size
set_option maxRecDepth 20000 in
theorem gX0_stems_X0_widthsShare : GoodIn wsX0_stems (wsV RX0 137 RX0 yX0_widthsShare wsX0_widthsShare) := goodIn_app (goodIn_of _ (by decide +kernel)) ggX0_stems_X0_widthsShare
set_option maxRecDepth 20000 in
theorem gX0_stems_X0_tellWidth : GoodIn wsX0_stems (wsV RX0 140 RX0 yX0_tellWidth wsX0_tellWidth) := goodIn_app (goodIn_of _ (by decide +kernel)) ggX0_stems_X0_tellWidth
set_option maxRecDepth 20000 in
theorem gX0_endLetter_X7_size : GoodIn wsX0_endLetter (wsV RX0 106 RX7 yX7_size wsX7_size) := goodIn_app (goodIn_of _ (by decide +kernel)) ggX0_endLetter_X7_size
set_option maxRecDepth 20000 in
theorem gX0_endLetter_X0_widthsShare : GoodIn wsX0_endLetter (wsV RX0 137 RX0 yX0_widthsShare wsX0_widthsShare) := goodIn_app (goodIn_of _ (by decide +kernel)) ggX0_endLetter_X0_widthsShare
set_option maxRecDepth 20000 in
theorem gX0_endLetter_X0_tellWidth : GoodIn wsX0_endLetter (wsV RX0 140 RX0 yX0_tellWidth wsX0_tellWidth) := goodIn_app (goodIn_of _ (by decide +kernel)) ggX0_endLetter_X0_tellWidth
set_option maxRecDepth 20000 in
theorem gX0_endLetter_X6_closeIfOpen : GoodIn wsX0_endLetter (wsV RX0 153 RX6 yX6_closeIfOpen wsX6_closeIfOpen) := goodIn_app (goodIn_of _ (by decide +kernel)) ggX0_endLetter_X6_closeIfOpen
set_option maxRecDepth 20000 in
theorem gX0_endLetter_X4_finishAll_u162X0 : GoodIn wsX0_endLetter (va_wsU RX0 162 RX0 "CharstringPress$Machine" ⟨"CharstringPress$CffMachine", "finishAll", "()V"⟩ yX4_finishAll wsX4_finishAll) := goodIn_app (goodIn_of _ (by decide +kernel)) ggX0_endLetter_X4_finishAll
set_option maxRecDepth 20000 in
theorem gX0_mask_X7_size : GoodIn wsX0_mask (wsV RX0 106 RX7 yX7_size wsX7_size) := goodIn_app (goodIn_of _ (by decide +kernel)) ggX0_mask_X7_size
set_option maxRecDepth 20000 in
theorem gX0_mask_X0_widthsShare : GoodIn wsX0_mask (wsV RX0 137 RX0 yX0_widthsShare wsX0_widthsShare) := goodIn_app (goodIn_of _ (by decide +kernel)) ggX0_mask_X0_widthsShare
set_option maxRecDepth 20000 in
theorem gX0_mask_X0_tellWidth : GoodIn wsX0_mask (wsV RX0 140 RX0 yX0_tellWidth wsX0_tellWidth) := goodIn_app (goodIn_of _ (by decide +kernel)) ggX0_mask_X0_tellWidth
set_option maxRecDepth 20000 in
theorem gX0_mask_X4_skipBytes_u146X0 : GoodIn wsX0_mask (va_wsU RX0 146 RX0 "CharstringPress$Machine" ⟨"CharstringPress$CffMachine", "skipBytes", "(I)Z"⟩ yX4_skipBytes wsX4_skipBytes) := goodIn_app (goodIn_of _ (by decide +kernel)) ggX0_mask_X4_skipBytes
set_option maxRecDepth 20000 in
theorem gX0_hintOrMove_X0_move : GoodIn wsX0_hintOrMove (wsV RX0 81 RX0 yX0_move wsX0_move) := goodIn_app (goodIn_of _ (by decide +kernel)) ggX0_hintOrMove_X0_move
set_option maxRecDepth 20000 in
theorem gX0_hintOrMove_X0_stems : GoodIn wsX0_hintOrMove (wsV RX0 87 RX0 yX0_stems wsX0_stems) := goodIn_app (goodIn_of _ (by decide +kernel)) ggX0_hintOrMove_X0_stems
set_option maxRecDepth 20000 in
theorem gX0_hintOrMove_X0_endLetter : GoodIn wsX0_hintOrMove (wsV RX0 84 RX0 yX0_endLetter wsX0_endLetter) := goodIn_app (goodIn_of _ (by decide +kernel)) ggX0_hintOrMove_X0_endLetter
set_option maxRecDepth 20000 in
theorem gX0_hintOrMove_X0_mask : GoodIn wsX0_hintOrMove (wsV RX0 78 RX0 yX0_mask wsX0_mask) := goodIn_app (goodIn_of _ (by decide +kernel)) ggX0_hintOrMove_X0_mask
set_option maxRecDepth 20000 in
theorem gX7_pick_X7_below : GoodIn wsX7_pick (wsV RX7 41 RX7 yX7_below wsX7_below) := goodIn_app (goodIn_of _ (by decide +kernel)) ggX7_pick_X7_below
set_option maxRecDepth 20000 in
theorem gX7_pick_X7_replace : GoodIn wsX7_pick (wsV RX7 56 RX7 yX7_replace wsX7_replace) := goodIn_app (goodIn_of _ (by decide +kernel)) ggX7_pick_X7_replace
set_option maxRecDepth 20000 in
theorem gX7_fetch_X7_replace : GoodIn wsX7_fetch (wsV RX7 56 RX7 yX7_replace wsX7_replace) := goodIn_app (goodIn_of _ (by decide +kernel)) ggX7_fetch_X7_replace
set_option maxRecDepth 20000 in
theorem gX7_reckonOne_X7_below : GoodIn wsX7_reckonOne (wsV RX7 41 RX7 yX7_below wsX7_below) := goodIn_app (goodIn_of _ (by decide +kernel)) ggX7_reckonOne_X7_below
set_option maxRecDepth 20000 in
theorem gX7_reckonOne_X7_truth : GoodIn wsX7_reckonOne (va_wsS RX7 70 yX7_truth wsX7_truth) := goodIn_app (goodIn_of _ (by decide +kernel)) ggX7_reckonOne_X7_truth
set_option maxRecDepth 20000 in
theorem gX7_reckonOne_X7_replace : GoodIn wsX7_reckonOne (wsV RX7 56 RX7 yX7_replace wsX7_replace) := goodIn_app (goodIn_of _ (by decide +kernel)) ggX7_reckonOne_X7_replace
set_option maxRecDepth 20000 in
theorem gX7_reckonOne_X7_wholeBelow : GoodIn wsX7_reckonOne (wsV RX7 78 RX7 yX7_wholeBelow wsX7_wholeBelow) := goodIn_app (goodIn_of _ (by decide +kernel)) ggX7_reckonOne_X7_wholeBelow
set_option maxRecDepth 20000 in
theorem gX7_reckonOne_X7_pick : GoodIn wsX7_reckonOne (wsV RX7 87 RX7 yX7_pick wsX7_pick) := goodIn_app (goodIn_of _ (by decide +kernel)) ggX7_reckonOne_X7_pick
set_option maxRecDepth 20000 in
theorem gX7_reckonOne_X7_drop : GoodIn wsX7_reckonOne (wsV RX7 46 RX7 yX7_drop wsX7_drop) := goodIn_app (goodIn_of _ (by decide +kernel)) ggX7_reckonOne_X7_drop
set_option maxRecDepth 20000 in
theorem gX7_reckonOne_X7_fetch : GoodIn wsX7_reckonOne (wsV RX7 81 RX7 yX7_fetch wsX7_fetch) := goodIn_app (goodIn_of _ (by decide +kernel)) ggX7_reckonOne_X7_fetch
set_option maxRecDepth 20000 in
theorem gX7_reckonOne_X7_rootOf : GoodIn wsX7_reckonOne (va_wsS RX7 84 yX7_rootOf wsX7_rootOf) := goodIn_app (goodIn_of _ (by decide +kernel)) ggX7_reckonOne_X7_rootOf
set_option maxRecDepth 20000 in
theorem gX7_reckonOne_X7_push : GoodIn wsX7_reckonOne (wsV RX7 50 RX7 yX7_push wsX7_push) := goodIn_app (goodIn_of _ (by decide +kernel)) ggX7_reckonOne_X7_push
set_option maxRecDepth 20000 in
theorem gX7_roll_X7_drop : GoodIn wsX7_roll (wsV RX7 46 RX7 yX7_drop wsX7_drop) := goodIn_app (goodIn_of _ (by decide +kernel)) ggX7_roll_X7_drop
set_option maxRecDepth 20000 in
theorem gX7_roll_J9_floorMod_f86c9 : GoodIn wsX7_roll (va_wsS RX7 107 yJ9_floorMod_f86c9 wsJ9_floorMod_f86c9) := goodIn_app (goodIn_of _ (by decide +kernel)) ggX7_roll_J9_floorMod_f86c9
set_option maxRecDepth 20000 in
theorem gX7_roll_X7_turnRound : GoodIn wsX7_roll (wsV RX7 110 RX7 yX7_turnRound wsX7_turnRound) := goodIn_app (goodIn_of _ (by decide +kernel)) ggX7_roll_X7_turnRound
set_option maxRecDepth 20000 in
theorem gX7_keep_X7_drop : GoodIn wsX7_keep (wsV RX7 46 RX7 yX7_drop wsX7_drop) := goodIn_app (goodIn_of _ (by decide +kernel)) ggX7_keep_X7_drop
set_option maxRecDepth 20000 in
theorem gX7_reckonTwo_X7_below : GoodIn wsX7_reckonTwo (wsV RX7 41 RX7 yX7_below wsX7_below) := goodIn_app (goodIn_of _ (by decide +kernel)) ggX7_reckonTwo_X7_below
set_option maxRecDepth 20000 in
theorem gX7_reckonTwo_X7_truth : GoodIn wsX7_reckonTwo (va_wsS RX7 70 yX7_truth wsX7_truth) := goodIn_app (goodIn_of _ (by decide +kernel)) ggX7_reckonTwo_X7_truth
set_option maxRecDepth 20000 in
theorem gX7_reckonTwo_X7_replace : GoodIn wsX7_reckonTwo (wsV RX7 56 RX7 yX7_replace wsX7_replace) := goodIn_app (goodIn_of _ (by decide +kernel)) ggX7_reckonTwo_X7_replace
set_option maxRecDepth 20000 in
theorem gX7_reckonTwo_X7_wholeBelow : GoodIn wsX7_reckonTwo (wsV RX7 78 RX7 yX7_wholeBelow wsX7_wholeBelow) := goodIn_app (goodIn_of _ (by decide +kernel)) ggX7_reckonTwo_X7_wholeBelow
set_option maxRecDepth 20000 in
theorem gX7_reckonTwo_X7_roll : GoodIn wsX7_reckonTwo (wsV RX7 94 RX7 yX7_roll wsX7_roll) := goodIn_app (goodIn_of _ (by decide +kernel)) ggX7_reckonTwo_X7_roll
set_option maxRecDepth 20000 in
theorem gX7_reckonTwo_X7_keep : GoodIn wsX7_reckonTwo (wsV RX7 90 RX7 yX7_keep wsX7_keep) := goodIn_app (goodIn_of _ (by decide +kernel)) ggX7_reckonTwo_X7_keep
set_option maxRecDepth 20000 in
theorem gX7_reckonTwo_X7_push : GoodIn wsX7_reckonTwo (wsV RX7 50 RX7 yX7_push wsX7_push) := goodIn_app (goodIn_of _ (by decide +kernel)) ggX7_reckonTwo_X7_push
set_option maxRecDepth 20000 in
theorem gX7_reckon_X7_wantedBy : GoodIn wsX7_reckon (va_wsS RX7 60 yX7_wantedBy wsX7_wantedBy) := goodIn_app (goodIn_of _ (by decide +kernel)) ggX7_reckon_X7_wantedBy
set_option maxRecDepth 20000 in
theorem gX7_reckon_X7_reckonOne : GoodIn wsX7_reckon (wsV RX7 64 RX7 yX7_reckonOne wsX7_reckonOne) := goodIn_app (goodIn_of _ (by decide +kernel)) ggX7_reckon_X7_reckonOne
set_option maxRecDepth 20000 in
theorem gX7_reckon_X7_reckonTwo : GoodIn wsX7_reckon (wsV RX7 67 RX7 yX7_reckonTwo wsX7_reckonTwo) := goodIn_app (goodIn_of _ (by decide +kernel)) ggX7_reckon_X7_reckonTwo
set_option maxRecDepth 20000 in
theorem gX7_reckon_X7_below : GoodIn wsX7_reckon (wsV RX7 41 RX7 yX7_below wsX7_below) := goodIn_app (goodIn_of _ (by decide +kernel)) ggX7_reckon_X7_below
set_option maxRecDepth 20000 in
theorem gX7_reckon_X7_replace : GoodIn wsX7_reckon (wsV RX7 56 RX7 yX7_replace wsX7_replace) := goodIn_app (goodIn_of _ (by decide +kernel)) ggX7_reckon_X7_replace
set_option maxRecDepth 20000 in
theorem gX0_operate_X0_biasOf : GoodIn wsX0_operate (va_wsS RX0 35 yX0_biasOf wsX0_biasOf) := goodIn_app (goodIn_of _ (by decide +kernel)) ggX0_operate_X0_biasOf
set_option maxRecDepth 20000 in
theorem gX0_operate_X4_call_u39X0 : GoodIn wsX0_operate (va_wsU RX0 39 RX0 "CharstringPress$Machine" ⟨"CharstringPress$CffMachine", "call", "(LCharstringPress$Shelf;I)I"⟩ yX4_call wsX4_call) := goodIn_app (goodIn_of _ (by decide +kernel)) ggX0_operate_X4_call
set_option maxRecDepth 20000 in
theorem gX0_operate_X4_goBack_u46X0 : GoodIn wsX0_operate (va_wsU RX0 46 RX0 "CharstringPress$Machine" ⟨"CharstringPress$CffMachine", "goBack", "()I"⟩ yX4_goBack wsX4_goBack) := goodIn_app (goodIn_of _ (by decide +kernel)) ggX0_operate_X4_goBack
set_option maxRecDepth 20000 in
theorem gX0_operate_X0_mayTellWidth : GoodIn wsX0_operate (va_wsS RX0 58 yX0_mayTellWidth wsX0_mayTellWidth) := goodIn_app (goodIn_of _ (by decide +kernel)) ggX0_operate_X0_mayTellWidth
set_option maxRecDepth 20000 in
theorem gX0_operate_X0_linesAndCurves : GoodIn wsX0_operate (wsV RX0 64 RX0 yX0_linesAndCurves wsX0_linesAndCurves) := goodIn_app (goodIn_of _ (by decide +kernel)) ggX0_operate_X0_linesAndCurves
set_option maxRecDepth 20000 in
theorem gX0_operate_X7_clear : GoodIn wsX0_operate (wsV RX0 67 RX7 yX7_clear wsX7_clear) := goodIn_app (goodIn_of _ (by decide +kernel)) ggX0_operate_X7_clear
set_option maxRecDepth 20000 in
theorem gX0_operate_X0_hintOrMove : GoodIn wsX0_operate (wsV RX0 61 RX0 yX0_hintOrMove wsX0_hintOrMove) := goodIn_app (goodIn_of _ (by decide +kernel)) ggX0_operate_X0_hintOrMove
set_option maxRecDepth 20000 in
theorem gX0_operate_X0_isFlex : GoodIn wsX0_operate (va_wsS RX0 50 yX0_isFlex wsX0_isFlex) := goodIn_app (goodIn_of _ (by decide +kernel)) ggX0_operate_X0_isFlex
set_option maxRecDepth 20000 in
theorem gX0_operate_X7_reckon : GoodIn wsX0_operate (wsV RX0 54 RX7 yX7_reckon wsX7_reckon) := goodIn_app (goodIn_of _ (by decide +kernel)) ggX0_operate_X7_reckon
set_option maxRecDepth 20000 in
theorem gX4_run_X0_prepare_u75X0 : GoodIn wsX4_run (va_wsU RX4 75 RX0 "CharstringPress$Machine" ⟨"CharstringPress$Machine", "prepare", "()V"⟩ yX0_prepare wsX0_prepare) := goodIn_app (goodIn_of _ (by decide +kernel)) ggX4_run_X0_prepare
set_option maxRecDepth 20000 in
theorem gX4_run_X4_takeOperator_u78X0 : GoodIn wsX4_run (va_wsU RX4 78 RX0 "CharstringPress$Machine" ⟨"CharstringPress$Machine", "takeOperator", "()I"⟩ yX4_takeOperator wsX4_takeOperator) := goodIn_app (goodIn_of _ (by decide +kernel)) ggX4_run_X4_takeOperator
set_option maxRecDepth 20000 in
theorem gX4_run_X0_operate_u82X0 : GoodIn wsX4_run (va_wsU RX4 82 RX0 "CharstringPress$Machine" ⟨"CharstringPress$Machine", "operate", "(I)I"⟩ yX0_operate wsX0_operate) := goodIn_app (goodIn_of _ (by decide +kernel)) ggX4_run_X0_operate
set_option maxRecDepth 20000 in
theorem gX11_draw_X8_has : GoodIn wsX11_draw (wsV RX11 117 RX8 yX8_has wsX8_has) := goodIn_app (goodIn_of _ (by decide +kernel)) ggX11_draw_X8_has
set_option maxRecDepth 20000 in
theorem gX11_draw_X6_begin : GoodIn wsX11_draw (wsV RX11 135 RX6 yX6_begin wsX6_begin) := goodIn_app (goodIn_of _ (by decide +kernel)) ggX11_draw_X6_begin
set_option maxRecDepth 20000 in
theorem gX11_draw_X4_run_u138X9 : GoodIn wsX11_draw (va_wsU RX11 138 RX9 "CharstringPress$Machine" ⟨"CharstringPress$Machine", "run", "(LCharstringPress$Font;I)I"⟩ yX4_run wsX4_run) := goodIn_app (goodIn_of _ (by decide +kernel)) ggX11_draw_X4_run
set_option maxRecDepth 20000 in
theorem gX11_draw_X4_run_u138X0 : GoodIn wsX11_draw (va_wsU RX11 138 RX0 "CharstringPress$Machine" ⟨"CharstringPress$Machine", "run", "(LCharstringPress$Font;I)I"⟩ yX4_run wsX4_run) := goodIn_app (goodIn_of _ (by decide +kernel)) ggX11_draw_X4_run
set_option maxRecDepth 20000 in
theorem gX11_drawn_X6_size : GoodIn wsX11_drawn (wsV RX11 144 RX6 yX6_size wsX6_size) := goodIn_app (goodIn_of _ (by decide +kernel)) ggX11_drawn_X6_size
set_option maxRecDepth 20000 in
theorem gX11_drawn_X4_bytesDone_u151X0 : GoodIn wsX11_drawn (va_wsU RX11 151 RX0 "CharstringPress$Machine" ⟨"CharstringPress$Machine", "bytesDone", "()I"⟩ yX4_bytesDone wsX4_bytesDone) := goodIn_app (goodIn_of _ (by decide +kernel)) ggX11_drawn_X4_bytesDone
set_option maxRecDepth 20000 in
theorem gX11_drawn_X4_bytesDone_u151X9 : GoodIn wsX11_drawn (va_wsU RX11 151 RX9 "CharstringPress$Machine" ⟨"CharstringPress$Machine", "bytesDone", "()I"⟩ yX4_bytesDone wsX4_bytesDone) := goodIn_app (goodIn_of _ (by decide +kernel)) ggX11_drawn_X4_bytesDone
