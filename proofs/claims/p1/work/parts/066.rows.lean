theorem lgI1 (a b : Int64) : (lg_cmp a b).toInt < 0 ↔ a.toInt < b.toInt := ((Int32.lt_iff_toInt_lt (x := lg_cmp a b) (y := 0)).symm.trans (lg_lt a b)).trans Int64.lt_iff_toInt_lt
theorem lgI2 (a b : Int64) : 0 < (lg_cmp a b).toInt ↔ b.toInt < a.toInt := ((Int32.lt_iff_toInt_lt (x := 0) (y := lg_cmp a b)).symm.trans (lg_gt a b)).trans Int64.lt_iff_toInt_lt
set_option maxRecDepth 20000 in
theorem ggX5_addWord_X5_add : GoodIn wsX5_addWord wsX5_add := goodIn_r _ [5, 6, 7, 8, 9] rfl (by decide +kernel)
set_option maxRecDepth 20000 in
theorem ggX11_feed_X5_size : GoodIn wsX11_feed wsX5_size := goodIn_r _ [6, 7, 27, 28] rfl (by decide +kernel)
set_option maxRecDepth 20000 in
theorem ggX11_feed_X5_addWord : GoodIn wsX11_feed wsX5_addWord := goodIn_r _ [11, 12, 13, 14, 5, 15, 7, 16, 27, 28] rfl (by decide +kernel)
set_option maxRecDepth 20000 in
theorem ggX12_feed_X12_four : GoodIn wsX12_feed wsX12_four := goodIn_r _ [6, 7, 1, 8, 9, 10, 11, 12, 13, 14, 15, 16, 17, 18, 19, 20, 21, 22, 23, 24, 25, 26, 27, 28, 29, 30, 31, 32, 33, 34, 35, 36, 37, 38, 39, 40, 41, 42, 43, 44, 45, 46, 47, 48, 49, 50, 51, 52, 53, 54, 55, 56, 57, 58, 59, 60, 61, 62, 63, 64, 65, 66, 67, 68, 69, 70, 71, 72, 73, 74, 75, 76, 77, 78, 79, 80, 81, 82, 83] rfl (by decide +kernel)
set_option maxRecDepth 20000 in
theorem ggX11_end_X5_size : GoodIn wsX11_end wsX5_size := goodIn_r _ [6, 7, 22, 23] rfl (by decide +kernel)
set_option maxRecDepth 20000 in
theorem ggX11_end_X5_cut : GoodIn wsX11_end wsX5_cut := goodIn_r _ [11, 7, 22, 23] rfl (by decide +kernel)
set_option maxRecDepth 20000 in
theorem ggJ7_fill_fda19_J7_rangeCheck_23922 : GoodIn wsJ7_fill_fda19 wsJ7_rangeCheck_23922 := goodIn_r _ [4] rfl (by decide +kernel)
set_option maxRecDepth 20000 in
theorem ggX8_lay_J7_fill_fda19 : GoodIn wsX8_lay wsJ7_fill_fda19 := goodIn_r _ [14, 15, 16, 13, 17] rfl (by decide +kernel)
set_option maxRecDepth 20000 in
theorem ggX3_begin_X5_cut : GoodIn wsX3_begin wsX5_cut := goodIn_r _ [12, 13, 57, 58] rfl (by decide +kernel)
set_option maxRecDepth 20000 in
theorem ggX3_begin_X5_addAll : GoodIn wsX3_begin wsX5_addAll := goodIn_r _ [17, 18, 19, 20, 21, 13, 22, 23, 24, 11, 25, 26, 27, 28, 29, 30, 57, 58] rfl (by decide +kernel)
set_option maxRecDepth 20000 in
theorem ggX3_begin_X8_lay : GoodIn wsX3_begin wsX8_lay := goodIn_r _ [35, 36, 37, 38, 20, 39, 40, 19, 21, 41, 42, 43, 44, 45, 46, 47, 48, 49, 59, 60, 61, 62, 63, 64] rfl (by decide +kernel)
set_option maxRecDepth 20000 in
theorem ggX1_take_X5_size : GoodIn wsX1_take wsX5_size := goodIn_r _ [9, 10, 31, 32] rfl (by decide +kernel)
set_option maxRecDepth 20000 in
theorem ggX1_take_X1_wrong : GoodIn wsX1_take wsX1_wrong := goodIn_r _ [15, 4, 21, 22, 23, 24, 25, 26, 27, 28, 29, 30] rfl (by decide +kernel)
set_option maxRecDepth 20000 in
theorem ggX1_want_X1_wrong : GoodIn wsX1_want wsX1_wrong := goodIn_r _ [5, 6, 7, 8, 9, 10, 11, 12, 13, 14, 15, 16] rfl (by decide +kernel)
set_option maxRecDepth 20000 in
theorem ggX1_takeHeader_X1_take : GoodIn wsX1_takeHeader wsX1_take := goodIn_r _ [6, 1, 7, 8, 9, 10, 11, 12, 13, 14, 15, 16, 17, 18, 5, 19, 20, 21, 22, 23, 24, 29, 30, 31, 32, 33, 34, 35, 36, 37, 38, 39, 40] rfl (by decide +kernel)
set_option maxRecDepth 20000 in
theorem ggX1_takeHeader_X1_want : GoodIn wsX1_takeHeader wsX1_want := goodIn_r _ [28, 16, 17, 18, 5, 19, 9, 29, 30, 31, 32, 33, 34, 35, 36, 37, 38] rfl (by decide +kernel)
set_option maxRecDepth 20000 in
theorem ggX1_takeIndex_X1_takeNumber : GoodIn wsX1_takeIndex wsX1_takeNumber := goodIn_r _ [12, 2, 13, 14, 15, 16, 11, 17, 4, 7, 18, 19, 20, 21, 22, 23, 24, 25, 26, 27, 28, 29, 30, 31, 32, 33, 38, 39, 40, 41, 42, 43, 44, 45, 46, 47, 48, 49] rfl (by decide +kernel)
set_option maxRecDepth 20000 in
theorem ggX1_takeIndex_X1_want : GoodIn wsX1_takeIndex wsX1_want := goodIn_r _ [37, 25, 26, 27, 11, 28, 2, 38, 39, 40, 41, 42, 43, 44, 45, 46, 47] rfl (by decide +kernel)
set_option maxRecDepth 20000 in
theorem ggX2_clear_J7_fill_53178 : GoodIn wsX2_clear wsJ7_fill_53178 := goodIn_r _ [7] rfl (by decide +kernel)
set_option maxRecDepth 20000 in
theorem ggX1_takeDict_X2_clear : GoodIn wsX1_takeDict wsX2_clear := goodIn_r _ [10, 11, 12, 13, 14, 15, 16, 17, 102, 103, 104, 105, 106, 107] rfl (by decide +kernel)
set_option maxRecDepth 20000 in
theorem ggX1_takeDict_X2_isBetween : GoodIn wsX1_takeDict wsX2_isBetween := goodIn_r _ [91, 11, 102, 103, 104, 105, 106, 107] rfl (by decide +kernel)
set_option maxRecDepth 20000 in
theorem ggX1_takeDict_X1_want : GoodIn wsX1_takeDict wsX1_want := goodIn_r _ [63, 34, 35, 36, 21, 37, 4, 92, 93, 94, 95, 96, 97, 98, 99, 100, 101] rfl (by decide +kernel)
set_option maxRecDepth 20000 in
theorem ggX2_isTold_X2_slotOf : GoodIn wsX2_isTold wsX2_slotOf := goodIn_r _ [5] rfl (by decide +kernel)
set_option maxRecDepth 20000 in
theorem ggX2_fits_X2_slotOf : GoodIn wsX2_fits wsX2_slotOf := goodIn_r _ [5] rfl (by decide +kernel)
set_option maxRecDepth 20000 in
theorem ggX2_first_X2_isTold : GoodIn wsX2_first wsX2_isTold := goodIn_r _ [6, 7, 8, 9, 5, 10, 11, 12, 13, 14, 15, 16] rfl (by decide +kernel)
set_option maxRecDepth 20000 in
theorem ggX2_first_X2_slotOf : GoodIn wsX2_first wsX2_slotOf := goodIn_r _ [10] rfl (by decide +kernel)
set_option maxRecDepth 20000 in
theorem ggX1_takeTop_X1_takeDict : GoodIn wsX1_takeTop wsX1_takeDict := goodIn_r _ [6, 1, 7, 8, 9, 10, 11, 12, 13, 14, 15, 16, 17, 18, 19, 20, 21, 22, 23, 24, 25, 5, 26, 27, 28, 29, 30, 31, 32, 33, 34, 35, 36, 37, 38, 39, 40, 41, 42, 43, 44, 45, 46, 47, 48, 49, 50, 51, 52, 53, 54, 55, 56, 57, 58, 59, 60, 61, 62, 63, 64, 65, 66, 67, 68, 69, 70, 71, 72, 73, 74, 75, 76, 77, 78, 79, 80, 81, 82, 83, 84, 85, 86, 87, 88, 89, 90, 91, 92, 93, 94, 95, 109, 110, 111, 112, 113, 114, 115, 116, 117, 118, 119, 120, 121, 122, 123, 124, 125, 126] rfl (by decide +kernel)
set_option maxRecDepth 20000 in
theorem ggX1_takeTop_X2_isTold : GoodIn wsX1_takeTop wsX2_isTold := goodIn_r _ [99, 18, 54, 55, 14, 56, 119, 120, 121, 122, 123, 124] rfl (by decide +kernel)
set_option maxRecDepth 20000 in
theorem ggX1_takeTop_X1_want : GoodIn wsX1_takeTop wsX1_want := goodIn_r _ [67, 38, 39, 40, 5, 41, 9, 109, 110, 111, 112, 113, 114, 115, 116, 117, 118] rfl (by decide +kernel)
set_option maxRecDepth 20000 in
theorem ggX1_takeTop_X2_fits : GoodIn wsX1_takeTop wsX2_fits := goodIn_r _ [103, 18, 54, 55, 14, 56, 119, 120, 121, 122, 123, 124] rfl (by decide +kernel)
set_option maxRecDepth 20000 in
theorem ggX1_takeTop_X2_first : GoodIn wsX1_takeTop wsX2_first := goodIn_r _ [107, 51, 108, 97, 98, 14, 99, 18, 54, 55, 56, 119, 120, 121, 122, 123, 124] rfl (by decide +kernel)
set_option maxRecDepth 20000 in
theorem ggX2_second_X2_isTold : GoodIn wsX2_second wsX2_isTold := goodIn_r _ [6, 7, 8, 9, 5, 10, 11, 12, 13, 14, 15, 16] rfl (by decide +kernel)
set_option maxRecDepth 20000 in
theorem ggX2_second_X2_slotOf : GoodIn wsX2_second wsX2_slotOf := goodIn_r _ [10] rfl (by decide +kernel)
set_option maxRecDepth 20000 in
theorem ggX1_parse_X3_begin : GoodIn wsX1_parse wsX3_begin := goodIn_r _ [14, 15, 16, 17, 18, 19, 20, 21, 22, 23, 24, 25, 26, 27, 28, 29, 30, 31, 32, 33, 34, 35, 36, 37, 38, 39, 40, 41, 42, 43, 44, 45, 46, 47, 48, 49, 50, 51, 52, 53, 54, 55, 56, 57, 58, 59, 60, 61, 62, 63, 201, 202, 203, 204, 205, 206, 207, 208, 209, 210, 211, 212, 213, 214, 215] rfl (by decide +kernel)
set_option maxRecDepth 20000 in
theorem ggX1_parse_X1_takeHeader : GoodIn wsX1_parse wsX1_takeHeader := goodIn_r _ [68, 7, 69, 70, 71, 67, 72, 2, 5, 3, 73, 74, 75, 25, 76, 27, 77, 78, 79, 80, 81, 37, 38, 39, 40, 82, 83, 84, 85, 191, 192, 193, 194, 195, 196, 197, 198, 199, 200, 208, 209] rfl (by decide +kernel)
set_option maxRecDepth 20000 in
theorem ggX1_parse_X1_takeIndex : GoodIn wsX1_parse wsX1_takeIndex := goodIn_r _ [89, 90, 3, 91, 7, 92, 6, 2, 93, 94, 95, 67, 96, 97, 69, 70, 71, 72, 5, 73, 74, 75, 25, 76, 27, 77, 78, 79, 80, 81, 37, 38, 39, 40, 82, 83, 84, 85, 191, 192, 193, 194, 195, 196, 197, 198, 199, 200, 208, 209] rfl (by decide +kernel)
set_option maxRecDepth 20000 in
theorem ggX1_parse_X1_shelve : GoodIn wsX1_parse wsX1_shelve := goodIn_r _ [101, 3, 90, 92, 91, 102, 103, 104, 48, 105, 55, 106, 56, 191, 192, 193, 194, 195, 196, 197, 198, 199, 200, 210, 211, 212, 213, 214, 215] rfl (by decide +kernel)
set_option maxRecDepth 20000 in
theorem ggX1_parse_X1_takeTop : GoodIn wsX1_parse wsX1_takeTop := goodIn_r _ [110, 9, 111, 112, 113, 67, 114, 7, 5, 3, 4, 115, 116, 117, 118, 119, 120, 121, 122, 123, 124, 59, 125, 126, 127, 128, 129, 69, 70, 71, 72, 2, 73, 74, 75, 25, 76, 27, 77, 78, 79, 80, 81, 37, 38, 39, 40, 130, 131, 132, 133, 134, 135, 136, 137, 138, 139, 140, 141, 142, 143, 144, 145, 146, 82, 83, 84, 85, 147, 148, 149, 150, 151, 152, 153, 154, 155, 156, 157, 158, 159, 160, 161, 162, 93, 94, 95, 96, 97, 163, 164, 165, 166, 167, 168, 169, 170, 171, 172, 173, 174, 175, 176, 177, 178, 179, 180, 181, 182, 191, 192, 193, 194, 195, 196, 197, 198, 199, 200, 216, 217, 218, 219, 220, 221, 208, 209] rfl (by decide +kernel)
set_option maxRecDepth 20000 in
theorem ggX1_parse_X2_second : GoodIn wsX1_parse wsX2_second := goodIn_r _ [186, 136, 182, 171, 172, 118, 173, 122, 137, 138, 139, 216, 217, 218, 219, 220, 221] rfl (by decide +kernel)
set_option maxRecDepth 20000 in
theorem ggX1_parse_X2_first : GoodIn wsX1_parse wsX2_first := goodIn_r _ [181, 134, 182, 171, 172, 118, 173, 122, 137, 138, 139, 216, 217, 218, 219, 220, 221] rfl (by decide +kernel)
set_option maxRecDepth 20000 in
theorem ggX1_parse_X2_isTold : GoodIn wsX1_parse wsX2_isTold := goodIn_r _ [173, 122, 137, 138, 118, 139, 216, 217, 218, 219, 220, 221] rfl (by decide +kernel)
set_option maxRecDepth 20000 in
theorem ggX10_behindEexec_J0_length_8abf5 : GoodIn wsX10_behindEexec wsJ0_length_8abf5 := goodIn_r _ [5, 6, 7, 8, 9, 4, 10, 11, 12] rfl (by decide +kernel)
set_option maxRecDepth 20000 in
theorem ggX10_behindEexec_X5_size : GoodIn wsX10_behindEexec wsX5_size := goodIn_r _ [17, 18, 68, 69] rfl (by decide +kernel)
set_option maxRecDepth 20000 in
theorem ggX10_parse_X10_behindEexec : GoodIn wsX10_parse wsX10_behindEexec := goodIn_r _ [10, 11, 12, 13, 14, 15, 16, 17, 18, 19, 20, 21, 22, 23, 24, 25, 26, 27, 28, 29, 30, 9, 31, 32, 33, 34, 35, 36, 37, 38, 39, 40, 41, 42, 43, 44, 45, 46, 47, 48, 49, 50, 51, 52, 53, 54, 55, 56, 57, 58, 59, 60, 61, 62, 63, 64, 65, 66, 67, 68, 69, 70, 71, 72, 73, 74, 75, 76, 231, 232] rfl (by decide +kernel)
set_option maxRecDepth 20000 in
theorem ggX11_read_X1_parse : GoodIn wsX11_read wsX1_parse := goodIn_r _ [10, 11, 12, 13, 14, 15, 16, 17, 18, 19, 20, 21, 22, 23, 24, 25, 26, 27, 28, 29, 30, 31, 32, 33, 34, 35, 36, 37, 38, 39, 40, 41, 42, 43, 44, 45, 46, 47, 48, 49, 50, 51, 52, 53, 54, 55, 56, 57, 58, 59, 60, 61, 62, 63, 64, 65, 66, 67, 68, 69, 70, 71, 72, 73, 74, 75, 76, 9, 77, 78, 79, 80, 81, 82, 83, 84, 85, 86, 87, 88, 89, 90, 91, 92, 93, 94, 95, 96, 97, 98, 99, 100, 101, 102, 103, 104, 105, 106, 107, 108, 109, 110, 111, 112, 113, 114, 115, 116, 117, 118, 119, 120, 121, 122, 123, 124, 125, 126, 127, 128, 129, 130, 131, 132, 133, 134, 135, 136, 137, 138, 139, 140, 141, 142, 143, 144, 145, 146, 147, 148, 149, 150, 151, 152, 153, 154, 155, 156, 157, 158, 159, 160, 161, 162, 163, 164, 165, 166, 167, 168, 169, 170, 171, 172, 173, 174, 175, 176, 177, 178, 179, 180, 181, 182, 183, 184, 185, 186, 187, 188, 189, 190, 191, 192, 193, 194, 195, 196, 197, 198, 199, 371, 372, 373, 374, 375, 376, 377, 378, 379, 380, 381, 382, 383, 384, 385, 386, 387, 388, 389, 390, 391, 392, 393, 394, 395, 396, 397, 398, 399, 400, 401] rfl (by decide +kernel)
set_option maxRecDepth 20000 in
theorem ggX11_read_X5_cut : GoodIn wsX11_read wsX5_cut := goodIn_r _ [36, 37, 388, 389] rfl (by decide +kernel)
set_option maxRecDepth 20000 in
theorem ggX11_read_X10_parse : GoodIn wsX11_read wsX10_parse := goodIn_r _ [204, 205, 206, 207, 208, 209, 210, 211, 212, 203, 213, 214, 215, 216, 217, 218, 219, 220, 221, 222, 223, 224, 225, 226, 83, 84, 35, 85, 37, 227, 228, 229, 230, 47, 48, 49, 50, 231, 232, 233, 234, 235, 236, 237, 238, 239, 240, 241, 242, 243, 244, 245, 246, 247, 248, 249, 250, 251, 252, 253, 254, 255, 256, 257, 258, 259, 260, 261, 262, 263, 264, 265, 266, 267, 268, 170, 269, 270, 21, 22, 23, 24, 25, 26, 27, 28, 29, 30, 31, 32, 33, 34, 36, 38, 39, 40, 41, 42, 43, 44, 45, 46, 51, 52, 53, 54, 55, 56, 57, 58, 59, 60, 61, 62, 63, 64, 65, 66, 67, 68, 69, 70, 71, 72, 73, 271, 272, 273, 274, 275, 276, 277, 278, 279, 280, 281, 282, 283, 284, 285, 286, 287, 288, 289, 290, 291, 292, 293, 294, 295, 296, 297, 298, 299, 300, 301, 302, 303, 304, 305, 306, 307, 308, 309, 310, 311, 312, 313, 314, 315, 316, 317, 318, 319, 320, 321, 322, 323, 324, 325, 326, 327, 328, 329, 330, 331, 332, 333, 334, 335, 336, 337, 338, 339, 340, 341, 342, 343, 344, 345, 346, 347, 348, 349, 350, 351, 352, 353, 354, 355, 356, 357, 358, 359, 402, 403, 404, 405, 406, 407, 408, 409, 410, 411, 381, 382, 383, 384, 385, 386, 387, 388, 389, 390, 391, 392, 393, 394, 395] rfl (by decide +kernel)
set_option maxRecDepth 20000 in
theorem ggX12_opens_X12_fails : GoodIn wsX12_opens wsX12_fails := goodIn_r _ [19, 20, 30, 31, 32, 33, 34, 35, 36, 37, 38, 39, 40, 41, 42, 43, 44, 45, 46, 47, 48, 49, 50, 51, 52, 53, 54, 55, 56, 57, 58, 59, 60, 61, 62, 63, 64, 65, 66, 67, 68, 69, 70, 71, 72, 73, 74, 75, 76, 77, 78, 79, 80, 81, 82, 83, 84, 85, 86, 87, 88, 89, 90, 91, 92, 93, 94, 95, 96, 97, 98, 99, 100, 101, 102, 103, 104, 105] rfl (by decide +kernel)
set_option maxRecDepth 20000 in
theorem ggX12_first_X12_opens : GoodIn wsX12_first wsX12_opens := goodIn_r _ [17, 18, 19, 20, 21, 22, 23, 24, 25, 26, 27, 16, 28, 29, 30, 31, 32, 33, 34, 35, 4, 36, 37, 38, 39, 40, 41, 42, 43, 44, 81, 82, 83, 84, 85, 86, 87, 88, 89, 90, 91, 92, 93, 94, 95, 96, 97, 98, 99, 100, 101, 102, 103, 104, 105, 106, 107, 108, 109, 110, 111, 112, 113, 114, 115, 116, 117, 118, 119, 120, 121, 122, 123, 124, 125, 126, 127, 128, 129, 130, 131, 132, 133, 134, 135, 136, 137, 138, 139, 140, 141, 142, 143, 144, 145, 146, 147, 148, 149, 150, 151, 152, 153, 154, 155, 156] rfl (by decide +kernel)
set_option maxRecDepth 20000 in
theorem ggX12_number_X12_fails : GoodIn wsX12_number wsX12_fails := goodIn_r _ [10, 1, 11, 12, 13, 14, 15, 16, 17, 18, 19, 20, 21, 22, 23, 24, 25, 26, 27, 28, 29, 30, 31, 32, 33, 34, 35, 36, 37, 38, 39, 40, 41, 42, 43, 44, 45, 46, 47, 48, 49, 50, 51, 52, 53, 54, 55, 56, 57, 58, 59, 60, 61, 62, 63, 64, 65, 66, 67, 68, 69, 70, 71, 72, 73, 74, 75, 76, 77, 78, 79, 80, 81, 82, 83, 84, 85, 86] rfl (by decide +kernel)
set_option maxRecDepth 20000 in
theorem ggX12_cff_X12_number : GoodIn wsX12_cff wsX12_number := goodIn_r _ [14, 2, 1, 15, 16, 17, 18, 19, 20, 13, 21, 67, 68, 69, 70, 71, 72, 73, 74, 75, 76, 77, 78, 79, 80, 81, 82, 83, 84, 85, 86, 87, 88, 89, 90, 91, 92, 93, 94, 95, 96, 97, 98, 99, 100, 101, 102, 103, 104, 105, 106, 107, 108, 109, 110, 111, 112, 113, 114, 115, 116, 117, 118, 119, 120, 121, 122, 123, 124, 125, 126, 127, 128, 129, 130, 131, 132, 133, 134, 135, 136, 137, 138, 139, 140, 141, 142] rfl (by decide +kernel)
set_option maxRecDepth 20000 in
theorem ggX12_cff_X12_fails : GoodIn wsX12_cff wsX12_fails := goodIn_r _ [21, 2, 67, 68, 69, 70, 71, 72, 73, 74, 75, 76, 77, 78, 79, 80, 81, 82, 83, 84, 85, 86, 87, 88, 89, 90, 91, 92, 93, 94, 95, 96, 97, 98, 99, 100, 101, 102, 103, 104, 105, 106, 107, 108, 109, 110, 111, 112, 113, 114, 115, 116, 117, 118, 119, 120, 121, 122, 123, 124, 125, 126, 127, 128, 129, 130, 131, 132, 133, 134, 135, 136, 137, 138, 139, 140, 141, 142] rfl (by decide +kernel)
set_option maxRecDepth 20000 in
theorem ggX12_read_X12_first : GoodIn wsX12_read wsX12_first := goodIn_r _ [81, 82, 83, 84, 1, 85, 86, 5, 14, 87, 88, 89, 90, 91, 92, 93, 20, 94, 6, 95, 34, 96, 97, 98, 99, 100, 101, 102, 103, 104, 105, 106, 36, 37, 38, 39, 107, 108, 109, 110, 111, 112, 113, 114, 25, 115, 116, 117, 118, 119, 120, 121, 122, 123, 124, 125, 126, 127, 128, 129, 130, 131, 132, 133, 134, 135, 136, 137, 138, 139, 140, 141, 142, 12, 2, 16, 143, 144, 145, 146, 147, 148, 149, 150, 151, 152, 153, 154, 155, 156, 157, 158, 159, 160, 161, 162, 163, 164, 165, 166, 167, 168, 169, 170, 171, 172, 173, 174, 175, 176, 177, 178, 179, 180, 181, 182, 183, 184, 185, 186, 187, 188, 189, 190, 191, 192, 193, 194, 195, 196, 197, 198, 199, 200, 201, 202, 203, 204, 205, 206, 207, 208, 209, 210, 211, 212, 213, 214, 215, 216, 217, 218, 219, 220, 221, 222, 223] rfl (by decide +kernel)
set_option maxRecDepth 20000 in
theorem ggX12_read_X12_cff : GoodIn wsX12_read wsX12_cff := goodIn_r _ [21, 22, 1, 23, 24, 25, 26, 27, 28, 29, 30, 31, 32, 20, 33, 6, 34, 35, 36, 37, 38, 39, 40, 41, 42, 43, 44, 45, 46, 47, 48, 49, 50, 51, 52, 53, 54, 5, 12, 2, 14, 16, 55, 56, 57, 58, 59, 60, 61, 62, 63, 64, 65, 66, 67, 68, 69, 70, 71, 72, 73, 74, 75, 76, 77, 3, 4, 148, 149, 150, 151, 152, 153, 154, 155, 156, 157, 158, 159, 160, 161, 162, 163, 164, 165, 166, 167, 168, 169, 170, 171, 172, 173, 174, 175, 176, 177, 178, 179, 180, 181, 182, 183, 184, 185, 186, 187, 188, 189, 190, 191, 192, 193, 194, 195, 196, 197, 198, 199, 200, 201, 202, 203, 204, 205, 206, 207, 208, 209, 210, 211, 212, 213, 214, 215, 216, 217, 218, 219, 220, 221, 222, 223] rfl (by decide +kernel)
set_option maxRecDepth 20000 in
theorem ggX11_code_X3_shelfOf : GoodIn wsX11_code wsX3_shelfOf := goodIn_r _ [6, 7, 8, 9, 52, 53, 54, 55, 56, 57, 58] rfl (by decide +kernel)
set_option maxRecDepth 20000 in
theorem ggX11_code_X8_has : GoodIn wsX11_code wsX8_has := goodIn_r _ [14, 15, 16, 17, 59, 60, 61, 62, 63, 64] rfl (by decide +kernel)
set_option maxRecDepth 20000 in
theorem ggX12_code_X12_isThere : GoodIn wsX12_code wsX12_isThere := goodIn_r _ [8, 9, 10, 1, 11, 12, 13, 14, 15, 16, 17, 18, 19, 20, 21, 22, 23, 24, 25, 26, 27, 28, 29, 30, 31, 32, 33, 34, 35, 36, 37, 38, 39, 40, 41, 42, 43, 44, 45, 46, 47, 48, 49, 50, 51, 52, 53, 54, 55, 56, 57, 58, 59, 60, 61, 62, 63, 64, 65, 66, 67, 68, 69, 70, 71, 72, 73, 74, 75, 76, 77, 78, 79, 80, 81, 82, 83, 84, 85, 86] rfl (by decide +kernel)
set_option maxRecDepth 20000 in
theorem ggX11_draw_X8_has : GoodIn wsX11_draw wsX8_has := goodIn_r _ [10, 11, 12, 13, 515, 516, 517, 518, 519, 520] rfl (by decide +kernel)
set_option maxRecDepth 20000 in
theorem ggX12_draw_X12_isThere : GoodIn wsX12_draw wsX12_isThere := goodIn_r _ [25, 26, 27, 28, 219, 220, 221, 222, 223, 224, 225, 226, 227, 228, 229, 230, 231, 232, 233, 234, 235, 236, 237, 238, 239, 240, 241, 242, 243, 244, 245, 246, 247, 248, 249, 250, 251, 252, 253, 254, 255, 256, 257, 258, 259, 260, 261, 262, 263, 264, 265, 266, 267, 268, 269, 270, 271, 272, 273, 274, 275, 276, 277, 278, 279, 280, 281, 282, 283, 284, 285, 286, 287, 288, 289, 290, 291, 292, 293, 294] rfl (by decide +kernel)
set_option maxRecDepth 20000 in
theorem ggX11_part_X6_kindOf : GoodIn wsX11_part wsX6_kindOf := goodIn_r _ [6, 7, 8, 19, 20, 21, 22, 23, 24, 25] rfl (by decide +kernel)
set_option maxRecDepth 20000 in
theorem ggX6_pointOf_X6_kindOf : GoodIn wsX6_pointOf wsX6_kindOf := goodIn_r _ [6, 7, 8, 9, 10, 11, 12, 13, 14, 15] rfl (by decide +kernel)
set_option maxRecDepth 20000 in
theorem ggX11_at_X6_pointOf : GoodIn wsX11_at wsX6_pointOf := goodIn_r _ [6, 7, 8, 9, 10, 5, 11, 12, 13, 24, 25, 26, 27, 28, 29, 30] rfl (by decide +kernel)
set_option maxRecDepth 20000 in
theorem ggX5_encipher_X5_nextKey : GoodIn wsX5_encipher wsX5_nextKey := goodIn_r _ [6, 7, 8] rfl (by decide +kernel)
set_option maxRecDepth 20000 in
theorem ggX11_cipher_X11_isKeyAndNumber : GoodIn wsX11_cipher wsX11_isKeyAndNumber := goodIn_r _ [6, 7] rfl (by decide +kernel)
set_option maxRecDepth 20000 in
theorem ggX11_cipher_X5_cut : GoodIn wsX11_cipher wsX5_cut := goodIn_r _ [12, 13, 55, 56] rfl (by decide +kernel)
set_option maxRecDepth 20000 in
theorem ggX11_cipher_X5_addAll : GoodIn wsX11_cipher wsX5_addAll := goodIn_r _ [22, 23, 24, 25, 26, 13, 27, 28, 29, 11, 30, 18, 31, 15, 16, 17, 55, 56] rfl (by decide +kernel)
set_option maxRecDepth 20000 in
theorem ggX11_cipher_X5_encipher : GoodIn wsX11_cipher wsX5_encipher := goodIn_r _ [35, 13, 18, 36, 37, 11, 38, 39, 40, 55, 56] rfl (by decide +kernel)
set_option maxRecDepth 20000 in
theorem ggX11_cipher_X5_size : GoodIn wsX11_cipher wsX5_size := goodIn_r _ [44, 13, 55, 56] rfl (by decide +kernel)
set_option maxRecDepth 20000 in
theorem ggX11_cipher_X5_add : GoodIn wsX11_cipher wsX5_add := goodIn_r _ [17, 13, 18, 55, 56] rfl (by decide +kernel)
set_option maxRecDepth 20000 in
theorem ggX12_cipher_X12_ciphers : GoodIn wsX12_cipher wsX12_ciphers := goodIn_r _ [11, 2, 12, 1, 13, 14, 15, 16, 17, 18, 19, 20, 21, 22, 23, 24, 25, 26, 27, 28, 29, 30, 31, 32, 33, 34, 35, 36, 37, 38, 39, 40, 41, 42, 43, 44, 45, 46, 47, 48, 49, 50, 51, 52, 53, 54, 55, 56, 57, 58, 59, 60, 61, 62, 63, 64, 65, 66, 67, 68, 69, 70, 71, 72, 73, 74, 75, 76, 77, 78, 79, 80, 81, 82, 83, 84, 85, 86, 87, 88] rfl (by decide +kernel)
set_option maxRecDepth 20000 in
theorem ggX11_plain_X11_isKeyAndNumber : GoodIn wsX11_plain wsX11_isKeyAndNumber := goodIn_r _ [6, 7] rfl (by decide +kernel)
set_option maxRecDepth 20000 in
theorem ggX11_plain_X5_size : GoodIn wsX11_plain wsX5_size := goodIn_r _ [12, 13, 54, 55] rfl (by decide +kernel)
set_option maxRecDepth 20000 in
theorem ggX11_plain_X5_decipher : GoodIn wsX11_plain wsX5_decipher := goodIn_r _ [17, 18, 19, 20, 21, 13, 22, 23, 24, 11, 25, 26, 27, 54, 55] rfl (by decide +kernel)
set_option maxRecDepth 20000 in
theorem ggX11_plain_X5_cut : GoodIn wsX11_plain wsX5_cut := goodIn_r _ [31, 13, 54, 55] rfl (by decide +kernel)
set_option maxRecDepth 20000 in
theorem ggX11_plain_X5_addAll : GoodIn wsX11_plain wsX5_addAll := goodIn_r _ [35, 18, 19, 20, 21, 13, 36, 37, 38, 11, 39, 22, 40, 41, 42, 43, 54, 55] rfl (by decide +kernel)
set_option maxRecDepth 20000 in
theorem ggX11_octet_X5_get : GoodIn wsX11_octet wsX5_get := goodIn_r _ [6, 7, 8, 19, 20] rfl (by decide +kernel)
set_option maxRecDepth 20000 in
theorem ggX11_back_X5_size : GoodIn wsX11_back wsX5_size := goodIn_r _ [7, 8, 40, 41] rfl (by decide +kernel)
set_option maxRecDepth 20000 in
theorem ggX11_back_X5_addAll : GoodIn wsX11_back wsX5_addAll := goodIn_r _ [12, 13, 14, 15, 16, 8, 17, 18, 19, 6, 20, 21, 22, 23, 24, 25, 40, 41] rfl (by decide +kernel)
set_option maxRecDepth 20000 in
theorem ggX11_back_X5_cut : GoodIn wsX11_back wsX5_cut := goodIn_r _ [29, 8, 40, 41] rfl (by decide +kernel)
set_option maxRecDepth 20000 in
theorem ggX11_count_X5_size : GoodIn wsX11_count wsX5_size := goodIn_r _ [7, 8, 19, 20] rfl (by decide +kernel)
set_option maxRecDepth 20000 in
theorem gX5_addWord_X5_add : GoodIn wsX5_addWord (wsV RX5 19 RX5 yX5_add wsX5_add) := goodIn_app (goodIn_of _ (by decide +kernel)) ggX5_addWord_X5_add
set_option maxRecDepth 20000 in
theorem gX11_feed_X5_size : GoodIn wsX11_feed (wsV RX11 75 RX5 yX5_size wsX5_size) := goodIn_app (goodIn_of _ (by decide +kernel)) ggX11_feed_X5_size
set_option maxRecDepth 20000 in
theorem gX11_feed_X5_addWord : GoodIn wsX11_feed (wsV RX11 79 RX5 yX5_addWord wsX5_addWord) := goodIn_app (goodIn_of _ (by decide +kernel)) ggX11_feed_X5_addWord
set_option maxRecDepth 20000 in
theorem gX12_feed_X12_four : GoodIn wsX12_feed (wsV RX12 128 RX12 yX12_four wsX12_four) := goodIn_app (goodIn_of _ (by decide +kernel)) ggX12_feed_X12_four
set_option maxRecDepth 20000 in
theorem gX11_end_X5_size : GoodIn wsX11_end (wsV RX11 75 RX5 yX5_size wsX5_size) := goodIn_app (goodIn_of _ (by decide +kernel)) ggX11_end_X5_size
set_option maxRecDepth 20000 in
theorem gX11_end_X5_cut : GoodIn wsX11_end (wsV RX11 82 RX5 yX5_cut wsX5_cut) := goodIn_app (goodIn_of _ (by decide +kernel)) ggX11_end_X5_cut
set_option maxRecDepth 20000 in
theorem gJ7_fill_fda19_J7_rangeCheck_23922 : GoodIn wsJ7_fill_fda19 (va_wsS RJ7 13 yJ7_rangeCheck_23922 wsJ7_rangeCheck_23922) := goodIn_app (goodIn_of _ (by decide +kernel)) ggJ7_fill_fda19_J7_rangeCheck_23922
set_option maxRecDepth 20000 in
theorem gX8_lay_J7_fill_fda19 : GoodIn wsX8_lay (va_wsS RX8 41 yJ7_fill_fda19 wsJ7_fill_fda19) := goodIn_app (goodIn_of _ (by decide +kernel)) ggX8_lay_J7_fill_fda19
set_option maxRecDepth 20000 in
theorem gX3_begin_X5_cut : GoodIn wsX3_begin (wsV RX3 45 RX5 yX5_cut wsX5_cut) := goodIn_app (goodIn_of _ (by decide +kernel)) ggX3_begin_X5_cut
set_option maxRecDepth 20000 in
theorem gX3_begin_X5_addAll : GoodIn wsX3_begin (wsV RX3 48 RX5 yX5_addAll wsX5_addAll) := goodIn_app (goodIn_of _ (by decide +kernel)) ggX3_begin_X5_addAll
set_option maxRecDepth 20000 in
theorem gX3_begin_X8_lay : GoodIn wsX3_begin (wsV RX3 51 RX8 yX8_lay wsX8_lay) := goodIn_app (goodIn_of _ (by decide +kernel)) ggX3_begin_X8_lay
set_option maxRecDepth 20000 in
theorem gX1_take_X5_size : GoodIn wsX1_take (wsV RX1 92 RX5 yX5_size wsX5_size) := goodIn_app (goodIn_of _ (by decide +kernel)) ggX1_take_X5_size
set_option maxRecDepth 20000 in
theorem gX1_take_X1_wrong : GoodIn wsX1_take (wsV RX1 88 RX1 yX1_wrong wsX1_wrong) := goodIn_app (goodIn_of _ (by decide +kernel)) ggX1_take_X1_wrong
set_option maxRecDepth 20000 in
theorem gX1_want_X1_wrong : GoodIn wsX1_want (wsV RX1 88 RX1 yX1_wrong wsX1_wrong) := goodIn_app (goodIn_of _ (by decide +kernel)) ggX1_want_X1_wrong
set_option maxRecDepth 20000 in
theorem gX1_takeHeader_X1_take : GoodIn wsX1_takeHeader (wsV RX1 104 RX1 yX1_take wsX1_take) := goodIn_app (goodIn_of _ (by decide +kernel)) ggX1_takeHeader_X1_take
set_option maxRecDepth 20000 in
theorem gX1_takeHeader_X1_want : GoodIn wsX1_takeHeader (wsV RX1 107 RX1 yX1_want wsX1_want) := goodIn_app (goodIn_of _ (by decide +kernel)) ggX1_takeHeader_X1_want
set_option maxRecDepth 20000 in
theorem gX1_takeIndex_X1_takeNumber : GoodIn wsX1_takeIndex (wsV RX1 111 RX1 yX1_takeNumber wsX1_takeNumber) := goodIn_app (goodIn_of _ (by decide +kernel)) ggX1_takeIndex_X1_takeNumber
set_option maxRecDepth 20000 in
theorem gX1_takeIndex_X1_want : GoodIn wsX1_takeIndex (wsV RX1 107 RX1 yX1_want wsX1_want) := goodIn_app (goodIn_of _ (by decide +kernel)) ggX1_takeIndex_X1_want
set_option maxRecDepth 20000 in
theorem gX2_clear_J7_fill_53178 : GoodIn wsX2_clear (va_wsS RX2 32 yJ7_fill_53178 wsJ7_fill_53178) := goodIn_app (goodIn_of _ (by decide +kernel)) ggX2_clear_J7_fill_53178
set_option maxRecDepth 20000 in
theorem gX1_takeDict_X2_clear : GoodIn wsX1_takeDict (wsV RX1 146 RX2 yX2_clear wsX2_clear) := goodIn_app (goodIn_of _ (by decide +kernel)) ggX1_takeDict_X2_clear
set_option maxRecDepth 20000 in
theorem gX1_takeDict_X2_isBetween : GoodIn wsX1_takeDict (wsV RX1 152 RX2 yX2_isBetween wsX2_isBetween) := goodIn_app (goodIn_of _ (by decide +kernel)) ggX1_takeDict_X2_isBetween
set_option maxRecDepth 20000 in
theorem gX1_takeDict_X1_want : GoodIn wsX1_takeDict (wsV RX1 107 RX1 yX1_want wsX1_want) := goodIn_app (goodIn_of _ (by decide +kernel)) ggX1_takeDict_X1_want
set_option maxRecDepth 20000 in
theorem gX2_isTold_X2_slotOf : GoodIn wsX2_isTold (va_wsS RX2 46 yX2_slotOf wsX2_slotOf) := goodIn_app (goodIn_of _ (by decide +kernel)) ggX2_isTold_X2_slotOf
set_option maxRecDepth 20000 in
theorem gX2_fits_X2_slotOf : GoodIn wsX2_fits (va_wsS RX2 46 yX2_slotOf wsX2_slotOf) := goodIn_app (goodIn_of _ (by decide +kernel)) ggX2_fits_X2_slotOf
set_option maxRecDepth 20000 in
theorem gX2_first_X2_isTold : GoodIn wsX2_first (wsV RX2 50 RX2 yX2_isTold wsX2_isTold) := goodIn_app (goodIn_of _ (by decide +kernel)) ggX2_first_X2_isTold
set_option maxRecDepth 20000 in
theorem gX2_first_X2_slotOf : GoodIn wsX2_first (va_wsS RX2 46 yX2_slotOf wsX2_slotOf) := goodIn_app (goodIn_of _ (by decide +kernel)) ggX2_first_X2_slotOf
set_option maxRecDepth 20000 in
theorem gX1_takeTop_X1_takeDict : GoodIn wsX1_takeTop (wsV RX1 130 RX1 yX1_takeDict wsX1_takeDict) := goodIn_app (goodIn_of _ (by decide +kernel)) ggX1_takeTop_X1_takeDict
set_option maxRecDepth 20000 in
theorem gX1_takeTop_X2_isTold : GoodIn wsX1_takeTop (wsV RX1 78 RX2 yX2_isTold wsX2_isTold) := goodIn_app (goodIn_of _ (by decide +kernel)) ggX1_takeTop_X2_isTold
set_option maxRecDepth 20000 in
theorem gX1_takeTop_X1_want : GoodIn wsX1_takeTop (wsV RX1 107 RX1 yX1_want wsX1_want) := goodIn_app (goodIn_of _ (by decide +kernel)) ggX1_takeTop_X1_want
set_option maxRecDepth 20000 in
theorem gX1_takeTop_X2_fits : GoodIn wsX1_takeTop (wsV RX1 133 RX2 yX2_fits wsX2_fits) := goodIn_app (goodIn_of _ (by decide +kernel)) ggX1_takeTop_X2_fits
set_option maxRecDepth 20000 in
theorem gX1_takeTop_X2_first : GoodIn wsX1_takeTop (wsV RX1 75 RX2 yX2_first wsX2_first) := goodIn_app (goodIn_of _ (by decide +kernel)) ggX1_takeTop_X2_first
set_option maxRecDepth 20000 in
theorem gX2_second_X2_isTold : GoodIn wsX2_second (wsV RX2 50 RX2 yX2_isTold wsX2_isTold) := goodIn_app (goodIn_of _ (by decide +kernel)) ggX2_second_X2_isTold
set_option maxRecDepth 20000 in
theorem gX2_second_X2_slotOf : GoodIn wsX2_second (va_wsS RX2 46 yX2_slotOf wsX2_slotOf) := goodIn_app (goodIn_of _ (by decide +kernel)) ggX2_second_X2_slotOf
set_option maxRecDepth 20000 in
theorem gX1_parse_X3_begin : GoodIn wsX1_parse (wsV RX1 34 RX3 yX3_begin wsX3_begin) := goodIn_app (goodIn_of _ (by decide +kernel)) ggX1_parse_X3_begin
set_option maxRecDepth 20000 in
theorem gX1_parse_X1_takeHeader : GoodIn wsX1_parse (wsV RX1 45 RX1 yX1_takeHeader wsX1_takeHeader) := goodIn_app (goodIn_of _ (by decide +kernel)) ggX1_parse_X1_takeHeader
set_option maxRecDepth 20000 in
theorem gX1_parse_X1_takeIndex : GoodIn wsX1_parse (wsV RX1 48 RX1 yX1_takeIndex wsX1_takeIndex) := goodIn_app (goodIn_of _ (by decide +kernel)) ggX1_parse_X1_takeIndex
set_option maxRecDepth 20000 in
theorem gX1_parse_X1_shelve : GoodIn wsX1_parse (wsV RX1 63 RX1 yX1_shelve wsX1_shelve) := goodIn_app (goodIn_of _ (by decide +kernel)) ggX1_parse_X1_shelve
set_option maxRecDepth 20000 in
theorem gX1_parse_X1_takeTop : GoodIn wsX1_parse (wsV RX1 67 RX1 yX1_takeTop wsX1_takeTop) := goodIn_app (goodIn_of _ (by decide +kernel)) ggX1_parse_X1_takeTop
set_option maxRecDepth 20000 in
theorem gX1_parse_X2_second : GoodIn wsX1_parse (wsV RX1 71 RX2 yX2_second wsX2_second) := goodIn_app (goodIn_of _ (by decide +kernel)) ggX1_parse_X2_second
set_option maxRecDepth 20000 in
theorem gX1_parse_X2_first : GoodIn wsX1_parse (wsV RX1 75 RX2 yX2_first wsX2_first) := goodIn_app (goodIn_of _ (by decide +kernel)) ggX1_parse_X2_first
set_option maxRecDepth 20000 in
theorem gX1_parse_X2_isTold : GoodIn wsX1_parse (wsV RX1 78 RX2 yX2_isTold wsX2_isTold) := goodIn_app (goodIn_of _ (by decide +kernel)) ggX1_parse_X2_isTold
set_option maxRecDepth 20000 in
theorem gX10_behindEexec_J0_length_8abf5 : GoodIn wsX10_behindEexec (wsV RX10 67 RJ0 yJ0_length_8abf5 wsJ0_length_8abf5) := goodIn_app (goodIn_of _ (by decide +kernel)) ggX10_behindEexec_J0_length_8abf5
set_option maxRecDepth 20000 in
theorem gX10_behindEexec_X5_size : GoodIn wsX10_behindEexec (wsV RX10 23 RX5 yX5_size wsX5_size) := goodIn_app (goodIn_of _ (by decide +kernel)) ggX10_behindEexec_X5_size
set_option maxRecDepth 20000 in
theorem gX10_parse_X10_behindEexec : GoodIn wsX10_parse (va_wsS RX10 19 yX10_behindEexec wsX10_behindEexec) := goodIn_app (goodIn_of _ (by decide +kernel)) ggX10_parse_X10_behindEexec
set_option maxRecDepth 20000 in
theorem gX11_read_X1_parse : GoodIn wsX11_read (wsV RX11 85 RX1 yX1_parse wsX1_parse) := goodIn_app (goodIn_of _ (by decide +kernel)) ggX11_read_X1_parse
set_option maxRecDepth 20000 in
theorem gX11_read_X5_cut : GoodIn wsX11_read (wsV RX11 82 RX5 yX5_cut wsX5_cut) := goodIn_app (goodIn_of _ (by decide +kernel)) ggX11_read_X5_cut
set_option maxRecDepth 20000 in
theorem gX11_read_X10_parse : GoodIn wsX11_read (wsV RX11 89 RX10 yX10_parse wsX10_parse) := goodIn_app (goodIn_of _ (by decide +kernel)) ggX11_read_X10_parse
set_option maxRecDepth 20000 in
theorem gX12_opens_X12_fails : GoodIn wsX12_opens (wsV RX12 179 RX12 yX12_fails wsX12_fails) := goodIn_app (goodIn_of _ (by decide +kernel)) ggX12_opens_X12_fails
set_option maxRecDepth 20000 in
theorem gX12_first_X12_opens : GoodIn wsX12_first (wsV RX12 276 RX12 yX12_opens wsX12_opens) := goodIn_app (goodIn_of _ (by decide +kernel)) ggX12_first_X12_opens
set_option maxRecDepth 20000 in
theorem gX12_number_X12_fails : GoodIn wsX12_number (wsV RX12 179 RX12 yX12_fails wsX12_fails) := goodIn_app (goodIn_of _ (by decide +kernel)) ggX12_number_X12_fails
set_option maxRecDepth 20000 in
theorem gX12_cff_X12_number : GoodIn wsX12_cff (wsV RX12 191 RX12 yX12_number wsX12_number) := goodIn_app (goodIn_of _ (by decide +kernel)) ggX12_cff_X12_number
set_option maxRecDepth 20000 in
theorem gX12_cff_X12_fails : GoodIn wsX12_cff (wsV RX12 179 RX12 yX12_fails wsX12_fails) := goodIn_app (goodIn_of _ (by decide +kernel)) ggX12_cff_X12_fails
set_option maxRecDepth 20000 in
theorem gX12_read_X12_first : GoodIn wsX12_read (wsV RX12 162 RX12 yX12_first wsX12_first) := goodIn_app (goodIn_of _ (by decide +kernel)) ggX12_read_X12_first
set_option maxRecDepth 20000 in
theorem gX12_read_X12_cff : GoodIn wsX12_read (wsV RX12 159 RX12 yX12_cff wsX12_cff) := goodIn_app (goodIn_of _ (by decide +kernel)) ggX12_read_X12_cff
set_option maxRecDepth 20000 in
theorem gX11_code_X3_shelfOf : GoodIn wsX11_code (wsV RX11 113 RX3 yX3_shelfOf wsX3_shelfOf) := goodIn_app (goodIn_of _ (by decide +kernel)) ggX11_code_X3_shelfOf
set_option maxRecDepth 20000 in
theorem gX11_code_X8_has : GoodIn wsX11_code (wsV RX11 117 RX8 yX8_has wsX8_has) := goodIn_app (goodIn_of _ (by decide +kernel)) ggX11_code_X8_has
set_option maxRecDepth 20000 in
theorem gX12_code_X12_isThere : GoodIn wsX12_code (wsV RX12 171 RX12 yX12_isThere wsX12_isThere) := goodIn_app (goodIn_of _ (by decide +kernel)) ggX12_code_X12_isThere
set_option maxRecDepth 20000 in
theorem gX11_draw_X8_has : GoodIn wsX11_draw (wsV RX11 117 RX8 yX8_has wsX8_has) := goodIn_app (goodIn_of _ (by decide +kernel)) ggX11_draw_X8_has
set_option maxRecDepth 20000 in
theorem gX12_draw_X12_isThere : GoodIn wsX12_draw (wsV RX12 171 RX12 yX12_isThere wsX12_isThere) := goodIn_app (goodIn_of _ (by decide +kernel)) ggX12_draw_X12_isThere
set_option maxRecDepth 20000 in
theorem gX11_part_X6_kindOf : GoodIn wsX11_part (wsV RX11 158 RX6 yX6_kindOf wsX6_kindOf) := goodIn_app (goodIn_of _ (by decide +kernel)) ggX11_part_X6_kindOf
set_option maxRecDepth 20000 in
theorem gX6_pointOf_X6_kindOf : GoodIn wsX6_pointOf (wsV RX6 43 RX6 yX6_kindOf wsX6_kindOf) := goodIn_app (goodIn_of _ (by decide +kernel)) ggX6_pointOf_X6_kindOf
set_option maxRecDepth 20000 in
theorem gX11_at_X6_pointOf : GoodIn wsX11_at (wsV RX11 161 RX6 yX6_pointOf wsX6_pointOf) := goodIn_app (goodIn_of _ (by decide +kernel)) ggX11_at_X6_pointOf
set_option maxRecDepth 20000 in
theorem gX5_encipher_X5_nextKey : GoodIn wsX5_encipher (va_wsS RX5 33 yX5_nextKey wsX5_nextKey) := goodIn_app (goodIn_of _ (by decide +kernel)) ggX5_encipher_X5_nextKey
set_option maxRecDepth 20000 in
theorem gX11_cipher_X11_isKeyAndNumber : GoodIn wsX11_cipher (va_wsS RX11 165 yX11_isKeyAndNumber wsX11_isKeyAndNumber) := goodIn_app (goodIn_of _ (by decide +kernel)) ggX11_cipher_X11_isKeyAndNumber
set_option maxRecDepth 20000 in
theorem gX11_cipher_X5_cut : GoodIn wsX11_cipher (wsV RX11 82 RX5 yX5_cut wsX5_cut) := goodIn_app (goodIn_of _ (by decide +kernel)) ggX11_cipher_X5_cut
set_option maxRecDepth 20000 in
theorem gX11_cipher_X5_addAll : GoodIn wsX11_cipher (wsV RX11 172 RX5 yX5_addAll wsX5_addAll) := goodIn_app (goodIn_of _ (by decide +kernel)) ggX11_cipher_X5_addAll
set_option maxRecDepth 20000 in
theorem gX11_cipher_X5_encipher : GoodIn wsX11_cipher (wsV RX11 176 RX5 yX5_encipher wsX5_encipher) := goodIn_app (goodIn_of _ (by decide +kernel)) ggX11_cipher_X5_encipher
set_option maxRecDepth 20000 in
theorem gX11_cipher_X5_size : GoodIn wsX11_cipher (wsV RX11 75 RX5 yX5_size wsX5_size) := goodIn_app (goodIn_of _ (by decide +kernel)) ggX11_cipher_X5_size
set_option maxRecDepth 20000 in
theorem gX11_cipher_X5_add : GoodIn wsX11_cipher (wsV RX11 169 RX5 yX5_add wsX5_add) := goodIn_app (goodIn_of _ (by decide +kernel)) ggX11_cipher_X5_add
set_option maxRecDepth 20000 in
theorem gX12_cipher_X12_ciphers : GoodIn wsX12_cipher (wsV RX12 140 RX12 yX12_ciphers wsX12_ciphers) := goodIn_app (goodIn_of _ (by decide +kernel)) ggX12_cipher_X12_ciphers
set_option maxRecDepth 20000 in
theorem gX11_plain_X11_isKeyAndNumber : GoodIn wsX11_plain (va_wsS RX11 165 yX11_isKeyAndNumber wsX11_isKeyAndNumber) := goodIn_app (goodIn_of _ (by decide +kernel)) ggX11_plain_X11_isKeyAndNumber
set_option maxRecDepth 20000 in
theorem gX11_plain_X5_size : GoodIn wsX11_plain (wsV RX11 75 RX5 yX5_size wsX5_size) := goodIn_app (goodIn_of _ (by decide +kernel)) ggX11_plain_X5_size
set_option maxRecDepth 20000 in
theorem gX11_plain_X5_decipher : GoodIn wsX11_plain (wsV RX11 179 RX5 yX5_decipher wsX5_decipher) := goodIn_app (goodIn_of _ (by decide +kernel)) ggX11_plain_X5_decipher
set_option maxRecDepth 20000 in
theorem gX11_plain_X5_cut : GoodIn wsX11_plain (wsV RX11 82 RX5 yX5_cut wsX5_cut) := goodIn_app (goodIn_of _ (by decide +kernel)) ggX11_plain_X5_cut
set_option maxRecDepth 20000 in
theorem gX11_plain_X5_addAll : GoodIn wsX11_plain (wsV RX11 172 RX5 yX5_addAll wsX5_addAll) := goodIn_app (goodIn_of _ (by decide +kernel)) ggX11_plain_X5_addAll
set_option maxRecDepth 20000 in
theorem gX11_octet_X5_get : GoodIn wsX11_octet (wsV RX11 131 RX5 yX5_get wsX5_get) := goodIn_app (goodIn_of _ (by decide +kernel)) ggX11_octet_X5_get
set_option maxRecDepth 20000 in
theorem gX11_back_X5_size : GoodIn wsX11_back (wsV RX11 75 RX5 yX5_size wsX5_size) := goodIn_app (goodIn_of _ (by decide +kernel)) ggX11_back_X5_size
set_option maxRecDepth 20000 in
theorem gX11_back_X5_addAll : GoodIn wsX11_back (wsV RX11 172 RX5 yX5_addAll wsX5_addAll) := goodIn_app (goodIn_of _ (by decide +kernel)) ggX11_back_X5_addAll
set_option maxRecDepth 20000 in
theorem gX11_back_X5_cut : GoodIn wsX11_back (wsV RX11 82 RX5 yX5_cut wsX5_cut) := goodIn_app (goodIn_of _ (by decide +kernel)) ggX11_back_X5_cut
set_option maxRecDepth 20000 in
theorem gX11_count_X5_size : GoodIn wsX11_count (wsV RX11 75 RX5 yX5_size wsX5_size) := goodIn_app (goodIn_of _ (by decide +kernel)) ggX11_count_X5_size
theorem dJ7_fill_53178_0 : decode cJ7_fill_53178 0 = .ok (.iconst 0, 1) := by decide +kernel
theorem dJ7_fill_53178_1 : decode cJ7_fill_53178 1 = .ok (.istore_n 2, 1) := by decide +kernel
theorem dJ7_fill_53178_2 : decode cJ7_fill_53178 2 = .ok (.aload_n 0, 1) := by decide +kernel
theorem dJ7_fill_53178_3 : decode cJ7_fill_53178 3 = .ok (.arraylength, 1) := by decide +kernel
theorem dJ7_fill_53178_4 : decode cJ7_fill_53178 4 = .ok (.istore_n 3, 1) := by decide +kernel
theorem dJ7_fill_53178_5 : decode cJ7_fill_53178 5 = .ok (.iload_n 2, 1) := by decide +kernel
theorem dJ7_fill_53178_6 : decode cJ7_fill_53178 6 = .ok (.iload_n 3, 1) := by decide +kernel
theorem dJ7_fill_53178_7 : decode cJ7_fill_53178 7 = .ok (.if_icmp .ge 13, 3) := by decide +kernel
theorem dJ7_fill_53178_10 : decode cJ7_fill_53178 10 = .ok (.aload_n 0, 1) := by decide +kernel
theorem dJ7_fill_53178_11 : decode cJ7_fill_53178 11 = .ok (.iload_n 2, 1) := by decide +kernel
theorem dJ7_fill_53178_12 : decode cJ7_fill_53178 12 = .ok (.iload_n 1, 1) := by decide +kernel
theorem dJ7_fill_53178_13 : decode cJ7_fill_53178 13 = .ok (.iastore, 1) := by decide +kernel
theorem dJ7_fill_53178_14 : decode cJ7_fill_53178 14 = .ok (.iinc 2 1, 3) := by decide +kernel
theorem dJ7_fill_53178_17 : decode cJ7_fill_53178 17 = .ok (.goto (-12), 3) := by decide +kernel
theorem dJ7_fill_53178_20 : decode cJ7_fill_53178 20 = .ok (.return_, 1) := by decide +kernel
theorem dJ7_fill_fda19_0 : decode cJ7_fill_fda19 0 = .ok (.aload_n 0, 1) := by decide +kernel
theorem dJ7_fill_fda19_1 : decode cJ7_fill_fda19 1 = .ok (.arraylength, 1) := by decide +kernel
theorem dJ7_fill_fda19_2 : decode cJ7_fill_fda19 2 = .ok (.iload_n 1, 1) := by decide +kernel
theorem dJ7_fill_fda19_3 : decode cJ7_fill_fda19 3 = .ok (.iload_n 2, 1) := by decide +kernel
theorem dJ7_fill_fda19_4 : decode cJ7_fill_fda19 4 = .ok (.invokestatic 13, 3) := by decide +kernel
theorem dJ7_fill_fda19_7 : decode cJ7_fill_fda19 7 = .ok (.iload_n 1, 1) := by decide +kernel
theorem dJ7_fill_fda19_8 : decode cJ7_fill_fda19 8 = .ok (.istore 4, 2) := by decide +kernel
theorem dJ7_fill_fda19_10 : decode cJ7_fill_fda19 10 = .ok (.iload 4, 2) := by decide +kernel
theorem dJ7_fill_fda19_12 : decode cJ7_fill_fda19 12 = .ok (.iload_n 2, 1) := by decide +kernel
theorem dJ7_fill_fda19_13 : decode cJ7_fill_fda19 13 = .ok (.if_icmp .ge 14, 3) := by decide +kernel
theorem dJ7_fill_fda19_27 : decode cJ7_fill_fda19 27 = .ok (.return_, 1) := by decide +kernel
theorem dJ7_rangeCheck_23922_0 : decode cJ7_rangeCheck_23922 0 = .ok (.iload_n 1, 1) := by decide +kernel
theorem dJ7_rangeCheck_23922_1 : decode cJ7_rangeCheck_23922 1 = .ok (.iload_n 2, 1) := by decide +kernel
theorem dJ7_rangeCheck_23922_2 : decode cJ7_rangeCheck_23922 2 = .ok (.if_icmp .le 44, 3) := by decide +kernel
theorem dJ7_rangeCheck_23922_46 : decode cJ7_rangeCheck_23922 46 = .ok (.iload_n 1, 1) := by decide +kernel
theorem dJ7_rangeCheck_23922_47 : decode cJ7_rangeCheck_23922 47 = .ok (.ifCond .ge 12, 3) := by decide +kernel
theorem dJ7_rangeCheck_23922_59 : decode cJ7_rangeCheck_23922 59 = .ok (.iload_n 2, 1) := by decide +kernel
theorem dJ7_rangeCheck_23922_60 : decode cJ7_rangeCheck_23922 60 = .ok (.iload_n 0, 1) := by decide +kernel
theorem dJ7_rangeCheck_23922_61 : decode cJ7_rangeCheck_23922 61 = .ok (.if_icmp .le 12, 3) := by decide +kernel
theorem dJ7_rangeCheck_23922_73 : decode cJ7_rangeCheck_23922 73 = .ok (.return_, 1) := by decide +kernel
theorem dX10_behindEexec_0 : decode cX10_behindEexec 0 = .ok (.ldc 65, 2) := by decide +kernel
theorem dX10_behindEexec_2 : decode cX10_behindEexec 2 = .ok (.astore_n 1, 1) := by decide +kernel
theorem dX10_behindEexec_3 : decode cX10_behindEexec 3 = .ok (.aload_n 1, 1) := by decide +kernel
theorem dX10_behindEexec_4 : decode cX10_behindEexec 4 = .ok (.invokevirtual 67, 3) := by decide +kernel
theorem dX10_behindEexec_7 : decode cX10_behindEexec 7 = .ok (.istore_n 2, 1) := by decide +kernel
theorem dX10_behindEexec_8 : decode cX10_behindEexec 8 = .ok (.iconst 0, 1) := by decide +kernel
theorem dX10_behindEexec_9 : decode cX10_behindEexec 9 = .ok (.istore_n 3, 1) := by decide +kernel
theorem dX10_behindEexec_10 : decode cX10_behindEexec 10 = .ok (.iload_n 3, 1) := by decide +kernel
theorem dX10_behindEexec_11 : decode cX10_behindEexec 11 = .ok (.iload_n 2, 1) := by decide +kernel
theorem dX10_behindEexec_12 : decode cX10_behindEexec 12 = .ok (.iadd, 1) := by decide +kernel
theorem dX10_behindEexec_13 : decode cX10_behindEexec 13 = .ok (.aload_n 0, 1) := by decide +kernel
theorem dX10_behindEexec_14 : decode cX10_behindEexec 14 = .ok (.invokevirtual 23, 3) := by decide +kernel
theorem dX10_behindEexec_17 : decode cX10_behindEexec 17 = .ok (.if_icmp .ge 38, 3) := by decide +kernel
theorem dX10_behindEexec_55 : decode cX10_behindEexec 55 = .ok (.iconst (-1), 1) := by decide +kernel
theorem dX10_behindEexec_56 : decode cX10_behindEexec 56 = .ok (.ireturn, 1) := by decide +kernel
theorem dX10_parse_0 : decode cX10_parse 0 = .ok (.aload_n 1, 1) := by decide +kernel
theorem dX10_parse_1 : decode cX10_parse 1 = .ok (.invokestatic 19, 3) := by decide +kernel
theorem dX10_parse_4 : decode cX10_parse 4 = .ok (.istore_n 3, 1) := by decide +kernel
theorem dX10_parse_5 : decode cX10_parse 5 = .ok (.iload_n 3, 1) := by decide +kernel
theorem dX10_parse_6 : decode cX10_parse 6 = .ok (.iconst (-1), 1) := by decide +kernel
theorem dX10_parse_7 : decode cX10_parse 7 = .ok (.if_icmp .eq 13, 3) := by decide +kernel
theorem dX10_parse_20 : decode cX10_parse 20 = .ok (.iconst 1, 1) := by decide +kernel
theorem dX10_parse_21 : decode cX10_parse 21 = .ok (.ireturn, 1) := by decide +kernel
theorem dX11_at_0 : decode cX11_at 0 = .ok (.aload_n 0, 1) := by decide +kernel
theorem dX11_at_1 : decode cX11_at 1 = .ok (.getfield 48, 3) := by decide +kernel
theorem dX11_at_4 : decode cX11_at 4 = .ok (.iload_n 1, 1) := by decide +kernel
theorem dX11_at_5 : decode cX11_at 5 = .ok (.iload_n 2, 1) := by decide +kernel
theorem dX11_at_6 : decode cX11_at 6 = .ok (.iload_n 3, 1) := by decide +kernel
theorem dX11_at_7 : decode cX11_at 7 = .ok (.invokevirtual 161, 3) := by decide +kernel
theorem dX11_at_10 : decode cX11_at 10 = .ok (.lreturn, 1) := by decide +kernel
theorem dX11_back_0 : decode cX11_back 0 = .ok (.aload_n 0, 1) := by decide +kernel
theorem dX11_back_1 : decode cX11_back 1 = .ok (.getfield 14, 3) := by decide +kernel
theorem dX11_back_4 : decode cX11_back 4 = .ok (.invokevirtual 75, 3) := by decide +kernel
theorem dX11_back_7 : decode cX11_back 7 = .ok (.aload_n 0, 1) := by decide +kernel
theorem dX11_back_8 : decode cX11_back 8 = .ok (.getfield 18, 3) := by decide +kernel
theorem dX11_back_11 : decode cX11_back 11 = .ok (.invokevirtual 75, 3) := by decide +kernel
theorem dX11_back_14 : decode cX11_back 14 = .ok (.iadd, 1) := by decide +kernel
theorem dX11_back_15 : decode cX11_back 15 = .ok (.sipush 1500, 3) := by decide +kernel
theorem dX11_back_18 : decode cX11_back 18 = .ok (.if_icmp .le 5, 3) := by decide +kernel
theorem dX11_back_23 : decode cX11_back 23 = .ok (.aload_n 0, 1) := by decide +kernel
theorem dX11_back_24 : decode cX11_back 24 = .ok (.getfield 14, 3) := by decide +kernel
theorem dX11_back_27 : decode cX11_back 27 = .ok (.aload_n 0, 1) := by decide +kernel
theorem dX11_back_28 : decode cX11_back 28 = .ok (.getfield 18, 3) := by decide +kernel
theorem dX11_back_31 : decode cX11_back 31 = .ok (.iconst 0, 1) := by decide +kernel
theorem dX11_back_32 : decode cX11_back 32 = .ok (.invokevirtual 172, 3) := by decide +kernel
theorem dX11_back_35 : decode cX11_back 35 = .ok (.aload_n 0, 1) := by decide +kernel
theorem dX11_back_36 : decode cX11_back 36 = .ok (.getfield 18, 3) := by decide +kernel
theorem dX11_back_39 : decode cX11_back 39 = .ok (.iconst 0, 1) := by decide +kernel
theorem dX11_back_40 : decode cX11_back 40 = .ok (.invokevirtual 82, 3) := by decide +kernel
theorem dX11_back_43 : decode cX11_back 43 = .ok (.aload_n 0, 1) := by decide +kernel
theorem dX11_back_44 : decode cX11_back 44 = .ok (.getfield 14, 3) := by decide +kernel
theorem dX11_back_47 : decode cX11_back 47 = .ok (.invokevirtual 75, 3) := by decide +kernel
theorem dX11_back_50 : decode cX11_back 50 = .ok (.ireturn, 1) := by decide +kernel
theorem dX11_cipher_0 : decode cX11_cipher 0 = .ok (.iload_n 1, 1) := by decide +kernel
theorem dX11_cipher_1 : decode cX11_cipher 1 = .ok (.iload_n 2, 1) := by decide +kernel
theorem dX11_cipher_2 : decode cX11_cipher 2 = .ok (.invokestatic 165, 3) := by decide +kernel
theorem dX11_cipher_5 : decode cX11_cipher 5 = .ok (.ifCond .ne 5, 3) := by decide +kernel
theorem dX11_cipher_8 : decode cX11_cipher 8 = .ok (.iconst (-1), 1) := by decide +kernel
theorem dX11_cipher_9 : decode cX11_cipher 9 = .ok (.ireturn, 1) := by decide +kernel
theorem dX11_cipher_10 : decode cX11_cipher 10 = .ok (.aload_n 0, 1) := by decide +kernel
theorem dX11_cipher_11 : decode cX11_cipher 11 = .ok (.getfield 18, 3) := by decide +kernel
theorem dX11_cipher_14 : decode cX11_cipher 14 = .ok (.iconst 0, 1) := by decide +kernel
theorem dX11_cipher_15 : decode cX11_cipher 15 = .ok (.invokevirtual 82, 3) := by decide +kernel
theorem dX11_cipher_18 : decode cX11_cipher 18 = .ok (.iconst 0, 1) := by decide +kernel
theorem dX11_cipher_19 : decode cX11_cipher 19 = .ok (.istore_n 3, 1) := by decide +kernel
theorem dX11_cipher_20 : decode cX11_cipher 20 = .ok (.iload_n 3, 1) := by decide +kernel
theorem dX11_cipher_21 : decode cX11_cipher 21 = .ok (.iload_n 2, 1) := by decide +kernel
theorem dX11_cipher_22 : decode cX11_cipher 22 = .ok (.if_icmp .ge 17, 3) := by decide +kernel
theorem dX11_cipher_25 : decode cX11_cipher 25 = .ok (.aload_n 0, 1) := by decide +kernel
theorem dX11_cipher_26 : decode cX11_cipher 26 = .ok (.getfield 18, 3) := by decide +kernel
theorem dX11_cipher_29 : decode cX11_cipher 29 = .ok (.iconst 0, 1) := by decide +kernel
theorem dX11_cipher_30 : decode cX11_cipher 30 = .ok (.invokevirtual 169, 3) := by decide +kernel
theorem dX11_cipher_33 : decode cX11_cipher 33 = .ok (.iinc 3 1, 3) := by decide +kernel
theorem dX11_cipher_36 : decode cX11_cipher 36 = .ok (.goto (-16), 3) := by decide +kernel
theorem dX11_cipher_39 : decode cX11_cipher 39 = .ok (.aload_n 0, 1) := by decide +kernel
theorem dX11_cipher_40 : decode cX11_cipher 40 = .ok (.getfield 18, 3) := by decide +kernel
theorem dX11_cipher_43 : decode cX11_cipher 43 = .ok (.aload_n 0, 1) := by decide +kernel
theorem dX11_cipher_44 : decode cX11_cipher 44 = .ok (.getfield 14, 3) := by decide +kernel
theorem dX11_cipher_47 : decode cX11_cipher 47 = .ok (.iconst 0, 1) := by decide +kernel
theorem dX11_cipher_48 : decode cX11_cipher 48 = .ok (.invokevirtual 172, 3) := by decide +kernel
theorem dX11_cipher_51 : decode cX11_cipher 51 = .ok (.aload_n 0, 1) := by decide +kernel
theorem dX11_cipher_52 : decode cX11_cipher 52 = .ok (.getfield 18, 3) := by decide +kernel
theorem dX11_cipher_55 : decode cX11_cipher 55 = .ok (.iload_n 1, 1) := by decide +kernel
theorem dX11_cipher_56 : decode cX11_cipher 56 = .ok (.invokevirtual 176, 3) := by decide +kernel
theorem dX11_cipher_59 : decode cX11_cipher 59 = .ok (.aload_n 0, 1) := by decide +kernel
theorem dX11_cipher_60 : decode cX11_cipher 60 = .ok (.getfield 14, 3) := by decide +kernel
theorem dX11_cipher_63 : decode cX11_cipher 63 = .ok (.iconst 0, 1) := by decide +kernel
theorem dX11_cipher_64 : decode cX11_cipher 64 = .ok (.invokevirtual 82, 3) := by decide +kernel
theorem dX11_cipher_67 : decode cX11_cipher 67 = .ok (.aload_n 0, 1) := by decide +kernel
theorem dX11_cipher_68 : decode cX11_cipher 68 = .ok (.getfield 18, 3) := by decide +kernel
theorem dX11_cipher_71 : decode cX11_cipher 71 = .ok (.invokevirtual 75, 3) := by decide +kernel
theorem dX11_cipher_74 : decode cX11_cipher 74 = .ok (.ireturn, 1) := by decide +kernel
theorem dX11_code_0 : decode cX11_code 0 = .ok (.aload_n 0, 1) := by decide +kernel
theorem dX11_code_1 : decode cX11_code 1 = .ok (.getfield 24, 3) := by decide +kernel
theorem dX11_code_4 : decode cX11_code 4 = .ok (.iload_n 1, 1) := by decide +kernel
theorem dX11_code_5 : decode cX11_code 5 = .ok (.invokevirtual 113, 3) := by decide +kernel
theorem dX11_code_8 : decode cX11_code 8 = .ok (.astore 4, 2) := by decide +kernel
theorem dX11_code_10 : decode cX11_code 10 = .ok (.aload 4, 2) := by decide +kernel
theorem dX11_code_12 : decode cX11_code 12 = .ok (.ifnull 34, 3) := by decide +kernel
theorem dX11_code_15 : decode cX11_code 15 = .ok (.aload 4, 2) := by decide +kernel
theorem dX11_code_17 : decode cX11_code 17 = .ok (.iload_n 2, 1) := by decide +kernel
theorem dX11_code_18 : decode cX11_code 18 = .ok (.i2l, 1) := by decide +kernel
theorem dX11_code_19 : decode cX11_code 19 = .ok (.invokevirtual 117, 3) := by decide +kernel
theorem dX11_code_22 : decode cX11_code 22 = .ok (.ifCond .eq 24, 3) := by decide +kernel
theorem dX11_code_46 : decode cX11_code 46 = .ok (.iconst (-1), 1) := by decide +kernel
theorem dX11_code_47 : decode cX11_code 47 = .ok (.ireturn, 1) := by decide +kernel
theorem dX11_count_0 : decode cX11_count 0 = .ok (.iload_n 1, 1) := by decide +kernel
theorem dX11_count_1 : decode cX11_count 1 = .ok (.lookupswitch 43 #[(0, 27), (1, 35)], 27) := by decide +kernel
theorem dX11_count_28 : decode cX11_count 28 = .ok (.aload_n 0, 1) := by decide +kernel
theorem dX11_count_29 : decode cX11_count 29 = .ok (.getfield 14, 3) := by decide +kernel
theorem dX11_count_32 : decode cX11_count 32 = .ok (.invokevirtual 75, 3) := by decide +kernel
theorem dX11_count_35 : decode cX11_count 35 = .ok (.ireturn, 1) := by decide +kernel
theorem dX11_count_36 : decode cX11_count 36 = .ok (.aload_n 0, 1) := by decide +kernel
theorem dX11_count_37 : decode cX11_count 37 = .ok (.getfield 18, 3) := by decide +kernel
theorem dX11_count_40 : decode cX11_count 40 = .ok (.invokevirtual 75, 3) := by decide +kernel
theorem dX11_count_43 : decode cX11_count 43 = .ok (.ireturn, 1) := by decide +kernel
theorem dX11_count_44 : decode cX11_count 44 = .ok (.iconst (-1), 1) := by decide +kernel
theorem dX11_count_45 : decode cX11_count 45 = .ok (.ireturn, 1) := by decide +kernel
theorem dX11_draw_0 : decode cX11_draw 0 = .ok (.aload_n 0, 1) := by decide +kernel
theorem dX11_draw_1 : decode cX11_draw 1 = .ok (.getfield 24, 3) := by decide +kernel
theorem dX11_draw_4 : decode cX11_draw 4 = .ok (.getfield 94, 3) := by decide +kernel
theorem dX11_draw_7 : decode cX11_draw 7 = .ok (.iload_n 1, 1) := by decide +kernel
theorem dX11_draw_8 : decode cX11_draw 8 = .ok (.i2l, 1) := by decide +kernel
theorem dX11_draw_9 : decode cX11_draw 9 = .ok (.invokevirtual 117, 3) := by decide +kernel
theorem dX11_draw_12 : decode cX11_draw 12 = .ok (.ifCond .eq 14, 3) := by decide +kernel
theorem dX11_draw_26 : decode cX11_draw 26 = .ok (.iconst (-1), 1) := by decide +kernel
theorem dX11_draw_27 : decode cX11_draw 27 = .ok (.ireturn, 1) := by decide +kernel
theorem dX11_drawn_0 : decode cX11_drawn 0 = .ok (.aload_n 0, 1) := by decide +kernel
theorem dX11_drawn_1 : decode cX11_drawn 1 = .ok (.getfield 71, 3) := by decide +kernel
theorem dX11_drawn_4 : decode cX11_drawn 4 = .ok (.ifnonnull 5, 3) := by decide +kernel
theorem dX11_drawn_7 : decode cX11_drawn 7 = .ok (.iconst (-1), 1) := by decide +kernel
theorem dX11_drawn_8 : decode cX11_drawn 8 = .ok (.ireturn, 1) := by decide +kernel
theorem dX11_end_0 : decode cX11_end 0 = .ok (.iload_n 1, 1) := by decide +kernel
theorem dX11_end_1 : decode cX11_end 1 = .ok (.ifCond .lt 14, 3) := by decide +kernel
theorem dX11_end_4 : decode cX11_end 4 = .ok (.iload_n 1, 1) := by decide +kernel
theorem dX11_end_5 : decode cX11_end 5 = .ok (.aload_n 0, 1) := by decide +kernel
theorem dX11_end_6 : decode cX11_end 6 = .ok (.getfield 14, 3) := by decide +kernel
theorem dX11_end_9 : decode cX11_end 9 = .ok (.invokevirtual 75, 3) := by decide +kernel
theorem dX11_end_12 : decode cX11_end 12 = .ok (.if_icmp .le 5, 3) := by decide +kernel
theorem dX11_end_15 : decode cX11_end 15 = .ok (.iconst (-1), 1) := by decide +kernel
theorem dX11_end_16 : decode cX11_end 16 = .ok (.ireturn, 1) := by decide +kernel
theorem dX11_end_17 : decode cX11_end 17 = .ok (.aload_n 0, 1) := by decide +kernel
theorem dX11_end_18 : decode cX11_end 18 = .ok (.getfield 14, 3) := by decide +kernel
theorem dX11_end_21 : decode cX11_end 21 = .ok (.iload_n 1, 1) := by decide +kernel
theorem dX11_end_22 : decode cX11_end 22 = .ok (.invokevirtual 82, 3) := by decide +kernel
theorem dX11_end_25 : decode cX11_end 25 = .ok (.iload_n 1, 1) := by decide +kernel
theorem dX11_end_26 : decode cX11_end 26 = .ok (.ireturn, 1) := by decide +kernel
theorem dX11_feed_0 : decode cX11_feed 0 = .ok (.aload_n 0, 1) := by decide +kernel
theorem dX11_feed_1 : decode cX11_feed 1 = .ok (.getfield 14, 3) := by decide +kernel
theorem dX11_feed_4 : decode cX11_feed 4 = .ok (.invokevirtual 75, 3) := by decide +kernel
theorem dX11_feed_7 : decode cX11_feed 7 = .ok (.bipush 20, 2) := by decide +kernel
theorem dX11_feed_9 : decode cX11_feed 9 = .ok (.iadd, 1) := by decide +kernel
theorem dX11_feed_10 : decode cX11_feed 10 = .ok (.sipush 1500, 3) := by decide +kernel
theorem dX11_feed_13 : decode cX11_feed 13 = .ok (.if_icmp .le 5, 3) := by decide +kernel
theorem dX11_feed_18 : decode cX11_feed 18 = .ok (.aload_n 0, 1) := by decide +kernel
theorem dX11_feed_19 : decode cX11_feed 19 = .ok (.getfield 14, 3) := by decide +kernel
theorem dX11_feed_22 : decode cX11_feed 22 = .ok (.iload_n 1, 1) := by decide +kernel
theorem dX11_feed_23 : decode cX11_feed 23 = .ok (.invokevirtual 79, 3) := by decide +kernel
theorem dX11_feed_26 : decode cX11_feed 26 = .ok (.aload_n 0, 1) := by decide +kernel
theorem dX11_feed_27 : decode cX11_feed 27 = .ok (.getfield 14, 3) := by decide +kernel
theorem dX11_feed_30 : decode cX11_feed 30 = .ok (.iload_n 2, 1) := by decide +kernel
theorem dX11_feed_31 : decode cX11_feed 31 = .ok (.invokevirtual 79, 3) := by decide +kernel
theorem dX11_feed_34 : decode cX11_feed 34 = .ok (.aload_n 0, 1) := by decide +kernel
theorem dX11_feed_35 : decode cX11_feed 35 = .ok (.getfield 14, 3) := by decide +kernel
theorem dX11_feed_38 : decode cX11_feed 38 = .ok (.iload_n 3, 1) := by decide +kernel
theorem dX11_feed_39 : decode cX11_feed 39 = .ok (.invokevirtual 79, 3) := by decide +kernel
theorem dX11_feed_42 : decode cX11_feed 42 = .ok (.aload_n 0, 1) := by decide +kernel
theorem dX11_feed_43 : decode cX11_feed 43 = .ok (.getfield 14, 3) := by decide +kernel
theorem dX11_feed_46 : decode cX11_feed 46 = .ok (.iload 4, 2) := by decide +kernel
theorem dX11_feed_48 : decode cX11_feed 48 = .ok (.invokevirtual 79, 3) := by decide +kernel
theorem dX11_feed_51 : decode cX11_feed 51 = .ok (.aload_n 0, 1) := by decide +kernel
theorem dX11_feed_52 : decode cX11_feed 52 = .ok (.getfield 14, 3) := by decide +kernel
theorem dX11_feed_55 : decode cX11_feed 55 = .ok (.iload 5, 2) := by decide +kernel
theorem dX11_feed_57 : decode cX11_feed 57 = .ok (.invokevirtual 79, 3) := by decide +kernel
theorem dX11_feed_60 : decode cX11_feed 60 = .ok (.aload_n 0, 1) := by decide +kernel
theorem dX11_feed_61 : decode cX11_feed 61 = .ok (.getfield 14, 3) := by decide +kernel
theorem dX11_feed_64 : decode cX11_feed 64 = .ok (.invokevirtual 75, 3) := by decide +kernel
theorem dX11_feed_67 : decode cX11_feed 67 = .ok (.ireturn, 1) := by decide +kernel
theorem dX11_font_0 : decode cX11_font 0 = .ok (.aload_n 0, 1) := by decide +kernel
theorem dX11_font_1 : decode cX11_font 1 = .ok (.getfield 24, 3) := by decide +kernel
theorem dX11_font_4 : decode cX11_font 4 = .ok (.getfield 90, 3) := by decide +kernel
theorem dX11_font_7 : decode cX11_font 7 = .ok (.iconst (-1), 1) := by decide +kernel
theorem dX11_font_8 : decode cX11_font 8 = .ok (.if_icmp .ne 5, 3) := by decide +kernel
theorem dX11_font_11 : decode cX11_font 11 = .ok (.iconst (-1), 1) := by decide +kernel
theorem dX11_font_12 : decode cX11_font 12 = .ok (.ireturn, 1) := by decide +kernel
theorem dX11_isKeyAndNumber_0 : decode cX11_isKeyAndNumber 0 = .ok (.iload_n 0, 1) := by decide +kernel
theorem dX11_isKeyAndNumber_1 : decode cX11_isKeyAndNumber 1 = .ok (.ifCond .lt 23, 3) := by decide +kernel
theorem dX11_isKeyAndNumber_4 : decode cX11_isKeyAndNumber 4 = .ok (.iload_n 0, 1) := by decide +kernel
theorem dX11_isKeyAndNumber_5 : decode cX11_isKeyAndNumber 5 = .ok (.ldc 183, 2) := by decide +kernel
theorem dX11_isKeyAndNumber_7 : decode cX11_isKeyAndNumber 7 = .ok (.if_icmp .gt 17, 3) := by decide +kernel
theorem dX11_isKeyAndNumber_10 : decode cX11_isKeyAndNumber 10 = .ok (.iload_n 1, 1) := by decide +kernel
theorem dX11_isKeyAndNumber_11 : decode cX11_isKeyAndNumber 11 = .ok (.ifCond .lt 13, 3) := by decide +kernel
theorem dX11_isKeyAndNumber_14 : decode cX11_isKeyAndNumber 14 = .ok (.iload_n 1, 1) := by decide +kernel
theorem dX11_isKeyAndNumber_15 : decode cX11_isKeyAndNumber 15 = .ok (.bipush 8, 2) := by decide +kernel
theorem dX11_isKeyAndNumber_17 : decode cX11_isKeyAndNumber 17 = .ok (.if_icmp .gt 7, 3) := by decide +kernel
theorem dX11_isKeyAndNumber_20 : decode cX11_isKeyAndNumber 20 = .ok (.iconst 1, 1) := by decide +kernel
theorem dX11_isKeyAndNumber_21 : decode cX11_isKeyAndNumber 21 = .ok (.goto 4, 3) := by decide +kernel
theorem dX11_isKeyAndNumber_24 : decode cX11_isKeyAndNumber 24 = .ok (.iconst 0, 1) := by decide +kernel
theorem dX11_isKeyAndNumber_25 : decode cX11_isKeyAndNumber 25 = .ok (.ireturn, 1) := by decide +kernel
theorem dX11_octet_0 : decode cX11_octet 0 = .ok (.aload_n 0, 1) := by decide +kernel
theorem dX11_octet_1 : decode cX11_octet 1 = .ok (.getfield 18, 3) := by decide +kernel
theorem dX11_octet_4 : decode cX11_octet 4 = .ok (.iload_n 1, 1) := by decide +kernel
theorem dX11_octet_5 : decode cX11_octet 5 = .ok (.i2l, 1) := by decide +kernel
theorem dX11_octet_6 : decode cX11_octet 6 = .ok (.invokevirtual 131, 3) := by decide +kernel
theorem dX11_octet_9 : decode cX11_octet 9 = .ok (.ireturn, 1) := by decide +kernel
theorem dX11_part_0 : decode cX11_part 0 = .ok (.aload_n 0, 1) := by decide +kernel
theorem dX11_part_1 : decode cX11_part 1 = .ok (.getfield 48, 3) := by decide +kernel
theorem dX11_part_4 : decode cX11_part 4 = .ok (.iload_n 1, 1) := by decide +kernel
theorem dX11_part_5 : decode cX11_part 5 = .ok (.invokevirtual 158, 3) := by decide +kernel
theorem dX11_part_8 : decode cX11_part 8 = .ok (.ireturn, 1) := by decide +kernel
theorem dX11_plain_0 : decode cX11_plain 0 = .ok (.iload_n 1, 1) := by decide +kernel
theorem dX11_plain_1 : decode cX11_plain 1 = .ok (.iload_n 2, 1) := by decide +kernel
theorem dX11_plain_2 : decode cX11_plain 2 = .ok (.invokestatic 165, 3) := by decide +kernel
theorem dX11_plain_5 : decode cX11_plain 5 = .ok (.ifCond .ne 5, 3) := by decide +kernel
theorem dX11_plain_8 : decode cX11_plain 8 = .ok (.iconst (-1), 1) := by decide +kernel
theorem dX11_plain_9 : decode cX11_plain 9 = .ok (.ireturn, 1) := by decide +kernel
theorem dX11_plain_10 : decode cX11_plain 10 = .ok (.aload_n 0, 1) := by decide +kernel
theorem dX11_plain_11 : decode cX11_plain 11 = .ok (.getfield 14, 3) := by decide +kernel
theorem dX11_plain_14 : decode cX11_plain 14 = .ok (.iload_n 1, 1) := by decide +kernel
theorem dX11_plain_15 : decode cX11_plain 15 = .ok (.iconst 0, 1) := by decide +kernel
theorem dX11_plain_16 : decode cX11_plain 16 = .ok (.aload_n 0, 1) := by decide +kernel
theorem dX11_plain_17 : decode cX11_plain 17 = .ok (.getfield 14, 3) := by decide +kernel
theorem dX11_plain_20 : decode cX11_plain 20 = .ok (.invokevirtual 75, 3) := by decide +kernel
theorem dX11_plain_23 : decode cX11_plain 23 = .ok (.invokevirtual 179, 3) := by decide +kernel
theorem dX11_plain_26 : decode cX11_plain 26 = .ok (.aload_n 0, 1) := by decide +kernel
theorem dX11_plain_27 : decode cX11_plain 27 = .ok (.getfield 18, 3) := by decide +kernel
theorem dX11_plain_30 : decode cX11_plain 30 = .ok (.iconst 0, 1) := by decide +kernel
theorem dX11_plain_31 : decode cX11_plain 31 = .ok (.invokevirtual 82, 3) := by decide +kernel
theorem dX11_plain_34 : decode cX11_plain 34 = .ok (.aload_n 0, 1) := by decide +kernel
theorem dX11_plain_35 : decode cX11_plain 35 = .ok (.getfield 18, 3) := by decide +kernel
theorem dX11_plain_38 : decode cX11_plain 38 = .ok (.aload_n 0, 1) := by decide +kernel
theorem dX11_plain_39 : decode cX11_plain 39 = .ok (.getfield 14, 3) := by decide +kernel
theorem dX11_plain_42 : decode cX11_plain 42 = .ok (.iload_n 2, 1) := by decide +kernel
theorem dX11_plain_43 : decode cX11_plain 43 = .ok (.invokevirtual 172, 3) := by decide +kernel
theorem dX11_plain_46 : decode cX11_plain 46 = .ok (.aload_n 0, 1) := by decide +kernel
theorem dX11_plain_47 : decode cX11_plain 47 = .ok (.getfield 14, 3) := by decide +kernel
theorem dX11_plain_50 : decode cX11_plain 50 = .ok (.iconst 0, 1) := by decide +kernel
theorem dX11_plain_51 : decode cX11_plain 51 = .ok (.invokevirtual 82, 3) := by decide +kernel
theorem dX11_plain_54 : decode cX11_plain 54 = .ok (.aload_n 0, 1) := by decide +kernel
theorem dX11_plain_55 : decode cX11_plain 55 = .ok (.getfield 18, 3) := by decide +kernel
theorem dX11_plain_58 : decode cX11_plain 58 = .ok (.invokevirtual 75, 3) := by decide +kernel
theorem dX11_plain_61 : decode cX11_plain 61 = .ok (.ireturn, 1) := by decide +kernel
theorem dX11_read_0 : decode cX11_read 0 = .ok (.iload_n 1, 1) := by decide +kernel
theorem dX11_read_1 : decode cX11_read 1 = .ok (.ifCond .eq 10, 3) := by decide +kernel
theorem dX11_read_4 : decode cX11_read 4 = .ok (.iload_n 1, 1) := by decide +kernel
theorem dX11_read_5 : decode cX11_read 5 = .ok (.iconst 1, 1) := by decide +kernel
theorem dX11_read_6 : decode cX11_read 6 = .ok (.if_icmp .eq 5, 3) := by decide +kernel
theorem dX11_read_9 : decode cX11_read 9 = .ok (.iconst (-1), 1) := by decide +kernel
theorem dX11_read_10 : decode cX11_read 10 = .ok (.ireturn, 1) := by decide +kernel
theorem dX11_read_11 : decode cX11_read 11 = .ok (.iload_n 1, 1) := by decide +kernel
theorem dX11_read_12 : decode cX11_read 12 = .ok (.ifCond .ne 21, 3) := by decide +kernel
theorem dX11_read_15 : decode cX11_read 15 = .ok (.aload_n 0, 1) := by decide +kernel
theorem dX11_read_16 : decode cX11_read 16 = .ok (.getfield 34, 3) := by decide +kernel
theorem dX11_read_19 : decode cX11_read 19 = .ok (.aload_n 0, 1) := by decide +kernel
theorem dX11_read_20 : decode cX11_read 20 = .ok (.getfield 14, 3) := by decide +kernel
theorem dX11_read_23 : decode cX11_read 23 = .ok (.aload_n 0, 1) := by decide +kernel
theorem dX11_read_24 : decode cX11_read 24 = .ok (.getfield 28, 3) := by decide +kernel
theorem dX11_read_27 : decode cX11_read 27 = .ok (.invokevirtual 85, 3) := by decide +kernel
theorem dX11_read_30 : decode cX11_read 30 = .ok (.goto 18, 3) := by decide +kernel
theorem dX11_read_33 : decode cX11_read 33 = .ok (.aload_n 0, 1) := by decide +kernel
theorem dX11_read_34 : decode cX11_read 34 = .ok (.getfield 41, 3) := by decide +kernel
theorem dX11_read_37 : decode cX11_read 37 = .ok (.aload_n 0, 1) := by decide +kernel
theorem dX11_read_38 : decode cX11_read 38 = .ok (.getfield 14, 3) := by decide +kernel
theorem dX11_read_41 : decode cX11_read 41 = .ok (.aload_n 0, 1) := by decide +kernel
theorem dX11_read_42 : decode cX11_read 42 = .ok (.getfield 28, 3) := by decide +kernel
theorem dX11_read_45 : decode cX11_read 45 = .ok (.invokevirtual 89, 3) := by decide +kernel
theorem dX11_read_48 : decode cX11_read 48 = .ok (.istore_n 2, 1) := by decide +kernel
theorem dX11_read_49 : decode cX11_read 49 = .ok (.aload_n 0, 1) := by decide +kernel
theorem dX11_read_50 : decode cX11_read 50 = .ok (.getfield 14, 3) := by decide +kernel
theorem dX11_read_53 : decode cX11_read 53 = .ok (.iconst 0, 1) := by decide +kernel
theorem dX11_read_54 : decode cX11_read 54 = .ok (.invokevirtual 82, 3) := by decide +kernel
theorem dX11_read_57 : decode cX11_read 57 = .ok (.iload_n 2, 1) := by decide +kernel
theorem dX11_read_58 : decode cX11_read 58 = .ok (.ifCond .ne 21, 3) := by decide +kernel
theorem dX11_read_79 : decode cX11_read 79 = .ok (.iload_n 2, 1) := by decide +kernel
theorem dX11_read_80 : decode cX11_read 80 = .ok (.ireturn, 1) := by decide +kernel
theorem dX11_width_0 : decode cX11_width 0 = .ok (.aload_n 0, 1) := by decide +kernel
theorem dX11_width_1 : decode cX11_width 1 = .ok (.getfield 71, 3) := by decide +kernel
theorem dX11_width_4 : decode cX11_width 4 = .ok (.ifnonnull 7, 3) := by decide +kernel
theorem dX11_width_7 : decode cX11_width 7 = .ok (.lconst 0, 1) := by decide +kernel
theorem dX11_width_8 : decode cX11_width 8 = .ok (.goto 10, 3) := by decide +kernel
theorem dX11_width_18 : decode cX11_width 18 = .ok (.lreturn, 1) := by decide +kernel
theorem dX12_at_0 : decode cX12_at 0 = .ok (.iload_n 1, 1) := by decide +kernel
theorem dX12_at_1 : decode cX12_at 1 = .ok (.ifCond .lt 24, 3) := by decide +kernel
theorem dX12_at_4 : decode cX12_at 4 = .ok (.iload_n 1, 1) := by decide +kernel
theorem dX12_at_5 : decode cX12_at 5 = .ok (.aload_n 0, 1) := by decide +kernel
theorem dX12_at_6 : decode cX12_at 6 = .ok (.getfield 298, 3) := by decide +kernel
theorem dX12_at_9 : decode cX12_at 9 = .ok (.if_icmp .ge 16, 3) := by decide +kernel
theorem dX12_at_25 : decode cX12_at 25 = .ok (.lconst 0, 1) := by decide +kernel
theorem dX12_at_26 : decode cX12_at 26 = .ok (.lreturn, 1) := by decide +kernel
theorem dX12_back_0 : decode cX12_back 0 = .ok (.aload_n 0, 1) := by decide +kernel
theorem dX12_back_1 : decode cX12_back 1 = .ok (.getfield 125, 3) := by decide +kernel
theorem dX12_back_4 : decode cX12_back 4 = .ok (.aload_n 0, 1) := by decide +kernel
theorem dX12_back_5 : decode cX12_back 5 = .ok (.getfield 137, 3) := by decide +kernel
theorem dX12_back_8 : decode cX12_back 8 = .ok (.iadd, 1) := by decide +kernel
theorem dX12_back_9 : decode cX12_back 9 = .ok (.sipush 1500, 3) := by decide +kernel
theorem dX12_back_12 : decode cX12_back 12 = .ok (.if_icmp .le 5, 3) := by decide +kernel
theorem dX12_back_17 : decode cX12_back 17 = .ok (.iconst 0, 1) := by decide +kernel
theorem dX12_back_18 : decode cX12_back 18 = .ok (.istore_n 1, 1) := by decide +kernel
theorem dX12_back_19 : decode cX12_back 19 = .ok (.iload_n 1, 1) := by decide +kernel
theorem dX12_back_20 : decode cX12_back 20 = .ok (.aload_n 0, 1) := by decide +kernel
theorem dX12_back_21 : decode cX12_back 21 = .ok (.getfield 137, 3) := by decide +kernel
theorem dX12_back_24 : decode cX12_back 24 = .ok (.if_icmp .ge 26, 3) := by decide +kernel
theorem dX12_back_50 : decode cX12_back 50 = .ok (.aload_n 0, 1) := by decide +kernel
theorem dX12_back_51 : decode cX12_back 51 = .ok (.dup, 1) := by decide +kernel
theorem dX12_back_52 : decode cX12_back 52 = .ok (.getfield 125, 3) := by decide +kernel
theorem dX12_back_55 : decode cX12_back 55 = .ok (.aload_n 0, 1) := by decide +kernel
theorem dX12_back_56 : decode cX12_back 56 = .ok (.getfield 137, 3) := by decide +kernel
theorem dX12_back_59 : decode cX12_back 59 = .ok (.iadd, 1) := by decide +kernel
theorem dX12_back_60 : decode cX12_back 60 = .ok (.putfield 125, 3) := by decide +kernel
theorem dX12_back_63 : decode cX12_back 63 = .ok (.aload_n 0, 1) := by decide +kernel
theorem dX12_back_64 : decode cX12_back 64 = .ok (.iconst 0, 1) := by decide +kernel
theorem dX12_back_65 : decode cX12_back 65 = .ok (.putfield 137, 3) := by decide +kernel
theorem dX12_back_68 : decode cX12_back 68 = .ok (.aload_n 0, 1) := by decide +kernel
theorem dX12_back_69 : decode cX12_back 69 = .ok (.getfield 125, 3) := by decide +kernel
theorem dX12_back_72 : decode cX12_back 72 = .ok (.ireturn, 1) := by decide +kernel
theorem dX12_cff_0 : decode cX12_cff 0 = .ok (.aload_n 0, 1) := by decide +kernel
theorem dX12_cff_1 : decode cX12_cff 1 = .ok (.lconst 0, 1) := by decide +kernel
theorem dX12_cff_2 : decode cX12_cff 2 = .ok (.putfield 175, 3) := by decide +kernel
theorem dX12_cff_5 : decode cX12_cff 5 = .ok (.aload_n 0, 1) := by decide +kernel
theorem dX12_cff_6 : decode cX12_cff 6 = .ok (.iconst 1, 1) := by decide +kernel
theorem dX12_cff_7 : decode cX12_cff 7 = .ok (.invokevirtual 191, 3) := by decide +kernel
theorem dX12_cff_10 : decode cX12_cff 10 = .ok (.lconst 1, 1) := by decide +kernel
theorem dX12_cff_11 : decode cX12_cff 11 = .ok (.lcmp, 1) := by decide +kernel
theorem dX12_cff_12 : decode cX12_cff 12 = .ok (.ifCond .ne 10, 3) := by decide +kernel
theorem dX12_cff_22 : decode cX12_cff 22 = .ok (.aload_n 0, 1) := by decide +kernel
theorem dX12_cff_23 : decode cX12_cff 23 = .ok (.iconst 2, 1) := by decide +kernel
theorem dX12_cff_24 : decode cX12_cff 24 = .ok (.invokevirtual 179, 3) := by decide +kernel
theorem dX12_cff_27 : decode cX12_cff 27 = .ok (.istore_n 1, 1) := by decide +kernel
theorem dX12_cff_28 : decode cX12_cff 28 = .ok (.return_, 1) := by decide +kernel
theorem dX12_cipher_0 : decode cX12_cipher 0 = .ok (.iload_n 1, 1) := by decide +kernel
theorem dX12_cipher_1 : decode cX12_cipher 1 = .ok (.ifCond .lt 19, 3) := by decide +kernel
theorem dX12_cipher_4 : decode cX12_cipher 4 = .ok (.iload_n 1, 1) := by decide +kernel
theorem dX12_cipher_5 : decode cX12_cipher 5 = .ok (.ldc 136, 2) := by decide +kernel
theorem dX12_cipher_7 : decode cX12_cipher 7 = .ok (.if_icmp .gt 13, 3) := by decide +kernel
theorem dX12_cipher_10 : decode cX12_cipher 10 = .ok (.iload_n 2, 1) := by decide +kernel
theorem dX12_cipher_11 : decode cX12_cipher 11 = .ok (.ifCond .lt 9, 3) := by decide +kernel
theorem dX12_cipher_14 : decode cX12_cipher 14 = .ok (.iload_n 2, 1) := by decide +kernel
theorem dX12_cipher_15 : decode cX12_cipher 15 = .ok (.bipush 8, 2) := by decide +kernel
theorem dX12_cipher_17 : decode cX12_cipher 17 = .ok (.if_icmp .le 5, 3) := by decide +kernel
theorem dX12_cipher_20 : decode cX12_cipher 20 = .ok (.iconst (-1), 1) := by decide +kernel
theorem dX12_cipher_21 : decode cX12_cipher 21 = .ok (.ireturn, 1) := by decide +kernel
theorem dX12_cipher_22 : decode cX12_cipher 22 = .ok (.aload_n 0, 1) := by decide +kernel
theorem dX12_cipher_23 : decode cX12_cipher 23 = .ok (.iload_n 1, 1) := by decide +kernel
theorem dX12_cipher_24 : decode cX12_cipher 24 = .ok (.putfield 132, 3) := by decide +kernel
theorem dX12_cipher_27 : decode cX12_cipher 27 = .ok (.aload_n 0, 1) := by decide +kernel
theorem dX12_cipher_28 : decode cX12_cipher 28 = .ok (.iconst 0, 1) := by decide +kernel
theorem dX12_cipher_29 : decode cX12_cipher 29 = .ok (.putfield 137, 3) := by decide +kernel
theorem dX12_cipher_32 : decode cX12_cipher 32 = .ok (.iconst 0, 1) := by decide +kernel
theorem dX12_cipher_33 : decode cX12_cipher 33 = .ok (.istore_n 3, 1) := by decide +kernel
theorem dX12_cipher_34 : decode cX12_cipher 34 = .ok (.iload_n 3, 1) := by decide +kernel
theorem dX12_cipher_35 : decode cX12_cipher 35 = .ok (.iload_n 2, 1) := by decide +kernel
theorem dX12_cipher_36 : decode cX12_cipher 36 = .ok (.aload_n 0, 1) := by decide +kernel
theorem dX12_cipher_37 : decode cX12_cipher 37 = .ok (.getfield 125, 3) := by decide +kernel
theorem dX12_cipher_40 : decode cX12_cipher 40 = .ok (.iadd, 1) := by decide +kernel
theorem dX12_cipher_41 : decode cX12_cipher 41 = .ok (.if_icmp .ge 54, 3) := by decide +kernel
theorem dX12_cipher_44 : decode cX12_cipher 44 = .ok (.aload_n 0, 1) := by decide +kernel
theorem dX12_cipher_45 : decode cX12_cipher 45 = .ok (.getfield 13, 3) := by decide +kernel
theorem dX12_cipher_48 : decode cX12_cipher 48 = .ok (.aload_n 0, 1) := by decide +kernel
theorem dX12_cipher_49 : decode cX12_cipher 49 = .ok (.getfield 137, 3) := by decide +kernel
theorem dX12_cipher_52 : decode cX12_cipher 52 = .ok (.aload_n 0, 1) := by decide +kernel
theorem dX12_cipher_53 : decode cX12_cipher 53 = .ok (.iload_n 3, 1) := by decide +kernel
theorem dX12_cipher_54 : decode cX12_cipher 54 = .ok (.iload_n 2, 1) := by decide +kernel
theorem dX12_cipher_55 : decode cX12_cipher 55 = .ok (.if_icmp .ge 7, 3) := by decide +kernel
theorem dX12_cipher_58 : decode cX12_cipher 58 = .ok (.iconst 0, 1) := by decide +kernel
theorem dX12_cipher_59 : decode cX12_cipher 59 = .ok (.goto 15, 3) := by decide +kernel
theorem dX12_cipher_74 : decode cX12_cipher 74 = .ok (.invokevirtual 140, 3) := by decide +kernel
theorem dX12_cipher_77 : decode cX12_cipher 77 = .ok (.i2b, 1) := by decide +kernel
theorem dX12_cipher_78 : decode cX12_cipher 78 = .ok (.bastore, 1) := by decide +kernel
theorem dX12_cipher_79 : decode cX12_cipher 79 = .ok (.aload_n 0, 1) := by decide +kernel
theorem dX12_cipher_80 : decode cX12_cipher 80 = .ok (.dup, 1) := by decide +kernel
theorem dX12_cipher_81 : decode cX12_cipher 81 = .ok (.getfield 137, 3) := by decide +kernel
theorem dX12_cipher_84 : decode cX12_cipher 84 = .ok (.iconst 1, 1) := by decide +kernel
theorem dX12_cipher_85 : decode cX12_cipher 85 = .ok (.iadd, 1) := by decide +kernel
theorem dX12_cipher_86 : decode cX12_cipher 86 = .ok (.putfield 137, 3) := by decide +kernel
theorem dX12_cipher_89 : decode cX12_cipher 89 = .ok (.iinc 3 1, 3) := by decide +kernel
theorem dX12_cipher_92 : decode cX12_cipher 92 = .ok (.goto (-58), 3) := by decide +kernel
theorem dX12_cipher_95 : decode cX12_cipher 95 = .ok (.aload_n 0, 1) := by decide +kernel
theorem dX12_cipher_96 : decode cX12_cipher 96 = .ok (.iconst 0, 1) := by decide +kernel
theorem dX12_cipher_97 : decode cX12_cipher 97 = .ok (.putfield 125, 3) := by decide +kernel
theorem dX12_cipher_100 : decode cX12_cipher 100 = .ok (.aload_n 0, 1) := by decide +kernel
theorem dX12_cipher_101 : decode cX12_cipher 101 = .ok (.getfield 137, 3) := by decide +kernel
theorem dX12_cipher_104 : decode cX12_cipher 104 = .ok (.ireturn, 1) := by decide +kernel
theorem dX12_ciphers_0 : decode cX12_ciphers 0 = .ok (.iload_n 1, 1) := by decide +kernel
theorem dX12_ciphers_1 : decode cX12_ciphers 1 = .ok (.aload_n 0, 1) := by decide +kernel
theorem dX12_ciphers_2 : decode cX12_ciphers 2 = .ok (.getfield 132, 3) := by decide +kernel
theorem dX12_ciphers_5 : decode cX12_ciphers 5 = .ok (.bipush 8, 2) := by decide +kernel
theorem dX12_ciphers_7 : decode cX12_ciphers 7 = .ok (.ishr, 1) := by decide +kernel
theorem dX12_ciphers_8 : decode cX12_ciphers 8 = .ok (.ixor, 1) := by decide +kernel
theorem dX12_ciphers_9 : decode cX12_ciphers 9 = .ok (.sipush 255, 3) := by decide +kernel
theorem dX12_ciphers_12 : decode cX12_ciphers 12 = .ok (.iand, 1) := by decide +kernel
theorem dX12_ciphers_13 : decode cX12_ciphers 13 = .ok (.istore_n 2, 1) := by decide +kernel
theorem dX12_ciphers_14 : decode cX12_ciphers 14 = .ok (.aload_n 0, 1) := by decide +kernel
theorem dX12_ciphers_15 : decode cX12_ciphers 15 = .ok (.iload_n 2, 1) := by decide +kernel
theorem dX12_ciphers_16 : decode cX12_ciphers 16 = .ok (.aload_n 0, 1) := by decide +kernel
theorem dX12_ciphers_17 : decode cX12_ciphers 17 = .ok (.getfield 132, 3) := by decide +kernel
theorem dX12_ciphers_20 : decode cX12_ciphers 20 = .ok (.iadd, 1) := by decide +kernel
theorem dX12_ciphers_21 : decode cX12_ciphers 21 = .ok (.ldc 135, 2) := by decide +kernel
theorem dX12_ciphers_23 : decode cX12_ciphers 23 = .ok (.imul, 1) := by decide +kernel
theorem dX12_ciphers_24 : decode cX12_ciphers 24 = .ok (.sipush 22719, 3) := by decide +kernel
theorem dX12_ciphers_27 : decode cX12_ciphers 27 = .ok (.iadd, 1) := by decide +kernel
theorem dX12_ciphers_28 : decode cX12_ciphers 28 = .ok (.ldc 136, 2) := by decide +kernel
theorem dX12_ciphers_30 : decode cX12_ciphers 30 = .ok (.iand, 1) := by decide +kernel
theorem dX12_ciphers_31 : decode cX12_ciphers 31 = .ok (.putfield 132, 3) := by decide +kernel
theorem dX12_ciphers_34 : decode cX12_ciphers 34 = .ok (.iload_n 2, 1) := by decide +kernel
theorem dX12_ciphers_35 : decode cX12_ciphers 35 = .ok (.ireturn, 1) := by decide +kernel
theorem dX12_code_0 : decode cX12_code 0 = .ok (.aload_n 0, 1) := by decide +kernel
theorem dX12_code_1 : decode cX12_code 1 = .ok (.iload_n 1, 1) := by decide +kernel
theorem dX12_code_2 : decode cX12_code 2 = .ok (.iload_n 2, 1) := by decide +kernel
theorem dX12_code_3 : decode cX12_code 3 = .ok (.invokevirtual 171, 3) := by decide +kernel
theorem dX12_code_6 : decode cX12_code 6 = .ok (.ifCond .eq 23, 3) := by decide +kernel
theorem dX12_code_29 : decode cX12_code 29 = .ok (.iconst (-1), 1) := by decide +kernel
theorem dX12_code_30 : decode cX12_code 30 = .ok (.ireturn, 1) := by decide +kernel
theorem dX12_count_0 : decode cX12_count 0 = .ok (.iload_n 1, 1) := by decide +kernel
theorem dX12_count_1 : decode cX12_count 1 = .ok (.ifCond .ne 10, 3) := by decide +kernel
theorem dX12_count_4 : decode cX12_count 4 = .ok (.aload_n 0, 1) := by decide +kernel
theorem dX12_count_5 : decode cX12_count 5 = .ok (.getfield 125, 3) := by decide +kernel
theorem dX12_count_8 : decode cX12_count 8 = .ok (.goto 16, 3) := by decide +kernel
theorem dX12_count_11 : decode cX12_count 11 = .ok (.iload_n 1, 1) := by decide +kernel
theorem dX12_count_12 : decode cX12_count 12 = .ok (.iconst 1, 1) := by decide +kernel
theorem dX12_count_13 : decode cX12_count 13 = .ok (.if_icmp .ne 10, 3) := by decide +kernel
theorem dX12_count_16 : decode cX12_count 16 = .ok (.aload_n 0, 1) := by decide +kernel
theorem dX12_count_17 : decode cX12_count 17 = .ok (.getfield 137, 3) := by decide +kernel
theorem dX12_count_20 : decode cX12_count 20 = .ok (.goto 4, 3) := by decide +kernel
theorem dX12_count_23 : decode cX12_count 23 = .ok (.iconst (-1), 1) := by decide +kernel
theorem dX12_count_24 : decode cX12_count 24 = .ok (.ireturn, 1) := by decide +kernel
theorem dX12_draw_0 : decode cX12_draw 0 = .ok (.aload_n 0, 1) := by decide +kernel
theorem dX12_draw_1 : decode cX12_draw 1 = .ok (.iconst 0, 1) := by decide +kernel
theorem dX12_draw_2 : decode cX12_draw 2 = .ok (.iload_n 1, 1) := by decide +kernel
theorem dX12_draw_3 : decode cX12_draw 3 = .ok (.invokevirtual 171, 3) := by decide +kernel
theorem dX12_draw_6 : decode cX12_draw 6 = .ok (.ifCond .eq 14, 3) := by decide +kernel
theorem dX12_draw_20 : decode cX12_draw 20 = .ok (.iconst (-1), 1) := by decide +kernel
theorem dX12_draw_21 : decode cX12_draw 21 = .ok (.ireturn, 1) := by decide +kernel
theorem dX12_drawn_0 : decode cX12_drawn 0 = .ok (.aload_n 0, 1) := by decide +kernel
theorem dX12_drawn_1 : decode cX12_drawn 1 = .ok (.getfield 292, 3) := by decide +kernel
theorem dX12_drawn_4 : decode cX12_drawn 4 = .ok (.ifCond .ne 5, 3) := by decide +kernel
theorem dX12_drawn_7 : decode cX12_drawn 7 = .ok (.iconst (-1), 1) := by decide +kernel
theorem dX12_drawn_8 : decode cX12_drawn 8 = .ok (.ireturn, 1) := by decide +kernel
theorem dX12_end_0 : decode cX12_end 0 = .ok (.iload_n 1, 1) := by decide +kernel
theorem dX12_end_1 : decode cX12_end 1 = .ok (.ifCond .lt 11, 3) := by decide +kernel
theorem dX12_end_4 : decode cX12_end 4 = .ok (.iload_n 1, 1) := by decide +kernel
theorem dX12_end_5 : decode cX12_end 5 = .ok (.aload_n 0, 1) := by decide +kernel
theorem dX12_end_6 : decode cX12_end 6 = .ok (.getfield 125, 3) := by decide +kernel
theorem dX12_end_9 : decode cX12_end 9 = .ok (.if_icmp .le 5, 3) := by decide +kernel
theorem dX12_end_12 : decode cX12_end 12 = .ok (.iconst (-1), 1) := by decide +kernel
theorem dX12_end_13 : decode cX12_end 13 = .ok (.ireturn, 1) := by decide +kernel
theorem dX12_end_14 : decode cX12_end 14 = .ok (.aload_n 0, 1) := by decide +kernel
theorem dX12_end_15 : decode cX12_end 15 = .ok (.iload_n 1, 1) := by decide +kernel
theorem dX12_end_16 : decode cX12_end 16 = .ok (.putfield 125, 3) := by decide +kernel
theorem dX12_end_19 : decode cX12_end 19 = .ok (.iload_n 1, 1) := by decide +kernel
theorem dX12_end_20 : decode cX12_end 20 = .ok (.ireturn, 1) := by decide +kernel
theorem dX12_fails_0 : decode cX12_fails 0 = .ok (.aload_n 0, 1) := by decide +kernel
theorem dX12_fails_1 : decode cX12_fails 1 = .ok (.getfield 147, 3) := by decide +kernel
theorem dX12_fails_4 : decode cX12_fails 4 = .ok (.ifCond .ne 8, 3) := by decide +kernel
theorem dX12_fails_7 : decode cX12_fails 7 = .ok (.aload_n 0, 1) := by decide +kernel
theorem dX12_fails_8 : decode cX12_fails 8 = .ok (.iload_n 1, 1) := by decide +kernel
theorem dX12_fails_9 : decode cX12_fails 9 = .ok (.putfield 147, 3) := by decide +kernel
theorem dX12_fails_12 : decode cX12_fails 12 = .ok (.iconst 0, 1) := by decide +kernel
theorem dX12_fails_13 : decode cX12_fails 13 = .ok (.ireturn, 1) := by decide +kernel
theorem dX12_feed_0 : decode cX12_feed 0 = .ok (.aload_n 0, 1) := by decide +kernel
theorem dX12_feed_1 : decode cX12_feed 1 = .ok (.getfield 125, 3) := by decide +kernel
theorem dX12_feed_4 : decode cX12_feed 4 = .ok (.bipush 20, 2) := by decide +kernel
theorem dX12_feed_6 : decode cX12_feed 6 = .ok (.iadd, 1) := by decide +kernel
theorem dX12_feed_7 : decode cX12_feed 7 = .ok (.sipush 1500, 3) := by decide +kernel
theorem dX12_feed_10 : decode cX12_feed 10 = .ok (.if_icmp .le 5, 3) := by decide +kernel
theorem dX12_feed_15 : decode cX12_feed 15 = .ok (.aload_n 0, 1) := by decide +kernel
theorem dX12_feed_16 : decode cX12_feed 16 = .ok (.iload_n 1, 1) := by decide +kernel
theorem dX12_feed_17 : decode cX12_feed 17 = .ok (.invokevirtual 128, 3) := by decide +kernel
theorem dX12_feed_20 : decode cX12_feed 20 = .ok (.aload_n 0, 1) := by decide +kernel
theorem dX12_feed_21 : decode cX12_feed 21 = .ok (.iload_n 2, 1) := by decide +kernel
theorem dX12_feed_22 : decode cX12_feed 22 = .ok (.invokevirtual 128, 3) := by decide +kernel
theorem dX12_feed_25 : decode cX12_feed 25 = .ok (.aload_n 0, 1) := by decide +kernel
theorem dX12_feed_26 : decode cX12_feed 26 = .ok (.iload_n 3, 1) := by decide +kernel
theorem dX12_feed_27 : decode cX12_feed 27 = .ok (.invokevirtual 128, 3) := by decide +kernel
theorem dX12_feed_30 : decode cX12_feed 30 = .ok (.aload_n 0, 1) := by decide +kernel
theorem dX12_feed_31 : decode cX12_feed 31 = .ok (.iload 4, 2) := by decide +kernel
theorem dX12_feed_33 : decode cX12_feed 33 = .ok (.invokevirtual 128, 3) := by decide +kernel
theorem dX12_feed_36 : decode cX12_feed 36 = .ok (.aload_n 0, 1) := by decide +kernel
theorem dX12_feed_37 : decode cX12_feed 37 = .ok (.iload 5, 2) := by decide +kernel
theorem dX12_feed_39 : decode cX12_feed 39 = .ok (.invokevirtual 128, 3) := by decide +kernel
theorem dX12_feed_42 : decode cX12_feed 42 = .ok (.aload_n 0, 1) := by decide +kernel
theorem dX12_feed_43 : decode cX12_feed 43 = .ok (.getfield 125, 3) := by decide +kernel
theorem dX12_feed_46 : decode cX12_feed 46 = .ok (.ireturn, 1) := by decide +kernel
theorem dX12_first_0 : decode cX12_first 0 = .ok (.aload_n 0, 1) := by decide +kernel
theorem dX12_first_1 : decode cX12_first 1 = .ok (.invokevirtual 276, 3) := by decide +kernel
theorem dX12_first_4 : decode cX12_first 4 = .ok (.ifCond .ne 4, 3) := by decide +kernel
theorem dX12_first_7 : decode cX12_first 7 = .ok (.return_, 1) := by decide +kernel
theorem dX12_font_0 : decode cX12_font 0 = .ok (.aload_n 0, 1) := by decide +kernel
theorem dX12_font_1 : decode cX12_font 1 = .ok (.getfield 16, 3) := by decide +kernel
theorem dX12_font_4 : decode cX12_font 4 = .ok (.ifCond .ge 5, 3) := by decide +kernel
theorem dX12_font_7 : decode cX12_font 7 = .ok (.iconst (-1), 1) := by decide +kernel
theorem dX12_font_8 : decode cX12_font 8 = .ok (.ireturn, 1) := by decide +kernel
theorem dX12_four_0 : decode cX12_four 0 = .ok (.bipush 24, 2) := by decide +kernel
theorem dX12_four_2 : decode cX12_four 2 = .ok (.istore_n 2, 1) := by decide +kernel
theorem dX12_four_3 : decode cX12_four 3 = .ok (.iload_n 2, 1) := by decide +kernel
theorem dX12_four_4 : decode cX12_four 4 = .ok (.ifCond .lt 32, 3) := by decide +kernel
theorem dX12_four_7 : decode cX12_four 7 = .ok (.aload_n 0, 1) := by decide +kernel
theorem dX12_four_8 : decode cX12_four 8 = .ok (.getfield 7, 3) := by decide +kernel
theorem dX12_four_11 : decode cX12_four 11 = .ok (.aload_n 0, 1) := by decide +kernel
theorem dX12_four_12 : decode cX12_four 12 = .ok (.getfield 125, 3) := by decide +kernel
theorem dX12_four_15 : decode cX12_four 15 = .ok (.iload_n 1, 1) := by decide +kernel
theorem dX12_four_16 : decode cX12_four 16 = .ok (.iload_n 2, 1) := by decide +kernel
theorem dX12_four_17 : decode cX12_four 17 = .ok (.ishr, 1) := by decide +kernel
theorem dX12_four_18 : decode cX12_four 18 = .ok (.i2b, 1) := by decide +kernel
theorem dX12_four_19 : decode cX12_four 19 = .ok (.bastore, 1) := by decide +kernel
theorem dX12_four_20 : decode cX12_four 20 = .ok (.aload_n 0, 1) := by decide +kernel
theorem dX12_four_21 : decode cX12_four 21 = .ok (.dup, 1) := by decide +kernel
theorem dX12_four_22 : decode cX12_four 22 = .ok (.getfield 125, 3) := by decide +kernel
theorem dX12_four_25 : decode cX12_four 25 = .ok (.iconst 1, 1) := by decide +kernel
theorem dX12_four_26 : decode cX12_four 26 = .ok (.iadd, 1) := by decide +kernel
theorem dX12_four_27 : decode cX12_four 27 = .ok (.putfield 125, 3) := by decide +kernel
theorem dX12_four_30 : decode cX12_four 30 = .ok (.iinc 2 (-8), 3) := by decide +kernel
theorem dX12_four_33 : decode cX12_four 33 = .ok (.goto (-30), 3) := by decide +kernel
theorem dX12_four_36 : decode cX12_four 36 = .ok (.return_, 1) := by decide +kernel
theorem dX12_isThere_0 : decode cX12_isThere 0 = .ok (.aload_n 0, 1) := by decide +kernel
theorem dX12_isThere_1 : decode cX12_isThere 1 = .ok (.getfield 16, 3) := by decide +kernel
theorem dX12_isThere_4 : decode cX12_isThere 4 = .ok (.ifCond .lt 45, 3) := by decide +kernel
theorem dX12_isThere_49 : decode cX12_isThere 49 = .ok (.iconst 0, 1) := by decide +kernel
theorem dX12_isThere_50 : decode cX12_isThere 50 = .ok (.ireturn, 1) := by decide +kernel
theorem dX12_number_0 : decode cX12_number 0 = .ok (.lconst 0, 1) := by decide +kernel
theorem dX12_number_1 : decode cX12_number 1 = .ok (.lstore_n 2, 1) := by decide +kernel
theorem dX12_number_2 : decode cX12_number 2 = .ok (.iconst 0, 1) := by decide +kernel
theorem dX12_number_3 : decode cX12_number 3 = .ok (.istore 4, 2) := by decide +kernel
theorem dX12_number_5 : decode cX12_number 5 = .ok (.iload 4, 2) := by decide +kernel
theorem dX12_number_7 : decode cX12_number 7 = .ok (.iload_n 1, 1) := by decide +kernel
theorem dX12_number_8 : decode cX12_number 8 = .ok (.if_icmp .ge 78, 3) := by decide +kernel
theorem dX12_number_11 : decode cX12_number 11 = .ok (.aload_n 0, 1) := by decide +kernel
theorem dX12_number_12 : decode cX12_number 12 = .ok (.getfield 147, 3) := by decide +kernel
theorem dX12_number_15 : decode cX12_number 15 = .ok (.ifCond .ne 71, 3) := by decide +kernel
theorem dX12_number_18 : decode cX12_number 18 = .ok (.aload_n 0, 1) := by decide +kernel
theorem dX12_number_19 : decode cX12_number 19 = .ok (.getfield 175, 3) := by decide +kernel
theorem dX12_number_22 : decode cX12_number 22 = .ok (.lconst 0, 1) := by decide +kernel
theorem dX12_number_23 : decode cX12_number 23 = .ok (.lcmp, 1) := by decide +kernel
theorem dX12_number_24 : decode cX12_number 24 = .ok (.ifCond .lt 16, 3) := by decide +kernel
theorem dX12_number_27 : decode cX12_number 27 = .ok (.aload_n 0, 1) := by decide +kernel
theorem dX12_number_28 : decode cX12_number 28 = .ok (.getfield 175, 3) := by decide +kernel
theorem dX12_number_31 : decode cX12_number 31 = .ok (.aload_n 0, 1) := by decide +kernel
theorem dX12_number_32 : decode cX12_number 32 = .ok (.getfield 125, 3) := by decide +kernel
theorem dX12_number_35 : decode cX12_number 35 = .ok (.i2l, 1) := by decide +kernel
theorem dX12_number_36 : decode cX12_number 36 = .ok (.lcmp, 1) := by decide +kernel
theorem dX12_number_37 : decode cX12_number 37 = .ok (.ifCond .lt 12, 3) := by decide +kernel
theorem dX12_number_40 : decode cX12_number 40 = .ok (.aload_n 0, 1) := by decide +kernel
theorem dX12_number_41 : decode cX12_number 41 = .ok (.iconst 1, 1) := by decide +kernel
theorem dX12_number_42 : decode cX12_number 42 = .ok (.invokevirtual 179, 3) := by decide +kernel
theorem dX12_number_45 : decode cX12_number 45 = .ok (.istore 5, 2) := by decide +kernel
theorem dX12_number_47 : decode cX12_number 47 = .ok (.lconst 0, 1) := by decide +kernel
theorem dX12_number_48 : decode cX12_number 48 = .ok (.lreturn, 1) := by decide +kernel
theorem dX12_octet_0 : decode cX12_octet 0 = .ok (.iload_n 1, 1) := by decide +kernel
theorem dX12_octet_1 : decode cX12_octet 1 = .ok (.ifCond .lt 24, 3) := by decide +kernel
theorem dX12_octet_4 : decode cX12_octet 4 = .ok (.iload_n 1, 1) := by decide +kernel
theorem dX12_octet_5 : decode cX12_octet 5 = .ok (.aload_n 0, 1) := by decide +kernel
theorem dX12_octet_6 : decode cX12_octet 6 = .ok (.getfield 137, 3) := by decide +kernel
theorem dX12_octet_9 : decode cX12_octet 9 = .ok (.if_icmp .ge 16, 3) := by decide +kernel
theorem dX12_octet_25 : decode cX12_octet 25 = .ok (.iconst (-1), 1) := by decide +kernel
theorem dX12_octet_26 : decode cX12_octet 26 = .ok (.ireturn, 1) := by decide +kernel
theorem dX12_opens_0 : decode cX12_opens 0 = .ok (.iconst 0, 1) := by decide +kernel
theorem dX12_opens_1 : decode cX12_opens 1 = .ok (.istore_n 1, 1) := by decide +kernel
theorem dX12_opens_2 : decode cX12_opens 2 = .ok (.iload_n 1, 1) := by decide +kernel
theorem dX12_opens_3 : decode cX12_opens 3 = .ok (.bipush 6, 2) := by decide +kernel
theorem dX12_opens_5 : decode cX12_opens 5 = .ok (.iadd, 1) := by decide +kernel
theorem dX12_opens_6 : decode cX12_opens 6 = .ok (.aload_n 0, 1) := by decide +kernel
theorem dX12_opens_7 : decode cX12_opens 7 = .ok (.getfield 125, 3) := by decide +kernel
theorem dX12_opens_10 : decode cX12_opens 10 = .ok (.if_icmp .gt 35, 3) := by decide +kernel
theorem dX12_opens_45 : decode cX12_opens 45 = .ok (.iinc 1 6, 3) := by decide +kernel
theorem dX12_opens_48 : decode cX12_opens 48 = .ok (.iload_n 1, 1) := by decide +kernel
theorem dX12_opens_49 : decode cX12_opens 49 = .ok (.iconst 4, 1) := by decide +kernel
theorem dX12_opens_50 : decode cX12_opens 50 = .ok (.iadd, 1) := by decide +kernel
theorem dX12_opens_51 : decode cX12_opens 51 = .ok (.aload_n 0, 1) := by decide +kernel
theorem dX12_opens_52 : decode cX12_opens 52 = .ok (.getfield 125, 3) := by decide +kernel
theorem dX12_opens_55 : decode cX12_opens 55 = .ok (.if_icmp .le 9, 3) := by decide +kernel
theorem dX12_opens_58 : decode cX12_opens 58 = .ok (.aload_n 0, 1) := by decide +kernel
theorem dX12_opens_59 : decode cX12_opens 59 = .ok (.iconst 1, 1) := by decide +kernel
theorem dX12_opens_60 : decode cX12_opens 60 = .ok (.invokevirtual 179, 3) := by decide +kernel
theorem dX12_opens_63 : decode cX12_opens 63 = .ok (.ireturn, 1) := by decide +kernel
theorem dX12_part_0 : decode cX12_part 0 = .ok (.iload_n 1, 1) := by decide +kernel
theorem dX12_part_1 : decode cX12_part 1 = .ok (.ifCond .lt 20, 3) := by decide +kernel
theorem dX12_part_4 : decode cX12_part 4 = .ok (.iload_n 1, 1) := by decide +kernel
theorem dX12_part_5 : decode cX12_part 5 = .ok (.aload_n 0, 1) := by decide +kernel
theorem dX12_part_6 : decode cX12_part 6 = .ok (.getfield 298, 3) := by decide +kernel
theorem dX12_part_9 : decode cX12_part 9 = .ok (.if_icmp .ge 12, 3) := by decide +kernel
theorem dX12_part_21 : decode cX12_part 21 = .ok (.iconst (-1), 1) := by decide +kernel
theorem dX12_part_22 : decode cX12_part 22 = .ok (.ireturn, 1) := by decide +kernel
theorem dX12_plain_0 : decode cX12_plain 0 = .ok (.iload_n 1, 1) := by decide +kernel
theorem dX12_plain_1 : decode cX12_plain 1 = .ok (.ifCond .lt 19, 3) := by decide +kernel
theorem dX12_plain_4 : decode cX12_plain 4 = .ok (.iload_n 1, 1) := by decide +kernel
theorem dX12_plain_5 : decode cX12_plain 5 = .ok (.ldc 136, 2) := by decide +kernel
theorem dX12_plain_7 : decode cX12_plain 7 = .ok (.if_icmp .gt 13, 3) := by decide +kernel
theorem dX12_plain_10 : decode cX12_plain 10 = .ok (.iload_n 2, 1) := by decide +kernel
theorem dX12_plain_11 : decode cX12_plain 11 = .ok (.ifCond .lt 9, 3) := by decide +kernel
theorem dX12_plain_14 : decode cX12_plain 14 = .ok (.iload_n 2, 1) := by decide +kernel
theorem dX12_plain_15 : decode cX12_plain 15 = .ok (.bipush 8, 2) := by decide +kernel
theorem dX12_plain_17 : decode cX12_plain 17 = .ok (.if_icmp .le 5, 3) := by decide +kernel
theorem dX12_plain_20 : decode cX12_plain 20 = .ok (.iconst (-1), 1) := by decide +kernel
theorem dX12_plain_21 : decode cX12_plain 21 = .ok (.ireturn, 1) := by decide +kernel
theorem dX12_plain_22 : decode cX12_plain 22 = .ok (.aload_n 0, 1) := by decide +kernel
theorem dX12_plain_23 : decode cX12_plain 23 = .ok (.iload_n 1, 1) := by decide +kernel
theorem dX12_plain_24 : decode cX12_plain 24 = .ok (.putfield 132, 3) := by decide +kernel
theorem dX12_plain_27 : decode cX12_plain 27 = .ok (.aload_n 0, 1) := by decide +kernel
theorem dX12_plain_28 : decode cX12_plain 28 = .ok (.iconst 0, 1) := by decide +kernel
theorem dX12_plain_29 : decode cX12_plain 29 = .ok (.putfield 137, 3) := by decide +kernel
theorem dX12_plain_32 : decode cX12_plain 32 = .ok (.iconst 0, 1) := by decide +kernel
theorem dX12_plain_33 : decode cX12_plain 33 = .ok (.istore_n 3, 1) := by decide +kernel
theorem dX12_plain_34 : decode cX12_plain 34 = .ok (.iload_n 3, 1) := by decide +kernel
theorem dX12_plain_35 : decode cX12_plain 35 = .ok (.aload_n 0, 1) := by decide +kernel
theorem dX12_plain_36 : decode cX12_plain 36 = .ok (.getfield 125, 3) := by decide +kernel
theorem dX12_plain_39 : decode cX12_plain 39 = .ok (.if_icmp .ge 55, 3) := by decide +kernel
theorem dX12_plain_94 : decode cX12_plain 94 = .ok (.aload_n 0, 1) := by decide +kernel
theorem dX12_plain_95 : decode cX12_plain 95 = .ok (.iconst 0, 1) := by decide +kernel
theorem dX12_plain_96 : decode cX12_plain 96 = .ok (.putfield 125, 3) := by decide +kernel
theorem dX12_plain_99 : decode cX12_plain 99 = .ok (.aload_n 0, 1) := by decide +kernel
theorem dX12_plain_100 : decode cX12_plain 100 = .ok (.getfield 137, 3) := by decide +kernel
theorem dX12_plain_103 : decode cX12_plain 103 = .ok (.ireturn, 1) := by decide +kernel
theorem dX12_read_0 : decode cX12_read 0 = .ok (.iload_n 1, 1) := by decide +kernel
theorem dX12_read_1 : decode cX12_read 1 = .ok (.ifCond .lt 8, 3) := by decide +kernel
theorem dX12_read_4 : decode cX12_read 4 = .ok (.iload_n 1, 1) := by decide +kernel
theorem dX12_read_5 : decode cX12_read 5 = .ok (.iconst 1, 1) := by decide +kernel
theorem dX12_read_6 : decode cX12_read 6 = .ok (.if_icmp .le 5, 3) := by decide +kernel
theorem dX12_read_9 : decode cX12_read 9 = .ok (.iconst (-1), 1) := by decide +kernel
theorem dX12_read_10 : decode cX12_read 10 = .ok (.ireturn, 1) := by decide +kernel
theorem dX12_read_11 : decode cX12_read 11 = .ok (.aload_n 0, 1) := by decide +kernel
theorem dX12_read_12 : decode cX12_read 12 = .ok (.iconst 0, 1) := by decide +kernel
theorem dX12_read_13 : decode cX12_read 13 = .ok (.putfield 147, 3) := by decide +kernel
theorem dX12_read_16 : decode cX12_read 16 = .ok (.aload_n 0, 1) := by decide +kernel
theorem dX12_read_17 : decode cX12_read 17 = .ok (.iconst 0, 1) := by decide +kernel
theorem dX12_read_18 : decode cX12_read 18 = .ok (.putfield 150, 3) := by decide +kernel
theorem dX12_read_21 : decode cX12_read 21 = .ok (.aload_n 0, 1) := by decide +kernel
theorem dX12_read_22 : decode cX12_read 22 = .ok (.iconst 0, 1) := by decide +kernel
theorem dX12_read_23 : decode cX12_read 23 = .ok (.putfield 153, 3) := by decide +kernel
theorem dX12_read_26 : decode cX12_read 26 = .ok (.aload_n 0, 1) := by decide +kernel
theorem dX12_read_27 : decode cX12_read 27 = .ok (.iconst 0, 1) := by decide +kernel
theorem dX12_read_28 : decode cX12_read 28 = .ok (.putfield 156, 3) := by decide +kernel
theorem dX12_read_31 : decode cX12_read 31 = .ok (.iconst 0, 1) := by decide +kernel
theorem dX12_read_32 : decode cX12_read 32 = .ok (.istore_n 2, 1) := by decide +kernel
theorem dX12_read_33 : decode cX12_read 33 = .ok (.iload_n 2, 1) := by decide +kernel
theorem dX12_read_34 : decode cX12_read 34 = .ok (.iconst 3, 1) := by decide +kernel
theorem dX12_read_35 : decode cX12_read 35 = .ok (.if_icmp .ge 16, 3) := by decide +kernel
theorem dX12_read_38 : decode cX12_read 38 = .ok (.aload_n 0, 1) := by decide +kernel
theorem dX12_read_39 : decode cX12_read 39 = .ok (.getfield 33, 3) := by decide +kernel
theorem dX12_read_42 : decode cX12_read 42 = .ok (.iload_n 2, 1) := by decide +kernel
theorem dX12_read_43 : decode cX12_read 43 = .ok (.iconst 0, 1) := by decide +kernel
theorem dX12_read_44 : decode cX12_read 44 = .ok (.iastore, 1) := by decide +kernel
theorem dX12_read_45 : decode cX12_read 45 = .ok (.iinc 2 1, 3) := by decide +kernel
theorem dX12_read_48 : decode cX12_read 48 = .ok (.goto (-15), 3) := by decide +kernel
theorem dX12_read_51 : decode cX12_read 51 = .ok (.iload_n 1, 1) := by decide +kernel
theorem dX12_read_52 : decode cX12_read 52 = .ok (.ifCond .ne 10, 3) := by decide +kernel
theorem dX12_read_55 : decode cX12_read 55 = .ok (.aload_n 0, 1) := by decide +kernel
theorem dX12_read_56 : decode cX12_read 56 = .ok (.invokevirtual 159, 3) := by decide +kernel
theorem dX12_read_59 : decode cX12_read 59 = .ok (.goto 7, 3) := by decide +kernel
theorem dX12_read_62 : decode cX12_read 62 = .ok (.aload_n 0, 1) := by decide +kernel
theorem dX12_read_63 : decode cX12_read 63 = .ok (.invokevirtual 162, 3) := by decide +kernel
theorem dX12_read_66 : decode cX12_read 66 = .ok (.aload_n 0, 1) := by decide +kernel
theorem dX12_read_67 : decode cX12_read 67 = .ok (.iconst 0, 1) := by decide +kernel
theorem dX12_read_68 : decode cX12_read 68 = .ok (.putfield 125, 3) := by decide +kernel
theorem dX12_read_71 : decode cX12_read 71 = .ok (.aload_n 0, 1) := by decide +kernel
theorem dX12_read_72 : decode cX12_read 72 = .ok (.getfield 147, 3) := by decide +kernel
theorem dX12_read_75 : decode cX12_read 75 = .ok (.ifCond .le 8, 3) := by decide +kernel
theorem dX12_read_78 : decode cX12_read 78 = .ok (.aload_n 0, 1) := by decide +kernel
theorem dX12_read_79 : decode cX12_read 79 = .ok (.getfield 147, 3) := by decide +kernel
theorem dX12_read_82 : decode cX12_read 82 = .ok (.ireturn, 1) := by decide +kernel
theorem dX12_width_0 : decode cX12_width 0 = .ok (.aload_n 0, 1) := by decide +kernel
theorem dX12_width_1 : decode cX12_width 1 = .ok (.getfield 310, 3) := by decide +kernel
theorem dX12_width_4 : decode cX12_width 4 = .ok (.lreturn, 1) := by decide +kernel
theorem dX1_parse_0 : decode cX1_parse 0 = .ok (.aload_n 2, 1) := by decide +kernel
theorem dX1_parse_1 : decode cX1_parse 1 = .ok (.iconst 0, 1) := by decide +kernel
theorem dX1_parse_2 : decode cX1_parse 2 = .ok (.aload_n 1, 1) := by decide +kernel
theorem dX1_parse_3 : decode cX1_parse 3 = .ok (.iconst 0, 1) := by decide +kernel
theorem dX1_parse_4 : decode cX1_parse 4 = .ok (.invokevirtual 34, 3) := by decide +kernel
theorem dX1_parse_7 : decode cX1_parse 7 = .ok (.aload_n 0, 1) := by decide +kernel
theorem dX1_parse_8 : decode cX1_parse 8 = .ok (.aload_n 2, 1) := by decide +kernel
theorem dX1_parse_9 : decode cX1_parse 9 = .ok (.putfield 20, 3) := by decide +kernel
theorem dX1_parse_12 : decode cX1_parse 12 = .ok (.aload_n 0, 1) := by decide +kernel
theorem dX1_parse_13 : decode cX1_parse 13 = .ok (.aload_n 2, 1) := by decide +kernel
theorem dX1_parse_14 : decode cX1_parse 14 = .ok (.getfield 40, 3) := by decide +kernel
theorem dX1_parse_17 : decode cX1_parse 17 = .ok (.putfield 24, 3) := by decide +kernel
theorem dX1_parse_20 : decode cX1_parse 20 = .ok (.aload_n 0, 1) := by decide +kernel
theorem dX1_parse_21 : decode cX1_parse 21 = .ok (.iconst 0, 1) := by decide +kernel
theorem dX1_parse_22 : decode cX1_parse 22 = .ok (.putfield 41, 3) := by decide +kernel
theorem dX1_parse_25 : decode cX1_parse 25 = .ok (.aload_n 0, 1) := by decide +kernel
theorem dX1_parse_26 : decode cX1_parse 26 = .ok (.ldc2_w 28, 3) := by decide +kernel
theorem dX1_parse_29 : decode cX1_parse 29 = .ok (.putfield 30, 3) := by decide +kernel
theorem dX1_parse_32 : decode cX1_parse 32 = .ok (.aload_n 0, 1) := by decide +kernel
theorem dX1_parse_33 : decode cX1_parse 33 = .ok (.invokevirtual 45, 3) := by decide +kernel
theorem dX1_parse_36 : decode cX1_parse 36 = .ok (.aload_n 0, 1) := by decide +kernel
theorem dX1_parse_37 : decode cX1_parse 37 = .ok (.iconst 1, 1) := by decide +kernel
theorem dX1_parse_38 : decode cX1_parse 38 = .ok (.iconst 1, 1) := by decide +kernel
theorem dX1_parse_39 : decode cX1_parse 39 = .ok (.invokevirtual 48, 3) := by decide +kernel
theorem dX1_parse_42 : decode cX1_parse 42 = .ok (.aload_n 0, 1) := by decide +kernel
theorem dX1_parse_43 : decode cX1_parse 43 = .ok (.iconst 1, 1) := by decide +kernel
theorem dX1_parse_44 : decode cX1_parse 44 = .ok (.iconst 1, 1) := by decide +kernel
theorem dX1_parse_45 : decode cX1_parse 45 = .ok (.invokevirtual 48, 3) := by decide +kernel
theorem dX1_parse_48 : decode cX1_parse 48 = .ok (.aload_n 0, 1) := by decide +kernel
theorem dX1_parse_49 : decode cX1_parse 49 = .ok (.getfield 52, 3) := by decide +kernel
theorem dX1_parse_52 : decode cX1_parse 52 = .ok (.lstore_n 3, 1) := by decide +kernel
theorem dX1_parse_53 : decode cX1_parse 53 = .ok (.aload_n 0, 1) := by decide +kernel
theorem dX1_parse_54 : decode cX1_parse 54 = .ok (.getfield 55, 3) := by decide +kernel
theorem dX1_parse_57 : decode cX1_parse 57 = .ok (.lstore 5, 2) := by decide +kernel
theorem dX1_parse_59 : decode cX1_parse 59 = .ok (.aload_n 0, 1) := by decide +kernel
theorem dX1_parse_60 : decode cX1_parse 60 = .ok (.iconst 0, 1) := by decide +kernel
theorem dX1_parse_61 : decode cX1_parse 61 = .ok (.ldc 58, 2) := by decide +kernel
theorem dX1_parse_63 : decode cX1_parse 63 = .ok (.invokevirtual 48, 3) := by decide +kernel
theorem dX1_parse_66 : decode cX1_parse 66 = .ok (.aload_n 0, 1) := by decide +kernel
theorem dX1_parse_67 : decode cX1_parse 67 = .ok (.iconst 0, 1) := by decide +kernel
theorem dX1_parse_68 : decode cX1_parse 68 = .ok (.ldc 58, 2) := by decide +kernel
theorem dX1_parse_70 : decode cX1_parse 70 = .ok (.invokevirtual 48, 3) := by decide +kernel
theorem dX1_parse_73 : decode cX1_parse 73 = .ok (.aload_n 0, 1) := by decide +kernel
theorem dX1_parse_74 : decode cX1_parse 74 = .ok (.aload_n 0, 1) := by decide +kernel
theorem dX1_parse_75 : decode cX1_parse 75 = .ok (.getfield 20, 3) := by decide +kernel
theorem dX1_parse_78 : decode cX1_parse 78 = .ok (.getfield 59, 3) := by decide +kernel
theorem dX1_parse_81 : decode cX1_parse 81 = .ok (.invokevirtual 63, 3) := by decide +kernel
theorem dX1_parse_84 : decode cX1_parse 84 = .ok (.aload_n 0, 1) := by decide +kernel
theorem dX1_parse_85 : decode cX1_parse 85 = .ok (.lload_n 3, 1) := by decide +kernel
theorem dX1_parse_86 : decode cX1_parse 86 = .ok (.lload 5, 2) := by decide +kernel
theorem dX1_parse_88 : decode cX1_parse 88 = .ok (.invokevirtual 67, 3) := by decide +kernel
theorem dX1_parse_91 : decode cX1_parse 91 = .ok (.aload_n 0, 1) := by decide +kernel
theorem dX1_parse_92 : decode cX1_parse 92 = .ok (.getfield 14, 3) := by decide +kernel
theorem dX1_parse_95 : decode cX1_parse 95 = .ok (.bipush 18, 2) := by decide +kernel
theorem dX1_parse_97 : decode cX1_parse 97 = .ok (.invokevirtual 71, 3) := by decide +kernel
theorem dX1_parse_100 : decode cX1_parse 100 = .ok (.i2l, 1) := by decide +kernel
theorem dX1_parse_101 : decode cX1_parse 101 = .ok (.lstore 7, 2) := by decide +kernel
theorem dX1_parse_103 : decode cX1_parse 103 = .ok (.aload_n 0, 1) := by decide +kernel
theorem dX1_parse_104 : decode cX1_parse 104 = .ok (.getfield 14, 3) := by decide +kernel
theorem dX1_parse_107 : decode cX1_parse 107 = .ok (.bipush 18, 2) := by decide +kernel
theorem dX1_parse_109 : decode cX1_parse 109 = .ok (.invokevirtual 75, 3) := by decide +kernel
theorem dX1_parse_112 : decode cX1_parse 112 = .ok (.i2l, 1) := by decide +kernel
theorem dX1_parse_113 : decode cX1_parse 113 = .ok (.lstore 9, 2) := by decide +kernel
theorem dX1_parse_115 : decode cX1_parse 115 = .ok (.aload_n 0, 1) := by decide +kernel
theorem dX1_parse_116 : decode cX1_parse 116 = .ok (.getfield 14, 3) := by decide +kernel
theorem dX1_parse_119 : decode cX1_parse 119 = .ok (.bipush 18, 2) := by decide +kernel
theorem dX1_parse_121 : decode cX1_parse 121 = .ok (.invokevirtual 78, 3) := by decide +kernel
theorem dX1_parse_124 : decode cX1_parse 124 = .ok (.istore 11, 2) := by decide +kernel
theorem dX1_parse_126 : decode cX1_parse 126 = .ok (.aload_n 0, 1) := by decide +kernel
theorem dX1_parse_127 : decode cX1_parse 127 = .ok (.aload_n 0, 1) := by decide +kernel
theorem dX1_parse_128 : decode cX1_parse 128 = .ok (.getfield 14, 3) := by decide +kernel
theorem dX1_parse_131 : decode cX1_parse 131 = .ok (.bipush 17, 2) := by decide +kernel
theorem dX1_parse_133 : decode cX1_parse 133 = .ok (.invokevirtual 75, 3) := by decide +kernel
theorem dX1_parse_136 : decode cX1_parse 136 = .ok (.i2l, 1) := by decide +kernel
theorem dX1_parse_137 : decode cX1_parse 137 = .ok (.putfield 55, 3) := by decide +kernel
theorem dX1_parse_140 : decode cX1_parse 140 = .ok (.aload_n 0, 1) := by decide +kernel
theorem dX1_parse_141 : decode cX1_parse 141 = .ok (.iconst 1, 1) := by decide +kernel
theorem dX1_parse_142 : decode cX1_parse 142 = .ok (.bipush 40, 2) := by decide +kernel
theorem dX1_parse_144 : decode cX1_parse 144 = .ok (.invokevirtual 48, 3) := by decide +kernel
theorem dX1_parse_147 : decode cX1_parse 147 = .ok (.aload_n 0, 1) := by decide +kernel
theorem dX1_parse_148 : decode cX1_parse 148 = .ok (.aload_n 0, 1) := by decide +kernel
theorem dX1_parse_149 : decode cX1_parse 149 = .ok (.getfield 20, 3) := by decide +kernel
theorem dX1_parse_152 : decode cX1_parse 152 = .ok (.getfield 82, 3) := by decide +kernel
theorem dX1_parse_155 : decode cX1_parse 155 = .ok (.invokevirtual 63, 3) := by decide +kernel
theorem dX1_parse_158 : decode cX1_parse 158 = .ok (.aload_n 0, 1) := by decide +kernel
theorem dX1_parse_159 : decode cX1_parse 159 = .ok (.getfield 41, 3) := by decide +kernel
theorem dX1_parse_162 : decode cX1_parse 162 = .ok (.ifCond .ne 16, 3) := by decide +kernel
theorem dX1_parse_178 : decode cX1_parse 178 = .ok (.aload_n 0, 1) := by decide +kernel
theorem dX1_parse_179 : decode cX1_parse 179 = .ok (.getfield 41, 3) := by decide +kernel
theorem dX1_parse_182 : decode cX1_parse 182 = .ok (.ireturn, 1) := by decide +kernel
theorem dX1_shelve_0 : decode cX1_shelve 0 = .ok (.aload_n 0, 1) := by decide +kernel
theorem dX1_shelve_1 : decode cX1_shelve 1 = .ok (.getfield 41, 3) := by decide +kernel
theorem dX1_shelve_4 : decode cX1_shelve 4 = .ok (.ifCond .ne 27, 3) := by decide +kernel
theorem dX1_shelve_31 : decode cX1_shelve 31 = .ok (.return_, 1) := by decide +kernel
theorem dX1_take_0 : decode cX1_take 0 = .ok (.aload_n 0, 1) := by decide +kernel
theorem dX1_take_1 : decode cX1_take 1 = .ok (.getfield 55, 3) := by decide +kernel
theorem dX1_take_4 : decode cX1_take 4 = .ok (.lconst 0, 1) := by decide +kernel
theorem dX1_take_5 : decode cX1_take 5 = .ok (.lcmp, 1) := by decide +kernel
theorem dX1_take_6 : decode cX1_take 6 = .ok (.ifCond .lt 19, 3) := by decide +kernel
theorem dX1_take_9 : decode cX1_take 9 = .ok (.aload_n 0, 1) := by decide +kernel
theorem dX1_take_10 : decode cX1_take 10 = .ok (.getfield 55, 3) := by decide +kernel
theorem dX1_take_13 : decode cX1_take 13 = .ok (.aload_n 0, 1) := by decide +kernel
theorem dX1_take_14 : decode cX1_take 14 = .ok (.getfield 24, 3) := by decide +kernel
theorem dX1_take_17 : decode cX1_take 17 = .ok (.invokevirtual 92, 3) := by decide +kernel
theorem dX1_take_20 : decode cX1_take 20 = .ok (.i2l, 1) := by decide +kernel
theorem dX1_take_21 : decode cX1_take 21 = .ok (.lcmp, 1) := by decide +kernel
theorem dX1_take_22 : decode cX1_take 22 = .ok (.ifCond .lt 11, 3) := by decide +kernel
theorem dX1_take_25 : decode cX1_take 25 = .ok (.aload_n 0, 1) := by decide +kernel
theorem dX1_take_26 : decode cX1_take 26 = .ok (.iconst 1, 1) := by decide +kernel
theorem dX1_take_27 : decode cX1_take 27 = .ok (.invokevirtual 88, 3) := by decide +kernel
theorem dX1_take_30 : decode cX1_take 30 = .ok (.goto 20, 3) := by decide +kernel
theorem dX1_take_50 : decode cX1_take 50 = .ok (.aload_n 0, 1) := by decide +kernel
theorem dX1_take_51 : decode cX1_take 51 = .ok (.getfield 41, 3) := by decide +kernel
theorem dX1_take_54 : decode cX1_take 54 = .ok (.ifCond .eq 5, 3) := by decide +kernel
theorem dX1_take_57 : decode cX1_take 57 = .ok (.iconst (-1), 1) := by decide +kernel
theorem dX1_take_58 : decode cX1_take 58 = .ok (.ireturn, 1) := by decide +kernel
theorem dX1_takeDict_0 : decode cX1_takeDict 0 = .ok (.aload_n 0, 1) := by decide +kernel
theorem dX1_takeDict_1 : decode cX1_takeDict 1 = .ok (.getfield 14, 3) := by decide +kernel
theorem dX1_takeDict_4 : decode cX1_takeDict 4 = .ok (.invokevirtual 146, 3) := by decide +kernel
theorem dX1_takeDict_7 : decode cX1_takeDict 7 = .ok (.aload_n 0, 1) := by decide +kernel
theorem dX1_takeDict_8 : decode cX1_takeDict 8 = .ok (.lload_n 1, 1) := by decide +kernel
theorem dX1_takeDict_9 : decode cX1_takeDict 9 = .ok (.putfield 55, 3) := by decide +kernel
theorem dX1_takeDict_12 : decode cX1_takeDict 12 = .ok (.aload_n 0, 1) := by decide +kernel
theorem dX1_takeDict_13 : decode cX1_takeDict 13 = .ok (.lload_n 3, 1) := by decide +kernel
theorem dX1_takeDict_14 : decode cX1_takeDict 14 = .ok (.putfield 30, 3) := by decide +kernel
theorem dX1_takeDict_17 : decode cX1_takeDict 17 = .ok (.iconst 0, 1) := by decide +kernel
theorem dX1_takeDict_18 : decode cX1_takeDict 18 = .ok (.istore 5, 2) := by decide +kernel
theorem dX1_takeDict_20 : decode cX1_takeDict 20 = .ok (.iload 5, 2) := by decide +kernel
theorem dX1_takeDict_22 : decode cX1_takeDict 22 = .ok (.sipush 1500, 3) := by decide +kernel
theorem dX1_takeDict_25 : decode cX1_takeDict 25 = .ok (.if_icmp .gt 32, 3) := by decide +kernel
theorem dX1_takeDict_28 : decode cX1_takeDict 28 = .ok (.aload_n 0, 1) := by decide +kernel
theorem dX1_takeDict_29 : decode cX1_takeDict 29 = .ok (.getfield 41, 3) := by decide +kernel
theorem dX1_takeDict_32 : decode cX1_takeDict 32 = .ok (.ifCond .ne 25, 3) := by decide +kernel
theorem dX1_takeDict_57 : decode cX1_takeDict 57 = .ok (.aload_n 0, 1) := by decide +kernel
theorem dX1_takeDict_58 : decode cX1_takeDict 58 = .ok (.aload_n 0, 1) := by decide +kernel
theorem dX1_takeDict_59 : decode cX1_takeDict 59 = .ok (.getfield 14, 3) := by decide +kernel
theorem dX1_takeDict_62 : decode cX1_takeDict 62 = .ok (.invokevirtual 152, 3) := by decide +kernel
theorem dX1_takeDict_65 : decode cX1_takeDict 65 = .ok (.invokevirtual 107, 3) := by decide +kernel
theorem dX1_takeDict_68 : decode cX1_takeDict 68 = .ok (.aload_n 0, 1) := by decide +kernel
theorem dX1_takeDict_69 : decode cX1_takeDict 69 = .ok (.ldc2_w 28, 3) := by decide +kernel
theorem dX1_takeDict_72 : decode cX1_takeDict 72 = .ok (.putfield 30, 3) := by decide +kernel
theorem dX1_takeDict_75 : decode cX1_takeDict 75 = .ok (.return_, 1) := by decide +kernel
theorem dX1_takeHeader_0 : decode cX1_takeHeader 0 = .ok (.aload_n 0, 1) := by decide +kernel
theorem dX1_takeHeader_1 : decode cX1_takeHeader 1 = .ok (.lconst 0, 1) := by decide +kernel
theorem dX1_takeHeader_2 : decode cX1_takeHeader 2 = .ok (.putfield 55, 3) := by decide +kernel
theorem dX1_takeHeader_5 : decode cX1_takeHeader 5 = .ok (.aload_n 0, 1) := by decide +kernel
theorem dX1_takeHeader_6 : decode cX1_takeHeader 6 = .ok (.aload_n 0, 1) := by decide +kernel
theorem dX1_takeHeader_7 : decode cX1_takeHeader 7 = .ok (.invokevirtual 104, 3) := by decide +kernel
theorem dX1_takeHeader_10 : decode cX1_takeHeader 10 = .ok (.iconst 1, 1) := by decide +kernel
theorem dX1_takeHeader_11 : decode cX1_takeHeader 11 = .ok (.if_icmp .ne 7, 3) := by decide +kernel
theorem dX1_takeHeader_18 : decode cX1_takeHeader 18 = .ok (.iconst 0, 1) := by decide +kernel
theorem dX1_takeHeader_19 : decode cX1_takeHeader 19 = .ok (.invokevirtual 107, 3) := by decide +kernel
theorem dX1_takeHeader_22 : decode cX1_takeHeader 22 = .ok (.aload_n 0, 1) := by decide +kernel
theorem dX1_takeHeader_23 : decode cX1_takeHeader 23 = .ok (.invokevirtual 104, 3) := by decide +kernel
theorem dX1_takeHeader_26 : decode cX1_takeHeader 26 = .ok (.pop, 1) := by decide +kernel
theorem dX1_takeHeader_27 : decode cX1_takeHeader 27 = .ok (.aload_n 0, 1) := by decide +kernel
theorem dX1_takeHeader_28 : decode cX1_takeHeader 28 = .ok (.invokevirtual 104, 3) := by decide +kernel
theorem dX1_takeHeader_31 : decode cX1_takeHeader 31 = .ok (.istore_n 1, 1) := by decide +kernel
theorem dX1_takeHeader_32 : decode cX1_takeHeader 32 = .ok (.aload_n 0, 1) := by decide +kernel
theorem dX1_takeHeader_33 : decode cX1_takeHeader 33 = .ok (.iload_n 1, 1) := by decide +kernel
theorem dX1_takeHeader_34 : decode cX1_takeHeader 34 = .ok (.iconst 4, 1) := by decide +kernel
theorem dX1_takeHeader_35 : decode cX1_takeHeader 35 = .ok (.if_icmp .lt 7, 3) := by decide +kernel
theorem dX1_takeHeader_42 : decode cX1_takeHeader 42 = .ok (.iconst 0, 1) := by decide +kernel
theorem dX1_takeHeader_43 : decode cX1_takeHeader 43 = .ok (.invokevirtual 107, 3) := by decide +kernel
theorem dX1_takeHeader_46 : decode cX1_takeHeader 46 = .ok (.aload_n 0, 1) := by decide +kernel
theorem dX1_takeHeader_47 : decode cX1_takeHeader 47 = .ok (.invokevirtual 104, 3) := by decide +kernel
theorem dX1_takeHeader_50 : decode cX1_takeHeader 50 = .ok (.istore_n 2, 1) := by decide +kernel
theorem dX1_takeHeader_51 : decode cX1_takeHeader 51 = .ok (.aload_n 0, 1) := by decide +kernel
theorem dX1_takeHeader_52 : decode cX1_takeHeader 52 = .ok (.iload_n 2, 1) := by decide +kernel
theorem dX1_takeHeader_53 : decode cX1_takeHeader 53 = .ok (.iconst 1, 1) := by decide +kernel
theorem dX1_takeHeader_54 : decode cX1_takeHeader 54 = .ok (.if_icmp .lt 12, 3) := by decide +kernel
theorem dX1_takeHeader_66 : decode cX1_takeHeader 66 = .ok (.iconst 0, 1) := by decide +kernel
theorem dX1_takeHeader_67 : decode cX1_takeHeader 67 = .ok (.invokevirtual 107, 3) := by decide +kernel
theorem dX1_takeHeader_70 : decode cX1_takeHeader 70 = .ok (.aload_n 0, 1) := by decide +kernel
theorem dX1_takeHeader_71 : decode cX1_takeHeader 71 = .ok (.iload_n 1, 1) := by decide +kernel
theorem dX1_takeHeader_72 : decode cX1_takeHeader 72 = .ok (.i2l, 1) := by decide +kernel
theorem dX1_takeHeader_73 : decode cX1_takeHeader 73 = .ok (.putfield 55, 3) := by decide +kernel
theorem dX1_takeHeader_76 : decode cX1_takeHeader 76 = .ok (.return_, 1) := by decide +kernel
theorem dX1_takeIndex_0 : decode cX1_takeIndex 0 = .ok (.aload_n 0, 1) := by decide +kernel
theorem dX1_takeIndex_1 : decode cX1_takeIndex 1 = .ok (.aload_n 0, 1) := by decide +kernel
theorem dX1_takeIndex_2 : decode cX1_takeIndex 2 = .ok (.iconst 2, 1) := by decide +kernel
theorem dX1_takeIndex_3 : decode cX1_takeIndex 3 = .ok (.invokevirtual 111, 3) := by decide +kernel
theorem dX1_takeIndex_6 : decode cX1_takeIndex 6 = .ok (.l2i, 1) := by decide +kernel
theorem dX1_takeIndex_7 : decode cX1_takeIndex 7 = .ok (.putfield 115, 3) := by decide +kernel
theorem dX1_takeIndex_10 : decode cX1_takeIndex 10 = .ok (.aload_n 0, 1) := by decide +kernel
theorem dX1_takeIndex_11 : decode cX1_takeIndex 11 = .ok (.aload_n 0, 1) := by decide +kernel
theorem dX1_takeIndex_12 : decode cX1_takeIndex 12 = .ok (.getfield 115, 3) := by decide +kernel
theorem dX1_takeIndex_15 : decode cX1_takeIndex 15 = .ok (.iload_n 1, 1) := by decide +kernel
theorem dX1_takeIndex_16 : decode cX1_takeIndex 16 = .ok (.if_icmp .lt 15, 3) := by decide +kernel
theorem dX1_takeIndex_19 : decode cX1_takeIndex 19 = .ok (.aload_n 0, 1) := by decide +kernel
theorem dX1_takeIndex_20 : decode cX1_takeIndex 20 = .ok (.getfield 115, 3) := by decide +kernel
theorem dX1_takeIndex_23 : decode cX1_takeIndex 23 = .ok (.iload_n 2, 1) := by decide +kernel
theorem dX1_takeIndex_24 : decode cX1_takeIndex 24 = .ok (.if_icmp .gt 7, 3) := by decide +kernel
theorem dX1_takeIndex_27 : decode cX1_takeIndex 27 = .ok (.iconst 1, 1) := by decide +kernel
theorem dX1_takeIndex_28 : decode cX1_takeIndex 28 = .ok (.goto 4, 3) := by decide +kernel
theorem dX1_takeIndex_31 : decode cX1_takeIndex 31 = .ok (.iconst 0, 1) := by decide +kernel
theorem dX1_takeIndex_32 : decode cX1_takeIndex 32 = .ok (.invokevirtual 107, 3) := by decide +kernel
theorem dX1_takeIndex_35 : decode cX1_takeIndex 35 = .ok (.aload_n 0, 1) := by decide +kernel
theorem dX1_takeIndex_36 : decode cX1_takeIndex 36 = .ok (.getfield 41, 3) := by decide +kernel
theorem dX1_takeIndex_39 : decode cX1_takeIndex 39 = .ok (.ifCond .ne 10, 3) := by decide +kernel
theorem dX1_takeIndex_49 : decode cX1_takeIndex 49 = .ok (.return_, 1) := by decide +kernel
theorem dX1_takeNumber_0 : decode cX1_takeNumber 0 = .ok (.lconst 0, 1) := by decide +kernel
theorem dX1_takeNumber_1 : decode cX1_takeNumber 1 = .ok (.lstore_n 2, 1) := by decide +kernel
theorem dX1_takeNumber_2 : decode cX1_takeNumber 2 = .ok (.iconst 0, 1) := by decide +kernel
theorem dX1_takeNumber_3 : decode cX1_takeNumber 3 = .ok (.istore 4, 2) := by decide +kernel
theorem dX1_takeNumber_5 : decode cX1_takeNumber 5 = .ok (.iload 4, 2) := by decide +kernel
theorem dX1_takeNumber_7 : decode cX1_takeNumber 7 = .ok (.iload_n 1, 1) := by decide +kernel
theorem dX1_takeNumber_8 : decode cX1_takeNumber 8 = .ok (.if_icmp .ge 28, 3) := by decide +kernel
theorem dX1_takeNumber_11 : decode cX1_takeNumber 11 = .ok (.aload_n 0, 1) := by decide +kernel
theorem dX1_takeNumber_12 : decode cX1_takeNumber 12 = .ok (.getfield 41, 3) := by decide +kernel
theorem dX1_takeNumber_15 : decode cX1_takeNumber 15 = .ok (.ifCond .ne 21, 3) := by decide +kernel
theorem dX1_takeNumber_36 : decode cX1_takeNumber 36 = .ok (.aload_n 0, 1) := by decide +kernel
theorem dX1_takeNumber_37 : decode cX1_takeNumber 37 = .ok (.getfield 41, 3) := by decide +kernel
theorem dX1_takeNumber_40 : decode cX1_takeNumber 40 = .ok (.ifCond .ne 7, 3) := by decide +kernel
theorem dX1_takeNumber_47 : decode cX1_takeNumber 47 = .ok (.lconst 0, 1) := by decide +kernel
theorem dX1_takeNumber_48 : decode cX1_takeNumber 48 = .ok (.lreturn, 1) := by decide +kernel
theorem dX1_takeTop_0 : decode cX1_takeTop 0 = .ok (.aload_n 0, 1) := by decide +kernel
theorem dX1_takeTop_1 : decode cX1_takeTop 1 = .ok (.lload_n 1, 1) := by decide +kernel
theorem dX1_takeTop_2 : decode cX1_takeTop 2 = .ok (.lload_n 3, 1) := by decide +kernel
theorem dX1_takeTop_3 : decode cX1_takeTop 3 = .ok (.invokevirtual 130, 3) := by decide +kernel
theorem dX1_takeTop_6 : decode cX1_takeTop 6 = .ok (.aload_n 0, 1) := by decide +kernel
theorem dX1_takeTop_7 : decode cX1_takeTop 7 = .ok (.aload_n 0, 1) := by decide +kernel
theorem dX1_takeTop_8 : decode cX1_takeTop 8 = .ok (.getfield 14, 3) := by decide +kernel
theorem dX1_takeTop_11 : decode cX1_takeTop 11 = .ok (.bipush 17, 2) := by decide +kernel
theorem dX1_takeTop_13 : decode cX1_takeTop 13 = .ok (.invokevirtual 78, 3) := by decide +kernel
theorem dX1_takeTop_16 : decode cX1_takeTop 16 = .ok (.ifCond .eq 20, 3) := by decide +kernel
theorem dX1_takeTop_19 : decode cX1_takeTop 19 = .ok (.aload_n 0, 1) := by decide +kernel
theorem dX1_takeTop_20 : decode cX1_takeTop 20 = .ok (.getfield 14, 3) := by decide +kernel
theorem dX1_takeTop_23 : decode cX1_takeTop 23 = .ok (.bipush 17, 2) := by decide +kernel
theorem dX1_takeTop_25 : decode cX1_takeTop 25 = .ok (.iconst 1, 1) := by decide +kernel
theorem dX1_takeTop_26 : decode cX1_takeTop 26 = .ok (.invokevirtual 133, 3) := by decide +kernel
theorem dX1_takeTop_29 : decode cX1_takeTop 29 = .ok (.ifCond .eq 7, 3) := by decide +kernel
theorem dX1_takeTop_32 : decode cX1_takeTop 32 = .ok (.iconst 1, 1) := by decide +kernel
theorem dX1_takeTop_33 : decode cX1_takeTop 33 = .ok (.goto 4, 3) := by decide +kernel
theorem dX1_takeTop_36 : decode cX1_takeTop 36 = .ok (.iconst 0, 1) := by decide +kernel
theorem dX1_takeTop_37 : decode cX1_takeTop 37 = .ok (.invokevirtual 107, 3) := by decide +kernel
theorem dX1_takeTop_40 : decode cX1_takeTop 40 = .ok (.aload_n 0, 1) := by decide +kernel
theorem dX1_takeTop_41 : decode cX1_takeTop 41 = .ok (.aload_n 0, 1) := by decide +kernel
theorem dX1_takeTop_42 : decode cX1_takeTop 42 = .ok (.getfield 14, 3) := by decide +kernel
theorem dX1_takeTop_45 : decode cX1_takeTop 45 = .ok (.bipush 18, 2) := by decide +kernel
theorem dX1_takeTop_47 : decode cX1_takeTop 47 = .ok (.iconst 2, 1) := by decide +kernel
theorem dX1_takeTop_48 : decode cX1_takeTop 48 = .ok (.invokevirtual 133, 3) := by decide +kernel
theorem dX1_takeTop_51 : decode cX1_takeTop 51 = .ok (.invokevirtual 107, 3) := by decide +kernel
theorem dX1_takeTop_54 : decode cX1_takeTop 54 = .ok (.aload_n 0, 1) := by decide +kernel
theorem dX1_takeTop_55 : decode cX1_takeTop 55 = .ok (.aload_n 0, 1) := by decide +kernel
theorem dX1_takeTop_56 : decode cX1_takeTop 56 = .ok (.getfield 14, 3) := by decide +kernel
theorem dX1_takeTop_59 : decode cX1_takeTop 59 = .ok (.sipush 262, 3) := by decide +kernel
theorem dX1_takeTop_62 : decode cX1_takeTop 62 = .ok (.iconst 1, 1) := by decide +kernel
theorem dX1_takeTop_63 : decode cX1_takeTop 63 = .ok (.invokevirtual 133, 3) := by decide +kernel
theorem dX1_takeTop_66 : decode cX1_takeTop 66 = .ok (.invokevirtual 107, 3) := by decide +kernel
theorem dX1_takeTop_69 : decode cX1_takeTop 69 = .ok (.aload_n 0, 1) := by decide +kernel
theorem dX1_takeTop_70 : decode cX1_takeTop 70 = .ok (.aload_n 0, 1) := by decide +kernel
theorem dX1_takeTop_71 : decode cX1_takeTop 71 = .ok (.getfield 14, 3) := by decide +kernel
theorem dX1_takeTop_74 : decode cX1_takeTop 74 = .ok (.sipush 262, 3) := by decide +kernel
theorem dX1_takeTop_77 : decode cX1_takeTop 77 = .ok (.invokevirtual 78, 3) := by decide +kernel
theorem dX1_takeTop_80 : decode cX1_takeTop 80 = .ok (.ifCond .eq 17, 3) := by decide +kernel
theorem dX1_takeTop_83 : decode cX1_takeTop 83 = .ok (.aload_n 0, 1) := by decide +kernel
theorem dX1_takeTop_84 : decode cX1_takeTop 84 = .ok (.getfield 14, 3) := by decide +kernel
theorem dX1_takeTop_87 : decode cX1_takeTop 87 = .ok (.sipush 262, 3) := by decide +kernel
theorem dX1_takeTop_90 : decode cX1_takeTop 90 = .ok (.invokevirtual 75, 3) := by decide +kernel
theorem dX1_takeTop_93 : decode cX1_takeTop 93 = .ok (.iconst 2, 1) := by decide +kernel
theorem dX1_takeTop_94 : decode cX1_takeTop 94 = .ok (.if_icmp .ne 7, 3) := by decide +kernel
theorem dX1_takeTop_97 : decode cX1_takeTop 97 = .ok (.iconst 1, 1) := by decide +kernel
theorem dX1_takeTop_98 : decode cX1_takeTop 98 = .ok (.goto 4, 3) := by decide +kernel
theorem dX1_takeTop_101 : decode cX1_takeTop 101 = .ok (.iconst 0, 1) := by decide +kernel
theorem dX1_takeTop_102 : decode cX1_takeTop 102 = .ok (.invokevirtual 107, 3) := by decide +kernel
theorem dX1_takeTop_105 : decode cX1_takeTop 105 = .ok (.return_, 1) := by decide +kernel
theorem dX1_want_0 : decode cX1_want 0 = .ok (.iload_n 1, 1) := by decide +kernel
theorem dX1_want_1 : decode cX1_want 1 = .ok (.ifCond .ne 8, 3) := by decide +kernel
theorem dX1_want_4 : decode cX1_want 4 = .ok (.aload_n 0, 1) := by decide +kernel
theorem dX1_want_5 : decode cX1_want 5 = .ok (.iconst 2, 1) := by decide +kernel
theorem dX1_want_6 : decode cX1_want 6 = .ok (.invokevirtual 88, 3) := by decide +kernel
theorem dX1_want_9 : decode cX1_want 9 = .ok (.return_, 1) := by decide +kernel
theorem dX1_wrong_0 : decode cX1_wrong 0 = .ok (.aload_n 0, 1) := by decide +kernel
theorem dX1_wrong_1 : decode cX1_wrong 1 = .ok (.getfield 41, 3) := by decide +kernel
theorem dX1_wrong_4 : decode cX1_wrong 4 = .ok (.ifCond .ne 8, 3) := by decide +kernel
theorem dX1_wrong_7 : decode cX1_wrong 7 = .ok (.aload_n 0, 1) := by decide +kernel
theorem dX1_wrong_8 : decode cX1_wrong 8 = .ok (.iload_n 1, 1) := by decide +kernel
theorem dX1_wrong_9 : decode cX1_wrong 9 = .ok (.putfield 41, 3) := by decide +kernel
theorem dX1_wrong_12 : decode cX1_wrong 12 = .ok (.return_, 1) := by decide +kernel
theorem dX2_clear_0 : decode cX2_clear 0 = .ok (.aload_n 0, 1) := by decide +kernel
theorem dX2_clear_1 : decode cX2_clear 1 = .ok (.iconst 0, 1) := by decide +kernel
theorem dX2_clear_2 : decode cX2_clear 2 = .ok (.putfield 15, 3) := by decide +kernel
theorem dX2_clear_5 : decode cX2_clear 5 = .ok (.aload_n 0, 1) := by decide +kernel
theorem dX2_clear_6 : decode cX2_clear 6 = .ok (.iconst 0, 1) := by decide +kernel
theorem dX2_clear_7 : decode cX2_clear 7 = .ok (.putfield 19, 3) := by decide +kernel
theorem dX2_clear_10 : decode cX2_clear 10 = .ok (.aload_n 0, 1) := by decide +kernel
theorem dX2_clear_11 : decode cX2_clear 11 = .ok (.getfield 23, 3) := by decide +kernel
theorem dX2_clear_14 : decode cX2_clear 14 = .ok (.iconst (-1), 1) := by decide +kernel
theorem dX2_clear_15 : decode cX2_clear 15 = .ok (.invokestatic 32, 3) := by decide +kernel
theorem dX2_clear_18 : decode cX2_clear 18 = .ok (.return_, 1) := by decide +kernel
theorem dX2_first_0 : decode cX2_first 0 = .ok (.aload_n 0, 1) := by decide +kernel
theorem dX2_first_1 : decode cX2_first 1 = .ok (.iload_n 1, 1) := by decide +kernel
theorem dX2_first_2 : decode cX2_first 2 = .ok (.invokevirtual 50, 3) := by decide +kernel
theorem dX2_first_5 : decode cX2_first 5 = .ok (.ifCond .eq 15, 3) := by decide +kernel
theorem dX2_first_8 : decode cX2_first 8 = .ok (.aload_n 0, 1) := by decide +kernel
theorem dX2_first_9 : decode cX2_first 9 = .ok (.getfield 26, 3) := by decide +kernel
theorem dX2_first_12 : decode cX2_first 12 = .ok (.iload_n 1, 1) := by decide +kernel
theorem dX2_first_13 : decode cX2_first 13 = .ok (.invokestatic 46, 3) := by decide +kernel
theorem dX2_first_16 : decode cX2_first 16 = .ok (.iaload, 1) := by decide +kernel
theorem dX2_first_17 : decode cX2_first 17 = .ok (.goto 4, 3) := by decide +kernel
theorem dX2_first_20 : decode cX2_first 20 = .ok (.iconst 0, 1) := by decide +kernel
theorem dX2_first_21 : decode cX2_first 21 = .ok (.ireturn, 1) := by decide +kernel
theorem dX2_fits_0 : decode cX2_fits 0 = .ok (.iload_n 1, 1) := by decide +kernel
theorem dX2_fits_1 : decode cX2_fits 1 = .ok (.invokestatic 46, 3) := by decide +kernel
theorem dX2_fits_4 : decode cX2_fits 4 = .ok (.istore_n 3, 1) := by decide +kernel
theorem dX2_fits_5 : decode cX2_fits 5 = .ok (.iload_n 3, 1) := by decide +kernel
theorem dX2_fits_6 : decode cX2_fits 6 = .ok (.iconst (-1), 1) := by decide +kernel
theorem dX2_fits_7 : decode cX2_fits 7 = .ok (.if_icmp .eq 23, 3) := by decide +kernel
theorem dX2_fits_10 : decode cX2_fits 10 = .ok (.aload_n 0, 1) := by decide +kernel
theorem dX2_fits_11 : decode cX2_fits 11 = .ok (.getfield 23, 3) := by decide +kernel
theorem dX2_fits_14 : decode cX2_fits 14 = .ok (.iload_n 3, 1) := by decide +kernel
theorem dX2_fits_15 : decode cX2_fits 15 = .ok (.iaload, 1) := by decide +kernel
theorem dX2_fits_16 : decode cX2_fits 16 = .ok (.iconst (-1), 1) := by decide +kernel
theorem dX2_fits_17 : decode cX2_fits 17 = .ok (.if_icmp .eq 13, 3) := by decide +kernel
theorem dX2_fits_20 : decode cX2_fits 20 = .ok (.aload_n 0, 1) := by decide +kernel
theorem dX2_fits_21 : decode cX2_fits 21 = .ok (.getfield 23, 3) := by decide +kernel
theorem dX2_fits_24 : decode cX2_fits 24 = .ok (.iload_n 3, 1) := by decide +kernel
theorem dX2_fits_25 : decode cX2_fits 25 = .ok (.iaload, 1) := by decide +kernel
theorem dX2_fits_26 : decode cX2_fits 26 = .ok (.iload_n 2, 1) := by decide +kernel
theorem dX2_fits_27 : decode cX2_fits 27 = .ok (.if_icmp .ne 7, 3) := by decide +kernel
theorem dX2_fits_30 : decode cX2_fits 30 = .ok (.iconst 1, 1) := by decide +kernel
theorem dX2_fits_31 : decode cX2_fits 31 = .ok (.goto 4, 3) := by decide +kernel
theorem dX2_fits_34 : decode cX2_fits 34 = .ok (.iconst 0, 1) := by decide +kernel
theorem dX2_fits_35 : decode cX2_fits 35 = .ok (.ireturn, 1) := by decide +kernel
theorem dX2_isBetween_0 : decode cX2_isBetween 0 = .ok (.aload_n 0, 1) := by decide +kernel
theorem dX2_isBetween_1 : decode cX2_isBetween 1 = .ok (.getfield 15, 3) := by decide +kernel
theorem dX2_isBetween_4 : decode cX2_isBetween 4 = .ok (.ifCond .ne 7, 3) := by decide +kernel
theorem dX2_isBetween_7 : decode cX2_isBetween 7 = .ok (.iconst 1, 1) := by decide +kernel
theorem dX2_isBetween_8 : decode cX2_isBetween 8 = .ok (.goto 4, 3) := by decide +kernel
theorem dX2_isBetween_12 : decode cX2_isBetween 12 = .ok (.ireturn, 1) := by decide +kernel
theorem dX2_isTold_0 : decode cX2_isTold 0 = .ok (.iload_n 1, 1) := by decide +kernel
theorem dX2_isTold_1 : decode cX2_isTold 1 = .ok (.invokestatic 46, 3) := by decide +kernel
theorem dX2_isTold_4 : decode cX2_isTold 4 = .ok (.istore_n 2, 1) := by decide +kernel
theorem dX2_isTold_5 : decode cX2_isTold 5 = .ok (.iload_n 2, 1) := by decide +kernel
theorem dX2_isTold_6 : decode cX2_isTold 6 = .ok (.iconst (-1), 1) := by decide +kernel
theorem dX2_isTold_7 : decode cX2_isTold 7 = .ok (.if_icmp .eq 17, 3) := by decide +kernel
theorem dX2_isTold_10 : decode cX2_isTold 10 = .ok (.aload_n 0, 1) := by decide +kernel
theorem dX2_isTold_11 : decode cX2_isTold 11 = .ok (.getfield 23, 3) := by decide +kernel
theorem dX2_isTold_14 : decode cX2_isTold 14 = .ok (.iload_n 2, 1) := by decide +kernel
theorem dX2_isTold_15 : decode cX2_isTold 15 = .ok (.iaload, 1) := by decide +kernel
theorem dX2_isTold_16 : decode cX2_isTold 16 = .ok (.iconst (-1), 1) := by decide +kernel
theorem dX2_isTold_17 : decode cX2_isTold 17 = .ok (.if_icmp .eq 7, 3) := by decide +kernel
theorem dX2_isTold_20 : decode cX2_isTold 20 = .ok (.iconst 1, 1) := by decide +kernel
theorem dX2_isTold_21 : decode cX2_isTold 21 = .ok (.goto 4, 3) := by decide +kernel
theorem dX2_isTold_24 : decode cX2_isTold 24 = .ok (.iconst 0, 1) := by decide +kernel
theorem dX2_isTold_25 : decode cX2_isTold 25 = .ok (.ireturn, 1) := by decide +kernel
theorem dX2_second_0 : decode cX2_second 0 = .ok (.aload_n 0, 1) := by decide +kernel
theorem dX2_second_1 : decode cX2_second 1 = .ok (.iload_n 1, 1) := by decide +kernel
theorem dX2_second_2 : decode cX2_second 2 = .ok (.invokevirtual 50, 3) := by decide +kernel
theorem dX2_second_5 : decode cX2_second 5 = .ok (.ifCond .eq 15, 3) := by decide +kernel
theorem dX2_second_8 : decode cX2_second 8 = .ok (.aload_n 0, 1) := by decide +kernel
theorem dX2_second_9 : decode cX2_second 9 = .ok (.getfield 29, 3) := by decide +kernel
theorem dX2_second_12 : decode cX2_second 12 = .ok (.iload_n 1, 1) := by decide +kernel
theorem dX2_second_13 : decode cX2_second 13 = .ok (.invokestatic 46, 3) := by decide +kernel
theorem dX2_second_16 : decode cX2_second 16 = .ok (.iaload, 1) := by decide +kernel
theorem dX2_second_17 : decode cX2_second 17 = .ok (.goto 4, 3) := by decide +kernel
theorem dX2_second_20 : decode cX2_second 20 = .ok (.iconst 0, 1) := by decide +kernel
theorem dX2_second_21 : decode cX2_second 21 = .ok (.ireturn, 1) := by decide +kernel
theorem dX2_slotOf_0 : decode cX2_slotOf 0 = .ok (.iload_n 0, 1) := by decide +kernel
theorem dX2_slotOf_1 : decode cX2_slotOf 1 = .ok (.lookupswitch 71 #[(17, 59), (18, 61), (19, 65), (20, 67), (21, 69), (262, 63)], 59) := by decide +kernel
theorem dX2_slotOf_60 : decode cX2_slotOf 60 = .ok (.iconst 0, 1) := by decide +kernel
theorem dX2_slotOf_61 : decode cX2_slotOf 61 = .ok (.ireturn, 1) := by decide +kernel
theorem dX2_slotOf_62 : decode cX2_slotOf 62 = .ok (.iconst 1, 1) := by decide +kernel
theorem dX2_slotOf_63 : decode cX2_slotOf 63 = .ok (.ireturn, 1) := by decide +kernel
theorem dX2_slotOf_64 : decode cX2_slotOf 64 = .ok (.iconst 2, 1) := by decide +kernel
theorem dX2_slotOf_65 : decode cX2_slotOf 65 = .ok (.ireturn, 1) := by decide +kernel
theorem dX3_begin_0 : decode cX3_begin 0 = .ok (.aload_n 0, 1) := by decide +kernel
theorem dX3_begin_1 : decode cX3_begin 1 = .ok (.iload_n 1, 1) := by decide +kernel
theorem dX3_begin_2 : decode cX3_begin 2 = .ok (.putfield 35, 3) := by decide +kernel
theorem dX3_begin_5 : decode cX3_begin 5 = .ok (.aload_n 0, 1) := by decide +kernel
theorem dX3_begin_6 : decode cX3_begin 6 = .ok (.getfield 14, 3) := by decide +kernel
theorem dX3_begin_9 : decode cX3_begin 9 = .ok (.iconst 0, 1) := by decide +kernel
theorem dX3_begin_10 : decode cX3_begin 10 = .ok (.invokevirtual 45, 3) := by decide +kernel
theorem dX3_begin_13 : decode cX3_begin 13 = .ok (.aload_n 0, 1) := by decide +kernel
theorem dX3_begin_14 : decode cX3_begin 14 = .ok (.getfield 14, 3) := by decide +kernel
theorem dX3_begin_17 : decode cX3_begin 17 = .ok (.aload_n 2, 1) := by decide +kernel
theorem dX3_begin_18 : decode cX3_begin 18 = .ok (.iload_n 3, 1) := by decide +kernel
theorem dX3_begin_19 : decode cX3_begin 19 = .ok (.invokevirtual 48, 3) := by decide +kernel
theorem dX3_begin_22 : decode cX3_begin 22 = .ok (.aload_n 0, 1) := by decide +kernel
theorem dX3_begin_23 : decode cX3_begin 23 = .ok (.getfield 25, 3) := by decide +kernel
theorem dX3_begin_26 : decode cX3_begin 26 = .ok (.iconst 0, 1) := by decide +kernel
theorem dX3_begin_27 : decode cX3_begin 27 = .ok (.invokevirtual 51, 3) := by decide +kernel
theorem dX3_begin_30 : decode cX3_begin 30 = .ok (.aload_n 0, 1) := by decide +kernel
theorem dX3_begin_31 : decode cX3_begin 31 = .ok (.getfield 29, 3) := by decide +kernel
theorem dX3_begin_34 : decode cX3_begin 34 = .ok (.iconst 0, 1) := by decide +kernel
theorem dX3_begin_35 : decode cX3_begin 35 = .ok (.invokevirtual 51, 3) := by decide +kernel
theorem dX3_begin_38 : decode cX3_begin 38 = .ok (.aload_n 0, 1) := by decide +kernel
theorem dX3_begin_39 : decode cX3_begin 39 = .ok (.getfield 32, 3) := by decide +kernel
theorem dX3_begin_42 : decode cX3_begin 42 = .ok (.iconst 0, 1) := by decide +kernel
theorem dX3_begin_43 : decode cX3_begin 43 = .ok (.invokevirtual 51, 3) := by decide +kernel
theorem dX3_begin_46 : decode cX3_begin 46 = .ok (.aload_n 0, 1) := by decide +kernel
theorem dX3_begin_47 : decode cX3_begin 47 = .ok (.iconst 0, 1) := by decide +kernel
theorem dX3_begin_48 : decode cX3_begin 48 = .ok (.putfield 39, 3) := by decide +kernel
theorem dX3_begin_51 : decode cX3_begin 51 = .ok (.aload_n 0, 1) := by decide +kernel
theorem dX3_begin_52 : decode cX3_begin 52 = .ok (.iconst 0, 1) := by decide +kernel
theorem dX3_begin_53 : decode cX3_begin 53 = .ok (.putfield 42, 3) := by decide +kernel
theorem dX3_begin_56 : decode cX3_begin 56 = .ok (.return_, 1) := by decide +kernel
theorem dX3_shelfOf_0 : decode cX3_shelfOf 0 = .ok (.iload_n 1, 1) := by decide +kernel
theorem dX3_shelfOf_1 : decode cX3_shelfOf 1 = .ok (.tableswitch 42 0 2 #[27, 32, 37], 27) := by decide +kernel
theorem dX3_shelfOf_28 : decode cX3_shelfOf 28 = .ok (.aload_n 0, 1) := by decide +kernel
theorem dX3_shelfOf_29 : decode cX3_shelfOf 29 = .ok (.getfield 25, 3) := by decide +kernel
theorem dX3_shelfOf_32 : decode cX3_shelfOf 32 = .ok (.areturn, 1) := by decide +kernel
theorem dX3_shelfOf_33 : decode cX3_shelfOf 33 = .ok (.aload_n 0, 1) := by decide +kernel
theorem dX3_shelfOf_34 : decode cX3_shelfOf 34 = .ok (.getfield 29, 3) := by decide +kernel
theorem dX3_shelfOf_37 : decode cX3_shelfOf 37 = .ok (.areturn, 1) := by decide +kernel
theorem dX3_shelfOf_38 : decode cX3_shelfOf 38 = .ok (.aload_n 0, 1) := by decide +kernel
theorem dX3_shelfOf_39 : decode cX3_shelfOf 39 = .ok (.getfield 32, 3) := by decide +kernel
theorem dX3_shelfOf_42 : decode cX3_shelfOf 42 = .ok (.areturn, 1) := by decide +kernel
theorem dX3_shelfOf_43 : decode cX3_shelfOf 43 = .ok (.aconst_null, 1) := by decide +kernel
theorem dX3_shelfOf_44 : decode cX3_shelfOf 44 = .ok (.areturn, 1) := by decide +kernel
theorem dX5_add_0 : decode cX5_add 0 = .ok (.aload_n 0, 1) := by decide +kernel
theorem dX5_add_1 : decode cX5_add 1 = .ok (.getfield 15, 3) := by decide +kernel
theorem dX5_add_4 : decode cX5_add 4 = .ok (.aload_n 0, 1) := by decide +kernel
theorem dX5_add_5 : decode cX5_add 5 = .ok (.getfield 9, 3) := by decide +kernel
theorem dX5_add_8 : decode cX5_add 8 = .ok (.arraylength, 1) := by decide +kernel
theorem dX5_add_9 : decode cX5_add 9 = .ok (.if_icmp .ge 24, 3) := by decide +kernel
theorem dX5_add_12 : decode cX5_add 12 = .ok (.aload_n 0, 1) := by decide +kernel
theorem dX5_add_13 : decode cX5_add 13 = .ok (.getfield 9, 3) := by decide +kernel
theorem dX5_add_16 : decode cX5_add 16 = .ok (.aload_n 0, 1) := by decide +kernel
theorem dX5_add_17 : decode cX5_add 17 = .ok (.getfield 15, 3) := by decide +kernel
theorem dX5_add_20 : decode cX5_add 20 = .ok (.iload_n 1, 1) := by decide +kernel
theorem dX5_add_21 : decode cX5_add 21 = .ok (.i2b, 1) := by decide +kernel
theorem dX5_add_22 : decode cX5_add 22 = .ok (.bastore, 1) := by decide +kernel
theorem dX5_add_23 : decode cX5_add 23 = .ok (.aload_n 0, 1) := by decide +kernel
theorem dX5_add_24 : decode cX5_add 24 = .ok (.dup, 1) := by decide +kernel
theorem dX5_add_25 : decode cX5_add 25 = .ok (.getfield 15, 3) := by decide +kernel
theorem dX5_add_28 : decode cX5_add 28 = .ok (.iconst 1, 1) := by decide +kernel
theorem dX5_add_29 : decode cX5_add 29 = .ok (.iadd, 1) := by decide +kernel
theorem dX5_add_30 : decode cX5_add 30 = .ok (.putfield 15, 3) := by decide +kernel
theorem dX5_add_33 : decode cX5_add 33 = .ok (.return_, 1) := by decide +kernel
theorem dX5_addAll_0 : decode cX5_addAll 0 = .ok (.iload_n 2, 1) := by decide +kernel
theorem dX5_addAll_1 : decode cX5_addAll 1 = .ok (.iconst 0, 1) := by decide +kernel
theorem dX5_addAll_2 : decode cX5_addAll 2 = .ok (.invokestatic 23, 3) := by decide +kernel
theorem dX5_addAll_5 : decode cX5_addAll 5 = .ok (.istore_n 3, 1) := by decide +kernel
theorem dX5_addAll_6 : decode cX5_addAll 6 = .ok (.iload_n 3, 1) := by decide +kernel
theorem dX5_addAll_7 : decode cX5_addAll 7 = .ok (.aload_n 1, 1) := by decide +kernel
theorem dX5_addAll_8 : decode cX5_addAll 8 = .ok (.getfield 15, 3) := by decide +kernel
theorem dX5_addAll_11 : decode cX5_addAll 11 = .ok (.if_icmp .ge 19, 3) := by decide +kernel
theorem dX5_addAll_30 : decode cX5_addAll 30 = .ok (.return_, 1) := by decide +kernel
theorem dX5_addWord_0 : decode cX5_addWord 0 = .ok (.aload_n 0, 1) := by decide +kernel
theorem dX5_addWord_1 : decode cX5_addWord 1 = .ok (.iload_n 1, 1) := by decide +kernel
theorem dX5_addWord_2 : decode cX5_addWord 2 = .ok (.bipush 24, 2) := by decide +kernel
theorem dX5_addWord_4 : decode cX5_addWord 4 = .ok (.ishr, 1) := by decide +kernel
theorem dX5_addWord_5 : decode cX5_addWord 5 = .ok (.invokevirtual 19, 3) := by decide +kernel
theorem dX5_addWord_8 : decode cX5_addWord 8 = .ok (.aload_n 0, 1) := by decide +kernel
theorem dX5_addWord_9 : decode cX5_addWord 9 = .ok (.iload_n 1, 1) := by decide +kernel
theorem dX5_addWord_10 : decode cX5_addWord 10 = .ok (.bipush 16, 2) := by decide +kernel
theorem dX5_addWord_12 : decode cX5_addWord 12 = .ok (.ishr, 1) := by decide +kernel
theorem dX5_addWord_13 : decode cX5_addWord 13 = .ok (.invokevirtual 19, 3) := by decide +kernel
theorem dX5_addWord_16 : decode cX5_addWord 16 = .ok (.aload_n 0, 1) := by decide +kernel
theorem dX5_addWord_17 : decode cX5_addWord 17 = .ok (.iload_n 1, 1) := by decide +kernel
theorem dX5_addWord_18 : decode cX5_addWord 18 = .ok (.bipush 8, 2) := by decide +kernel
theorem dX5_addWord_20 : decode cX5_addWord 20 = .ok (.ishr, 1) := by decide +kernel
theorem dX5_addWord_21 : decode cX5_addWord 21 = .ok (.invokevirtual 19, 3) := by decide +kernel
theorem dX5_addWord_24 : decode cX5_addWord 24 = .ok (.aload_n 0, 1) := by decide +kernel
theorem dX5_addWord_25 : decode cX5_addWord 25 = .ok (.iload_n 1, 1) := by decide +kernel
theorem dX5_addWord_26 : decode cX5_addWord 26 = .ok (.invokevirtual 19, 3) := by decide +kernel
theorem dX5_addWord_29 : decode cX5_addWord 29 = .ok (.return_, 1) := by decide +kernel
theorem dX5_cut_0 : decode cX5_cut 0 = .ok (.iload_n 1, 1) := by decide +kernel
theorem dX5_cut_1 : decode cX5_cut 1 = .ok (.ifCond .lt 16, 3) := by decide +kernel
theorem dX5_cut_4 : decode cX5_cut 4 = .ok (.iload_n 1, 1) := by decide +kernel
theorem dX5_cut_5 : decode cX5_cut 5 = .ok (.aload_n 0, 1) := by decide +kernel
theorem dX5_cut_6 : decode cX5_cut 6 = .ok (.getfield 15, 3) := by decide +kernel
theorem dX5_cut_9 : decode cX5_cut 9 = .ok (.if_icmp .gt 8, 3) := by decide +kernel
theorem dX5_cut_12 : decode cX5_cut 12 = .ok (.aload_n 0, 1) := by decide +kernel
theorem dX5_cut_13 : decode cX5_cut 13 = .ok (.iload_n 1, 1) := by decide +kernel
theorem dX5_cut_14 : decode cX5_cut 14 = .ok (.putfield 15, 3) := by decide +kernel
theorem dX5_cut_17 : decode cX5_cut 17 = .ok (.return_, 1) := by decide +kernel
theorem dX5_decipher_0 : decode cX5_decipher 0 = .ok (.iload_n 1, 1) := by decide +kernel
theorem dX5_decipher_1 : decode cX5_decipher 1 = .ok (.istore 4, 2) := by decide +kernel
theorem dX5_decipher_3 : decode cX5_decipher 3 = .ok (.iload_n 2, 1) := by decide +kernel
theorem dX5_decipher_4 : decode cX5_decipher 4 = .ok (.iconst 0, 1) := by decide +kernel
theorem dX5_decipher_5 : decode cX5_decipher 5 = .ok (.invokestatic 23, 3) := by decide +kernel
theorem dX5_decipher_8 : decode cX5_decipher 8 = .ok (.istore 5, 2) := by decide +kernel
theorem dX5_decipher_10 : decode cX5_decipher 10 = .ok (.iload 5, 2) := by decide +kernel
theorem dX5_decipher_12 : decode cX5_decipher 12 = .ok (.iload_n 3, 1) := by decide +kernel
theorem dX5_decipher_13 : decode cX5_decipher 13 = .ok (.if_icmp .ge 56, 3) := by decide +kernel
theorem dX5_decipher_69 : decode cX5_decipher 69 = .ok (.return_, 1) := by decide +kernel
theorem dX5_encipher_0 : decode cX5_encipher 0 = .ok (.iload_n 1, 1) := by decide +kernel
theorem dX5_encipher_1 : decode cX5_encipher 1 = .ok (.istore_n 2, 1) := by decide +kernel
theorem dX5_encipher_2 : decode cX5_encipher 2 = .ok (.iconst 0, 1) := by decide +kernel
theorem dX5_encipher_3 : decode cX5_encipher 3 = .ok (.istore_n 3, 1) := by decide +kernel
theorem dX5_encipher_4 : decode cX5_encipher 4 = .ok (.iload_n 3, 1) := by decide +kernel
theorem dX5_encipher_5 : decode cX5_encipher 5 = .ok (.aload_n 0, 1) := by decide +kernel
theorem dX5_encipher_6 : decode cX5_encipher 6 = .ok (.getfield 15, 3) := by decide +kernel
theorem dX5_encipher_9 : decode cX5_encipher 9 = .ok (.if_icmp .ge 42, 3) := by decide +kernel
theorem dX5_encipher_12 : decode cX5_encipher 12 = .ok (.aload_n 0, 1) := by decide +kernel
theorem dX5_encipher_13 : decode cX5_encipher 13 = .ok (.getfield 9, 3) := by decide +kernel
theorem dX5_encipher_16 : decode cX5_encipher 16 = .ok (.iload_n 3, 1) := by decide +kernel
theorem dX5_encipher_17 : decode cX5_encipher 17 = .ok (.baload, 1) := by decide +kernel
theorem dX5_encipher_18 : decode cX5_encipher 18 = .ok (.sipush 255, 3) := by decide +kernel
theorem dX5_encipher_21 : decode cX5_encipher 21 = .ok (.iand, 1) := by decide +kernel
theorem dX5_encipher_22 : decode cX5_encipher 22 = .ok (.iload_n 2, 1) := by decide +kernel
theorem dX5_encipher_23 : decode cX5_encipher 23 = .ok (.bipush 8, 2) := by decide +kernel
theorem dX5_encipher_25 : decode cX5_encipher 25 = .ok (.ishr, 1) := by decide +kernel
theorem dX5_encipher_26 : decode cX5_encipher 26 = .ok (.ixor, 1) := by decide +kernel
theorem dX5_encipher_27 : decode cX5_encipher 27 = .ok (.istore 4, 2) := by decide +kernel
theorem dX5_encipher_29 : decode cX5_encipher 29 = .ok (.aload_n 0, 1) := by decide +kernel
theorem dX5_encipher_30 : decode cX5_encipher 30 = .ok (.getfield 9, 3) := by decide +kernel
theorem dX5_encipher_33 : decode cX5_encipher 33 = .ok (.iload_n 3, 1) := by decide +kernel
theorem dX5_encipher_34 : decode cX5_encipher 34 = .ok (.iload 4, 2) := by decide +kernel
theorem dX5_encipher_36 : decode cX5_encipher 36 = .ok (.i2b, 1) := by decide +kernel
theorem dX5_encipher_37 : decode cX5_encipher 37 = .ok (.bastore, 1) := by decide +kernel
theorem dX5_encipher_38 : decode cX5_encipher 38 = .ok (.iload 4, 2) := by decide +kernel
theorem dX5_encipher_40 : decode cX5_encipher 40 = .ok (.iload_n 2, 1) := by decide +kernel
theorem dX5_encipher_41 : decode cX5_encipher 41 = .ok (.invokestatic 33, 3) := by decide +kernel
theorem dX5_encipher_44 : decode cX5_encipher 44 = .ok (.istore_n 2, 1) := by decide +kernel
theorem dX5_encipher_45 : decode cX5_encipher 45 = .ok (.iinc 3 1, 3) := by decide +kernel
theorem dX5_encipher_48 : decode cX5_encipher 48 = .ok (.goto (-44), 3) := by decide +kernel
theorem dX5_encipher_51 : decode cX5_encipher 51 = .ok (.return_, 1) := by decide +kernel
theorem dX5_get_0 : decode cX5_get 0 = .ok (.lload_n 1, 1) := by decide +kernel
theorem dX5_get_1 : decode cX5_get 1 = .ok (.lconst 0, 1) := by decide +kernel
theorem dX5_get_2 : decode cX5_get 2 = .ok (.lcmp, 1) := by decide +kernel
theorem dX5_get_3 : decode cX5_get 3 = .ok (.ifCond .lt 27, 3) := by decide +kernel
theorem dX5_get_6 : decode cX5_get 6 = .ok (.lload_n 1, 1) := by decide +kernel
theorem dX5_get_7 : decode cX5_get 7 = .ok (.aload_n 0, 1) := by decide +kernel
theorem dX5_get_8 : decode cX5_get 8 = .ok (.getfield 15, 3) := by decide +kernel
theorem dX5_get_11 : decode cX5_get 11 = .ok (.i2l, 1) := by decide +kernel
theorem dX5_get_12 : decode cX5_get 12 = .ok (.lcmp, 1) := by decide +kernel
theorem dX5_get_13 : decode cX5_get 13 = .ok (.ifCond .ge 17, 3) := by decide +kernel
theorem dX5_get_30 : decode cX5_get 30 = .ok (.iconst (-1), 1) := by decide +kernel
theorem dX5_get_31 : decode cX5_get 31 = .ok (.ireturn, 1) := by decide +kernel
theorem dX5_nextKey_0 : decode cX5_nextKey 0 = .ok (.iload_n 0, 1) := by decide +kernel
theorem dX5_nextKey_1 : decode cX5_nextKey 1 = .ok (.iload_n 1, 1) := by decide +kernel
theorem dX5_nextKey_2 : decode cX5_nextKey 2 = .ok (.iadd, 1) := by decide +kernel
theorem dX5_nextKey_3 : decode cX5_nextKey 3 = .ok (.ldc 36, 2) := by decide +kernel
theorem dX5_nextKey_5 : decode cX5_nextKey 5 = .ok (.imul, 1) := by decide +kernel
theorem dX5_nextKey_6 : decode cX5_nextKey 6 = .ok (.sipush 22719, 3) := by decide +kernel
theorem dX5_nextKey_9 : decode cX5_nextKey 9 = .ok (.iadd, 1) := by decide +kernel
theorem dX5_nextKey_10 : decode cX5_nextKey 10 = .ok (.ldc 37, 2) := by decide +kernel
theorem dX5_nextKey_12 : decode cX5_nextKey 12 = .ok (.iand, 1) := by decide +kernel
theorem dX5_nextKey_13 : decode cX5_nextKey 13 = .ok (.ireturn, 1) := by decide +kernel
theorem dX5_size_0 : decode cX5_size 0 = .ok (.aload_n 0, 1) := by decide +kernel
theorem dX5_size_1 : decode cX5_size 1 = .ok (.getfield 15, 3) := by decide +kernel
theorem dX5_size_4 : decode cX5_size 4 = .ok (.ireturn, 1) := by decide +kernel
theorem dX6_kindOf_0 : decode cX6_kindOf 0 = .ok (.iload_n 1, 1) := by decide +kernel
theorem dX6_kindOf_1 : decode cX6_kindOf 1 = .ok (.ifCond .lt 20, 3) := by decide +kernel
theorem dX6_kindOf_4 : decode cX6_kindOf 4 = .ok (.iload_n 1, 1) := by decide +kernel
theorem dX6_kindOf_5 : decode cX6_kindOf 5 = .ok (.aload_n 0, 1) := by decide +kernel
theorem dX6_kindOf_6 : decode cX6_kindOf 6 = .ok (.getfield 19, 3) := by decide +kernel
theorem dX6_kindOf_9 : decode cX6_kindOf 9 = .ok (.if_icmp .ge 12, 3) := by decide +kernel
theorem dX6_kindOf_21 : decode cX6_kindOf 21 = .ok (.iconst (-1), 1) := by decide +kernel
theorem dX6_kindOf_22 : decode cX6_kindOf 22 = .ok (.ireturn, 1) := by decide +kernel
theorem dX6_pointOf_0 : decode cX6_pointOf 0 = .ok (.aload_n 0, 1) := by decide +kernel
theorem dX6_pointOf_1 : decode cX6_pointOf 1 = .ok (.iload_n 1, 1) := by decide +kernel
theorem dX6_pointOf_2 : decode cX6_pointOf 2 = .ok (.invokevirtual 43, 3) := by decide +kernel
theorem dX6_pointOf_5 : decode cX6_pointOf 5 = .ok (.istore 4, 2) := by decide +kernel
theorem dX6_pointOf_7 : decode cX6_pointOf 7 = .ok (.iload 4, 2) := by decide +kernel
theorem dX6_pointOf_9 : decode cX6_pointOf 9 = .ok (.iconst (-1), 1) := by decide +kernel
theorem dX6_pointOf_10 : decode cX6_pointOf 10 = .ok (.if_icmp .eq 18, 3) := by decide +kernel
theorem dX6_pointOf_28 : decode cX6_pointOf 28 = .ok (.lconst 0, 1) := by decide +kernel
theorem dX6_pointOf_29 : decode cX6_pointOf 29 = .ok (.lreturn, 1) := by decide +kernel
theorem dX8_has_0 : decode cX8_has 0 = .ok (.lload_n 1, 1) := by decide +kernel
theorem dX8_has_1 : decode cX8_has 1 = .ok (.lconst 0, 1) := by decide +kernel
theorem dX8_has_2 : decode cX8_has 2 = .ok (.lcmp, 1) := by decide +kernel
theorem dX8_has_3 : decode cX8_has 3 = .ok (.ifCond .lt 13, 3) := by decide +kernel
theorem dX8_has_6 : decode cX8_has 6 = .ok (.lload_n 1, 1) := by decide +kernel
theorem dX8_has_7 : decode cX8_has 7 = .ok (.aload_n 0, 1) := by decide +kernel
theorem dX8_has_8 : decode cX8_has 8 = .ok (.getfield 22, 3) := by decide +kernel
theorem dX8_has_11 : decode cX8_has 11 = .ok (.i2l, 1) := by decide +kernel
theorem dX8_has_12 : decode cX8_has 12 = .ok (.lcmp, 1) := by decide +kernel
theorem dX8_has_13 : decode cX8_has 13 = .ok (.ifCond .lt 5, 3) := by decide +kernel
theorem dX8_has_16 : decode cX8_has 16 = .ok (.iconst 0, 1) := by decide +kernel
theorem dX8_has_17 : decode cX8_has 17 = .ok (.ireturn, 1) := by decide +kernel
theorem dX8_lay_0 : decode cX8_lay 0 = .ok (.aload_n 0, 1) := by decide +kernel
theorem dX8_lay_1 : decode cX8_lay 1 = .ok (.iconst 0, 1) := by decide +kernel
theorem dX8_lay_2 : decode cX8_lay 2 = .ok (.iload_n 1, 1) := by decide +kernel
theorem dX8_lay_3 : decode cX8_lay 3 = .ok (.aload_n 0, 1) := by decide +kernel
theorem dX8_lay_4 : decode cX8_lay 4 = .ok (.getfield 15, 3) := by decide +kernel
theorem dX8_lay_7 : decode cX8_lay 7 = .ok (.arraylength, 1) := by decide +kernel
theorem dX8_lay_8 : decode cX8_lay 8 = .ok (.invokestatic 32, 3) := by decide +kernel
theorem dX8_lay_11 : decode cX8_lay 11 = .ok (.invokestatic 38, 3) := by decide +kernel
theorem dX8_lay_14 : decode cX8_lay 14 = .ok (.putfield 22, 3) := by decide +kernel
theorem dX8_lay_17 : decode cX8_lay 17 = .ok (.aload_n 0, 1) := by decide +kernel
theorem dX8_lay_18 : decode cX8_lay 18 = .ok (.getfield 15, 3) := by decide +kernel
theorem dX8_lay_21 : decode cX8_lay 21 = .ok (.iconst 0, 1) := by decide +kernel
theorem dX8_lay_22 : decode cX8_lay 22 = .ok (.aload_n 0, 1) := by decide +kernel
theorem dX8_lay_23 : decode cX8_lay 23 = .ok (.getfield 22, 3) := by decide +kernel
theorem dX8_lay_26 : decode cX8_lay 26 = .ok (.iconst (-1), 1) := by decide +kernel
theorem dX8_lay_27 : decode cX8_lay 27 = .ok (.invokestatic 41, 3) := by decide +kernel
theorem dX8_lay_30 : decode cX8_lay 30 = .ok (.aload_n 0, 1) := by decide +kernel
theorem dX8_lay_31 : decode cX8_lay 31 = .ok (.iconst 0, 1) := by decide +kernel
theorem dX8_lay_32 : decode cX8_lay 32 = .ok (.putfield 29, 3) := by decide +kernel
theorem dX8_lay_35 : decode cX8_lay 35 = .ok (.return_, 1) := by decide +kernel
