set_option maxRecDepth 20000 in
theorem ggX5_addWord_X5_add : GoodIn wsX5_addWord wsX5_add := goodIn_r _ [5, 6, 7, 8, 9] rfl (by decide +kernel)
set_option maxRecDepth 20000 in
theorem ggX5_addAll_X5_get : GoodIn wsX5_addAll wsX5_get := goodIn_r _ [10, 5, 11, 16, 17] rfl (by decide +kernel)
set_option maxRecDepth 20000 in
theorem ggX5_addAll_X5_add : GoodIn wsX5_addAll wsX5_add := goodIn_r _ [15, 5, 11, 16, 17] rfl (by decide +kernel)
set_option maxRecDepth 20000 in
theorem ggX5_encipher_X5_nextKey : GoodIn wsX5_encipher wsX5_nextKey := goodIn_r _ [6, 7, 8] rfl (by decide +kernel)
set_option maxRecDepth 20000 in
theorem ggX5_decipher_X5_nextKey : GoodIn wsX5_decipher wsX5_nextKey := goodIn_r _ [10, 11, 12] rfl (by decide +kernel)
set_option maxRecDepth 20000 in
theorem gX5_addWord_X5_add : GoodIn wsX5_addWord (wsV RX5 19 RX5 yX5_add wsX5_add) := goodIn_app (goodIn_of _ (by decide +kernel)) ggX5_addWord_X5_add
set_option maxRecDepth 20000 in
theorem gX5_addAll_X5_get : GoodIn wsX5_addAll (wsV RX5 29 RX5 yX5_get wsX5_get) := goodIn_app (goodIn_of _ (by decide +kernel)) ggX5_addAll_X5_get
set_option maxRecDepth 20000 in
theorem gX5_addAll_X5_add : GoodIn wsX5_addAll (wsV RX5 19 RX5 yX5_add wsX5_add) := goodIn_app (goodIn_of _ (by decide +kernel)) ggX5_addAll_X5_add
set_option maxRecDepth 20000 in
theorem gX5_encipher_X5_nextKey : GoodIn wsX5_encipher (va_wsS RX5 33 yX5_nextKey wsX5_nextKey) := goodIn_app (goodIn_of _ (by decide +kernel)) ggX5_encipher_X5_nextKey
set_option maxRecDepth 20000 in
theorem gX5_decipher_X5_nextKey : GoodIn wsX5_decipher (va_wsS RX5 33 yX5_nextKey wsX5_nextKey) := goodIn_app (goodIn_of _ (by decide +kernel)) ggX5_decipher_X5_nextKey
theorem dX5_add_0 : decode cX5_add 0 = .ok (.aload_n 0, 1) := by decide +kernel
theorem dX5_add_1 : decode cX5_add 1 = .ok (.getfield 15, 3) := by decide +kernel
theorem dX5_add_4 : decode cX5_add 4 = .ok (.aload_n 0, 1) := by decide +kernel
theorem dX5_add_5 : decode cX5_add 5 = .ok (.getfield 9, 3) := by decide +kernel
theorem dX5_add_8 : decode cX5_add 8 = .ok (.arraylength, 1) := by decide +kernel
theorem dX5_add_9 : decode cX5_add 9 = .ok (.if_icmp .ge 24, 3) := by decide +kernel
theorem dX5_add_12 : decode cX5_add 12 = .ok (.aload_n 0, 1) := by decide +kernel
theorem dX5_add_13 : decode cX5_add 13 = .ok (.getfield 9, 3) := by decide +kernel
theorem dX5_add_16 : decode cX5_add 16 = .ok (.aload_n 0, 1) := by decide +kernel
theorem dX5_add_17 : decode cX5_add 17 = .ok (.getfield 15, 3) := by decide +kernel
theorem dX5_add_20 : decode cX5_add 20 = .ok (.iload_n 1, 1) := by decide +kernel
theorem dX5_add_21 : decode cX5_add 21 = .ok (.i2b, 1) := by decide +kernel
theorem dX5_add_22 : decode cX5_add 22 = .ok (.bastore, 1) := by decide +kernel
theorem dX5_add_23 : decode cX5_add 23 = .ok (.aload_n 0, 1) := by decide +kernel
theorem dX5_add_24 : decode cX5_add 24 = .ok (.dup, 1) := by decide +kernel
theorem dX5_add_25 : decode cX5_add 25 = .ok (.getfield 15, 3) := by decide +kernel
theorem dX5_add_28 : decode cX5_add 28 = .ok (.iconst 1, 1) := by decide +kernel
theorem dX5_add_29 : decode cX5_add 29 = .ok (.iadd, 1) := by decide +kernel
theorem dX5_add_30 : decode cX5_add 30 = .ok (.putfield 15, 3) := by decide +kernel
theorem dX5_add_33 : decode cX5_add 33 = .ok (.return_, 1) := by decide +kernel
theorem dX5_addAll_0 : decode cX5_addAll 0 = .ok (.iload_n 2, 1) := by decide +kernel
theorem dX5_addAll_1 : decode cX5_addAll 1 = .ok (.iconst 0, 1) := by decide +kernel
theorem dX5_addAll_2 : decode cX5_addAll 2 = .ok (.invokestatic 23, 3) := by decide +kernel
theorem dX5_addAll_5 : decode cX5_addAll 5 = .ok (.istore_n 3, 1) := by decide +kernel
theorem dX5_addAll_6 : decode cX5_addAll 6 = .ok (.iload_n 3, 1) := by decide +kernel
theorem dX5_addAll_7 : decode cX5_addAll 7 = .ok (.aload_n 1, 1) := by decide +kernel
theorem dX5_addAll_8 : decode cX5_addAll 8 = .ok (.getfield 15, 3) := by decide +kernel
theorem dX5_addAll_11 : decode cX5_addAll 11 = .ok (.if_icmp .ge 19, 3) := by decide +kernel
theorem dX5_addAll_14 : decode cX5_addAll 14 = .ok (.aload_n 0, 1) := by decide +kernel
theorem dX5_addAll_15 : decode cX5_addAll 15 = .ok (.aload_n 1, 1) := by decide +kernel
theorem dX5_addAll_16 : decode cX5_addAll 16 = .ok (.iload_n 3, 1) := by decide +kernel
theorem dX5_addAll_17 : decode cX5_addAll 17 = .ok (.i2l, 1) := by decide +kernel
theorem dX5_addAll_18 : decode cX5_addAll 18 = .ok (.invokevirtual 29, 3) := by decide +kernel
theorem dX5_addAll_21 : decode cX5_addAll 21 = .ok (.invokevirtual 19, 3) := by decide +kernel
theorem dX5_addAll_24 : decode cX5_addAll 24 = .ok (.iinc 3 1, 3) := by decide +kernel
theorem dX5_addAll_27 : decode cX5_addAll 27 = .ok (.goto (-21), 3) := by decide +kernel
theorem dX5_addAll_30 : decode cX5_addAll 30 = .ok (.return_, 1) := by decide +kernel
theorem dX5_addWord_0 : decode cX5_addWord 0 = .ok (.aload_n 0, 1) := by decide +kernel
theorem dX5_addWord_1 : decode cX5_addWord 1 = .ok (.iload_n 1, 1) := by decide +kernel
theorem dX5_addWord_2 : decode cX5_addWord 2 = .ok (.bipush 24, 2) := by decide +kernel
theorem dX5_addWord_4 : decode cX5_addWord 4 = .ok (.ishr, 1) := by decide +kernel
theorem dX5_addWord_5 : decode cX5_addWord 5 = .ok (.invokevirtual 19, 3) := by decide +kernel
theorem dX5_addWord_8 : decode cX5_addWord 8 = .ok (.aload_n 0, 1) := by decide +kernel
theorem dX5_addWord_9 : decode cX5_addWord 9 = .ok (.iload_n 1, 1) := by decide +kernel
theorem dX5_addWord_10 : decode cX5_addWord 10 = .ok (.bipush 16, 2) := by decide +kernel
theorem dX5_addWord_12 : decode cX5_addWord 12 = .ok (.ishr, 1) := by decide +kernel
theorem dX5_addWord_13 : decode cX5_addWord 13 = .ok (.invokevirtual 19, 3) := by decide +kernel
theorem dX5_addWord_16 : decode cX5_addWord 16 = .ok (.aload_n 0, 1) := by decide +kernel
theorem dX5_addWord_17 : decode cX5_addWord 17 = .ok (.iload_n 1, 1) := by decide +kernel
theorem dX5_addWord_18 : decode cX5_addWord 18 = .ok (.bipush 8, 2) := by decide +kernel
theorem dX5_addWord_20 : decode cX5_addWord 20 = .ok (.ishr, 1) := by decide +kernel
theorem dX5_addWord_21 : decode cX5_addWord 21 = .ok (.invokevirtual 19, 3) := by decide +kernel
theorem dX5_addWord_24 : decode cX5_addWord 24 = .ok (.aload_n 0, 1) := by decide +kernel
theorem dX5_addWord_25 : decode cX5_addWord 25 = .ok (.iload_n 1, 1) := by decide +kernel
theorem dX5_addWord_26 : decode cX5_addWord 26 = .ok (.invokevirtual 19, 3) := by decide +kernel
theorem dX5_addWord_29 : decode cX5_addWord 29 = .ok (.return_, 1) := by decide +kernel
theorem dX5_cut_0 : decode cX5_cut 0 = .ok (.iload_n 1, 1) := by decide +kernel
theorem dX5_cut_1 : decode cX5_cut 1 = .ok (.ifCond .lt 16, 3) := by decide +kernel
theorem dX5_cut_4 : decode cX5_cut 4 = .ok (.iload_n 1, 1) := by decide +kernel
theorem dX5_cut_5 : decode cX5_cut 5 = .ok (.aload_n 0, 1) := by decide +kernel
theorem dX5_cut_6 : decode cX5_cut 6 = .ok (.getfield 15, 3) := by decide +kernel
theorem dX5_cut_9 : decode cX5_cut 9 = .ok (.if_icmp .gt 8, 3) := by decide +kernel
theorem dX5_cut_12 : decode cX5_cut 12 = .ok (.aload_n 0, 1) := by decide +kernel
theorem dX5_cut_13 : decode cX5_cut 13 = .ok (.iload_n 1, 1) := by decide +kernel
theorem dX5_cut_14 : decode cX5_cut 14 = .ok (.putfield 15, 3) := by decide +kernel
theorem dX5_cut_17 : decode cX5_cut 17 = .ok (.return_, 1) := by decide +kernel
theorem dX5_decipher_0 : decode cX5_decipher 0 = .ok (.iload_n 1, 1) := by decide +kernel
theorem dX5_decipher_1 : decode cX5_decipher 1 = .ok (.istore 4, 2) := by decide +kernel
theorem dX5_decipher_3 : decode cX5_decipher 3 = .ok (.iload_n 2, 1) := by decide +kernel
theorem dX5_decipher_4 : decode cX5_decipher 4 = .ok (.iconst 0, 1) := by decide +kernel
theorem dX5_decipher_5 : decode cX5_decipher 5 = .ok (.invokestatic 23, 3) := by decide +kernel
theorem dX5_decipher_8 : decode cX5_decipher 8 = .ok (.istore 5, 2) := by decide +kernel
theorem dX5_decipher_10 : decode cX5_decipher 10 = .ok (.iload 5, 2) := by decide +kernel
theorem dX5_decipher_12 : decode cX5_decipher 12 = .ok (.iload_n 3, 1) := by decide +kernel
theorem dX5_decipher_13 : decode cX5_decipher 13 = .ok (.if_icmp .ge 56, 3) := by decide +kernel
theorem dX5_decipher_16 : decode cX5_decipher 16 = .ok (.iload 5, 2) := by decide +kernel
theorem dX5_decipher_18 : decode cX5_decipher 18 = .ok (.aload_n 0, 1) := by decide +kernel
theorem dX5_decipher_19 : decode cX5_decipher 19 = .ok (.getfield 15, 3) := by decide +kernel
theorem dX5_decipher_22 : decode cX5_decipher 22 = .ok (.if_icmp .ge 47, 3) := by decide +kernel
theorem dX5_decipher_25 : decode cX5_decipher 25 = .ok (.aload_n 0, 1) := by decide +kernel
theorem dX5_decipher_26 : decode cX5_decipher 26 = .ok (.getfield 9, 3) := by decide +kernel
theorem dX5_decipher_29 : decode cX5_decipher 29 = .ok (.iload 5, 2) := by decide +kernel
theorem dX5_decipher_31 : decode cX5_decipher 31 = .ok (.baload, 1) := by decide +kernel
theorem dX5_decipher_32 : decode cX5_decipher 32 = .ok (.sipush 255, 3) := by decide +kernel
theorem dX5_decipher_35 : decode cX5_decipher 35 = .ok (.iand, 1) := by decide +kernel
theorem dX5_decipher_36 : decode cX5_decipher 36 = .ok (.istore 6, 2) := by decide +kernel
theorem dX5_decipher_38 : decode cX5_decipher 38 = .ok (.aload_n 0, 1) := by decide +kernel
theorem dX5_decipher_39 : decode cX5_decipher 39 = .ok (.getfield 9, 3) := by decide +kernel
theorem dX5_decipher_42 : decode cX5_decipher 42 = .ok (.iload 5, 2) := by decide +kernel
theorem dX5_decipher_44 : decode cX5_decipher 44 = .ok (.iload 6, 2) := by decide +kernel
theorem dX5_decipher_46 : decode cX5_decipher 46 = .ok (.iload 4, 2) := by decide +kernel
theorem dX5_decipher_48 : decode cX5_decipher 48 = .ok (.bipush 8, 2) := by decide +kernel
theorem dX5_decipher_50 : decode cX5_decipher 50 = .ok (.ishr, 1) := by decide +kernel
theorem dX5_decipher_51 : decode cX5_decipher 51 = .ok (.ixor, 1) := by decide +kernel
theorem dX5_decipher_52 : decode cX5_decipher 52 = .ok (.i2b, 1) := by decide +kernel
theorem dX5_decipher_53 : decode cX5_decipher 53 = .ok (.bastore, 1) := by decide +kernel
theorem dX5_decipher_54 : decode cX5_decipher 54 = .ok (.iload 6, 2) := by decide +kernel
theorem dX5_decipher_56 : decode cX5_decipher 56 = .ok (.iload 4, 2) := by decide +kernel
theorem dX5_decipher_58 : decode cX5_decipher 58 = .ok (.invokestatic 33, 3) := by decide +kernel
theorem dX5_decipher_61 : decode cX5_decipher 61 = .ok (.istore 4, 2) := by decide +kernel
theorem dX5_decipher_63 : decode cX5_decipher 63 = .ok (.iinc 5 1, 3) := by decide +kernel
theorem dX5_decipher_66 : decode cX5_decipher 66 = .ok (.goto (-56), 3) := by decide +kernel
theorem dX5_decipher_69 : decode cX5_decipher 69 = .ok (.return_, 1) := by decide +kernel
theorem dX5_encipher_0 : decode cX5_encipher 0 = .ok (.iload_n 1, 1) := by decide +kernel
theorem dX5_encipher_1 : decode cX5_encipher 1 = .ok (.istore_n 2, 1) := by decide +kernel
theorem dX5_encipher_2 : decode cX5_encipher 2 = .ok (.iconst 0, 1) := by decide +kernel
theorem dX5_encipher_3 : decode cX5_encipher 3 = .ok (.istore_n 3, 1) := by decide +kernel
theorem dX5_encipher_4 : decode cX5_encipher 4 = .ok (.iload_n 3, 1) := by decide +kernel
theorem dX5_encipher_5 : decode cX5_encipher 5 = .ok (.aload_n 0, 1) := by decide +kernel
theorem dX5_encipher_6 : decode cX5_encipher 6 = .ok (.getfield 15, 3) := by decide +kernel
theorem dX5_encipher_9 : decode cX5_encipher 9 = .ok (.if_icmp .ge 42, 3) := by decide +kernel
theorem dX5_encipher_12 : decode cX5_encipher 12 = .ok (.aload_n 0, 1) := by decide +kernel
theorem dX5_encipher_13 : decode cX5_encipher 13 = .ok (.getfield 9, 3) := by decide +kernel
theorem dX5_encipher_16 : decode cX5_encipher 16 = .ok (.iload_n 3, 1) := by decide +kernel
theorem dX5_encipher_17 : decode cX5_encipher 17 = .ok (.baload, 1) := by decide +kernel
theorem dX5_encipher_18 : decode cX5_encipher 18 = .ok (.sipush 255, 3) := by decide +kernel
theorem dX5_encipher_21 : decode cX5_encipher 21 = .ok (.iand, 1) := by decide +kernel
theorem dX5_encipher_22 : decode cX5_encipher 22 = .ok (.iload_n 2, 1) := by decide +kernel
theorem dX5_encipher_23 : decode cX5_encipher 23 = .ok (.bipush 8, 2) := by decide +kernel
theorem dX5_encipher_25 : decode cX5_encipher 25 = .ok (.ishr, 1) := by decide +kernel
theorem dX5_encipher_26 : decode cX5_encipher 26 = .ok (.ixor, 1) := by decide +kernel
theorem dX5_encipher_27 : decode cX5_encipher 27 = .ok (.istore 4, 2) := by decide +kernel
theorem dX5_encipher_29 : decode cX5_encipher 29 = .ok (.aload_n 0, 1) := by decide +kernel
theorem dX5_encipher_30 : decode cX5_encipher 30 = .ok (.getfield 9, 3) := by decide +kernel
theorem dX5_encipher_33 : decode cX5_encipher 33 = .ok (.iload_n 3, 1) := by decide +kernel
theorem dX5_encipher_34 : decode cX5_encipher 34 = .ok (.iload 4, 2) := by decide +kernel
theorem dX5_encipher_36 : decode cX5_encipher 36 = .ok (.i2b, 1) := by decide +kernel
theorem dX5_encipher_37 : decode cX5_encipher 37 = .ok (.bastore, 1) := by decide +kernel
theorem dX5_encipher_38 : decode cX5_encipher 38 = .ok (.iload 4, 2) := by decide +kernel
theorem dX5_encipher_40 : decode cX5_encipher 40 = .ok (.iload_n 2, 1) := by decide +kernel
theorem dX5_encipher_41 : decode cX5_encipher 41 = .ok (.invokestatic 33, 3) := by decide +kernel
theorem dX5_encipher_44 : decode cX5_encipher 44 = .ok (.istore_n 2, 1) := by decide +kernel
theorem dX5_encipher_45 : decode cX5_encipher 45 = .ok (.iinc 3 1, 3) := by decide +kernel
theorem dX5_encipher_48 : decode cX5_encipher 48 = .ok (.goto (-44), 3) := by decide +kernel
theorem dX5_encipher_51 : decode cX5_encipher 51 = .ok (.return_, 1) := by decide +kernel
theorem dX5_get_0 : decode cX5_get 0 = .ok (.lload_n 1, 1) := by decide +kernel
theorem dX5_get_1 : decode cX5_get 1 = .ok (.lconst 0, 1) := by decide +kernel
theorem dX5_get_2 : decode cX5_get 2 = .ok (.lcmp, 1) := by decide +kernel
theorem dX5_get_3 : decode cX5_get 3 = .ok (.ifCond .lt 27, 3) := by decide +kernel
theorem dX5_get_6 : decode cX5_get 6 = .ok (.lload_n 1, 1) := by decide +kernel
theorem dX5_get_7 : decode cX5_get 7 = .ok (.aload_n 0, 1) := by decide +kernel
theorem dX5_get_8 : decode cX5_get 8 = .ok (.getfield 15, 3) := by decide +kernel
theorem dX5_get_11 : decode cX5_get 11 = .ok (.i2l, 1) := by decide +kernel
theorem dX5_get_12 : decode cX5_get 12 = .ok (.lcmp, 1) := by decide +kernel
theorem dX5_get_13 : decode cX5_get 13 = .ok (.ifCond .ge 17, 3) := by decide +kernel
theorem dX5_get_16 : decode cX5_get 16 = .ok (.aload_n 0, 1) := by decide +kernel
theorem dX5_get_17 : decode cX5_get 17 = .ok (.getfield 9, 3) := by decide +kernel
theorem dX5_get_20 : decode cX5_get 20 = .ok (.lload_n 1, 1) := by decide +kernel
theorem dX5_get_21 : decode cX5_get 21 = .ok (.l2i, 1) := by decide +kernel
theorem dX5_get_22 : decode cX5_get 22 = .ok (.baload, 1) := by decide +kernel
theorem dX5_get_23 : decode cX5_get 23 = .ok (.sipush 255, 3) := by decide +kernel
theorem dX5_get_26 : decode cX5_get 26 = .ok (.iand, 1) := by decide +kernel
theorem dX5_get_27 : decode cX5_get 27 = .ok (.goto 4, 3) := by decide +kernel
theorem dX5_get_30 : decode cX5_get 30 = .ok (.iconst (-1), 1) := by decide +kernel
theorem dX5_get_31 : decode cX5_get 31 = .ok (.ireturn, 1) := by decide +kernel
theorem dX5_nextKey_0 : decode cX5_nextKey 0 = .ok (.iload_n 0, 1) := by decide +kernel
theorem dX5_nextKey_1 : decode cX5_nextKey 1 = .ok (.iload_n 1, 1) := by decide +kernel
theorem dX5_nextKey_2 : decode cX5_nextKey 2 = .ok (.iadd, 1) := by decide +kernel
theorem dX5_nextKey_3 : decode cX5_nextKey 3 = .ok (.ldc 36, 2) := by decide +kernel
theorem dX5_nextKey_5 : decode cX5_nextKey 5 = .ok (.imul, 1) := by decide +kernel
theorem dX5_nextKey_6 : decode cX5_nextKey 6 = .ok (.sipush 22719, 3) := by decide +kernel
theorem dX5_nextKey_9 : decode cX5_nextKey 9 = .ok (.iadd, 1) := by decide +kernel
theorem dX5_nextKey_10 : decode cX5_nextKey 10 = .ok (.ldc 37, 2) := by decide +kernel
theorem dX5_nextKey_12 : decode cX5_nextKey 12 = .ok (.iand, 1) := by decide +kernel
theorem dX5_nextKey_13 : decode cX5_nextKey 13 = .ok (.ireturn, 1) := by decide +kernel
theorem dX5_size_0 : decode cX5_size 0 = .ok (.aload_n 0, 1) := by decide +kernel
theorem dX5_size_1 : decode cX5_size 1 = .ok (.getfield 15, 3) := by decide +kernel
theorem dX5_size_4 : decode cX5_size 4 = .ok (.ireturn, 1) := by decide +kernel
