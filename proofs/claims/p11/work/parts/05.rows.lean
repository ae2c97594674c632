theorem dJ0_charAt_5068e_0 : decode cJ0_charAt_5068e 0 = .ok (.aload_n 0, 1) := by decide +kernel
theorem dJ0_charAt_5068e_1 : decode cJ0_charAt_5068e 1 = .ok (.invokevirtual 492, 3) := by decide +kernel
theorem dJ0_charAt_5068e_4 : decode cJ0_charAt_5068e 4 = .ok (.ifCond .eq 12, 3) := by decide +kernel
theorem dJ0_charAt_5068e_7 : decode cJ0_charAt_5068e 7 = .ok (.aload_n 0, 1) := by decide +kernel
theorem dJ0_charAt_5068e_8 : decode cJ0_charAt_5068e 8 = .ok (.getfield 9, 3) := by decide +kernel
theorem dJ0_charAt_5068e_11 : decode cJ0_charAt_5068e 11 = .ok (.iload_n 1, 1) := by decide +kernel
theorem dJ0_charAt_5068e_12 : decode cJ0_charAt_5068e 12 = .ok (.invokestatic 495, 3) := by decide +kernel
theorem dJ0_charAt_5068e_15 : decode cJ0_charAt_5068e 15 = .ok (.ireturn, 1) := by decide +kernel
theorem dJ0_checkIndex_df160_0 : decode cJ0_checkIndex_df160 0 = .ok (.iload_n 0, 1) := by decide +kernel
theorem dJ0_checkIndex_df160_1 : decode cJ0_checkIndex_df160 1 = .ok (.iload_n 1, 1) := by decide +kernel
theorem dJ0_checkIndex_df160_2 : decode cJ0_checkIndex_df160 2 = .ok (.getstatic 1053, 3) := by decide +kernel
theorem dJ0_checkIndex_df160_5 : decode cJ0_checkIndex_df160 5 = .ok (.invokestatic 1059, 3) := by decide +kernel
theorem dJ0_checkIndex_df160_8 : decode cJ0_checkIndex_df160 8 = .ok (.pop, 1) := by decide +kernel
theorem dJ0_checkIndex_df160_9 : decode cJ0_checkIndex_df160 9 = .ok (.return_, 1) := by decide +kernel
theorem dJ0_coder_7d493_0 : decode cJ0_coder_7d493 0 = .ok (.getstatic 38, 3) := by decide +kernel
theorem dJ0_coder_7d493_3 : decode cJ0_coder_7d493 3 = .ok (.ifCond .eq 10, 3) := by decide +kernel
theorem dJ0_coder_7d493_6 : decode cJ0_coder_7d493 6 = .ok (.aload_n 0, 1) := by decide +kernel
theorem dJ0_coder_7d493_7 : decode cJ0_coder_7d493 7 = .ok (.getfield 15, 3) := by decide +kernel
theorem dJ0_coder_7d493_10 : decode cJ0_coder_7d493 10 = .ok (.goto 4, 3) := by decide +kernel
theorem dJ0_coder_7d493_14 : decode cJ0_coder_7d493 14 = .ok (.ireturn, 1) := by decide +kernel
theorem dJ0_isLatin1_aae02_0 : decode cJ0_isLatin1_aae02 0 = .ok (.getstatic 38, 3) := by decide +kernel
theorem dJ0_isLatin1_aae02_3 : decode cJ0_isLatin1_aae02 3 = .ok (.ifCond .eq 14, 3) := by decide +kernel
theorem dJ0_isLatin1_aae02_6 : decode cJ0_isLatin1_aae02 6 = .ok (.aload_n 0, 1) := by decide +kernel
theorem dJ0_isLatin1_aae02_7 : decode cJ0_isLatin1_aae02 7 = .ok (.getfield 15, 3) := by decide +kernel
theorem dJ0_isLatin1_aae02_10 : decode cJ0_isLatin1_aae02 10 = .ok (.ifCond .ne 7, 3) := by decide +kernel
theorem dJ0_isLatin1_aae02_13 : decode cJ0_isLatin1_aae02 13 = .ok (.iconst 1, 1) := by decide +kernel
theorem dJ0_isLatin1_aae02_14 : decode cJ0_isLatin1_aae02 14 = .ok (.goto 4, 3) := by decide +kernel
theorem dJ0_isLatin1_aae02_18 : decode cJ0_isLatin1_aae02 18 = .ok (.ireturn, 1) := by decide +kernel
theorem dJ0_length_8abf5_0 : decode cJ0_length_8abf5 0 = .ok (.aload_n 0, 1) := by decide +kernel
theorem dJ0_length_8abf5_1 : decode cJ0_length_8abf5 1 = .ok (.getfield 9, 3) := by decide +kernel
theorem dJ0_length_8abf5_4 : decode cJ0_length_8abf5 4 = .ok (.arraylength, 1) := by decide +kernel
theorem dJ0_length_8abf5_5 : decode cJ0_length_8abf5 5 = .ok (.aload_n 0, 1) := by decide +kernel
theorem dJ0_length_8abf5_6 : decode cJ0_length_8abf5 6 = .ok (.invokevirtual 335, 3) := by decide +kernel
theorem dJ0_length_8abf5_9 : decode cJ0_length_8abf5 9 = .ok (.ishr, 1) := by decide +kernel
theorem dJ0_length_8abf5_10 : decode cJ0_length_8abf5 10 = .ok (.ireturn, 1) := by decide +kernel
theorem dJ1_charAt_3b067_0 : decode cJ1_charAt_3b067 0 = .ok (.iload_n 1, 1) := by decide +kernel
theorem dJ1_charAt_3b067_1 : decode cJ1_charAt_3b067 1 = .ok (.aload_n 0, 1) := by decide +kernel
theorem dJ1_charAt_3b067_2 : decode cJ1_charAt_3b067 2 = .ok (.arraylength, 1) := by decide +kernel
theorem dJ1_charAt_3b067_3 : decode cJ1_charAt_3b067 3 = .ok (.invokestatic 9, 3) := by decide +kernel
theorem dJ1_charAt_3b067_6 : decode cJ1_charAt_3b067 6 = .ok (.aload_n 0, 1) := by decide +kernel
theorem dJ1_charAt_3b067_7 : decode cJ1_charAt_3b067 7 = .ok (.iload_n 1, 1) := by decide +kernel
theorem dJ1_charAt_3b067_8 : decode cJ1_charAt_3b067 8 = .ok (.baload, 1) := by decide +kernel
theorem dJ1_charAt_3b067_9 : decode cJ1_charAt_3b067 9 = .ok (.sipush 255, 3) := by decide +kernel
theorem dJ1_charAt_3b067_12 : decode cJ1_charAt_3b067 12 = .ok (.iand, 1) := by decide +kernel
theorem dJ1_charAt_3b067_13 : decode cJ1_charAt_3b067 13 = .ok (.i2c, 1) := by decide +kernel
theorem dJ1_charAt_3b067_14 : decode cJ1_charAt_3b067 14 = .ok (.ireturn, 1) := by decide +kernel
theorem dJ3_checkIndex_8e157_0 : decode cJ3_checkIndex_8e157 0 = .ok (.iload_n 0, 1) := by decide +kernel
theorem dJ3_checkIndex_8e157_1 : decode cJ3_checkIndex_8e157 1 = .ok (.ifCond .lt 8, 3) := by decide +kernel
theorem dJ3_checkIndex_8e157_4 : decode cJ3_checkIndex_8e157 4 = .ok (.iload_n 0, 1) := by decide +kernel
theorem dJ3_checkIndex_8e157_5 : decode cJ3_checkIndex_8e157 5 = .ok (.iload_n 1, 1) := by decide +kernel
theorem dJ3_checkIndex_8e157_6 : decode cJ3_checkIndex_8e157 6 = .ok (.if_icmp .lt 10, 3) := by decide +kernel
theorem dJ3_checkIndex_8e157_16 : decode cJ3_checkIndex_8e157 16 = .ok (.iload_n 0, 1) := by decide +kernel
theorem dJ3_checkIndex_8e157_17 : decode cJ3_checkIndex_8e157 17 = .ok (.ireturn, 1) := by decide +kernel
theorem dJ7_fill_53178_0 : decode cJ7_fill_53178 0 = .ok (.iconst 0, 1) := by decide +kernel
theorem dJ7_fill_53178_1 : decode cJ7_fill_53178 1 = .ok (.istore_n 2, 1) := by decide +kernel
theorem dJ7_fill_53178_2 : decode cJ7_fill_53178 2 = .ok (.aload_n 0, 1) := by decide +kernel
theorem dJ7_fill_53178_3 : decode cJ7_fill_53178 3 = .ok (.arraylength, 1) := by decide +kernel
theorem dJ7_fill_53178_4 : decode cJ7_fill_53178 4 = .ok (.istore_n 3, 1) := by decide +kernel
theorem dJ7_fill_53178_5 : decode cJ7_fill_53178 5 = .ok (.iload_n 2, 1) := by decide +kernel
theorem dJ7_fill_53178_6 : decode cJ7_fill_53178 6 = .ok (.iload_n 3, 1) := by decide +kernel
theorem dJ7_fill_53178_7 : decode cJ7_fill_53178 7 = .ok (.if_icmp .ge 13, 3) := by decide +kernel
theorem dJ7_fill_53178_10 : decode cJ7_fill_53178 10 = .ok (.aload_n 0, 1) := by decide +kernel
theorem dJ7_fill_53178_11 : decode cJ7_fill_53178 11 = .ok (.iload_n 2, 1) := by decide +kernel
theorem dJ7_fill_53178_12 : decode cJ7_fill_53178 12 = .ok (.iload_n 1, 1) := by decide +kernel
theorem dJ7_fill_53178_13 : decode cJ7_fill_53178 13 = .ok (.iastore, 1) := by decide +kernel
theorem dJ7_fill_53178_14 : decode cJ7_fill_53178 14 = .ok (.iinc 2 1, 3) := by decide +kernel
theorem dJ7_fill_53178_17 : decode cJ7_fill_53178 17 = .ok (.goto (-12), 3) := by decide +kernel
theorem dJ7_fill_53178_20 : decode cJ7_fill_53178 20 = .ok (.return_, 1) := by decide +kernel
theorem dJ7_fill_d0a16_0 : decode cJ7_fill_d0a16 0 = .ok (.iconst 0, 1) := by decide +kernel
theorem dJ7_fill_d0a16_1 : decode cJ7_fill_d0a16 1 = .ok (.istore_n 3, 1) := by decide +kernel
theorem dJ7_fill_d0a16_2 : decode cJ7_fill_d0a16 2 = .ok (.aload_n 0, 1) := by decide +kernel
theorem dJ7_fill_d0a16_3 : decode cJ7_fill_d0a16 3 = .ok (.arraylength, 1) := by decide +kernel
theorem dJ7_fill_d0a16_4 : decode cJ7_fill_d0a16 4 = .ok (.istore 4, 2) := by decide +kernel
theorem dJ7_fill_d0a16_6 : decode cJ7_fill_d0a16 6 = .ok (.iload_n 3, 1) := by decide +kernel
theorem dJ7_fill_d0a16_7 : decode cJ7_fill_d0a16 7 = .ok (.iload 4, 2) := by decide +kernel
theorem dJ7_fill_d0a16_9 : decode cJ7_fill_d0a16 9 = .ok (.if_icmp .ge 13, 3) := by decide +kernel
theorem dJ7_fill_d0a16_12 : decode cJ7_fill_d0a16 12 = .ok (.aload_n 0, 1) := by decide +kernel
theorem dJ7_fill_d0a16_13 : decode cJ7_fill_d0a16 13 = .ok (.iload_n 3, 1) := by decide +kernel
theorem dJ7_fill_d0a16_14 : decode cJ7_fill_d0a16 14 = .ok (.lload_n 1, 1) := by decide +kernel
theorem dJ7_fill_d0a16_15 : decode cJ7_fill_d0a16 15 = .ok (.lastore, 1) := by decide +kernel
theorem dJ7_fill_d0a16_16 : decode cJ7_fill_d0a16 16 = .ok (.iinc 3 1, 3) := by decide +kernel
theorem dJ7_fill_d0a16_19 : decode cJ7_fill_d0a16 19 = .ok (.goto (-13), 3) := by decide +kernel
theorem dJ7_fill_d0a16_22 : decode cJ7_fill_d0a16 22 = .ok (.return_, 1) := by decide +kernel
theorem dJ7_fill_fda19_0 : decode cJ7_fill_fda19 0 = .ok (.aload_n 0, 1) := by decide +kernel
theorem dJ7_fill_fda19_1 : decode cJ7_fill_fda19 1 = .ok (.arraylength, 1) := by decide +kernel
theorem dJ7_fill_fda19_2 : decode cJ7_fill_fda19 2 = .ok (.iload_n 1, 1) := by decide +kernel
theorem dJ7_fill_fda19_3 : decode cJ7_fill_fda19 3 = .ok (.iload_n 2, 1) := by decide +kernel
theorem dJ7_fill_fda19_4 : decode cJ7_fill_fda19 4 = .ok (.invokestatic 13, 3) := by decide +kernel
theorem dJ7_fill_fda19_7 : decode cJ7_fill_fda19 7 = .ok (.iload_n 1, 1) := by decide +kernel
theorem dJ7_fill_fda19_8 : decode cJ7_fill_fda19 8 = .ok (.istore 4, 2) := by decide +kernel
theorem dJ7_fill_fda19_10 : decode cJ7_fill_fda19 10 = .ok (.iload 4, 2) := by decide +kernel
theorem dJ7_fill_fda19_12 : decode cJ7_fill_fda19 12 = .ok (.iload_n 2, 1) := by decide +kernel
theorem dJ7_fill_fda19_13 : decode cJ7_fill_fda19 13 = .ok (.if_icmp .ge 14, 3) := by decide +kernel
theorem dJ7_fill_fda19_16 : decode cJ7_fill_fda19 16 = .ok (.aload_n 0, 1) := by decide +kernel
theorem dJ7_fill_fda19_17 : decode cJ7_fill_fda19 17 = .ok (.iload 4, 2) := by decide +kernel
theorem dJ7_fill_fda19_19 : decode cJ7_fill_fda19 19 = .ok (.iload_n 3, 1) := by decide +kernel
theorem dJ7_fill_fda19_20 : decode cJ7_fill_fda19 20 = .ok (.iastore, 1) := by decide +kernel
theorem dJ7_fill_fda19_21 : decode cJ7_fill_fda19 21 = .ok (.iinc 4 1, 3) := by decide +kernel
theorem dJ7_fill_fda19_24 : decode cJ7_fill_fda19 24 = .ok (.goto (-14), 3) := by decide +kernel
theorem dJ7_fill_fda19_27 : decode cJ7_fill_fda19 27 = .ok (.return_, 1) := by decide +kernel
theorem dJ7_rangeCheck_23922_0 : decode cJ7_rangeCheck_23922 0 = .ok (.iload_n 1, 1) := by decide +kernel
theorem dJ7_rangeCheck_23922_1 : decode cJ7_rangeCheck_23922 1 = .ok (.iload_n 2, 1) := by decide +kernel
theorem dJ7_rangeCheck_23922_2 : decode cJ7_rangeCheck_23922 2 = .ok (.if_icmp .le 44, 3) := by decide +kernel
theorem dJ7_rangeCheck_23922_46 : decode cJ7_rangeCheck_23922 46 = .ok (.iload_n 1, 1) := by decide +kernel
theorem dJ7_rangeCheck_23922_47 : decode cJ7_rangeCheck_23922 47 = .ok (.ifCond .ge 12, 3) := by decide +kernel
theorem dJ7_rangeCheck_23922_59 : decode cJ7_rangeCheck_23922 59 = .ok (.iload_n 2, 1) := by decide +kernel
theorem dJ7_rangeCheck_23922_60 : decode cJ7_rangeCheck_23922 60 = .ok (.iload_n 0, 1) := by decide +kernel
theorem dJ7_rangeCheck_23922_61 : decode cJ7_rangeCheck_23922 61 = .ok (.if_icmp .le 12, 3) := by decide +kernel
theorem dJ7_rangeCheck_23922_73 : decode cJ7_rangeCheck_23922 73 = .ok (.return_, 1) := by decide +kernel
theorem dJ9_floorMod_f86c9_0 : decode cJ9_floorMod_f86c9 0 = .ok (.lload_n 0, 1) := by decide +kernel
theorem dJ9_floorMod_f86c9_1 : decode cJ9_floorMod_f86c9 1 = .ok (.lload_n 2, 1) := by decide +kernel
theorem dJ9_floorMod_f86c9_2 : decode cJ9_floorMod_f86c9 2 = .ok (.lrem, 1) := by decide +kernel
theorem dJ9_floorMod_f86c9_3 : decode cJ9_floorMod_f86c9 3 = .ok (.lstore 4, 2) := by decide +kernel
theorem dJ9_floorMod_f86c9_5 : decode cJ9_floorMod_f86c9 5 = .ok (.lload_n 0, 1) := by decide +kernel
theorem dJ9_floorMod_f86c9_6 : decode cJ9_floorMod_f86c9 6 = .ok (.lload_n 2, 1) := by decide +kernel
theorem dJ9_floorMod_f86c9_7 : decode cJ9_floorMod_f86c9 7 = .ok (.lxor, 1) := by decide +kernel
theorem dJ9_floorMod_f86c9_8 : decode cJ9_floorMod_f86c9 8 = .ok (.lconst 0, 1) := by decide +kernel
theorem dJ9_floorMod_f86c9_9 : decode cJ9_floorMod_f86c9 9 = .ok (.lcmp, 1) := by decide +kernel
theorem dJ9_floorMod_f86c9_10 : decode cJ9_floorMod_f86c9 10 = .ok (.ifCond .ge 15, 3) := by decide +kernel
theorem dJ9_floorMod_f86c9_13 : decode cJ9_floorMod_f86c9 13 = .ok (.lload 4, 2) := by decide +kernel
theorem dJ9_floorMod_f86c9_15 : decode cJ9_floorMod_f86c9 15 = .ok (.lconst 0, 1) := by decide +kernel
theorem dJ9_floorMod_f86c9_16 : decode cJ9_floorMod_f86c9 16 = .ok (.lcmp, 1) := by decide +kernel
theorem dJ9_floorMod_f86c9_17 : decode cJ9_floorMod_f86c9 17 = .ok (.ifCond .eq 8, 3) := by decide +kernel
theorem dJ9_floorMod_f86c9_20 : decode cJ9_floorMod_f86c9 20 = .ok (.lload 4, 2) := by decide +kernel
theorem dJ9_floorMod_f86c9_22 : decode cJ9_floorMod_f86c9 22 = .ok (.lload_n 2, 1) := by decide +kernel
theorem dJ9_floorMod_f86c9_23 : decode cJ9_floorMod_f86c9 23 = .ok (.ladd, 1) := by decide +kernel
theorem dJ9_floorMod_f86c9_24 : decode cJ9_floorMod_f86c9 24 = .ok (.lreturn, 1) := by decide +kernel
theorem dJ9_floorMod_f86c9_25 : decode cJ9_floorMod_f86c9 25 = .ok (.lload 4, 2) := by decide +kernel
theorem dJ9_floorMod_f86c9_27 : decode cJ9_floorMod_f86c9 27 = .ok (.lreturn, 1) := by decide +kernel
theorem dX0_biasOf_0 : decode cX0_biasOf 0 = .ok (.aload_n 0, 1) := by decide +kernel
theorem dX0_biasOf_1 : decode cX0_biasOf 1 = .ok (.invokevirtual 71, 3) := by decide +kernel
theorem dX0_biasOf_4 : decode cX0_biasOf 4 = .ok (.sipush 1240, 3) := by decide +kernel
theorem dX0_biasOf_7 : decode cX0_biasOf 7 = .ok (.if_icmp .ge 6, 3) := by decide +kernel
theorem dX0_biasOf_10 : decode cX0_biasOf 10 = .ok (.bipush 107, 2) := by decide +kernel
theorem dX0_biasOf_12 : decode cX0_biasOf 12 = .ok (.ireturn, 1) := by decide +kernel
theorem dX0_biasOf_13 : decode cX0_biasOf 13 = .ok (.aload_n 0, 1) := by decide +kernel
theorem dX0_biasOf_14 : decode cX0_biasOf 14 = .ok (.invokevirtual 71, 3) := by decide +kernel
theorem dX0_biasOf_17 : decode cX0_biasOf 17 = .ok (.ldc 76, 2) := by decide +kernel
theorem dX0_biasOf_19 : decode cX0_biasOf 19 = .ok (.if_icmp .ge 9, 3) := by decide +kernel
theorem dX0_biasOf_22 : decode cX0_biasOf 22 = .ok (.sipush 1131, 3) := by decide +kernel
theorem dX0_biasOf_25 : decode cX0_biasOf 25 = .ok (.goto 5, 3) := by decide +kernel
theorem dX0_biasOf_28 : decode cX0_biasOf 28 = .ok (.ldc 77, 2) := by decide +kernel
theorem dX0_biasOf_30 : decode cX0_biasOf 30 = .ok (.ireturn, 1) := by decide +kernel
theorem dX0_endLetter_0 : decode cX0_endLetter 0 = .ok (.aload_n 0, 1) := by decide +kernel
theorem dX0_endLetter_1 : decode cX0_endLetter 1 = .ok (.aload_n 0, 1) := by decide +kernel
theorem dX0_endLetter_2 : decode cX0_endLetter 2 = .ok (.getfield 15, 3) := by decide +kernel
theorem dX0_endLetter_5 : decode cX0_endLetter 5 = .ok (.invokevirtual 106, 3) := by decide +kernel
theorem dX0_endLetter_8 : decode cX0_endLetter 8 = .ok (.iconst 1, 1) := by decide +kernel
theorem dX0_endLetter_9 : decode cX0_endLetter 9 = .ok (.if_icmp .ne 7, 3) := by decide +kernel
theorem dX0_endLetter_12 : decode cX0_endLetter 12 = .ok (.iconst 1, 1) := by decide +kernel
theorem dX0_endLetter_13 : decode cX0_endLetter 13 = .ok (.goto 4, 3) := by decide +kernel
theorem dX0_endLetter_16 : decode cX0_endLetter 16 = .ok (.iconst 0, 1) := by decide +kernel
theorem dX0_endLetter_17 : decode cX0_endLetter 17 = .ok (.invokevirtual 137, 3) := by decide +kernel
theorem dX0_endLetter_20 : decode cX0_endLetter 20 = .ok (.istore_n 1, 1) := by decide +kernel
theorem dX0_endLetter_21 : decode cX0_endLetter 21 = .ok (.aload_n 0, 1) := by decide +kernel
theorem dX0_endLetter_22 : decode cX0_endLetter 22 = .ok (.getfield 15, 3) := by decide +kernel
theorem dX0_endLetter_25 : decode cX0_endLetter 25 = .ok (.invokevirtual 106, 3) := by decide +kernel
theorem dX0_endLetter_28 : decode cX0_endLetter 28 = .ok (.iload_n 1, 1) := by decide +kernel
theorem dX0_endLetter_29 : decode cX0_endLetter 29 = .ok (.if_icmp .eq 5, 3) := by decide +kernel
theorem dX0_endLetter_32 : decode cX0_endLetter 32 = .ok (.iconst 2, 1) := by decide +kernel
theorem dX0_endLetter_33 : decode cX0_endLetter 33 = .ok (.ireturn, 1) := by decide +kernel
theorem dX0_endLetter_34 : decode cX0_endLetter 34 = .ok (.aload_n 0, 1) := by decide +kernel
theorem dX0_endLetter_35 : decode cX0_endLetter 35 = .ok (.iload_n 1, 1) := by decide +kernel
theorem dX0_endLetter_36 : decode cX0_endLetter 36 = .ok (.invokevirtual 140, 3) := by decide +kernel
theorem dX0_endLetter_39 : decode cX0_endLetter 39 = .ok (.aload_n 0, 1) := by decide +kernel
theorem dX0_endLetter_40 : decode cX0_endLetter 40 = .ok (.getfield 149, 3) := by decide +kernel
theorem dX0_endLetter_43 : decode cX0_endLetter 43 = .ok (.invokevirtual 153, 3) := by decide +kernel
theorem dX0_endLetter_46 : decode cX0_endLetter 46 = .ok (.istore_n 2, 1) := by decide +kernel
theorem dX0_endLetter_47 : decode cX0_endLetter 47 = .ok (.iload_n 2, 1) := by decide +kernel
theorem dX0_endLetter_48 : decode cX0_endLetter 48 = .ok (.ifCond .ne 7, 3) := by decide +kernel
theorem dX0_endLetter_51 : decode cX0_endLetter 51 = .ok (.aload_n 0, 1) := by decide +kernel
theorem dX0_endLetter_52 : decode cX0_endLetter 52 = .ok (.invokevirtual 162, 3) := by decide +kernel
theorem dX0_endLetter_55 : decode cX0_endLetter 55 = .ok (.iload_n 2, 1) := by decide +kernel
theorem dX0_endLetter_56 : decode cX0_endLetter 56 = .ok (.ireturn, 1) := by decide +kernel
theorem dX0_flexAlongX_0 : decode cX0_flexAlongX 0 = .ok (.aload_n 0, 1) := by decide +kernel
theorem dX0_flexAlongX_1 : decode cX0_flexAlongX 1 = .ok (.getfield 15, 3) := by decide +kernel
theorem dX0_flexAlongX_4 : decode cX0_flexAlongX 4 = .ok (.iconst 2, 1) := by decide +kernel
theorem dX0_flexAlongX_5 : decode cX0_flexAlongX 5 = .ok (.invokevirtual 126, 3) := by decide +kernel
theorem dX0_flexAlongX_8 : decode cX0_flexAlongX 8 = .ok (.lstore_n 1, 1) := by decide +kernel
theorem dX0_flexAlongX_9 : decode cX0_flexAlongX 9 = .ok (.aload_n 0, 1) := by decide +kernel
theorem dX0_flexAlongX_10 : decode cX0_flexAlongX 10 = .ok (.getfield 149, 3) := by decide +kernel
theorem dX0_flexAlongX_13 : decode cX0_flexAlongX 13 = .ok (.aload_n 0, 1) := by decide +kernel
theorem dX0_flexAlongX_14 : decode cX0_flexAlongX 14 = .ok (.getfield 15, 3) := by decide +kernel
theorem dX0_flexAlongX_17 : decode cX0_flexAlongX 17 = .ok (.iconst 0, 1) := by decide +kernel
theorem dX0_flexAlongX_18 : decode cX0_flexAlongX 18 = .ok (.invokevirtual 126, 3) := by decide +kernel
theorem dX0_flexAlongX_21 : decode cX0_flexAlongX 21 = .ok (.lconst 0, 1) := by decide +kernel
theorem dX0_flexAlongX_22 : decode cX0_flexAlongX 22 = .ok (.aload_n 0, 1) := by decide +kernel
theorem dX0_flexAlongX_23 : decode cX0_flexAlongX 23 = .ok (.getfield 15, 3) := by decide +kernel
theorem dX0_flexAlongX_26 : decode cX0_flexAlongX 26 = .ok (.iconst 1, 1) := by decide +kernel
theorem dX0_flexAlongX_27 : decode cX0_flexAlongX 27 = .ok (.invokevirtual 126, 3) := by decide +kernel
theorem dX0_flexAlongX_30 : decode cX0_flexAlongX 30 = .ok (.lload_n 1, 1) := by decide +kernel
theorem dX0_flexAlongX_31 : decode cX0_flexAlongX 31 = .ok (.aload_n 0, 1) := by decide +kernel
theorem dX0_flexAlongX_32 : decode cX0_flexAlongX 32 = .ok (.getfield 15, 3) := by decide +kernel
theorem dX0_flexAlongX_35 : decode cX0_flexAlongX 35 = .ok (.iconst 3, 1) := by decide +kernel
theorem dX0_flexAlongX_36 : decode cX0_flexAlongX 36 = .ok (.invokevirtual 126, 3) := by decide +kernel
theorem dX0_flexAlongX_39 : decode cX0_flexAlongX 39 = .ok (.lconst 0, 1) := by decide +kernel
theorem dX0_flexAlongX_40 : decode cX0_flexAlongX 40 = .ok (.invokevirtual 171, 3) := by decide +kernel
theorem dX0_flexAlongX_43 : decode cX0_flexAlongX 43 = .ok (.istore_n 3, 1) := by decide +kernel
theorem dX0_flexAlongX_44 : decode cX0_flexAlongX 44 = .ok (.iload_n 3, 1) := by decide +kernel
theorem dX0_flexAlongX_45 : decode cX0_flexAlongX 45 = .ok (.ifCond .eq 5, 3) := by decide +kernel
theorem dX0_flexAlongX_48 : decode cX0_flexAlongX 48 = .ok (.iload_n 3, 1) := by decide +kernel
theorem dX0_flexAlongX_49 : decode cX0_flexAlongX 49 = .ok (.ireturn, 1) := by decide +kernel
theorem dX0_flexAlongX_50 : decode cX0_flexAlongX 50 = .ok (.aload_n 0, 1) := by decide +kernel
theorem dX0_flexAlongX_51 : decode cX0_flexAlongX 51 = .ok (.getfield 149, 3) := by decide +kernel
theorem dX0_flexAlongX_54 : decode cX0_flexAlongX 54 = .ok (.aload_n 0, 1) := by decide +kernel
theorem dX0_flexAlongX_55 : decode cX0_flexAlongX 55 = .ok (.getfield 15, 3) := by decide +kernel
theorem dX0_flexAlongX_58 : decode cX0_flexAlongX 58 = .ok (.iconst 4, 1) := by decide +kernel
theorem dX0_flexAlongX_59 : decode cX0_flexAlongX 59 = .ok (.invokevirtual 126, 3) := by decide +kernel
theorem dX0_flexAlongX_62 : decode cX0_flexAlongX 62 = .ok (.lconst 0, 1) := by decide +kernel
theorem dX0_flexAlongX_63 : decode cX0_flexAlongX 63 = .ok (.aload_n 0, 1) := by decide +kernel
theorem dX0_flexAlongX_64 : decode cX0_flexAlongX 64 = .ok (.getfield 15, 3) := by decide +kernel
theorem dX0_flexAlongX_67 : decode cX0_flexAlongX 67 = .ok (.iconst 5, 1) := by decide +kernel
theorem dX0_flexAlongX_68 : decode cX0_flexAlongX 68 = .ok (.invokevirtual 126, 3) := by decide +kernel
theorem dX0_flexAlongX_71 : decode cX0_flexAlongX 71 = .ok (.lload_n 1, 1) := by decide +kernel
theorem dX0_flexAlongX_72 : decode cX0_flexAlongX 72 = .ok (.lneg, 1) := by decide +kernel
theorem dX0_flexAlongX_73 : decode cX0_flexAlongX 73 = .ok (.aload_n 0, 1) := by decide +kernel
theorem dX0_flexAlongX_74 : decode cX0_flexAlongX 74 = .ok (.getfield 15, 3) := by decide +kernel
theorem dX0_flexAlongX_77 : decode cX0_flexAlongX 77 = .ok (.bipush 6, 2) := by decide +kernel
theorem dX0_flexAlongX_79 : decode cX0_flexAlongX 79 = .ok (.invokevirtual 126, 3) := by decide +kernel
theorem dX0_flexAlongX_82 : decode cX0_flexAlongX 82 = .ok (.lconst 0, 1) := by decide +kernel
theorem dX0_flexAlongX_83 : decode cX0_flexAlongX 83 = .ok (.invokevirtual 171, 3) := by decide +kernel
theorem dX0_flexAlongX_86 : decode cX0_flexAlongX 86 = .ok (.ireturn, 1) := by decide +kernel
theorem dX0_flexBack_0 : decode cX0_flexBack 0 = .ok (.lconst 0, 1) := by decide +kernel
theorem dX0_flexBack_1 : decode cX0_flexBack 1 = .ok (.lstore_n 1, 1) := by decide +kernel
theorem dX0_flexBack_2 : decode cX0_flexBack 2 = .ok (.lconst 0, 1) := by decide +kernel
theorem dX0_flexBack_3 : decode cX0_flexBack 3 = .ok (.lstore_n 3, 1) := by decide +kernel
theorem dX0_flexBack_4 : decode cX0_flexBack 4 = .ok (.iconst 0, 1) := by decide +kernel
theorem dX0_flexBack_5 : decode cX0_flexBack 5 = .ok (.istore 5, 2) := by decide +kernel
theorem dX0_flexBack_7 : decode cX0_flexBack 7 = .ok (.iload 5, 2) := by decide +kernel
theorem dX0_flexBack_9 : decode cX0_flexBack 9 = .ok (.bipush 10, 2) := by decide +kernel
theorem dX0_flexBack_11 : decode cX0_flexBack 11 = .ok (.if_icmp .ge 35, 3) := by decide +kernel
theorem dX0_flexBack_14 : decode cX0_flexBack 14 = .ok (.lload_n 1, 1) := by decide +kernel
theorem dX0_flexBack_15 : decode cX0_flexBack 15 = .ok (.aload_n 0, 1) := by decide +kernel
theorem dX0_flexBack_16 : decode cX0_flexBack 16 = .ok (.getfield 15, 3) := by decide +kernel
theorem dX0_flexBack_19 : decode cX0_flexBack 19 = .ok (.iload 5, 2) := by decide +kernel
theorem dX0_flexBack_21 : decode cX0_flexBack 21 = .ok (.invokevirtual 126, 3) := by decide +kernel
theorem dX0_flexBack_24 : decode cX0_flexBack 24 = .ok (.ladd, 1) := by decide +kernel
theorem dX0_flexBack_25 : decode cX0_flexBack 25 = .ok (.lstore_n 1, 1) := by decide +kernel
theorem dX0_flexBack_26 : decode cX0_flexBack 26 = .ok (.lload_n 3, 1) := by decide +kernel
theorem dX0_flexBack_27 : decode cX0_flexBack 27 = .ok (.aload_n 0, 1) := by decide +kernel
theorem dX0_flexBack_28 : decode cX0_flexBack 28 = .ok (.getfield 15, 3) := by decide +kernel
theorem dX0_flexBack_31 : decode cX0_flexBack 31 = .ok (.iload 5, 2) := by decide +kernel
theorem dX0_flexBack_33 : decode cX0_flexBack 33 = .ok (.iconst 1, 1) := by decide +kernel
theorem dX0_flexBack_34 : decode cX0_flexBack 34 = .ok (.iadd, 1) := by decide +kernel
theorem dX0_flexBack_35 : decode cX0_flexBack 35 = .ok (.invokevirtual 126, 3) := by decide +kernel
theorem dX0_flexBack_38 : decode cX0_flexBack 38 = .ok (.ladd, 1) := by decide +kernel
theorem dX0_flexBack_39 : decode cX0_flexBack 39 = .ok (.lstore_n 3, 1) := by decide +kernel
theorem dX0_flexBack_40 : decode cX0_flexBack 40 = .ok (.iinc 5 2, 3) := by decide +kernel
theorem dX0_flexBack_43 : decode cX0_flexBack 43 = .ok (.goto (-36), 3) := by decide +kernel
theorem dX0_flexBack_46 : decode cX0_flexBack 46 = .ok (.lload_n 1, 1) := by decide +kernel
theorem dX0_flexBack_47 : decode cX0_flexBack 47 = .ok (.invokestatic 175, 3) := by decide +kernel
theorem dX0_flexBack_50 : decode cX0_flexBack 50 = .ok (.lload_n 3, 1) := by decide +kernel
theorem dX0_flexBack_51 : decode cX0_flexBack 51 = .ok (.invokestatic 175, 3) := by decide +kernel
theorem dX0_flexBack_54 : decode cX0_flexBack 54 = .ok (.lcmp, 1) := by decide +kernel
theorem dX0_flexBack_55 : decode cX0_flexBack 55 = .ok (.ifCond .le 7, 3) := by decide +kernel
theorem dX0_flexBack_58 : decode cX0_flexBack 58 = .ok (.iconst 1, 1) := by decide +kernel
theorem dX0_flexBack_59 : decode cX0_flexBack 59 = .ok (.goto 4, 3) := by decide +kernel
theorem dX0_flexBack_62 : decode cX0_flexBack 62 = .ok (.iconst 0, 1) := by decide +kernel
theorem dX0_flexBack_63 : decode cX0_flexBack 63 = .ok (.istore 5, 2) := by decide +kernel
theorem dX0_flexBack_65 : decode cX0_flexBack 65 = .ok (.aload_n 0, 1) := by decide +kernel
theorem dX0_flexBack_66 : decode cX0_flexBack 66 = .ok (.getfield 15, 3) := by decide +kernel
theorem dX0_flexBack_69 : decode cX0_flexBack 69 = .ok (.bipush 10, 2) := by decide +kernel
theorem dX0_flexBack_71 : decode cX0_flexBack 71 = .ok (.invokevirtual 126, 3) := by decide +kernel
theorem dX0_flexBack_74 : decode cX0_flexBack 74 = .ok (.lstore 6, 2) := by decide +kernel
theorem dX0_flexBack_76 : decode cX0_flexBack 76 = .ok (.aload_n 0, 1) := by decide +kernel
theorem dX0_flexBack_77 : decode cX0_flexBack 77 = .ok (.iconst 0, 1) := by decide +kernel
theorem dX0_flexBack_78 : decode cX0_flexBack 78 = .ok (.bipush 6, 2) := by decide +kernel
theorem dX0_flexBack_80 : decode cX0_flexBack 80 = .ok (.invokevirtual 110, 3) := by decide +kernel
theorem dX0_flexBack_83 : decode cX0_flexBack 83 = .ok (.istore 8, 2) := by decide +kernel
theorem dX0_flexBack_85 : decode cX0_flexBack 85 = .ok (.iload 8, 2) := by decide +kernel
theorem dX0_flexBack_87 : decode cX0_flexBack 87 = .ok (.ifCond .eq 6, 3) := by decide +kernel
theorem dX0_flexBack_90 : decode cX0_flexBack 90 = .ok (.iload 8, 2) := by decide +kernel
theorem dX0_flexBack_92 : decode cX0_flexBack 92 = .ok (.ireturn, 1) := by decide +kernel
theorem dX0_flexBack_93 : decode cX0_flexBack 93 = .ok (.aload_n 0, 1) := by decide +kernel
theorem dX0_flexBack_94 : decode cX0_flexBack 94 = .ok (.getfield 149, 3) := by decide +kernel
theorem dX0_flexBack_97 : decode cX0_flexBack 97 = .ok (.aload_n 0, 1) := by decide +kernel
theorem dX0_flexBack_98 : decode cX0_flexBack 98 = .ok (.getfield 15, 3) := by decide +kernel
theorem dX0_flexBack_101 : decode cX0_flexBack 101 = .ok (.bipush 6, 2) := by decide +kernel
theorem dX0_flexBack_103 : decode cX0_flexBack 103 = .ok (.invokevirtual 126, 3) := by decide +kernel
theorem dX0_flexBack_106 : decode cX0_flexBack 106 = .ok (.aload_n 0, 1) := by decide +kernel
theorem dX0_flexBack_107 : decode cX0_flexBack 107 = .ok (.getfield 15, 3) := by decide +kernel
theorem dX0_flexBack_110 : decode cX0_flexBack 110 = .ok (.bipush 7, 2) := by decide +kernel
theorem dX0_flexBack_112 : decode cX0_flexBack 112 = .ok (.invokevirtual 126, 3) := by decide +kernel
theorem dX0_flexBack_115 : decode cX0_flexBack 115 = .ok (.aload_n 0, 1) := by decide +kernel
theorem dX0_flexBack_116 : decode cX0_flexBack 116 = .ok (.getfield 15, 3) := by decide +kernel
theorem dX0_flexBack_119 : decode cX0_flexBack 119 = .ok (.bipush 8, 2) := by decide +kernel
theorem dX0_flexBack_121 : decode cX0_flexBack 121 = .ok (.invokevirtual 126, 3) := by decide +kernel
theorem dX0_flexBack_124 : decode cX0_flexBack 124 = .ok (.aload_n 0, 1) := by decide +kernel
theorem dX0_flexBack_125 : decode cX0_flexBack 125 = .ok (.getfield 15, 3) := by decide +kernel
theorem dX0_flexBack_128 : decode cX0_flexBack 128 = .ok (.bipush 9, 2) := by decide +kernel
theorem dX0_flexBack_130 : decode cX0_flexBack 130 = .ok (.invokevirtual 126, 3) := by decide +kernel
theorem dX0_flexBack_133 : decode cX0_flexBack 133 = .ok (.iload 5, 2) := by decide +kernel
theorem dX0_flexBack_135 : decode cX0_flexBack 135 = .ok (.ifCond .eq 8, 3) := by decide +kernel
theorem dX0_flexBack_138 : decode cX0_flexBack 138 = .ok (.lload 6, 2) := by decide +kernel
theorem dX0_flexBack_140 : decode cX0_flexBack 140 = .ok (.goto 5, 3) := by decide +kernel
theorem dX0_flexBack_143 : decode cX0_flexBack 143 = .ok (.lload_n 1, 1) := by decide +kernel
theorem dX0_flexBack_144 : decode cX0_flexBack 144 = .ok (.lneg, 1) := by decide +kernel
theorem dX0_flexBack_145 : decode cX0_flexBack 145 = .ok (.iload 5, 2) := by decide +kernel
theorem dX0_flexBack_147 : decode cX0_flexBack 147 = .ok (.ifCond .eq 8, 3) := by decide +kernel
theorem dX0_flexBack_150 : decode cX0_flexBack 150 = .ok (.lload_n 3, 1) := by decide +kernel
theorem dX0_flexBack_151 : decode cX0_flexBack 151 = .ok (.lneg, 1) := by decide +kernel
theorem dX0_flexBack_152 : decode cX0_flexBack 152 = .ok (.goto 5, 3) := by decide +kernel
theorem dX0_flexBack_155 : decode cX0_flexBack 155 = .ok (.lload 6, 2) := by decide +kernel
theorem dX0_flexBack_157 : decode cX0_flexBack 157 = .ok (.invokevirtual 171, 3) := by decide +kernel
theorem dX0_flexBack_160 : decode cX0_flexBack 160 = .ok (.ireturn, 1) := by decide +kernel
theorem dX0_flexBackToY_0 : decode cX0_flexBackToY 0 = .ok (.aload_n 0, 1) := by decide +kernel
theorem dX0_flexBackToY_1 : decode cX0_flexBackToY 1 = .ok (.getfield 15, 3) := by decide +kernel
theorem dX0_flexBackToY_4 : decode cX0_flexBackToY 4 = .ok (.iconst 1, 1) := by decide +kernel
theorem dX0_flexBackToY_5 : decode cX0_flexBackToY 5 = .ok (.invokevirtual 126, 3) := by decide +kernel
theorem dX0_flexBackToY_8 : decode cX0_flexBackToY 8 = .ok (.lstore_n 1, 1) := by decide +kernel
theorem dX0_flexBackToY_9 : decode cX0_flexBackToY 9 = .ok (.aload_n 0, 1) := by decide +kernel
theorem dX0_flexBackToY_10 : decode cX0_flexBackToY 10 = .ok (.getfield 15, 3) := by decide +kernel
theorem dX0_flexBackToY_13 : decode cX0_flexBackToY 13 = .ok (.iconst 3, 1) := by decide +kernel
theorem dX0_flexBackToY_14 : decode cX0_flexBackToY 14 = .ok (.invokevirtual 126, 3) := by decide +kernel
theorem dX0_flexBackToY_17 : decode cX0_flexBackToY 17 = .ok (.lstore_n 3, 1) := by decide +kernel
theorem dX0_flexBackToY_18 : decode cX0_flexBackToY 18 = .ok (.aload_n 0, 1) := by decide +kernel
theorem dX0_flexBackToY_19 : decode cX0_flexBackToY 19 = .ok (.getfield 15, 3) := by decide +kernel
theorem dX0_flexBackToY_22 : decode cX0_flexBackToY 22 = .ok (.bipush 7, 2) := by decide +kernel
theorem dX0_flexBackToY_24 : decode cX0_flexBackToY 24 = .ok (.invokevirtual 126, 3) := by decide +kernel
theorem dX0_flexBackToY_27 : decode cX0_flexBackToY 27 = .ok (.lstore 5, 2) := by decide +kernel
theorem dX0_flexBackToY_29 : decode cX0_flexBackToY 29 = .ok (.aload_n 0, 1) := by decide +kernel
theorem dX0_flexBackToY_30 : decode cX0_flexBackToY 30 = .ok (.getfield 149, 3) := by decide +kernel
theorem dX0_flexBackToY_33 : decode cX0_flexBackToY 33 = .ok (.aload_n 0, 1) := by decide +kernel
theorem dX0_flexBackToY_34 : decode cX0_flexBackToY 34 = .ok (.getfield 15, 3) := by decide +kernel
theorem dX0_flexBackToY_37 : decode cX0_flexBackToY 37 = .ok (.iconst 0, 1) := by decide +kernel
theorem dX0_flexBackToY_38 : decode cX0_flexBackToY 38 = .ok (.invokevirtual 126, 3) := by decide +kernel
theorem dX0_flexBackToY_41 : decode cX0_flexBackToY 41 = .ok (.lload_n 1, 1) := by decide +kernel
theorem dX0_flexBackToY_42 : decode cX0_flexBackToY 42 = .ok (.aload_n 0, 1) := by decide +kernel
theorem dX0_flexBackToY_43 : decode cX0_flexBackToY 43 = .ok (.getfield 15, 3) := by decide +kernel
theorem dX0_flexBackToY_46 : decode cX0_flexBackToY 46 = .ok (.iconst 2, 1) := by decide +kernel
theorem dX0_flexBackToY_47 : decode cX0_flexBackToY 47 = .ok (.invokevirtual 126, 3) := by decide +kernel
theorem dX0_flexBackToY_50 : decode cX0_flexBackToY 50 = .ok (.lload_n 3, 1) := by decide +kernel
theorem dX0_flexBackToY_51 : decode cX0_flexBackToY 51 = .ok (.aload_n 0, 1) := by decide +kernel
theorem dX0_flexBackToY_52 : decode cX0_flexBackToY 52 = .ok (.getfield 15, 3) := by decide +kernel
theorem dX0_flexBackToY_55 : decode cX0_flexBackToY 55 = .ok (.iconst 4, 1) := by decide +kernel
theorem dX0_flexBackToY_56 : decode cX0_flexBackToY 56 = .ok (.invokevirtual 126, 3) := by decide +kernel
theorem dX0_flexBackToY_59 : decode cX0_flexBackToY 59 = .ok (.lconst 0, 1) := by decide +kernel
theorem dX0_flexBackToY_60 : decode cX0_flexBackToY 60 = .ok (.invokevirtual 171, 3) := by decide +kernel
theorem dX0_flexBackToY_63 : decode cX0_flexBackToY 63 = .ok (.istore 7, 2) := by decide +kernel
theorem dX0_flexBackToY_65 : decode cX0_flexBackToY 65 = .ok (.iload 7, 2) := by decide +kernel
theorem dX0_flexBackToY_67 : decode cX0_flexBackToY 67 = .ok (.ifCond .eq 6, 3) := by decide +kernel
theorem dX0_flexBackToY_70 : decode cX0_flexBackToY 70 = .ok (.iload 7, 2) := by decide +kernel
theorem dX0_flexBackToY_72 : decode cX0_flexBackToY 72 = .ok (.ireturn, 1) := by decide +kernel
theorem dX0_flexBackToY_73 : decode cX0_flexBackToY 73 = .ok (.aload_n 0, 1) := by decide +kernel
theorem dX0_flexBackToY_74 : decode cX0_flexBackToY 74 = .ok (.getfield 149, 3) := by decide +kernel
theorem dX0_flexBackToY_77 : decode cX0_flexBackToY 77 = .ok (.aload_n 0, 1) := by decide +kernel
theorem dX0_flexBackToY_78 : decode cX0_flexBackToY 78 = .ok (.getfield 15, 3) := by decide +kernel
theorem dX0_flexBackToY_81 : decode cX0_flexBackToY 81 = .ok (.iconst 5, 1) := by decide +kernel
theorem dX0_flexBackToY_82 : decode cX0_flexBackToY 82 = .ok (.invokevirtual 126, 3) := by decide +kernel
theorem dX0_flexBackToY_85 : decode cX0_flexBackToY 85 = .ok (.lconst 0, 1) := by decide +kernel
theorem dX0_flexBackToY_86 : decode cX0_flexBackToY 86 = .ok (.aload_n 0, 1) := by decide +kernel
theorem dX0_flexBackToY_87 : decode cX0_flexBackToY 87 = .ok (.getfield 15, 3) := by decide +kernel
theorem dX0_flexBackToY_90 : decode cX0_flexBackToY 90 = .ok (.bipush 6, 2) := by decide +kernel
theorem dX0_flexBackToY_92 : decode cX0_flexBackToY 92 = .ok (.invokevirtual 126, 3) := by decide +kernel
theorem dX0_flexBackToY_95 : decode cX0_flexBackToY 95 = .ok (.lload 5, 2) := by decide +kernel
theorem dX0_flexBackToY_97 : decode cX0_flexBackToY 97 = .ok (.aload_n 0, 1) := by decide +kernel
theorem dX0_flexBackToY_98 : decode cX0_flexBackToY 98 = .ok (.getfield 15, 3) := by decide +kernel
theorem dX0_flexBackToY_101 : decode cX0_flexBackToY 101 = .ok (.bipush 8, 2) := by decide +kernel
theorem dX0_flexBackToY_103 : decode cX0_flexBackToY 103 = .ok (.invokevirtual 126, 3) := by decide +kernel
theorem dX0_flexBackToY_106 : decode cX0_flexBackToY 106 = .ok (.lload_n 1, 1) := by decide +kernel
theorem dX0_flexBackToY_107 : decode cX0_flexBackToY 107 = .ok (.lload_n 3, 1) := by decide +kernel
theorem dX0_flexBackToY_108 : decode cX0_flexBackToY 108 = .ok (.ladd, 1) := by decide +kernel
theorem dX0_flexBackToY_109 : decode cX0_flexBackToY 109 = .ok (.lload 5, 2) := by decide +kernel
theorem dX0_flexBackToY_111 : decode cX0_flexBackToY 111 = .ok (.ladd, 1) := by decide +kernel
theorem dX0_flexBackToY_112 : decode cX0_flexBackToY 112 = .ok (.lneg, 1) := by decide +kernel
theorem dX0_flexBackToY_113 : decode cX0_flexBackToY 113 = .ok (.invokevirtual 171, 3) := by decide +kernel
theorem dX0_flexBackToY_116 : decode cX0_flexBackToY 116 = .ok (.ireturn, 1) := by decide +kernel
theorem dX0_hintOrMove_0 : decode cX0_hintOrMove 0 = .ok (.iload_n 1, 1) := by decide +kernel
theorem dX0_hintOrMove_1 : decode cX0_hintOrMove 1 = .ok (.tableswitch 107 4 22 #[96, 107, 107, 107, 107, 107, 107, 107, 107, 107, 102, 107, 107, 107, 107, 91, 91, 96, 96], 91) := by decide +kernel
theorem dX0_hintOrMove_92 : decode cX0_hintOrMove 92 = .ok (.aload_n 0, 1) := by decide +kernel
theorem dX0_hintOrMove_93 : decode cX0_hintOrMove 93 = .ok (.invokevirtual 78, 3) := by decide +kernel
theorem dX0_hintOrMove_96 : decode cX0_hintOrMove 96 = .ok (.ireturn, 1) := by decide +kernel
theorem dX0_hintOrMove_97 : decode cX0_hintOrMove 97 = .ok (.aload_n 0, 1) := by decide +kernel
theorem dX0_hintOrMove_98 : decode cX0_hintOrMove 98 = .ok (.iload_n 1, 1) := by decide +kernel
theorem dX0_hintOrMove_99 : decode cX0_hintOrMove 99 = .ok (.invokevirtual 81, 3) := by decide +kernel
theorem dX0_hintOrMove_102 : decode cX0_hintOrMove 102 = .ok (.ireturn, 1) := by decide +kernel
theorem dX0_hintOrMove_103 : decode cX0_hintOrMove 103 = .ok (.aload_n 0, 1) := by decide +kernel
theorem dX0_hintOrMove_104 : decode cX0_hintOrMove 104 = .ok (.invokevirtual 84, 3) := by decide +kernel
theorem dX0_hintOrMove_107 : decode cX0_hintOrMove 107 = .ok (.ireturn, 1) := by decide +kernel
theorem dX0_hintOrMove_108 : decode cX0_hintOrMove 108 = .ok (.aload_n 0, 1) := by decide +kernel
theorem dX0_hintOrMove_109 : decode cX0_hintOrMove 109 = .ok (.invokevirtual 87, 3) := by decide +kernel
theorem dX0_hintOrMove_112 : decode cX0_hintOrMove 112 = .ok (.ireturn, 1) := by decide +kernel
theorem dX0_isFlex_0 : decode cX0_isFlex 0 = .ok (.iload_n 0, 1) := by decide +kernel
theorem dX0_isFlex_1 : decode cX0_isFlex 1 = .ok (.sipush 290, 3) := by decide +kernel
theorem dX0_isFlex_4 : decode cX0_isFlex 4 = .ok (.if_icmp .lt 14, 3) := by decide +kernel
theorem dX0_isFlex_7 : decode cX0_isFlex 7 = .ok (.iload_n 0, 1) := by decide +kernel
theorem dX0_isFlex_8 : decode cX0_isFlex 8 = .ok (.sipush 293, 3) := by decide +kernel
theorem dX0_isFlex_11 : decode cX0_isFlex 11 = .ok (.if_icmp .gt 7, 3) := by decide +kernel
theorem dX0_isFlex_14 : decode cX0_isFlex 14 = .ok (.iconst 1, 1) := by decide +kernel
theorem dX0_isFlex_15 : decode cX0_isFlex 15 = .ok (.goto 4, 3) := by decide +kernel
theorem dX0_isFlex_18 : decode cX0_isFlex 18 = .ok (.iconst 0, 1) := by decide +kernel
theorem dX0_isFlex_19 : decode cX0_isFlex 19 = .ok (.ireturn, 1) := by decide +kernel
theorem dX0_isNumber_0 : decode cX0_isNumber 0 = .ok (.iload_n 1, 1) := by decide +kernel
theorem dX0_isNumber_1 : decode cX0_isNumber 1 = .ok (.bipush 28, 2) := by decide +kernel
theorem dX0_isNumber_3 : decode cX0_isNumber 3 = .ok (.if_icmp .eq 9, 3) := by decide +kernel
theorem dX0_isNumber_6 : decode cX0_isNumber 6 = .ok (.iload_n 1, 1) := by decide +kernel
theorem dX0_isNumber_7 : decode cX0_isNumber 7 = .ok (.bipush 32, 2) := by decide +kernel
theorem dX0_isNumber_9 : decode cX0_isNumber 9 = .ok (.if_icmp .lt 7, 3) := by decide +kernel
theorem dX0_isNumber_12 : decode cX0_isNumber 12 = .ok (.iconst 1, 1) := by decide +kernel
theorem dX0_isNumber_13 : decode cX0_isNumber 13 = .ok (.goto 4, 3) := by decide +kernel
theorem dX0_isNumber_16 : decode cX0_isNumber 16 = .ok (.iconst 0, 1) := by decide +kernel
theorem dX0_isNumber_17 : decode cX0_isNumber 17 = .ok (.ireturn, 1) := by decide +kernel
theorem dX0_lines_0 : decode cX0_lines 0 = .ok (.iconst 0, 1) := by decide +kernel
theorem dX0_lines_1 : decode cX0_lines 1 = .ok (.istore_n 3, 1) := by decide +kernel
theorem dX0_lines_2 : decode cX0_lines 2 = .ok (.iload_n 1, 1) := by decide +kernel
theorem dX0_lines_3 : decode cX0_lines 3 = .ok (.istore 4, 2) := by decide +kernel
theorem dX0_lines_5 : decode cX0_lines 5 = .ok (.iload 4, 2) := by decide +kernel
theorem dX0_lines_7 : decode cX0_lines 7 = .ok (.iconst 2, 1) := by decide +kernel
theorem dX0_lines_8 : decode cX0_lines 8 = .ok (.iadd, 1) := by decide +kernel
theorem dX0_lines_9 : decode cX0_lines 9 = .ok (.iload_n 2, 1) := by decide +kernel
theorem dX0_lines_10 : decode cX0_lines 10 = .ok (.if_icmp .gt 41, 3) := by decide +kernel
theorem dX0_lines_13 : decode cX0_lines 13 = .ok (.iload_n 3, 1) := by decide +kernel
theorem dX0_lines_14 : decode cX0_lines 14 = .ok (.ifCond .ne 37, 3) := by decide +kernel
theorem dX0_lines_17 : decode cX0_lines 17 = .ok (.aload_n 0, 1) := by decide +kernel
theorem dX0_lines_18 : decode cX0_lines 18 = .ok (.getfield 149, 3) := by decide +kernel
theorem dX0_lines_21 : decode cX0_lines 21 = .ok (.aload_n 0, 1) := by decide +kernel
theorem dX0_lines_22 : decode cX0_lines 22 = .ok (.getfield 15, 3) := by decide +kernel
theorem dX0_lines_25 : decode cX0_lines 25 = .ok (.iload 4, 2) := by decide +kernel
theorem dX0_lines_27 : decode cX0_lines 27 = .ok (.invokevirtual 126, 3) := by decide +kernel
theorem dX0_lines_30 : decode cX0_lines 30 = .ok (.aload_n 0, 1) := by decide +kernel
theorem dX0_lines_31 : decode cX0_lines 31 = .ok (.getfield 15, 3) := by decide +kernel
theorem dX0_lines_34 : decode cX0_lines 34 = .ok (.iload 4, 2) := by decide +kernel
theorem dX0_lines_36 : decode cX0_lines 36 = .ok (.iconst 1, 1) := by decide +kernel
theorem dX0_lines_37 : decode cX0_lines 37 = .ok (.iadd, 1) := by decide +kernel
theorem dX0_lines_38 : decode cX0_lines 38 = .ok (.invokevirtual 126, 3) := by decide +kernel
theorem dX0_lines_41 : decode cX0_lines 41 = .ok (.invokevirtual 168, 3) := by decide +kernel
theorem dX0_lines_44 : decode cX0_lines 44 = .ok (.istore_n 3, 1) := by decide +kernel
theorem dX0_lines_45 : decode cX0_lines 45 = .ok (.iinc 4 2, 3) := by decide +kernel
theorem dX0_lines_48 : decode cX0_lines 48 = .ok (.goto (-43), 3) := by decide +kernel
theorem dX0_lines_51 : decode cX0_lines 51 = .ok (.iload_n 3, 1) := by decide +kernel
theorem dX0_lines_52 : decode cX0_lines 52 = .ok (.ireturn, 1) := by decide +kernel
theorem dX0_linesAndCurves_0 : decode cX0_linesAndCurves 0 = .ok (.iload_n 1, 1) := by decide +kernel
theorem dX0_linesAndCurves_1 : decode cX0_linesAndCurves 1 = .ok (.lookupswitch 271 #[(5, 123), (6, 129), (7, 135), (8, 141), (24, 147), (25, 153), (26, 160), (27, 166), (30, 172), (31, 178), (290, 184), (291, 205), (292, 229), (293, 250)], 123) := by decide +kernel
theorem dX0_linesAndCurves_124 : decode cX0_linesAndCurves 124 = .ok (.aload_n 0, 1) := by decide +kernel
theorem dX0_linesAndCurves_125 : decode cX0_linesAndCurves 125 = .ok (.iconst 0, 1) := by decide +kernel
theorem dX0_linesAndCurves_126 : decode cX0_linesAndCurves 126 = .ok (.invokevirtual 90, 3) := by decide +kernel
theorem dX0_linesAndCurves_129 : decode cX0_linesAndCurves 129 = .ok (.ireturn, 1) := by decide +kernel
theorem dX0_linesAndCurves_130 : decode cX0_linesAndCurves 130 = .ok (.aload_n 0, 1) := by decide +kernel
theorem dX0_linesAndCurves_131 : decode cX0_linesAndCurves 131 = .ok (.iconst 1, 1) := by decide +kernel
theorem dX0_linesAndCurves_132 : decode cX0_linesAndCurves 132 = .ok (.invokevirtual 93, 3) := by decide +kernel
theorem dX0_linesAndCurves_135 : decode cX0_linesAndCurves 135 = .ok (.ireturn, 1) := by decide +kernel
theorem dX0_linesAndCurves_136 : decode cX0_linesAndCurves 136 = .ok (.aload_n 0, 1) := by decide +kernel
theorem dX0_linesAndCurves_137 : decode cX0_linesAndCurves 137 = .ok (.iconst 0, 1) := by decide +kernel
theorem dX0_linesAndCurves_138 : decode cX0_linesAndCurves 138 = .ok (.invokevirtual 93, 3) := by decide +kernel
theorem dX0_linesAndCurves_141 : decode cX0_linesAndCurves 141 = .ok (.ireturn, 1) := by decide +kernel
theorem dX0_linesAndCurves_142 : decode cX0_linesAndCurves 142 = .ok (.aload_n 0, 1) := by decide +kernel
theorem dX0_linesAndCurves_143 : decode cX0_linesAndCurves 143 = .ok (.iconst 0, 1) := by decide +kernel
theorem dX0_linesAndCurves_144 : decode cX0_linesAndCurves 144 = .ok (.invokevirtual 97, 3) := by decide +kernel
theorem dX0_linesAndCurves_147 : decode cX0_linesAndCurves 147 = .ok (.ireturn, 1) := by decide +kernel
theorem dX0_linesAndCurves_148 : decode cX0_linesAndCurves 148 = .ok (.aload_n 0, 1) := by decide +kernel
theorem dX0_linesAndCurves_149 : decode cX0_linesAndCurves 149 = .ok (.iconst 2, 1) := by decide +kernel
theorem dX0_linesAndCurves_150 : decode cX0_linesAndCurves 150 = .ok (.invokevirtual 97, 3) := by decide +kernel
theorem dX0_linesAndCurves_153 : decode cX0_linesAndCurves 153 = .ok (.ireturn, 1) := by decide +kernel
theorem dX0_linesAndCurves_154 : decode cX0_linesAndCurves 154 = .ok (.aload_n 0, 1) := by decide +kernel
theorem dX0_linesAndCurves_155 : decode cX0_linesAndCurves 155 = .ok (.bipush 6, 2) := by decide +kernel
theorem dX0_linesAndCurves_157 : decode cX0_linesAndCurves 157 = .ok (.invokevirtual 90, 3) := by decide +kernel
theorem dX0_linesAndCurves_160 : decode cX0_linesAndCurves 160 = .ok (.ireturn, 1) := by decide +kernel
theorem dX0_linesAndCurves_161 : decode cX0_linesAndCurves 161 = .ok (.aload_n 0, 1) := by decide +kernel
theorem dX0_linesAndCurves_162 : decode cX0_linesAndCurves 162 = .ok (.iconst 0, 1) := by decide +kernel
theorem dX0_linesAndCurves_163 : decode cX0_linesAndCurves 163 = .ok (.invokevirtual 100, 3) := by decide +kernel
theorem dX0_linesAndCurves_166 : decode cX0_linesAndCurves 166 = .ok (.ireturn, 1) := by decide +kernel
theorem dX0_linesAndCurves_167 : decode cX0_linesAndCurves 167 = .ok (.aload_n 0, 1) := by decide +kernel
theorem dX0_linesAndCurves_168 : decode cX0_linesAndCurves 168 = .ok (.iconst 1, 1) := by decide +kernel
theorem dX0_linesAndCurves_169 : decode cX0_linesAndCurves 169 = .ok (.invokevirtual 100, 3) := by decide +kernel
theorem dX0_linesAndCurves_172 : decode cX0_linesAndCurves 172 = .ok (.ireturn, 1) := by decide +kernel
theorem dX0_linesAndCurves_173 : decode cX0_linesAndCurves 173 = .ok (.aload_n 0, 1) := by decide +kernel
theorem dX0_linesAndCurves_174 : decode cX0_linesAndCurves 174 = .ok (.iconst 0, 1) := by decide +kernel
theorem dX0_linesAndCurves_175 : decode cX0_linesAndCurves 175 = .ok (.invokevirtual 103, 3) := by decide +kernel
theorem dX0_linesAndCurves_178 : decode cX0_linesAndCurves 178 = .ok (.ireturn, 1) := by decide +kernel
theorem dX0_linesAndCurves_179 : decode cX0_linesAndCurves 179 = .ok (.aload_n 0, 1) := by decide +kernel
theorem dX0_linesAndCurves_180 : decode cX0_linesAndCurves 180 = .ok (.iconst 1, 1) := by decide +kernel
theorem dX0_linesAndCurves_181 : decode cX0_linesAndCurves 181 = .ok (.invokevirtual 103, 3) := by decide +kernel
theorem dX0_linesAndCurves_184 : decode cX0_linesAndCurves 184 = .ok (.ireturn, 1) := by decide +kernel
theorem dX0_linesAndCurves_185 : decode cX0_linesAndCurves 185 = .ok (.aload_n 0, 1) := by decide +kernel
theorem dX0_linesAndCurves_186 : decode cX0_linesAndCurves 186 = .ok (.getfield 15, 3) := by decide +kernel
theorem dX0_linesAndCurves_189 : decode cX0_linesAndCurves 189 = .ok (.invokevirtual 106, 3) := by decide +kernel
theorem dX0_linesAndCurves_192 : decode cX0_linesAndCurves 192 = .ok (.bipush 7, 2) := by decide +kernel
theorem dX0_linesAndCurves_194 : decode cX0_linesAndCurves 194 = .ok (.if_icmp .ne 10, 3) := by decide +kernel
theorem dX0_linesAndCurves_197 : decode cX0_linesAndCurves 197 = .ok (.aload_n 0, 1) := by decide +kernel
theorem dX0_linesAndCurves_198 : decode cX0_linesAndCurves 198 = .ok (.invokevirtual 107, 3) := by decide +kernel
theorem dX0_linesAndCurves_201 : decode cX0_linesAndCurves 201 = .ok (.goto 4, 3) := by decide +kernel
theorem dX0_linesAndCurves_204 : decode cX0_linesAndCurves 204 = .ok (.iconst 2, 1) := by decide +kernel
theorem dX0_linesAndCurves_205 : decode cX0_linesAndCurves 205 = .ok (.ireturn, 1) := by decide +kernel
theorem dX0_linesAndCurves_206 : decode cX0_linesAndCurves 206 = .ok (.aload_n 0, 1) := by decide +kernel
theorem dX0_linesAndCurves_207 : decode cX0_linesAndCurves 207 = .ok (.getfield 15, 3) := by decide +kernel
theorem dX0_linesAndCurves_210 : decode cX0_linesAndCurves 210 = .ok (.invokevirtual 106, 3) := by decide +kernel
theorem dX0_linesAndCurves_213 : decode cX0_linesAndCurves 213 = .ok (.bipush 13, 2) := by decide +kernel
theorem dX0_linesAndCurves_215 : decode cX0_linesAndCurves 215 = .ok (.if_icmp .ne 13, 3) := by decide +kernel
theorem dX0_linesAndCurves_218 : decode cX0_linesAndCurves 218 = .ok (.aload_n 0, 1) := by decide +kernel
theorem dX0_linesAndCurves_219 : decode cX0_linesAndCurves 219 = .ok (.iconst 0, 1) := by decide +kernel
theorem dX0_linesAndCurves_220 : decode cX0_linesAndCurves 220 = .ok (.bipush 12, 2) := by decide +kernel
theorem dX0_linesAndCurves_222 : decode cX0_linesAndCurves 222 = .ok (.invokevirtual 110, 3) := by decide +kernel
theorem dX0_linesAndCurves_225 : decode cX0_linesAndCurves 225 = .ok (.goto 4, 3) := by decide +kernel
theorem dX0_linesAndCurves_228 : decode cX0_linesAndCurves 228 = .ok (.iconst 2, 1) := by decide +kernel
theorem dX0_linesAndCurves_229 : decode cX0_linesAndCurves 229 = .ok (.ireturn, 1) := by decide +kernel
theorem dX0_linesAndCurves_230 : decode cX0_linesAndCurves 230 = .ok (.aload_n 0, 1) := by decide +kernel
theorem dX0_linesAndCurves_231 : decode cX0_linesAndCurves 231 = .ok (.getfield 15, 3) := by decide +kernel
theorem dX0_linesAndCurves_234 : decode cX0_linesAndCurves 234 = .ok (.invokevirtual 106, 3) := by decide +kernel
theorem dX0_linesAndCurves_237 : decode cX0_linesAndCurves 237 = .ok (.bipush 9, 2) := by decide +kernel
theorem dX0_linesAndCurves_239 : decode cX0_linesAndCurves 239 = .ok (.if_icmp .ne 10, 3) := by decide +kernel
theorem dX0_linesAndCurves_242 : decode cX0_linesAndCurves 242 = .ok (.aload_n 0, 1) := by decide +kernel
theorem dX0_linesAndCurves_243 : decode cX0_linesAndCurves 243 = .ok (.invokevirtual 114, 3) := by decide +kernel
theorem dX0_linesAndCurves_246 : decode cX0_linesAndCurves 246 = .ok (.goto 4, 3) := by decide +kernel
theorem dX0_linesAndCurves_249 : decode cX0_linesAndCurves 249 = .ok (.iconst 2, 1) := by decide +kernel
theorem dX0_linesAndCurves_250 : decode cX0_linesAndCurves 250 = .ok (.ireturn, 1) := by decide +kernel
theorem dX0_linesAndCurves_251 : decode cX0_linesAndCurves 251 = .ok (.aload_n 0, 1) := by decide +kernel
theorem dX0_linesAndCurves_252 : decode cX0_linesAndCurves 252 = .ok (.getfield 15, 3) := by decide +kernel
theorem dX0_linesAndCurves_255 : decode cX0_linesAndCurves 255 = .ok (.invokevirtual 106, 3) := by decide +kernel
theorem dX0_linesAndCurves_258 : decode cX0_linesAndCurves 258 = .ok (.bipush 11, 2) := by decide +kernel
theorem dX0_linesAndCurves_260 : decode cX0_linesAndCurves 260 = .ok (.if_icmp .ne 10, 3) := by decide +kernel
theorem dX0_linesAndCurves_263 : decode cX0_linesAndCurves 263 = .ok (.aload_n 0, 1) := by decide +kernel
theorem dX0_linesAndCurves_264 : decode cX0_linesAndCurves 264 = .ok (.invokevirtual 117, 3) := by decide +kernel
theorem dX0_linesAndCurves_267 : decode cX0_linesAndCurves 267 = .ok (.goto 4, 3) := by decide +kernel
theorem dX0_linesAndCurves_270 : decode cX0_linesAndCurves 270 = .ok (.iconst 2, 1) := by decide +kernel
theorem dX0_linesAndCurves_271 : decode cX0_linesAndCurves 271 = .ok (.ireturn, 1) := by decide +kernel
theorem dX0_linesAndCurves_272 : decode cX0_linesAndCurves 272 = .ok (.iconst 1, 1) := by decide +kernel
theorem dX0_linesAndCurves_273 : decode cX0_linesAndCurves 273 = .ok (.ireturn, 1) := by decide +kernel
theorem dX0_longNumber_0 : decode cX0_longNumber 0 = .ok (.iload_n 1, 1) := by decide +kernel
theorem dX0_longNumber_1 : decode cX0_longNumber 1 = .ok (.i2l, 1) := by decide +kernel
theorem dX0_longNumber_2 : decode cX0_longNumber 2 = .ok (.lreturn, 1) := by decide +kernel
theorem dX0_mask_0 : decode cX0_mask 0 = .ok (.aload_n 0, 1) := by decide +kernel
theorem dX0_mask_1 : decode cX0_mask 1 = .ok (.getfield 15, 3) := by decide +kernel
theorem dX0_mask_4 : decode cX0_mask 4 = .ok (.invokevirtual 106, 3) := by decide +kernel
theorem dX0_mask_7 : decode cX0_mask 7 = .ok (.istore_n 1, 1) := by decide +kernel
theorem dX0_mask_8 : decode cX0_mask 8 = .ok (.aload_n 0, 1) := by decide +kernel
theorem dX0_mask_9 : decode cX0_mask 9 = .ok (.iload_n 1, 1) := by decide +kernel
theorem dX0_mask_10 : decode cX0_mask 10 = .ok (.iconst 2, 1) := by decide +kernel
theorem dX0_mask_11 : decode cX0_mask 11 = .ok (.irem, 1) := by decide +kernel
theorem dX0_mask_12 : decode cX0_mask 12 = .ok (.iconst 1, 1) := by decide +kernel
theorem dX0_mask_13 : decode cX0_mask 13 = .ok (.if_icmp .ne 7, 3) := by decide +kernel
theorem dX0_mask_16 : decode cX0_mask 16 = .ok (.iconst 1, 1) := by decide +kernel
theorem dX0_mask_17 : decode cX0_mask 17 = .ok (.goto 4, 3) := by decide +kernel
theorem dX0_mask_20 : decode cX0_mask 20 = .ok (.iconst 0, 1) := by decide +kernel
theorem dX0_mask_21 : decode cX0_mask 21 = .ok (.invokevirtual 137, 3) := by decide +kernel
theorem dX0_mask_24 : decode cX0_mask 24 = .ok (.istore_n 2, 1) := by decide +kernel
theorem dX0_mask_25 : decode cX0_mask 25 = .ok (.iload_n 1, 1) := by decide +kernel
theorem dX0_mask_26 : decode cX0_mask 26 = .ok (.iload_n 2, 1) := by decide +kernel
theorem dX0_mask_27 : decode cX0_mask 27 = .ok (.isub, 1) := by decide +kernel
theorem dX0_mask_28 : decode cX0_mask 28 = .ok (.istore_n 3, 1) := by decide +kernel
theorem dX0_mask_29 : decode cX0_mask 29 = .ok (.iload_n 3, 1) := by decide +kernel
theorem dX0_mask_30 : decode cX0_mask 30 = .ok (.iconst 2, 1) := by decide +kernel
theorem dX0_mask_31 : decode cX0_mask 31 = .ok (.irem, 1) := by decide +kernel
theorem dX0_mask_32 : decode cX0_mask 32 = .ok (.iconst 1, 1) := by decide +kernel
theorem dX0_mask_33 : decode cX0_mask 33 = .ok (.if_icmp .ne 5, 3) := by decide +kernel
theorem dX0_mask_36 : decode cX0_mask 36 = .ok (.iconst 2, 1) := by decide +kernel
theorem dX0_mask_37 : decode cX0_mask 37 = .ok (.ireturn, 1) := by decide +kernel
theorem dX0_mask_38 : decode cX0_mask 38 = .ok (.aload_n 0, 1) := by decide +kernel
theorem dX0_mask_39 : decode cX0_mask 39 = .ok (.iload_n 2, 1) := by decide +kernel
theorem dX0_mask_40 : decode cX0_mask 40 = .ok (.invokevirtual 140, 3) := by decide +kernel
theorem dX0_mask_43 : decode cX0_mask 43 = .ok (.aload_n 0, 1) := by decide +kernel
theorem dX0_mask_44 : decode cX0_mask 44 = .ok (.dup, 1) := by decide +kernel
theorem dX0_mask_45 : decode cX0_mask 45 = .ok (.getfield 143, 3) := by decide +kernel
theorem dX0_mask_48 : decode cX0_mask 48 = .ok (.iload_n 3, 1) := by decide +kernel
theorem dX0_mask_49 : decode cX0_mask 49 = .ok (.iconst 2, 1) := by decide +kernel
theorem dX0_mask_50 : decode cX0_mask 50 = .ok (.idiv, 1) := by decide +kernel
theorem dX0_mask_51 : decode cX0_mask 51 = .ok (.iadd, 1) := by decide +kernel
theorem dX0_mask_52 : decode cX0_mask 52 = .ok (.putfield 143, 3) := by decide +kernel
theorem dX0_mask_55 : decode cX0_mask 55 = .ok (.aload_n 0, 1) := by decide +kernel
theorem dX0_mask_56 : decode cX0_mask 56 = .ok (.aload_n 0, 1) := by decide +kernel
theorem dX0_mask_57 : decode cX0_mask 57 = .ok (.getfield 143, 3) := by decide +kernel
theorem dX0_mask_60 : decode cX0_mask 60 = .ok (.bipush 7, 2) := by decide +kernel
theorem dX0_mask_62 : decode cX0_mask 62 = .ok (.iadd, 1) := by decide +kernel
theorem dX0_mask_63 : decode cX0_mask 63 = .ok (.bipush 8, 2) := by decide +kernel
theorem dX0_mask_65 : decode cX0_mask 65 = .ok (.idiv, 1) := by decide +kernel
theorem dX0_mask_66 : decode cX0_mask 66 = .ok (.invokevirtual 146, 3) := by decide +kernel
theorem dX0_mask_69 : decode cX0_mask 69 = .ok (.ifCond .eq 7, 3) := by decide +kernel
theorem dX0_mask_72 : decode cX0_mask 72 = .ok (.iconst 0, 1) := by decide +kernel
theorem dX0_mask_73 : decode cX0_mask 73 = .ok (.goto 5, 3) := by decide +kernel
theorem dX0_mask_76 : decode cX0_mask 76 = .ok (.bipush 7, 2) := by decide +kernel
theorem dX0_mask_78 : decode cX0_mask 78 = .ok (.ireturn, 1) := by decide +kernel
theorem dX0_mayTellWidth_0 : decode cX0_mayTellWidth 0 = .ok (.iload_n 0, 1) := by decide +kernel
theorem dX0_mayTellWidth_1 : decode cX0_mayTellWidth 1 = .ok (.tableswitch 109 1 23 #[107, 109, 107, 107, 109, 109, 109, 109, 109, 109, 109, 109, 109, 107, 109, 109, 109, 107, 107, 107, 107, 107, 107], 107) := by decide +kernel
theorem dX0_mayTellWidth_108 : decode cX0_mayTellWidth 108 = .ok (.iconst 1, 1) := by decide +kernel
theorem dX0_mayTellWidth_109 : decode cX0_mayTellWidth 109 = .ok (.ireturn, 1) := by decide +kernel
theorem dX0_mayTellWidth_110 : decode cX0_mayTellWidth 110 = .ok (.iconst 0, 1) := by decide +kernel
theorem dX0_mayTellWidth_111 : decode cX0_mayTellWidth 111 = .ok (.ireturn, 1) := by decide +kernel
theorem dX0_move_0 : decode cX0_move 0 = .ok (.iload_n 1, 1) := by decide +kernel
theorem dX0_move_1 : decode cX0_move 1 = .ok (.bipush 21, 2) := by decide +kernel
theorem dX0_move_3 : decode cX0_move 3 = .ok (.if_icmp .ne 7, 3) := by decide +kernel
theorem dX0_move_6 : decode cX0_move 6 = .ok (.iconst 2, 1) := by decide +kernel
theorem dX0_move_7 : decode cX0_move 7 = .ok (.goto 4, 3) := by decide +kernel
theorem dX0_move_10 : decode cX0_move 10 = .ok (.iconst 1, 1) := by decide +kernel
theorem dX0_move_11 : decode cX0_move 11 = .ok (.istore_n 2, 1) := by decide +kernel
theorem dX0_move_12 : decode cX0_move 12 = .ok (.aload_n 0, 1) := by decide +kernel
theorem dX0_move_13 : decode cX0_move 13 = .ok (.aload_n 0, 1) := by decide +kernel
theorem dX0_move_14 : decode cX0_move 14 = .ok (.getfield 15, 3) := by decide +kernel
theorem dX0_move_17 : decode cX0_move 17 = .ok (.invokevirtual 106, 3) := by decide +kernel
theorem dX0_move_20 : decode cX0_move 20 = .ok (.iload_n 2, 1) := by decide +kernel
theorem dX0_move_21 : decode cX0_move 21 = .ok (.iconst 1, 1) := by decide +kernel
theorem dX0_move_22 : decode cX0_move 22 = .ok (.iadd, 1) := by decide +kernel
theorem dX0_move_23 : decode cX0_move 23 = .ok (.if_icmp .ne 7, 3) := by decide +kernel
theorem dX0_move_26 : decode cX0_move 26 = .ok (.iconst 1, 1) := by decide +kernel
theorem dX0_move_27 : decode cX0_move 27 = .ok (.goto 4, 3) := by decide +kernel
theorem dX0_move_30 : decode cX0_move 30 = .ok (.iconst 0, 1) := by decide +kernel
theorem dX0_move_31 : decode cX0_move 31 = .ok (.invokevirtual 137, 3) := by decide +kernel
theorem dX0_move_34 : decode cX0_move 34 = .ok (.istore_n 3, 1) := by decide +kernel
theorem dX0_move_35 : decode cX0_move 35 = .ok (.aload_n 0, 1) := by decide +kernel
theorem dX0_move_36 : decode cX0_move 36 = .ok (.getfield 15, 3) := by decide +kernel
theorem dX0_move_39 : decode cX0_move 39 = .ok (.invokevirtual 106, 3) := by decide +kernel
theorem dX0_move_42 : decode cX0_move 42 = .ok (.iload_n 3, 1) := by decide +kernel
theorem dX0_move_43 : decode cX0_move 43 = .ok (.isub, 1) := by decide +kernel
theorem dX0_move_44 : decode cX0_move 44 = .ok (.iload_n 2, 1) := by decide +kernel
theorem dX0_move_45 : decode cX0_move 45 = .ok (.if_icmp .eq 5, 3) := by decide +kernel
theorem dX0_move_48 : decode cX0_move 48 = .ok (.iconst 2, 1) := by decide +kernel
theorem dX0_move_49 : decode cX0_move 49 = .ok (.ireturn, 1) := by decide +kernel
theorem dX0_move_50 : decode cX0_move 50 = .ok (.aload_n 0, 1) := by decide +kernel
theorem dX0_move_51 : decode cX0_move 51 = .ok (.iload_n 3, 1) := by decide +kernel
theorem dX0_move_52 : decode cX0_move 52 = .ok (.invokevirtual 140, 3) := by decide +kernel
theorem dX0_move_55 : decode cX0_move 55 = .ok (.aload_n 0, 1) := by decide +kernel
theorem dX0_move_56 : decode cX0_move 56 = .ok (.getfield 149, 3) := by decide +kernel
theorem dX0_move_59 : decode cX0_move 59 = .ok (.invokevirtual 153, 3) := by decide +kernel
theorem dX0_move_62 : decode cX0_move 62 = .ok (.istore 4, 2) := by decide +kernel
theorem dX0_move_64 : decode cX0_move 64 = .ok (.iload 4, 2) := by decide +kernel
theorem dX0_move_66 : decode cX0_move 66 = .ok (.ifCond .eq 6, 3) := by decide +kernel
theorem dX0_move_69 : decode cX0_move 69 = .ok (.iload 4, 2) := by decide +kernel
theorem dX0_move_71 : decode cX0_move 71 = .ok (.ireturn, 1) := by decide +kernel
theorem dX0_move_72 : decode cX0_move 72 = .ok (.aload_n 0, 1) := by decide +kernel
theorem dX0_move_73 : decode cX0_move 73 = .ok (.getfield 15, 3) := by decide +kernel
theorem dX0_move_76 : decode cX0_move 76 = .ok (.iload_n 3, 1) := by decide +kernel
theorem dX0_move_77 : decode cX0_move 77 = .ok (.invokevirtual 126, 3) := by decide +kernel
theorem dX0_move_80 : decode cX0_move 80 = .ok (.lstore 5, 2) := by decide +kernel
theorem dX0_move_82 : decode cX0_move 82 = .ok (.iload_n 1, 1) := by decide +kernel
theorem dX0_move_83 : decode cX0_move 83 = .ok (.lookupswitch 56 #[(21, 25), (22, 45)], 25) := by decide +kernel
theorem dX0_move_108 : decode cX0_move 108 = .ok (.aload_n 0, 1) := by decide +kernel
theorem dX0_move_109 : decode cX0_move 109 = .ok (.getfield 149, 3) := by decide +kernel
theorem dX0_move_112 : decode cX0_move 112 = .ok (.lload 5, 2) := by decide +kernel
theorem dX0_move_114 : decode cX0_move 114 = .ok (.aload_n 0, 1) := by decide +kernel
theorem dX0_move_115 : decode cX0_move 115 = .ok (.getfield 15, 3) := by decide +kernel
theorem dX0_move_118 : decode cX0_move 118 = .ok (.iload_n 3, 1) := by decide +kernel
theorem dX0_move_119 : decode cX0_move 119 = .ok (.iconst 1, 1) := by decide +kernel
theorem dX0_move_120 : decode cX0_move 120 = .ok (.iadd, 1) := by decide +kernel
theorem dX0_move_121 : decode cX0_move 121 = .ok (.invokevirtual 126, 3) := by decide +kernel
theorem dX0_move_124 : decode cX0_move 124 = .ok (.invokevirtual 158, 3) := by decide +kernel
theorem dX0_move_127 : decode cX0_move 127 = .ok (.ireturn, 1) := by decide +kernel
theorem dX0_move_128 : decode cX0_move 128 = .ok (.aload_n 0, 1) := by decide +kernel
theorem dX0_move_129 : decode cX0_move 129 = .ok (.getfield 149, 3) := by decide +kernel
theorem dX0_move_132 : decode cX0_move 132 = .ok (.lload 5, 2) := by decide +kernel
theorem dX0_move_134 : decode cX0_move 134 = .ok (.lconst 0, 1) := by decide +kernel
theorem dX0_move_135 : decode cX0_move 135 = .ok (.invokevirtual 158, 3) := by decide +kernel
theorem dX0_move_138 : decode cX0_move 138 = .ok (.ireturn, 1) := by decide +kernel
theorem dX0_move_139 : decode cX0_move 139 = .ok (.aload_n 0, 1) := by decide +kernel
theorem dX0_move_140 : decode cX0_move 140 = .ok (.getfield 149, 3) := by decide +kernel
theorem dX0_move_143 : decode cX0_move 143 = .ok (.lconst 0, 1) := by decide +kernel
theorem dX0_move_144 : decode cX0_move 144 = .ok (.lload 5, 2) := by decide +kernel
theorem dX0_move_146 : decode cX0_move 146 = .ok (.invokevirtual 158, 3) := by decide +kernel
theorem dX0_move_149 : decode cX0_move 149 = .ok (.ireturn, 1) := by decide +kernel
theorem dX0_operate_0 : decode cX0_operate 0 = .ok (.iload_n 1, 1) := by decide +kernel
theorem dX0_operate_1 : decode cX0_operate 1 = .ok (.lookupswitch 84 #[(10, 35), (11, 79), (29, 57)], 35) := by decide +kernel
theorem dX0_operate_36 : decode cX0_operate 36 = .ok (.aload_n 0, 1) := by decide +kernel
theorem dX0_operate_37 : decode cX0_operate 37 = .ok (.aload_n 0, 1) := by decide +kernel
theorem dX0_operate_38 : decode cX0_operate 38 = .ok (.getfield 25, 3) := by decide +kernel
theorem dX0_operate_41 : decode cX0_operate 41 = .ok (.getfield 29, 3) := by decide +kernel
theorem dX0_operate_44 : decode cX0_operate 44 = .ok (.aload_n 0, 1) := by decide +kernel
theorem dX0_operate_45 : decode cX0_operate 45 = .ok (.getfield 25, 3) := by decide +kernel
theorem dX0_operate_48 : decode cX0_operate 48 = .ok (.getfield 29, 3) := by decide +kernel
theorem dX0_operate_51 : decode cX0_operate 51 = .ok (.invokestatic 35, 3) := by decide +kernel
theorem dX0_operate_54 : decode cX0_operate 54 = .ok (.invokevirtual 39, 3) := by decide +kernel
theorem dX0_operate_57 : decode cX0_operate 57 = .ok (.ireturn, 1) := by decide +kernel
theorem dX0_operate_58 : decode cX0_operate 58 = .ok (.aload_n 0, 1) := by decide +kernel
theorem dX0_operate_59 : decode cX0_operate 59 = .ok (.aload_n 0, 1) := by decide +kernel
theorem dX0_operate_60 : decode cX0_operate 60 = .ok (.getfield 25, 3) := by decide +kernel
theorem dX0_operate_63 : decode cX0_operate 63 = .ok (.getfield 43, 3) := by decide +kernel
theorem dX0_operate_66 : decode cX0_operate 66 = .ok (.aload_n 0, 1) := by decide +kernel
theorem dX0_operate_67 : decode cX0_operate 67 = .ok (.getfield 25, 3) := by decide +kernel
theorem dX0_operate_70 : decode cX0_operate 70 = .ok (.getfield 43, 3) := by decide +kernel
theorem dX0_operate_73 : decode cX0_operate 73 = .ok (.invokestatic 35, 3) := by decide +kernel
theorem dX0_operate_76 : decode cX0_operate 76 = .ok (.invokevirtual 39, 3) := by decide +kernel
theorem dX0_operate_79 : decode cX0_operate 79 = .ok (.ireturn, 1) := by decide +kernel
theorem dX0_operate_80 : decode cX0_operate 80 = .ok (.aload_n 0, 1) := by decide +kernel
theorem dX0_operate_81 : decode cX0_operate 81 = .ok (.invokevirtual 46, 3) := by decide +kernel
theorem dX0_operate_84 : decode cX0_operate 84 = .ok (.ireturn, 1) := by decide +kernel
theorem dX0_operate_85 : decode cX0_operate 85 = .ok (.iload_n 1, 1) := by decide +kernel
theorem dX0_operate_86 : decode cX0_operate 86 = .ok (.sipush 256, 3) := by decide +kernel
theorem dX0_operate_89 : decode cX0_operate 89 = .ok (.if_icmp .lt 23, 3) := by decide +kernel
theorem dX0_operate_92 : decode cX0_operate 92 = .ok (.iload_n 1, 1) := by decide +kernel
theorem dX0_operate_93 : decode cX0_operate 93 = .ok (.invokestatic 50, 3) := by decide +kernel
theorem dX0_operate_96 : decode cX0_operate 96 = .ok (.ifCond .ne 16, 3) := by decide +kernel
theorem dX0_operate_99 : decode cX0_operate 99 = .ok (.aload_n 0, 1) := by decide +kernel
theorem dX0_operate_100 : decode cX0_operate 100 = .ok (.getfield 15, 3) := by decide +kernel
theorem dX0_operate_103 : decode cX0_operate 103 = .ok (.iload_n 1, 1) := by decide +kernel
theorem dX0_operate_104 : decode cX0_operate 104 = .ok (.sipush 256, 3) := by decide +kernel
theorem dX0_operate_107 : decode cX0_operate 107 = .ok (.isub, 1) := by decide +kernel
theorem dX0_operate_108 : decode cX0_operate 108 = .ok (.invokevirtual 54, 3) := by decide +kernel
theorem dX0_operate_111 : decode cX0_operate 111 = .ok (.ireturn, 1) := by decide +kernel
theorem dX0_operate_112 : decode cX0_operate 112 = .ok (.iload_n 1, 1) := by decide +kernel
theorem dX0_operate_113 : decode cX0_operate 113 = .ok (.invokestatic 58, 3) := by decide +kernel
theorem dX0_operate_116 : decode cX0_operate 116 = .ok (.ifCond .eq 11, 3) := by decide +kernel
theorem dX0_operate_119 : decode cX0_operate 119 = .ok (.aload_n 0, 1) := by decide +kernel
theorem dX0_operate_120 : decode cX0_operate 120 = .ok (.iload_n 1, 1) := by decide +kernel
theorem dX0_operate_121 : decode cX0_operate 121 = .ok (.invokevirtual 61, 3) := by decide +kernel
theorem dX0_operate_124 : decode cX0_operate 124 = .ok (.goto 8, 3) := by decide +kernel
theorem dX0_operate_127 : decode cX0_operate 127 = .ok (.aload_n 0, 1) := by decide +kernel
theorem dX0_operate_128 : decode cX0_operate 128 = .ok (.iload_n 1, 1) := by decide +kernel
theorem dX0_operate_129 : decode cX0_operate 129 = .ok (.invokevirtual 64, 3) := by decide +kernel
theorem dX0_operate_132 : decode cX0_operate 132 = .ok (.istore_n 2, 1) := by decide +kernel
theorem dX0_operate_133 : decode cX0_operate 133 = .ok (.aload_n 0, 1) := by decide +kernel
theorem dX0_operate_134 : decode cX0_operate 134 = .ok (.getfield 15, 3) := by decide +kernel
theorem dX0_operate_137 : decode cX0_operate 137 = .ok (.invokevirtual 67, 3) := by decide +kernel
theorem dX0_operate_140 : decode cX0_operate 140 = .ok (.iload_n 2, 1) := by decide +kernel
theorem dX0_operate_141 : decode cX0_operate 141 = .ok (.ireturn, 1) := by decide +kernel
theorem dX0_pairsThenSixes_0 : decode cX0_pairsThenSixes 0 = .ok (.aload_n 0, 1) := by decide +kernel
theorem dX0_pairsThenSixes_1 : decode cX0_pairsThenSixes 1 = .ok (.getfield 15, 3) := by decide +kernel
theorem dX0_pairsThenSixes_4 : decode cX0_pairsThenSixes 4 = .ok (.invokevirtual 106, 3) := by decide +kernel
theorem dX0_pairsThenSixes_7 : decode cX0_pairsThenSixes 7 = .ok (.iload_n 1, 1) := by decide +kernel
theorem dX0_pairsThenSixes_8 : decode cX0_pairsThenSixes 8 = .ok (.isub, 1) := by decide +kernel
theorem dX0_pairsThenSixes_9 : decode cX0_pairsThenSixes 9 = .ok (.istore_n 2, 1) := by decide +kernel
theorem dX0_pairsThenSixes_10 : decode cX0_pairsThenSixes 10 = .ok (.iload_n 2, 1) := by decide +kernel
theorem dX0_pairsThenSixes_11 : decode cX0_pairsThenSixes 11 = .ok (.iconst 2, 1) := by decide +kernel
theorem dX0_pairsThenSixes_12 : decode cX0_pairsThenSixes 12 = .ok (.if_icmp .lt 10, 3) := by decide +kernel
theorem dX0_pairsThenSixes_15 : decode cX0_pairsThenSixes 15 = .ok (.iload_n 2, 1) := by decide +kernel
theorem dX0_pairsThenSixes_16 : decode cX0_pairsThenSixes 16 = .ok (.iconst 2, 1) := by decide +kernel
theorem dX0_pairsThenSixes_17 : decode cX0_pairsThenSixes 17 = .ok (.irem, 1) := by decide +kernel
theorem dX0_pairsThenSixes_18 : decode cX0_pairsThenSixes 18 = .ok (.iconst 1, 1) := by decide +kernel
theorem dX0_pairsThenSixes_19 : decode cX0_pairsThenSixes 19 = .ok (.if_icmp .ne 5, 3) := by decide +kernel
theorem dX0_pairsThenSixes_22 : decode cX0_pairsThenSixes 22 = .ok (.iconst 2, 1) := by decide +kernel
theorem dX0_pairsThenSixes_23 : decode cX0_pairsThenSixes 23 = .ok (.ireturn, 1) := by decide +kernel
theorem dX0_pairsThenSixes_24 : decode cX0_pairsThenSixes 24 = .ok (.aload_n 0, 1) := by decide +kernel
theorem dX0_pairsThenSixes_25 : decode cX0_pairsThenSixes 25 = .ok (.iconst 0, 1) := by decide +kernel
theorem dX0_pairsThenSixes_26 : decode cX0_pairsThenSixes 26 = .ok (.iload_n 2, 1) := by decide +kernel
theorem dX0_pairsThenSixes_27 : decode cX0_pairsThenSixes 27 = .ok (.invokevirtual 165, 3) := by decide +kernel
theorem dX0_pairsThenSixes_30 : decode cX0_pairsThenSixes 30 = .ok (.istore_n 3, 1) := by decide +kernel
theorem dX0_pairsThenSixes_31 : decode cX0_pairsThenSixes 31 = .ok (.iload_n 3, 1) := by decide +kernel
theorem dX0_pairsThenSixes_32 : decode cX0_pairsThenSixes 32 = .ok (.ifCond .ne 18, 3) := by decide +kernel
theorem dX0_pairsThenSixes_35 : decode cX0_pairsThenSixes 35 = .ok (.aload_n 0, 1) := by decide +kernel
theorem dX0_pairsThenSixes_36 : decode cX0_pairsThenSixes 36 = .ok (.iload_n 2, 1) := by decide +kernel
theorem dX0_pairsThenSixes_37 : decode cX0_pairsThenSixes 37 = .ok (.aload_n 0, 1) := by decide +kernel
theorem dX0_pairsThenSixes_38 : decode cX0_pairsThenSixes 38 = .ok (.getfield 15, 3) := by decide +kernel
theorem dX0_pairsThenSixes_41 : decode cX0_pairsThenSixes 41 = .ok (.invokevirtual 106, 3) := by decide +kernel
theorem dX0_pairsThenSixes_44 : decode cX0_pairsThenSixes 44 = .ok (.invokevirtual 110, 3) := by decide +kernel
theorem dX0_pairsThenSixes_47 : decode cX0_pairsThenSixes 47 = .ok (.goto 4, 3) := by decide +kernel
theorem dX0_pairsThenSixes_50 : decode cX0_pairsThenSixes 50 = .ok (.iload_n 3, 1) := by decide +kernel
theorem dX0_pairsThenSixes_51 : decode cX0_pairsThenSixes 51 = .ok (.ireturn, 1) := by decide +kernel
theorem dX0_prepare_0 : decode cX0_prepare 0 = .ok (.aload_n 0, 1) := by decide +kernel
theorem dX0_prepare_1 : decode cX0_prepare 1 = .ok (.getfield 15, 3) := by decide +kernel
theorem dX0_prepare_4 : decode cX0_prepare 4 = .ok (.bipush 48, 2) := by decide +kernel
theorem dX0_prepare_6 : decode cX0_prepare 6 = .ok (.invokevirtual 19, 3) := by decide +kernel
theorem dX0_prepare_9 : decode cX0_prepare 9 = .ok (.aload_n 0, 1) := by decide +kernel
theorem dX0_prepare_10 : decode cX0_prepare 10 = .ok (.iconst 0, 1) := by decide +kernel
theorem dX0_prepare_11 : decode cX0_prepare 11 = .ok (.putfield 9, 3) := by decide +kernel
theorem dX0_prepare_14 : decode cX0_prepare 14 = .ok (.return_, 1) := by decide +kernel
theorem dX0_sixesThenPair_0 : decode cX0_sixesThenPair 0 = .ok (.aload_n 0, 1) := by decide +kernel
theorem dX0_sixesThenPair_1 : decode cX0_sixesThenPair 1 = .ok (.getfield 15, 3) := by decide +kernel
theorem dX0_sixesThenPair_4 : decode cX0_sixesThenPair 4 = .ok (.invokevirtual 106, 3) := by decide +kernel
theorem dX0_sixesThenPair_7 : decode cX0_sixesThenPair 7 = .ok (.iload_n 1, 1) := by decide +kernel
theorem dX0_sixesThenPair_8 : decode cX0_sixesThenPair 8 = .ok (.isub, 1) := by decide +kernel
theorem dX0_sixesThenPair_9 : decode cX0_sixesThenPair 9 = .ok (.istore_n 2, 1) := by decide +kernel
theorem dX0_sixesThenPair_10 : decode cX0_sixesThenPair 10 = .ok (.iload_n 2, 1) := by decide +kernel
theorem dX0_sixesThenPair_11 : decode cX0_sixesThenPair 11 = .ok (.bipush 6, 2) := by decide +kernel
theorem dX0_sixesThenPair_13 : decode cX0_sixesThenPair 13 = .ok (.if_icmp .lt 10, 3) := by decide +kernel
theorem dX0_sixesThenPair_16 : decode cX0_sixesThenPair 16 = .ok (.iload_n 2, 1) := by decide +kernel
theorem dX0_sixesThenPair_17 : decode cX0_sixesThenPair 17 = .ok (.bipush 6, 2) := by decide +kernel
theorem dX0_sixesThenPair_19 : decode cX0_sixesThenPair 19 = .ok (.irem, 1) := by decide +kernel
theorem dX0_sixesThenPair_20 : decode cX0_sixesThenPair 20 = .ok (.ifCond .eq 5, 3) := by decide +kernel
theorem dX0_sixesThenPair_23 : decode cX0_sixesThenPair 23 = .ok (.iconst 2, 1) := by decide +kernel
theorem dX0_sixesThenPair_24 : decode cX0_sixesThenPair 24 = .ok (.ireturn, 1) := by decide +kernel
theorem dX0_sixesThenPair_25 : decode cX0_sixesThenPair 25 = .ok (.aload_n 0, 1) := by decide +kernel
theorem dX0_sixesThenPair_26 : decode cX0_sixesThenPair 26 = .ok (.iconst 0, 1) := by decide +kernel
theorem dX0_sixesThenPair_27 : decode cX0_sixesThenPair 27 = .ok (.iload_n 2, 1) := by decide +kernel
theorem dX0_sixesThenPair_28 : decode cX0_sixesThenPair 28 = .ok (.invokevirtual 110, 3) := by decide +kernel
theorem dX0_sixesThenPair_31 : decode cX0_sixesThenPair 31 = .ok (.istore_n 3, 1) := by decide +kernel
theorem dX0_sixesThenPair_32 : decode cX0_sixesThenPair 32 = .ok (.iload_n 3, 1) := by decide +kernel
theorem dX0_sixesThenPair_33 : decode cX0_sixesThenPair 33 = .ok (.ifCond .ne 18, 3) := by decide +kernel
theorem dX0_sixesThenPair_36 : decode cX0_sixesThenPair 36 = .ok (.aload_n 0, 1) := by decide +kernel
theorem dX0_sixesThenPair_37 : decode cX0_sixesThenPair 37 = .ok (.iload_n 2, 1) := by decide +kernel
theorem dX0_sixesThenPair_38 : decode cX0_sixesThenPair 38 = .ok (.aload_n 0, 1) := by decide +kernel
theorem dX0_sixesThenPair_39 : decode cX0_sixesThenPair 39 = .ok (.getfield 15, 3) := by decide +kernel
theorem dX0_sixesThenPair_42 : decode cX0_sixesThenPair 42 = .ok (.invokevirtual 106, 3) := by decide +kernel
theorem dX0_sixesThenPair_45 : decode cX0_sixesThenPair 45 = .ok (.invokevirtual 165, 3) := by decide +kernel
theorem dX0_sixesThenPair_48 : decode cX0_sixesThenPair 48 = .ok (.goto 4, 3) := by decide +kernel
theorem dX0_sixesThenPair_51 : decode cX0_sixesThenPair 51 = .ok (.iload_n 3, 1) := by decide +kernel
theorem dX0_sixesThenPair_52 : decode cX0_sixesThenPair 52 = .ok (.ireturn, 1) := by decide +kernel
theorem dX0_stems_0 : decode cX0_stems 0 = .ok (.aload_n 0, 1) := by decide +kernel
theorem dX0_stems_1 : decode cX0_stems 1 = .ok (.getfield 15, 3) := by decide +kernel
theorem dX0_stems_4 : decode cX0_stems 4 = .ok (.invokevirtual 106, 3) := by decide +kernel
theorem dX0_stems_7 : decode cX0_stems 7 = .ok (.istore_n 1, 1) := by decide +kernel
theorem dX0_stems_8 : decode cX0_stems 8 = .ok (.aload_n 0, 1) := by decide +kernel
theorem dX0_stems_9 : decode cX0_stems 9 = .ok (.iload_n 1, 1) := by decide +kernel
theorem dX0_stems_10 : decode cX0_stems 10 = .ok (.iconst 2, 1) := by decide +kernel
theorem dX0_stems_11 : decode cX0_stems 11 = .ok (.irem, 1) := by decide +kernel
theorem dX0_stems_12 : decode cX0_stems 12 = .ok (.iconst 1, 1) := by decide +kernel
theorem dX0_stems_13 : decode cX0_stems 13 = .ok (.if_icmp .ne 7, 3) := by decide +kernel
theorem dX0_stems_16 : decode cX0_stems 16 = .ok (.iconst 1, 1) := by decide +kernel
theorem dX0_stems_17 : decode cX0_stems 17 = .ok (.goto 4, 3) := by decide +kernel
theorem dX0_stems_20 : decode cX0_stems 20 = .ok (.iconst 0, 1) := by decide +kernel
theorem dX0_stems_21 : decode cX0_stems 21 = .ok (.invokevirtual 137, 3) := by decide +kernel
theorem dX0_stems_24 : decode cX0_stems 24 = .ok (.istore_n 2, 1) := by decide +kernel
theorem dX0_stems_25 : decode cX0_stems 25 = .ok (.iload_n 1, 1) := by decide +kernel
theorem dX0_stems_26 : decode cX0_stems 26 = .ok (.iload_n 2, 1) := by decide +kernel
theorem dX0_stems_27 : decode cX0_stems 27 = .ok (.isub, 1) := by decide +kernel
theorem dX0_stems_28 : decode cX0_stems 28 = .ok (.istore_n 3, 1) := by decide +kernel
theorem dX0_stems_29 : decode cX0_stems 29 = .ok (.iload_n 3, 1) := by decide +kernel
theorem dX0_stems_30 : decode cX0_stems 30 = .ok (.iconst 2, 1) := by decide +kernel
theorem dX0_stems_31 : decode cX0_stems 31 = .ok (.if_icmp .lt 10, 3) := by decide +kernel
theorem dX0_stems_34 : decode cX0_stems 34 = .ok (.iload_n 3, 1) := by decide +kernel
theorem dX0_stems_35 : decode cX0_stems 35 = .ok (.iconst 2, 1) := by decide +kernel
theorem dX0_stems_36 : decode cX0_stems 36 = .ok (.irem, 1) := by decide +kernel
theorem dX0_stems_37 : decode cX0_stems 37 = .ok (.iconst 1, 1) := by decide +kernel
theorem dX0_stems_38 : decode cX0_stems 38 = .ok (.if_icmp .ne 5, 3) := by decide +kernel
theorem dX0_stems_41 : decode cX0_stems 41 = .ok (.iconst 2, 1) := by decide +kernel
theorem dX0_stems_42 : decode cX0_stems 42 = .ok (.ireturn, 1) := by decide +kernel
theorem dX0_stems_43 : decode cX0_stems 43 = .ok (.aload_n 0, 1) := by decide +kernel
theorem dX0_stems_44 : decode cX0_stems 44 = .ok (.iload_n 2, 1) := by decide +kernel
theorem dX0_stems_45 : decode cX0_stems 45 = .ok (.invokevirtual 140, 3) := by decide +kernel
theorem dX0_stems_48 : decode cX0_stems 48 = .ok (.aload_n 0, 1) := by decide +kernel
theorem dX0_stems_49 : decode cX0_stems 49 = .ok (.dup, 1) := by decide +kernel
theorem dX0_stems_50 : decode cX0_stems 50 = .ok (.getfield 143, 3) := by decide +kernel
theorem dX0_stems_53 : decode cX0_stems 53 = .ok (.iload_n 3, 1) := by decide +kernel
theorem dX0_stems_54 : decode cX0_stems 54 = .ok (.iconst 2, 1) := by decide +kernel
theorem dX0_stems_55 : decode cX0_stems 55 = .ok (.idiv, 1) := by decide +kernel
theorem dX0_stems_56 : decode cX0_stems 56 = .ok (.iadd, 1) := by decide +kernel
theorem dX0_stems_57 : decode cX0_stems 57 = .ok (.putfield 143, 3) := by decide +kernel
theorem dX0_stems_60 : decode cX0_stems 60 = .ok (.iconst 0, 1) := by decide +kernel
theorem dX0_stems_61 : decode cX0_stems 61 = .ok (.ireturn, 1) := by decide +kernel
theorem dX0_straightCurves_0 : decode cX0_straightCurves 0 = .ok (.aload_n 0, 1) := by decide +kernel
theorem dX0_straightCurves_1 : decode cX0_straightCurves 1 = .ok (.getfield 15, 3) := by decide +kernel
theorem dX0_straightCurves_4 : decode cX0_straightCurves 4 = .ok (.invokevirtual 106, 3) := by decide +kernel
theorem dX0_straightCurves_7 : decode cX0_straightCurves 7 = .ok (.istore_n 2, 1) := by decide +kernel
theorem dX0_straightCurves_8 : decode cX0_straightCurves 8 = .ok (.iload_n 2, 1) := by decide +kernel
theorem dX0_straightCurves_9 : decode cX0_straightCurves 9 = .ok (.iconst 4, 1) := by decide +kernel
theorem dX0_straightCurves_10 : decode cX0_straightCurves 10 = .ok (.irem, 1) := by decide +kernel
theorem dX0_straightCurves_11 : decode cX0_straightCurves 11 = .ok (.istore_n 3, 1) := by decide +kernel
theorem dX0_straightCurves_12 : decode cX0_straightCurves 12 = .ok (.iload_n 2, 1) := by decide +kernel
theorem dX0_straightCurves_13 : decode cX0_straightCurves 13 = .ok (.iconst 4, 1) := by decide +kernel
theorem dX0_straightCurves_14 : decode cX0_straightCurves 14 = .ok (.if_icmp .lt 8, 3) := by decide +kernel
theorem dX0_straightCurves_17 : decode cX0_straightCurves 17 = .ok (.iload_n 3, 1) := by decide +kernel
theorem dX0_straightCurves_18 : decode cX0_straightCurves 18 = .ok (.iconst 1, 1) := by decide +kernel
theorem dX0_straightCurves_19 : decode cX0_straightCurves 19 = .ok (.if_icmp .le 5, 3) := by decide +kernel
theorem dX0_straightCurves_22 : decode cX0_straightCurves 22 = .ok (.iconst 2, 1) := by decide +kernel
theorem dX0_straightCurves_23 : decode cX0_straightCurves 23 = .ok (.ireturn, 1) := by decide +kernel
theorem dX0_straightCurves_24 : decode cX0_straightCurves 24 = .ok (.iload_n 3, 1) := by decide +kernel
theorem dX0_straightCurves_25 : decode cX0_straightCurves 25 = .ok (.iconst 1, 1) := by decide +kernel
theorem dX0_straightCurves_26 : decode cX0_straightCurves 26 = .ok (.if_icmp .ne 14, 3) := by decide +kernel
theorem dX0_straightCurves_29 : decode cX0_straightCurves 29 = .ok (.aload_n 0, 1) := by decide +kernel
theorem dX0_straightCurves_30 : decode cX0_straightCurves 30 = .ok (.getfield 15, 3) := by decide +kernel
theorem dX0_straightCurves_33 : decode cX0_straightCurves 33 = .ok (.iconst 0, 1) := by decide +kernel
theorem dX0_straightCurves_34 : decode cX0_straightCurves 34 = .ok (.invokevirtual 126, 3) := by decide +kernel
theorem dX0_straightCurves_37 : decode cX0_straightCurves 37 = .ok (.goto 4, 3) := by decide +kernel
theorem dX0_straightCurves_40 : decode cX0_straightCurves 40 = .ok (.lconst 0, 1) := by decide +kernel
theorem dX0_straightCurves_41 : decode cX0_straightCurves 41 = .ok (.lstore 4, 2) := by decide +kernel
theorem dX0_straightCurves_43 : decode cX0_straightCurves 43 = .ok (.iconst 0, 1) := by decide +kernel
theorem dX0_straightCurves_44 : decode cX0_straightCurves 44 = .ok (.istore 6, 2) := by decide +kernel
theorem dX0_straightCurves_46 : decode cX0_straightCurves 46 = .ok (.iload_n 3, 1) := by decide +kernel
theorem dX0_straightCurves_47 : decode cX0_straightCurves 47 = .ok (.istore 7, 2) := by decide +kernel
theorem dX0_straightCurves_49 : decode cX0_straightCurves 49 = .ok (.iload 7, 2) := by decide +kernel
theorem dX0_straightCurves_51 : decode cX0_straightCurves 51 = .ok (.iconst 4, 1) := by decide +kernel
theorem dX0_straightCurves_52 : decode cX0_straightCurves 52 = .ok (.iadd, 1) := by decide +kernel
theorem dX0_straightCurves_53 : decode cX0_straightCurves 53 = .ok (.iload_n 2, 1) := by decide +kernel
theorem dX0_straightCurves_54 : decode cX0_straightCurves 54 = .ok (.if_icmp .gt 112, 3) := by decide +kernel
theorem dX0_straightCurves_57 : decode cX0_straightCurves 57 = .ok (.iload 6, 2) := by decide +kernel
theorem dX0_straightCurves_59 : decode cX0_straightCurves 59 = .ok (.ifCond .ne 107, 3) := by decide +kernel
theorem dX0_straightCurves_62 : decode cX0_straightCurves 62 = .ok (.aload_n 0, 1) := by decide +kernel
theorem dX0_straightCurves_63 : decode cX0_straightCurves 63 = .ok (.getfield 15, 3) := by decide +kernel
theorem dX0_straightCurves_66 : decode cX0_straightCurves 66 = .ok (.iload 7, 2) := by decide +kernel
theorem dX0_straightCurves_68 : decode cX0_straightCurves 68 = .ok (.invokevirtual 126, 3) := by decide +kernel
theorem dX0_straightCurves_71 : decode cX0_straightCurves 71 = .ok (.lstore 8, 2) := by decide +kernel
theorem dX0_straightCurves_73 : decode cX0_straightCurves 73 = .ok (.aload_n 0, 1) := by decide +kernel
theorem dX0_straightCurves_74 : decode cX0_straightCurves 74 = .ok (.getfield 15, 3) := by decide +kernel
theorem dX0_straightCurves_77 : decode cX0_straightCurves 77 = .ok (.iload 7, 2) := by decide +kernel
theorem dX0_straightCurves_79 : decode cX0_straightCurves 79 = .ok (.iconst 1, 1) := by decide +kernel
theorem dX0_straightCurves_80 : decode cX0_straightCurves 80 = .ok (.iadd, 1) := by decide +kernel
theorem dX0_straightCurves_81 : decode cX0_straightCurves 81 = .ok (.invokevirtual 126, 3) := by decide +kernel
theorem dX0_straightCurves_84 : decode cX0_straightCurves 84 = .ok (.lstore 10, 2) := by decide +kernel
theorem dX0_straightCurves_86 : decode cX0_straightCurves 86 = .ok (.aload_n 0, 1) := by decide +kernel
theorem dX0_straightCurves_87 : decode cX0_straightCurves 87 = .ok (.getfield 15, 3) := by decide +kernel
theorem dX0_straightCurves_90 : decode cX0_straightCurves 90 = .ok (.iload 7, 2) := by decide +kernel
theorem dX0_straightCurves_92 : decode cX0_straightCurves 92 = .ok (.iconst 2, 1) := by decide +kernel
theorem dX0_straightCurves_93 : decode cX0_straightCurves 93 = .ok (.iadd, 1) := by decide +kernel
theorem dX0_straightCurves_94 : decode cX0_straightCurves 94 = .ok (.invokevirtual 126, 3) := by decide +kernel
theorem dX0_straightCurves_97 : decode cX0_straightCurves 97 = .ok (.lstore 12, 2) := by decide +kernel
theorem dX0_straightCurves_99 : decode cX0_straightCurves 99 = .ok (.aload_n 0, 1) := by decide +kernel
theorem dX0_straightCurves_100 : decode cX0_straightCurves 100 = .ok (.getfield 15, 3) := by decide +kernel
theorem dX0_straightCurves_103 : decode cX0_straightCurves 103 = .ok (.iload 7, 2) := by decide +kernel
theorem dX0_straightCurves_105 : decode cX0_straightCurves 105 = .ok (.iconst 3, 1) := by decide +kernel
theorem dX0_straightCurves_106 : decode cX0_straightCurves 106 = .ok (.iadd, 1) := by decide +kernel
theorem dX0_straightCurves_107 : decode cX0_straightCurves 107 = .ok (.invokevirtual 126, 3) := by decide +kernel
theorem dX0_straightCurves_110 : decode cX0_straightCurves 110 = .ok (.lstore 14, 2) := by decide +kernel
theorem dX0_straightCurves_112 : decode cX0_straightCurves 112 = .ok (.iload_n 1, 1) := by decide +kernel
theorem dX0_straightCurves_113 : decode cX0_straightCurves 113 = .ok (.ifCond .eq 24, 3) := by decide +kernel
theorem dX0_straightCurves_116 : decode cX0_straightCurves 116 = .ok (.aload_n 0, 1) := by decide +kernel
theorem dX0_straightCurves_117 : decode cX0_straightCurves 117 = .ok (.getfield 149, 3) := by decide +kernel
theorem dX0_straightCurves_120 : decode cX0_straightCurves 120 = .ok (.lload 8, 2) := by decide +kernel
theorem dX0_straightCurves_122 : decode cX0_straightCurves 122 = .ok (.lload 4, 2) := by decide +kernel
theorem dX0_straightCurves_124 : decode cX0_straightCurves 124 = .ok (.lload 10, 2) := by decide +kernel
theorem dX0_straightCurves_126 : decode cX0_straightCurves 126 = .ok (.lload 12, 2) := by decide +kernel
theorem dX0_straightCurves_128 : decode cX0_straightCurves 128 = .ok (.lload 14, 2) := by decide +kernel
theorem dX0_straightCurves_130 : decode cX0_straightCurves 130 = .ok (.lconst 0, 1) := by decide +kernel
theorem dX0_straightCurves_131 : decode cX0_straightCurves 131 = .ok (.invokevirtual 171, 3) := by decide +kernel
theorem dX0_straightCurves_134 : decode cX0_straightCurves 134 = .ok (.goto 21, 3) := by decide +kernel
theorem dX0_straightCurves_137 : decode cX0_straightCurves 137 = .ok (.aload_n 0, 1) := by decide +kernel
theorem dX0_straightCurves_138 : decode cX0_straightCurves 138 = .ok (.getfield 149, 3) := by decide +kernel
theorem dX0_straightCurves_141 : decode cX0_straightCurves 141 = .ok (.lload 4, 2) := by decide +kernel
theorem dX0_straightCurves_143 : decode cX0_straightCurves 143 = .ok (.lload 8, 2) := by decide +kernel
theorem dX0_straightCurves_145 : decode cX0_straightCurves 145 = .ok (.lload 10, 2) := by decide +kernel
theorem dX0_straightCurves_147 : decode cX0_straightCurves 147 = .ok (.lload 12, 2) := by decide +kernel
theorem dX0_straightCurves_149 : decode cX0_straightCurves 149 = .ok (.lconst 0, 1) := by decide +kernel
theorem dX0_straightCurves_150 : decode cX0_straightCurves 150 = .ok (.lload 14, 2) := by decide +kernel
theorem dX0_straightCurves_152 : decode cX0_straightCurves 152 = .ok (.invokevirtual 171, 3) := by decide +kernel
theorem dX0_straightCurves_155 : decode cX0_straightCurves 155 = .ok (.istore 6, 2) := by decide +kernel
theorem dX0_straightCurves_157 : decode cX0_straightCurves 157 = .ok (.lconst 0, 1) := by decide +kernel
theorem dX0_straightCurves_158 : decode cX0_straightCurves 158 = .ok (.lstore 4, 2) := by decide +kernel
theorem dX0_straightCurves_160 : decode cX0_straightCurves 160 = .ok (.iinc 7 4, 3) := by decide +kernel
theorem dX0_straightCurves_163 : decode cX0_straightCurves 163 = .ok (.goto (-114), 3) := by decide +kernel
theorem dX0_straightCurves_166 : decode cX0_straightCurves 166 = .ok (.iload 6, 2) := by decide +kernel
theorem dX0_straightCurves_168 : decode cX0_straightCurves 168 = .ok (.ireturn, 1) := by decide +kernel
theorem dX0_tellWidth_0 : decode cX0_tellWidth 0 = .ok (.aload_n 0, 1) := by decide +kernel
theorem dX0_tellWidth_1 : decode cX0_tellWidth 1 = .ok (.getfield 9, 3) := by decide +kernel
theorem dX0_tellWidth_4 : decode cX0_tellWidth 4 = .ok (.ifCond .eq 4, 3) := by decide +kernel
theorem dX0_tellWidth_7 : decode cX0_tellWidth 7 = .ok (.return_, 1) := by decide +kernel
theorem dX0_tellWidth_8 : decode cX0_tellWidth 8 = .ok (.aload_n 0, 1) := by decide +kernel
theorem dX0_tellWidth_9 : decode cX0_tellWidth 9 = .ok (.iconst 1, 1) := by decide +kernel
theorem dX0_tellWidth_10 : decode cX0_tellWidth 10 = .ok (.putfield 9, 3) := by decide +kernel
theorem dX0_tellWidth_13 : decode cX0_tellWidth 13 = .ok (.aload_n 0, 1) := by decide +kernel
theorem dX0_tellWidth_14 : decode cX0_tellWidth 14 = .ok (.iload_n 1, 1) := by decide +kernel
theorem dX0_tellWidth_15 : decode cX0_tellWidth 15 = .ok (.iconst 1, 1) := by decide +kernel
theorem dX0_tellWidth_16 : decode cX0_tellWidth 16 = .ok (.if_icmp .ne 27, 3) := by decide +kernel
theorem dX0_tellWidth_19 : decode cX0_tellWidth 19 = .ok (.aload_n 0, 1) := by decide +kernel
theorem dX0_tellWidth_20 : decode cX0_tellWidth 20 = .ok (.getfield 25, 3) := by decide +kernel
theorem dX0_tellWidth_23 : decode cX0_tellWidth 23 = .ok (.getfield 120, 3) := by decide +kernel
theorem dX0_tellWidth_26 : decode cX0_tellWidth 26 = .ok (.i2l, 1) := by decide +kernel
theorem dX0_tellWidth_27 : decode cX0_tellWidth 27 = .ok (.ldc2_w 124, 3) := by decide +kernel
theorem dX0_tellWidth_30 : decode cX0_tellWidth 30 = .ok (.lmul, 1) := by decide +kernel
theorem dX0_tellWidth_31 : decode cX0_tellWidth 31 = .ok (.aload_n 0, 1) := by decide +kernel
theorem dX0_tellWidth_32 : decode cX0_tellWidth 32 = .ok (.getfield 15, 3) := by decide +kernel
theorem dX0_tellWidth_35 : decode cX0_tellWidth 35 = .ok (.iconst 0, 1) := by decide +kernel
theorem dX0_tellWidth_36 : decode cX0_tellWidth 36 = .ok (.invokevirtual 126, 3) := by decide +kernel
theorem dX0_tellWidth_39 : decode cX0_tellWidth 39 = .ok (.ladd, 1) := by decide +kernel
theorem dX0_tellWidth_40 : decode cX0_tellWidth 40 = .ok (.goto 15, 3) := by decide +kernel
theorem dX0_tellWidth_43 : decode cX0_tellWidth 43 = .ok (.aload_n 0, 1) := by decide +kernel
theorem dX0_tellWidth_44 : decode cX0_tellWidth 44 = .ok (.getfield 25, 3) := by decide +kernel
theorem dX0_tellWidth_47 : decode cX0_tellWidth 47 = .ok (.getfield 130, 3) := by decide +kernel
theorem dX0_tellWidth_50 : decode cX0_tellWidth 50 = .ok (.i2l, 1) := by decide +kernel
theorem dX0_tellWidth_51 : decode cX0_tellWidth 51 = .ok (.ldc2_w 124, 3) := by decide +kernel
theorem dX0_tellWidth_54 : decode cX0_tellWidth 54 = .ok (.lmul, 1) := by decide +kernel
theorem dX0_tellWidth_55 : decode cX0_tellWidth 55 = .ok (.putfield 133, 3) := by decide +kernel
theorem dX0_tellWidth_58 : decode cX0_tellWidth 58 = .ok (.return_, 1) := by decide +kernel
theorem dX0_turningLines_0 : decode cX0_turningLines 0 = .ok (.aload_n 0, 1) := by decide +kernel
theorem dX0_turningLines_1 : decode cX0_turningLines 1 = .ok (.getfield 15, 3) := by decide +kernel
theorem dX0_turningLines_4 : decode cX0_turningLines 4 = .ok (.invokevirtual 106, 3) := by decide +kernel
theorem dX0_turningLines_7 : decode cX0_turningLines 7 = .ok (.istore_n 2, 1) := by decide +kernel
theorem dX0_turningLines_8 : decode cX0_turningLines 8 = .ok (.iload_n 2, 1) := by decide +kernel
theorem dX0_turningLines_9 : decode cX0_turningLines 9 = .ok (.iconst 1, 1) := by decide +kernel
theorem dX0_turningLines_10 : decode cX0_turningLines 10 = .ok (.if_icmp .ge 5, 3) := by decide +kernel
theorem dX0_turningLines_13 : decode cX0_turningLines 13 = .ok (.iconst 2, 1) := by decide +kernel
theorem dX0_turningLines_14 : decode cX0_turningLines 14 = .ok (.ireturn, 1) := by decide +kernel
theorem dX0_turningLines_15 : decode cX0_turningLines 15 = .ok (.iload_n 1, 1) := by decide +kernel
theorem dX0_turningLines_16 : decode cX0_turningLines 16 = .ok (.istore_n 3, 1) := by decide +kernel
theorem dX0_turningLines_17 : decode cX0_turningLines 17 = .ok (.iconst 0, 1) := by decide +kernel
theorem dX0_turningLines_18 : decode cX0_turningLines 18 = .ok (.istore 4, 2) := by decide +kernel
theorem dX0_turningLines_20 : decode cX0_turningLines 20 = .ok (.iconst 0, 1) := by decide +kernel
theorem dX0_turningLines_21 : decode cX0_turningLines 21 = .ok (.istore 5, 2) := by decide +kernel
theorem dX0_turningLines_23 : decode cX0_turningLines 23 = .ok (.iload 5, 2) := by decide +kernel
theorem dX0_turningLines_25 : decode cX0_turningLines 25 = .ok (.iload_n 2, 1) := by decide +kernel
theorem dX0_turningLines_26 : decode cX0_turningLines 26 = .ok (.if_icmp .ge 67, 3) := by decide +kernel
theorem dX0_turningLines_29 : decode cX0_turningLines 29 = .ok (.iload 4, 2) := by decide +kernel
theorem dX0_turningLines_31 : decode cX0_turningLines 31 = .ok (.ifCond .ne 62, 3) := by decide +kernel
theorem dX0_turningLines_34 : decode cX0_turningLines 34 = .ok (.iload_n 3, 1) := by decide +kernel
theorem dX0_turningLines_35 : decode cX0_turningLines 35 = .ok (.ifCond .eq 23, 3) := by decide +kernel
theorem dX0_turningLines_38 : decode cX0_turningLines 38 = .ok (.aload_n 0, 1) := by decide +kernel
theorem dX0_turningLines_39 : decode cX0_turningLines 39 = .ok (.getfield 149, 3) := by decide +kernel
theorem dX0_turningLines_42 : decode cX0_turningLines 42 = .ok (.aload_n 0, 1) := by decide +kernel
theorem dX0_turningLines_43 : decode cX0_turningLines 43 = .ok (.getfield 15, 3) := by decide +kernel
theorem dX0_turningLines_46 : decode cX0_turningLines 46 = .ok (.iload 5, 2) := by decide +kernel
theorem dX0_turningLines_48 : decode cX0_turningLines 48 = .ok (.invokevirtual 126, 3) := by decide +kernel
theorem dX0_turningLines_51 : decode cX0_turningLines 51 = .ok (.lconst 0, 1) := by decide +kernel
theorem dX0_turningLines_52 : decode cX0_turningLines 52 = .ok (.invokevirtual 168, 3) := by decide +kernel
theorem dX0_turningLines_55 : decode cX0_turningLines 55 = .ok (.goto 20, 3) := by decide +kernel
theorem dX0_turningLines_58 : decode cX0_turningLines 58 = .ok (.aload_n 0, 1) := by decide +kernel
theorem dX0_turningLines_59 : decode cX0_turningLines 59 = .ok (.getfield 149, 3) := by decide +kernel
theorem dX0_turningLines_62 : decode cX0_turningLines 62 = .ok (.lconst 0, 1) := by decide +kernel
theorem dX0_turningLines_63 : decode cX0_turningLines 63 = .ok (.aload_n 0, 1) := by decide +kernel
theorem dX0_turningLines_64 : decode cX0_turningLines 64 = .ok (.getfield 15, 3) := by decide +kernel
theorem dX0_turningLines_67 : decode cX0_turningLines 67 = .ok (.iload 5, 2) := by decide +kernel
theorem dX0_turningLines_69 : decode cX0_turningLines 69 = .ok (.invokevirtual 126, 3) := by decide +kernel
theorem dX0_turningLines_72 : decode cX0_turningLines 72 = .ok (.invokevirtual 168, 3) := by decide +kernel
theorem dX0_turningLines_75 : decode cX0_turningLines 75 = .ok (.istore 4, 2) := by decide +kernel
theorem dX0_turningLines_77 : decode cX0_turningLines 77 = .ok (.iload_n 3, 1) := by decide +kernel
theorem dX0_turningLines_78 : decode cX0_turningLines 78 = .ok (.ifCond .ne 7, 3) := by decide +kernel
theorem dX0_turningLines_81 : decode cX0_turningLines 81 = .ok (.iconst 1, 1) := by decide +kernel
theorem dX0_turningLines_82 : decode cX0_turningLines 82 = .ok (.goto 4, 3) := by decide +kernel
theorem dX0_turningLines_85 : decode cX0_turningLines 85 = .ok (.iconst 0, 1) := by decide +kernel
theorem dX0_turningLines_86 : decode cX0_turningLines 86 = .ok (.istore_n 3, 1) := by decide +kernel
theorem dX0_turningLines_87 : decode cX0_turningLines 87 = .ok (.iinc 5 1, 3) := by decide +kernel
theorem dX0_turningLines_90 : decode cX0_turningLines 90 = .ok (.goto (-67), 3) := by decide +kernel
theorem dX0_turningLines_93 : decode cX0_turningLines 93 = .ok (.iload 4, 2) := by decide +kernel
theorem dX0_turningLines_95 : decode cX0_turningLines 95 = .ok (.ireturn, 1) := by decide +kernel
theorem dX0_widthsShare_0 : decode cX0_widthsShare 0 = .ok (.iload_n 1, 1) := by decide +kernel
theorem dX0_widthsShare_1 : decode cX0_widthsShare 1 = .ok (.ifCond .eq 14, 3) := by decide +kernel
theorem dX0_widthsShare_4 : decode cX0_widthsShare 4 = .ok (.aload_n 0, 1) := by decide +kernel
theorem dX0_widthsShare_5 : decode cX0_widthsShare 5 = .ok (.getfield 9, 3) := by decide +kernel
theorem dX0_widthsShare_8 : decode cX0_widthsShare 8 = .ok (.ifCond .ne 7, 3) := by decide +kernel
theorem dX0_widthsShare_11 : decode cX0_widthsShare 11 = .ok (.iconst 1, 1) := by decide +kernel
theorem dX0_widthsShare_12 : decode cX0_widthsShare 12 = .ok (.goto 4, 3) := by decide +kernel
theorem dX0_widthsShare_15 : decode cX0_widthsShare 15 = .ok (.iconst 0, 1) := by decide +kernel
theorem dX0_widthsShare_16 : decode cX0_widthsShare 16 = .ok (.ireturn, 1) := by decide +kernel
theorem dX10_behindEexec_0 : decode cX10_behindEexec 0 = .ok (.ldc 65, 2) := by decide +kernel
theorem dX10_behindEexec_2 : decode cX10_behindEexec 2 = .ok (.astore_n 1, 1) := by decide +kernel
theorem dX10_behindEexec_3 : decode cX10_behindEexec 3 = .ok (.aload_n 1, 1) := by decide +kernel
theorem dX10_behindEexec_4 : decode cX10_behindEexec 4 = .ok (.invokevirtual 67, 3) := by decide +kernel
theorem dX10_behindEexec_7 : decode cX10_behindEexec 7 = .ok (.istore_n 2, 1) := by decide +kernel
theorem dX10_behindEexec_8 : decode cX10_behindEexec 8 = .ok (.iconst 0, 1) := by decide +kernel
theorem dX10_behindEexec_9 : decode cX10_behindEexec 9 = .ok (.istore_n 3, 1) := by decide +kernel
theorem dX10_behindEexec_10 : decode cX10_behindEexec 10 = .ok (.iload_n 3, 1) := by decide +kernel
theorem dX10_behindEexec_11 : decode cX10_behindEexec 11 = .ok (.iload_n 2, 1) := by decide +kernel
theorem dX10_behindEexec_12 : decode cX10_behindEexec 12 = .ok (.iadd, 1) := by decide +kernel
theorem dX10_behindEexec_13 : decode cX10_behindEexec 13 = .ok (.aload_n 0, 1) := by decide +kernel
theorem dX10_behindEexec_14 : decode cX10_behindEexec 14 = .ok (.invokevirtual 23, 3) := by decide +kernel
theorem dX10_behindEexec_17 : decode cX10_behindEexec 17 = .ok (.if_icmp .ge 38, 3) := by decide +kernel
theorem dX10_behindEexec_20 : decode cX10_behindEexec 20 = .ok (.aload_n 0, 1) := by decide +kernel
theorem dX10_behindEexec_21 : decode cX10_behindEexec 21 = .ok (.iload_n 3, 1) := by decide +kernel
theorem dX10_behindEexec_22 : decode cX10_behindEexec 22 = .ok (.aload_n 1, 1) := by decide +kernel
theorem dX10_behindEexec_23 : decode cX10_behindEexec 23 = .ok (.invokestatic 72, 3) := by decide +kernel
theorem dX10_behindEexec_26 : decode cX10_behindEexec 26 = .ok (.ifCond .eq 23, 3) := by decide +kernel
theorem dX10_behindEexec_29 : decode cX10_behindEexec 29 = .ok (.aload_n 0, 1) := by decide +kernel
theorem dX10_behindEexec_30 : decode cX10_behindEexec 30 = .ok (.iload_n 3, 1) := by decide +kernel
theorem dX10_behindEexec_31 : decode cX10_behindEexec 31 = .ok (.iload_n 2, 1) := by decide +kernel
theorem dX10_behindEexec_32 : decode cX10_behindEexec 32 = .ok (.iadd, 1) := by decide +kernel
theorem dX10_behindEexec_33 : decode cX10_behindEexec 33 = .ok (.i2l, 1) := by decide +kernel
theorem dX10_behindEexec_34 : decode cX10_behindEexec 34 = .ok (.invokevirtual 76, 3) := by decide +kernel
theorem dX10_behindEexec_37 : decode cX10_behindEexec 37 = .ok (.invokestatic 80, 3) := by decide +kernel
theorem dX10_behindEexec_40 : decode cX10_behindEexec 40 = .ok (.ifCond .eq 9, 3) := by decide +kernel
theorem dX10_behindEexec_43 : decode cX10_behindEexec 43 = .ok (.iload_n 3, 1) := by decide +kernel
theorem dX10_behindEexec_44 : decode cX10_behindEexec 44 = .ok (.iload_n 2, 1) := by decide +kernel
theorem dX10_behindEexec_45 : decode cX10_behindEexec 45 = .ok (.iadd, 1) := by decide +kernel
theorem dX10_behindEexec_46 : decode cX10_behindEexec 46 = .ok (.iconst 1, 1) := by decide +kernel
theorem dX10_behindEexec_47 : decode cX10_behindEexec 47 = .ok (.iadd, 1) := by decide +kernel
theorem dX10_behindEexec_48 : decode cX10_behindEexec 48 = .ok (.ireturn, 1) := by decide +kernel
theorem dX10_behindEexec_49 : decode cX10_behindEexec 49 = .ok (.iinc 3 1, 3) := by decide +kernel
theorem dX10_behindEexec_52 : decode cX10_behindEexec 52 = .ok (.goto (-42), 3) := by decide +kernel
theorem dX10_behindEexec_55 : decode cX10_behindEexec 55 = .ok (.iconst (-1), 1) := by decide +kernel
theorem dX10_behindEexec_56 : decode cX10_behindEexec 56 = .ok (.ireturn, 1) := by decide +kernel
theorem dX10_countOfWord_0 : decode cX10_countOfWord 0 = .ok (.iconst 0, 1) := by decide +kernel
theorem dX10_countOfWord_1 : decode cX10_countOfWord 1 = .ok (.istore_n 1, 1) := by decide +kernel
theorem dX10_countOfWord_2 : decode cX10_countOfWord 2 = .ok (.aload_n 0, 1) := by decide +kernel
theorem dX10_countOfWord_3 : decode cX10_countOfWord 3 = .ok (.getfield 162, 3) := by decide +kernel
theorem dX10_countOfWord_6 : decode cX10_countOfWord 6 = .ok (.istore_n 2, 1) := by decide +kernel
theorem dX10_countOfWord_7 : decode cX10_countOfWord 7 = .ok (.iload_n 2, 1) := by decide +kernel
theorem dX10_countOfWord_8 : decode cX10_countOfWord 8 = .ok (.aload_n 0, 1) := by decide +kernel
theorem dX10_countOfWord_9 : decode cX10_countOfWord 9 = .ok (.getfield 165, 3) := by decide +kernel
theorem dX10_countOfWord_12 : decode cX10_countOfWord 12 = .ok (.if_icmp .ge 49, 3) := by decide +kernel
theorem dX10_countOfWord_15 : decode cX10_countOfWord 15 = .ok (.aload_n 0, 1) := by decide +kernel
theorem dX10_countOfWord_16 : decode cX10_countOfWord 16 = .ok (.getfield 15, 3) := by decide +kernel
theorem dX10_countOfWord_19 : decode cX10_countOfWord 19 = .ok (.iload_n 2, 1) := by decide +kernel
theorem dX10_countOfWord_20 : decode cX10_countOfWord 20 = .ok (.i2l, 1) := by decide +kernel
theorem dX10_countOfWord_21 : decode cX10_countOfWord 21 = .ok (.invokevirtual 76, 3) := by decide +kernel
theorem dX10_countOfWord_24 : decode cX10_countOfWord 24 = .ok (.istore_n 3, 1) := by decide +kernel
theorem dX10_countOfWord_25 : decode cX10_countOfWord 25 = .ok (.iload_n 3, 1) := by decide +kernel
theorem dX10_countOfWord_26 : decode cX10_countOfWord 26 = .ok (.bipush 48, 2) := by decide +kernel
theorem dX10_countOfWord_28 : decode cX10_countOfWord 28 = .ok (.if_icmp .lt 9, 3) := by decide +kernel
theorem dX10_countOfWord_31 : decode cX10_countOfWord 31 = .ok (.iload_n 3, 1) := by decide +kernel
theorem dX10_countOfWord_32 : decode cX10_countOfWord 32 = .ok (.bipush 57, 2) := by decide +kernel
theorem dX10_countOfWord_34 : decode cX10_countOfWord 34 = .ok (.if_icmp .le 5, 3) := by decide +kernel
theorem dX10_countOfWord_37 : decode cX10_countOfWord 37 = .ok (.iconst (-1), 1) := by decide +kernel
theorem dX10_countOfWord_38 : decode cX10_countOfWord 38 = .ok (.ireturn, 1) := by decide +kernel
theorem dX10_countOfWord_39 : decode cX10_countOfWord 39 = .ok (.iload_n 1, 1) := by decide +kernel
theorem dX10_countOfWord_40 : decode cX10_countOfWord 40 = .ok (.bipush 10, 2) := by decide +kernel
theorem dX10_countOfWord_42 : decode cX10_countOfWord 42 = .ok (.imul, 1) := by decide +kernel
theorem dX10_countOfWord_43 : decode cX10_countOfWord 43 = .ok (.iload_n 3, 1) := by decide +kernel
theorem dX10_countOfWord_44 : decode cX10_countOfWord 44 = .ok (.iadd, 1) := by decide +kernel
theorem dX10_countOfWord_45 : decode cX10_countOfWord 45 = .ok (.bipush 48, 2) := by decide +kernel
theorem dX10_countOfWord_47 : decode cX10_countOfWord 47 = .ok (.isub, 1) := by decide +kernel
theorem dX10_countOfWord_48 : decode cX10_countOfWord 48 = .ok (.sipush 10000, 3) := by decide +kernel
theorem dX10_countOfWord_51 : decode cX10_countOfWord 51 = .ok (.invokestatic 179, 3) := by decide +kernel
theorem dX10_countOfWord_54 : decode cX10_countOfWord 54 = .ok (.istore_n 1, 1) := by decide +kernel
theorem dX10_countOfWord_55 : decode cX10_countOfWord 55 = .ok (.iinc 2 1, 3) := by decide +kernel
theorem dX10_countOfWord_58 : decode cX10_countOfWord 58 = .ok (.goto (-51), 3) := by decide +kernel
theorem dX10_countOfWord_61 : decode cX10_countOfWord 61 = .ok (.iload_n 1, 1) := by decide +kernel
theorem dX10_countOfWord_62 : decode cX10_countOfWord 62 = .ok (.sipush 10000, 3) := by decide +kernel
theorem dX10_countOfWord_65 : decode cX10_countOfWord 65 = .ok (.if_icmp .ge 7, 3) := by decide +kernel
theorem dX10_countOfWord_68 : decode cX10_countOfWord 68 = .ok (.iload_n 1, 1) := by decide +kernel
theorem dX10_countOfWord_69 : decode cX10_countOfWord 69 = .ok (.goto 4, 3) := by decide +kernel
theorem dX10_countOfWord_72 : decode cX10_countOfWord 72 = .ok (.iconst (-1), 1) := by decide +kernel
theorem dX10_countOfWord_73 : decode cX10_countOfWord 73 = .ok (.ireturn, 1) := by decide +kernel
theorem dX10_isAt_0 : decode cX10_isAt 0 = .ok (.iconst 0, 1) := by decide +kernel
theorem dX10_isAt_1 : decode cX10_isAt 1 = .ok (.istore_n 3, 1) := by decide +kernel
theorem dX10_isAt_2 : decode cX10_isAt 2 = .ok (.iload_n 3, 1) := by decide +kernel
theorem dX10_isAt_3 : decode cX10_isAt 3 = .ok (.aload_n 2, 1) := by decide +kernel
theorem dX10_isAt_4 : decode cX10_isAt 4 = .ok (.invokevirtual 67, 3) := by decide +kernel
theorem dX10_isAt_7 : decode cX10_isAt 7 = .ok (.if_icmp .ge 27, 3) := by decide +kernel
theorem dX10_isAt_10 : decode cX10_isAt 10 = .ok (.aload_n 0, 1) := by decide +kernel
theorem dX10_isAt_11 : decode cX10_isAt 11 = .ok (.iload_n 1, 1) := by decide +kernel
theorem dX10_isAt_12 : decode cX10_isAt 12 = .ok (.iload_n 3, 1) := by decide +kernel
theorem dX10_isAt_13 : decode cX10_isAt 13 = .ok (.iadd, 1) := by decide +kernel
theorem dX10_isAt_14 : decode cX10_isAt 14 = .ok (.i2l, 1) := by decide +kernel
theorem dX10_isAt_15 : decode cX10_isAt 15 = .ok (.invokevirtual 76, 3) := by decide +kernel
theorem dX10_isAt_18 : decode cX10_isAt 18 = .ok (.aload_n 2, 1) := by decide +kernel
theorem dX10_isAt_19 : decode cX10_isAt 19 = .ok (.iload_n 3, 1) := by decide +kernel
theorem dX10_isAt_20 : decode cX10_isAt 20 = .ok (.invokevirtual 84, 3) := by decide +kernel
theorem dX10_isAt_23 : decode cX10_isAt 23 = .ok (.if_icmp .eq 5, 3) := by decide +kernel
theorem dX10_isAt_26 : decode cX10_isAt 26 = .ok (.iconst 0, 1) := by decide +kernel
theorem dX10_isAt_27 : decode cX10_isAt 27 = .ok (.ireturn, 1) := by decide +kernel
theorem dX10_isAt_28 : decode cX10_isAt 28 = .ok (.iinc 3 1, 3) := by decide +kernel
theorem dX10_isAt_31 : decode cX10_isAt 31 = .ok (.goto (-29), 3) := by decide +kernel
theorem dX10_isAt_34 : decode cX10_isAt 34 = .ok (.iconst 1, 1) := by decide +kernel
theorem dX10_isAt_35 : decode cX10_isAt 35 = .ok (.ireturn, 1) := by decide +kernel
theorem dX10_isToldByDigits_0 : decode cX10_isToldByDigits 0 = .ok (.iconst 0, 1) := by decide +kernel
theorem dX10_isToldByDigits_1 : decode cX10_isToldByDigits 1 = .ok (.istore_n 1, 1) := by decide +kernel
theorem dX10_isToldByDigits_2 : decode cX10_isToldByDigits 2 = .ok (.iload_n 1, 1) := by decide +kernel
theorem dX10_isToldByDigits_3 : decode cX10_isToldByDigits 3 = .ok (.iconst 4, 1) := by decide +kernel
theorem dX10_isToldByDigits_4 : decode cX10_isToldByDigits 4 = .ok (.if_icmp .ge 27, 3) := by decide +kernel
theorem dX10_isToldByDigits_7 : decode cX10_isToldByDigits 7 = .ok (.aload_n 0, 1) := by decide +kernel
theorem dX10_isToldByDigits_8 : decode cX10_isToldByDigits 8 = .ok (.getfield 15, 3) := by decide +kernel
theorem dX10_isToldByDigits_11 : decode cX10_isToldByDigits 11 = .ok (.iload_n 1, 1) := by decide +kernel
theorem dX10_isToldByDigits_12 : decode cX10_isToldByDigits 12 = .ok (.i2l, 1) := by decide +kernel
theorem dX10_isToldByDigits_13 : decode cX10_isToldByDigits 13 = .ok (.invokevirtual 76, 3) := by decide +kernel
theorem dX10_isToldByDigits_16 : decode cX10_isToldByDigits 16 = .ok (.invokestatic 88, 3) := by decide +kernel
theorem dX10_isToldByDigits_19 : decode cX10_isToldByDigits 19 = .ok (.iconst (-1), 1) := by decide +kernel
theorem dX10_isToldByDigits_20 : decode cX10_isToldByDigits 20 = .ok (.if_icmp .ne 5, 3) := by decide +kernel
theorem dX10_isToldByDigits_23 : decode cX10_isToldByDigits 23 = .ok (.iconst 0, 1) := by decide +kernel
theorem dX10_isToldByDigits_24 : decode cX10_isToldByDigits 24 = .ok (.ireturn, 1) := by decide +kernel
theorem dX10_isToldByDigits_25 : decode cX10_isToldByDigits 25 = .ok (.iinc 1 1, 3) := by decide +kernel
theorem dX10_isToldByDigits_28 : decode cX10_isToldByDigits 28 = .ok (.goto (-26), 3) := by decide +kernel
theorem dX10_isToldByDigits_31 : decode cX10_isToldByDigits 31 = .ok (.iconst 1, 1) := by decide +kernel
theorem dX10_isToldByDigits_32 : decode cX10_isToldByDigits 32 = .ok (.ireturn, 1) := by decide +kernel
theorem dX10_isWord_0 : decode cX10_isWord 0 = .ok (.aload_n 0, 1) := by decide +kernel
theorem dX10_isWord_1 : decode cX10_isWord 1 = .ok (.getfield 165, 3) := by decide +kernel
theorem dX10_isWord_4 : decode cX10_isWord 4 = .ok (.aload_n 0, 1) := by decide +kernel
theorem dX10_isWord_5 : decode cX10_isWord 5 = .ok (.getfield 162, 3) := by decide +kernel
theorem dX10_isWord_8 : decode cX10_isWord 8 = .ok (.isub, 1) := by decide +kernel
theorem dX10_isWord_9 : decode cX10_isWord 9 = .ok (.aload_n 1, 1) := by decide +kernel
theorem dX10_isWord_10 : decode cX10_isWord 10 = .ok (.invokevirtual 67, 3) := by decide +kernel
theorem dX10_isWord_13 : decode cX10_isWord 13 = .ok (.if_icmp .ne 22, 3) := by decide +kernel
theorem dX10_isWord_16 : decode cX10_isWord 16 = .ok (.aload_n 0, 1) := by decide +kernel
theorem dX10_isWord_17 : decode cX10_isWord 17 = .ok (.getfield 15, 3) := by decide +kernel
theorem dX10_isWord_20 : decode cX10_isWord 20 = .ok (.aload_n 0, 1) := by decide +kernel
theorem dX10_isWord_21 : decode cX10_isWord 21 = .ok (.getfield 162, 3) := by decide +kernel
theorem dX10_isWord_24 : decode cX10_isWord 24 = .ok (.aload_n 1, 1) := by decide +kernel
theorem dX10_isWord_25 : decode cX10_isWord 25 = .ok (.invokestatic 72, 3) := by decide +kernel
theorem dX10_isWord_28 : decode cX10_isWord 28 = .ok (.ifCond .eq 7, 3) := by decide +kernel
theorem dX10_isWord_31 : decode cX10_isWord 31 = .ok (.iconst 1, 1) := by decide +kernel
theorem dX10_isWord_32 : decode cX10_isWord 32 = .ok (.goto 4, 3) := by decide +kernel
theorem dX10_isWord_35 : decode cX10_isWord 35 = .ok (.iconst 0, 1) := by decide +kernel
theorem dX10_isWord_36 : decode cX10_isWord 36 = .ok (.ireturn, 1) := by decide +kernel
theorem dX10_parse_0 : decode cX10_parse 0 = .ok (.aload_n 1, 1) := by decide +kernel
theorem dX10_parse_1 : decode cX10_parse 1 = .ok (.invokestatic 19, 3) := by decide +kernel
theorem dX10_parse_4 : decode cX10_parse 4 = .ok (.istore_n 3, 1) := by decide +kernel
theorem dX10_parse_5 : decode cX10_parse 5 = .ok (.iload_n 3, 1) := by decide +kernel
theorem dX10_parse_6 : decode cX10_parse 6 = .ok (.iconst (-1), 1) := by decide +kernel
theorem dX10_parse_7 : decode cX10_parse 7 = .ok (.if_icmp .eq 13, 3) := by decide +kernel
theorem dX10_parse_10 : decode cX10_parse 10 = .ok (.aload_n 1, 1) := by decide +kernel
theorem dX10_parse_11 : decode cX10_parse 11 = .ok (.invokevirtual 23, 3) := by decide +kernel
theorem dX10_parse_14 : decode cX10_parse 14 = .ok (.iload_n 3, 1) := by decide +kernel
theorem dX10_parse_15 : decode cX10_parse 15 = .ok (.isub, 1) := by decide +kernel
theorem dX10_parse_16 : decode cX10_parse 16 = .ok (.iconst 4, 1) := by decide +kernel
theorem dX10_parse_17 : decode cX10_parse 17 = .ok (.if_icmp .ge 5, 3) := by decide +kernel
theorem dX10_parse_20 : decode cX10_parse 20 = .ok (.iconst 1, 1) := by decide +kernel
theorem dX10_parse_21 : decode cX10_parse 21 = .ok (.ireturn, 1) := by decide +kernel
theorem dX10_parse_22 : decode cX10_parse 22 = .ok (.aload_n 2, 1) := by decide +kernel
theorem dX10_parse_23 : decode cX10_parse 23 = .ok (.iconst 1, 1) := by decide +kernel
theorem dX10_parse_24 : decode cX10_parse 24 = .ok (.aload_n 1, 1) := by decide +kernel
theorem dX10_parse_25 : decode cX10_parse 25 = .ok (.iload_n 3, 1) := by decide +kernel
theorem dX10_parse_26 : decode cX10_parse 26 = .ok (.invokevirtual 29, 3) := by decide +kernel
theorem dX10_parse_29 : decode cX10_parse 29 = .ok (.aload_n 0, 1) := by decide +kernel
theorem dX10_parse_30 : decode cX10_parse 30 = .ok (.aload_n 2, 1) := by decide +kernel
theorem dX10_parse_31 : decode cX10_parse 31 = .ok (.putfield 9, 3) := by decide +kernel
theorem dX10_parse_34 : decode cX10_parse 34 = .ok (.aload_n 0, 1) := by decide +kernel
theorem dX10_parse_35 : decode cX10_parse 35 = .ok (.aload_n 2, 1) := by decide +kernel
theorem dX10_parse_36 : decode cX10_parse 36 = .ok (.getfield 35, 3) := by decide +kernel
theorem dX10_parse_39 : decode cX10_parse 39 = .ok (.putfield 15, 3) := by decide +kernel
theorem dX10_parse_42 : decode cX10_parse 42 = .ok (.aload_n 0, 1) := by decide +kernel
theorem dX10_parse_43 : decode cX10_parse 43 = .ok (.invokevirtual 36, 3) := by decide +kernel
theorem dX10_parse_46 : decode cX10_parse 46 = .ok (.ifCond .eq 15, 3) := by decide +kernel
theorem dX10_parse_49 : decode cX10_parse 49 = .ok (.aload_n 0, 1) := by decide +kernel
theorem dX10_parse_50 : decode cX10_parse 50 = .ok (.getfield 15, 3) := by decide +kernel
theorem dX10_parse_53 : decode cX10_parse 53 = .ok (.invokevirtual 40, 3) := by decide +kernel
theorem dX10_parse_56 : decode cX10_parse 56 = .ok (.ifCond .ne 5, 3) := by decide +kernel
theorem dX10_parse_59 : decode cX10_parse 59 = .ok (.iconst 2, 1) := by decide +kernel
theorem dX10_parse_60 : decode cX10_parse 60 = .ok (.ireturn, 1) := by decide +kernel
theorem dX10_parse_61 : decode cX10_parse 61 = .ok (.aload_n 0, 1) := by decide +kernel
theorem dX10_parse_62 : decode cX10_parse 62 = .ok (.getfield 15, 3) := by decide +kernel
theorem dX10_parse_65 : decode cX10_parse 65 = .ok (.ldc 43, 2) := by decide +kernel
theorem dX10_parse_67 : decode cX10_parse 67 = .ok (.iconst 0, 1) := by decide +kernel
theorem dX10_parse_68 : decode cX10_parse 68 = .ok (.aload_n 0, 1) := by decide +kernel
theorem dX10_parse_69 : decode cX10_parse 69 = .ok (.getfield 15, 3) := by decide +kernel
theorem dX10_parse_72 : decode cX10_parse 72 = .ok (.invokevirtual 23, 3) := by decide +kernel
theorem dX10_parse_75 : decode cX10_parse 75 = .ok (.invokevirtual 44, 3) := by decide +kernel
theorem dX10_parse_78 : decode cX10_parse 78 = .ok (.aload_n 0, 1) := by decide +kernel
theorem dX10_parse_79 : decode cX10_parse 79 = .ok (.iconst 4, 1) := by decide +kernel
theorem dX10_parse_80 : decode cX10_parse 80 = .ok (.putfield 48, 3) := by decide +kernel
theorem dX10_parse_83 : decode cX10_parse 83 = .ok (.aload_n 0, 1) := by decide +kernel
theorem dX10_parse_84 : decode cX10_parse 84 = .ok (.iconst 4, 1) := by decide +kernel
theorem dX10_parse_85 : decode cX10_parse 85 = .ok (.putfield 52, 3) := by decide +kernel
theorem dX10_parse_88 : decode cX10_parse 88 = .ok (.aload_n 0, 1) := by decide +kernel
theorem dX10_parse_89 : decode cX10_parse 89 = .ok (.iconst 0, 1) := by decide +kernel
theorem dX10_parse_90 : decode cX10_parse 90 = .ok (.putfield 55, 3) := by decide +kernel
theorem dX10_parse_93 : decode cX10_parse 93 = .ok (.aload_n 0, 1) := by decide +kernel
theorem dX10_parse_94 : decode cX10_parse 94 = .ok (.invokevirtual 59, 3) := by decide +kernel
theorem dX10_parse_97 : decode cX10_parse 97 = .ok (.istore 4, 2) := by decide +kernel
theorem dX10_parse_99 : decode cX10_parse 99 = .ok (.iload 4, 2) := by decide +kernel
theorem dX10_parse_101 : decode cX10_parse 101 = .ok (.ifCond .ne 10, 3) := by decide +kernel
theorem dX10_parse_104 : decode cX10_parse 104 = .ok (.aload_n 0, 1) := by decide +kernel
theorem dX10_parse_105 : decode cX10_parse 105 = .ok (.invokevirtual 62, 3) := by decide +kernel
theorem dX10_parse_108 : decode cX10_parse 108 = .ok (.goto 5, 3) := by decide +kernel
theorem dX10_parse_111 : decode cX10_parse 111 = .ok (.iload 4, 2) := by decide +kernel
theorem dX10_parse_113 : decode cX10_parse 113 = .ok (.ireturn, 1) := by decide +kernel
theorem dX10_takeCount_0 : decode cX10_takeCount 0 = .ok (.aload_n 0, 1) := by decide +kernel
theorem dX10_takeCount_1 : decode cX10_takeCount 1 = .ok (.invokevirtual 92, 3) := by decide +kernel
theorem dX10_takeCount_4 : decode cX10_takeCount 4 = .ok (.ifCond .ne 5, 3) := by decide +kernel
theorem dX10_takeCount_7 : decode cX10_takeCount 7 = .ok (.iconst 1, 1) := by decide +kernel
theorem dX10_takeCount_8 : decode cX10_takeCount 8 = .ok (.ireturn, 1) := by decide +kernel
theorem dX10_takeCount_9 : decode cX10_takeCount 9 = .ok (.aload_n 0, 1) := by decide +kernel
theorem dX10_takeCount_10 : decode cX10_takeCount 10 = .ok (.aload_n 0, 1) := by decide +kernel
theorem dX10_takeCount_11 : decode cX10_takeCount 11 = .ok (.invokevirtual 135, 3) := by decide +kernel
theorem dX10_takeCount_14 : decode cX10_takeCount 14 = .ok (.putfield 106, 3) := by decide +kernel
theorem dX10_takeCount_17 : decode cX10_takeCount 17 = .ok (.aload_n 0, 1) := by decide +kernel
theorem dX10_takeCount_18 : decode cX10_takeCount 18 = .ok (.getfield 106, 3) := by decide +kernel
theorem dX10_takeCount_21 : decode cX10_takeCount 21 = .ok (.iconst (-1), 1) := by decide +kernel
theorem dX10_takeCount_22 : decode cX10_takeCount 22 = .ok (.if_icmp .ne 7, 3) := by decide +kernel
theorem dX10_takeCount_25 : decode cX10_takeCount 25 = .ok (.iconst 2, 1) := by decide +kernel
theorem dX10_takeCount_26 : decode cX10_takeCount 26 = .ok (.goto 4, 3) := by decide +kernel
theorem dX10_takeCount_29 : decode cX10_takeCount 29 = .ok (.iconst 0, 1) := by decide +kernel
theorem dX10_takeCount_30 : decode cX10_takeCount 30 = .ok (.ireturn, 1) := by decide +kernel
theorem dX10_takeLetter_0 : decode cX10_takeLetter 0 = .ok (.aload_n 0, 1) := by decide +kernel
theorem dX10_takeLetter_1 : decode cX10_takeLetter 1 = .ok (.getfield 15, 3) := by decide +kernel
theorem dX10_takeLetter_4 : decode cX10_takeLetter 4 = .ok (.aload_n 0, 1) := by decide +kernel
theorem dX10_takeLetter_5 : decode cX10_takeLetter 5 = .ok (.getfield 162, 3) := by decide +kernel
theorem dX10_takeLetter_8 : decode cX10_takeLetter 8 = .ok (.i2l, 1) := by decide +kernel
theorem dX10_takeLetter_9 : decode cX10_takeLetter 9 = .ok (.invokevirtual 76, 3) := by decide +kernel
theorem dX10_takeLetter_12 : decode cX10_takeLetter 12 = .ok (.bipush 47, 2) := by decide +kernel
theorem dX10_takeLetter_14 : decode cX10_takeLetter 14 = .ok (.if_icmp .ne 20, 3) := by decide +kernel
theorem dX10_takeLetter_17 : decode cX10_takeLetter 17 = .ok (.aload_n 0, 1) := by decide +kernel
theorem dX10_takeLetter_18 : decode cX10_takeLetter 18 = .ok (.getfield 165, 3) := by decide +kernel
theorem dX10_takeLetter_21 : decode cX10_takeLetter 21 = .ok (.aload_n 0, 1) := by decide +kernel
theorem dX10_takeLetter_22 : decode cX10_takeLetter 22 = .ok (.getfield 162, 3) := by decide +kernel
theorem dX10_takeLetter_25 : decode cX10_takeLetter 25 = .ok (.isub, 1) := by decide +kernel
theorem dX10_takeLetter_26 : decode cX10_takeLetter 26 = .ok (.iconst 1, 1) := by decide +kernel
theorem dX10_takeLetter_27 : decode cX10_takeLetter 27 = .ok (.if_icmp .le 7, 3) := by decide +kernel
theorem dX10_takeLetter_30 : decode cX10_takeLetter 30 = .ok (.iconst 1, 1) := by decide +kernel
theorem dX10_takeLetter_31 : decode cX10_takeLetter 31 = .ok (.goto 4, 3) := by decide +kernel
theorem dX10_takeLetter_34 : decode cX10_takeLetter 34 = .ok (.iconst 0, 1) := by decide +kernel
theorem dX10_takeLetter_35 : decode cX10_takeLetter 35 = .ok (.istore_n 1, 1) := by decide +kernel
theorem dX10_takeLetter_36 : decode cX10_takeLetter 36 = .ok (.iload_n 1, 1) := by decide +kernel
theorem dX10_takeLetter_37 : decode cX10_takeLetter 37 = .ok (.ifCond .eq 16, 3) := by decide +kernel
theorem dX10_takeLetter_40 : decode cX10_takeLetter 40 = .ok (.aload_n 0, 1) := by decide +kernel
theorem dX10_takeLetter_41 : decode cX10_takeLetter 41 = .ok (.getfield 9, 3) := by decide +kernel
theorem dX10_takeLetter_44 : decode cX10_takeLetter 44 = .ok (.getfield 156, 3) := by decide +kernel
theorem dX10_takeLetter_47 : decode cX10_takeLetter 47 = .ok (.invokevirtual 168, 3) := by decide +kernel
theorem dX10_takeLetter_50 : decode cX10_takeLetter 50 = .ok (.ifCond .eq 5, 3) := by decide +kernel
theorem dX10_takeLetter_53 : decode cX10_takeLetter 53 = .ok (.iconst 2, 1) := by decide +kernel
theorem dX10_takeLetter_54 : decode cX10_takeLetter 54 = .ok (.ireturn, 1) := by decide +kernel
theorem dX10_takeLetter_55 : decode cX10_takeLetter 55 = .ok (.aload_n 0, 1) := by decide +kernel
theorem dX10_takeLetter_56 : decode cX10_takeLetter 56 = .ok (.invokevirtual 139, 3) := by decide +kernel
theorem dX10_takeLetter_59 : decode cX10_takeLetter 59 = .ok (.istore_n 2, 1) := by decide +kernel
theorem dX10_takeLetter_60 : decode cX10_takeLetter 60 = .ok (.iload_n 2, 1) := by decide +kernel
theorem dX10_takeLetter_61 : decode cX10_takeLetter 61 = .ok (.ifCond .eq 5, 3) := by decide +kernel
theorem dX10_takeLetter_64 : decode cX10_takeLetter 64 = .ok (.iload_n 2, 1) := by decide +kernel
theorem dX10_takeLetter_65 : decode cX10_takeLetter 65 = .ok (.ireturn, 1) := by decide +kernel
theorem dX10_takeLetter_66 : decode cX10_takeLetter 66 = .ok (.aload_n 0, 1) := by decide +kernel
theorem dX10_takeLetter_67 : decode cX10_takeLetter 67 = .ok (.getfield 9, 3) := by decide +kernel
theorem dX10_takeLetter_70 : decode cX10_takeLetter 70 = .ok (.getfield 156, 3) := by decide +kernel
theorem dX10_takeLetter_73 : decode cX10_takeLetter 73 = .ok (.aload_n 0, 1) := by decide +kernel
theorem dX10_takeLetter_74 : decode cX10_takeLetter 74 = .ok (.getfield 142, 3) := by decide +kernel
theorem dX10_takeLetter_77 : decode cX10_takeLetter 77 = .ok (.aload_n 0, 1) := by decide +kernel
theorem dX10_takeLetter_78 : decode cX10_takeLetter 78 = .ok (.getfield 145, 3) := by decide +kernel
theorem dX10_takeLetter_81 : decode cX10_takeLetter 81 = .ok (.invokevirtual 171, 3) := by decide +kernel
theorem dX10_takeLetter_84 : decode cX10_takeLetter 84 = .ok (.aload_n 0, 1) := by decide +kernel
theorem dX10_takeLetter_85 : decode cX10_takeLetter 85 = .ok (.invokevirtual 92, 3) := by decide +kernel
theorem dX10_takeLetter_88 : decode cX10_takeLetter 88 = .ok (.ifCond .eq 7, 3) := by decide +kernel
theorem dX10_takeLetter_91 : decode cX10_takeLetter 91 = .ok (.iconst 0, 1) := by decide +kernel
theorem dX10_takeLetter_92 : decode cX10_takeLetter 92 = .ok (.goto 4, 3) := by decide +kernel
theorem dX10_takeLetter_95 : decode cX10_takeLetter 95 = .ok (.iconst 1, 1) := by decide +kernel
theorem dX10_takeLetter_96 : decode cX10_takeLetter 96 = .ok (.ireturn, 1) := by decide +kernel
theorem dX10_takeLetters_0 : decode cX10_takeLetters 0 = .ok (.aload_n 0, 1) := by decide +kernel
theorem dX10_takeLetters_1 : decode cX10_takeLetters 1 = .ok (.invokevirtual 103, 3) := by decide +kernel
theorem dX10_takeLetters_4 : decode cX10_takeLetters 4 = .ok (.istore_n 1, 1) := by decide +kernel
theorem dX10_takeLetters_5 : decode cX10_takeLetters 5 = .ok (.iload_n 1, 1) := by decide +kernel
theorem dX10_takeLetters_6 : decode cX10_takeLetters 6 = .ok (.ifCond .ne 12, 3) := by decide +kernel
theorem dX10_takeLetters_9 : decode cX10_takeLetters 9 = .ok (.aload_n 0, 1) := by decide +kernel
theorem dX10_takeLetters_10 : decode cX10_takeLetters 10 = .ok (.ldc 151, 2) := by decide +kernel
theorem dX10_takeLetters_12 : decode cX10_takeLetters 12 = .ok (.invokevirtual 131, 3) := by decide +kernel
theorem dX10_takeLetters_15 : decode cX10_takeLetters 15 = .ok (.goto 4, 3) := by decide +kernel
theorem dX10_takeLetters_18 : decode cX10_takeLetters 18 = .ok (.iload_n 1, 1) := by decide +kernel
theorem dX10_takeLetters_19 : decode cX10_takeLetters 19 = .ok (.istore_n 1, 1) := by decide +kernel
theorem dX10_takeLetters_20 : decode cX10_takeLetters 20 = .ok (.iload_n 1, 1) := by decide +kernel
theorem dX10_takeLetters_21 : decode cX10_takeLetters 21 = .ok (.ifCond .ne 12, 3) := by decide +kernel
theorem dX10_takeLetters_24 : decode cX10_takeLetters 24 = .ok (.aload_n 0, 1) := by decide +kernel
theorem dX10_takeLetters_25 : decode cX10_takeLetters 25 = .ok (.ldc 114, 2) := by decide +kernel
theorem dX10_takeLetters_27 : decode cX10_takeLetters 27 = .ok (.invokevirtual 131, 3) := by decide +kernel
theorem dX10_takeLetters_30 : decode cX10_takeLetters 30 = .ok (.goto 4, 3) := by decide +kernel
theorem dX10_takeLetters_33 : decode cX10_takeLetters 33 = .ok (.iload_n 1, 1) := by decide +kernel
theorem dX10_takeLetters_34 : decode cX10_takeLetters 34 = .ok (.istore_n 1, 1) := by decide +kernel
theorem dX10_takeLetters_35 : decode cX10_takeLetters 35 = .ok (.iload_n 1, 1) := by decide +kernel
theorem dX10_takeLetters_36 : decode cX10_takeLetters 36 = .ok (.ifCond .ne 12, 3) := by decide +kernel
theorem dX10_takeLetters_39 : decode cX10_takeLetters 39 = .ok (.aload_n 0, 1) := by decide +kernel
theorem dX10_takeLetters_40 : decode cX10_takeLetters 40 = .ok (.ldc 153, 2) := by decide +kernel
theorem dX10_takeLetters_42 : decode cX10_takeLetters 42 = .ok (.invokevirtual 131, 3) := by decide +kernel
theorem dX10_takeLetters_45 : decode cX10_takeLetters 45 = .ok (.goto 4, 3) := by decide +kernel
theorem dX10_takeLetters_48 : decode cX10_takeLetters 48 = .ok (.iload_n 1, 1) := by decide +kernel
theorem dX10_takeLetters_49 : decode cX10_takeLetters 49 = .ok (.istore_n 1, 1) := by decide +kernel
theorem dX10_takeLetters_50 : decode cX10_takeLetters 50 = .ok (.aload_n 0, 1) := by decide +kernel
theorem dX10_takeLetters_51 : decode cX10_takeLetters 51 = .ok (.getfield 15, 3) := by decide +kernel
theorem dX10_takeLetters_54 : decode cX10_takeLetters 54 = .ok (.invokevirtual 23, 3) := by decide +kernel
theorem dX10_takeLetters_57 : decode cX10_takeLetters 57 = .ok (.istore_n 2, 1) := by decide +kernel
theorem dX10_takeLetters_58 : decode cX10_takeLetters 58 = .ok (.iconst 0, 1) := by decide +kernel
theorem dX10_takeLetters_59 : decode cX10_takeLetters 59 = .ok (.istore_n 3, 1) := by decide +kernel
theorem dX10_takeLetters_60 : decode cX10_takeLetters 60 = .ok (.iload_n 3, 1) := by decide +kernel
theorem dX10_takeLetters_61 : decode cX10_takeLetters 61 = .ok (.iload_n 2, 1) := by decide +kernel
theorem dX10_takeLetters_62 : decode cX10_takeLetters 62 = .ok (.if_icmp .gt 55, 3) := by decide +kernel
theorem dX10_takeLetters_65 : decode cX10_takeLetters 65 = .ok (.iload_n 1, 1) := by decide +kernel
theorem dX10_takeLetters_66 : decode cX10_takeLetters 66 = .ok (.ifCond .ne 51, 3) := by decide +kernel
theorem dX10_takeLetters_69 : decode cX10_takeLetters 69 = .ok (.aload_n 0, 1) := by decide +kernel
theorem dX10_takeLetters_70 : decode cX10_takeLetters 70 = .ok (.invokevirtual 92, 3) := by decide +kernel
theorem dX10_takeLetters_73 : decode cX10_takeLetters 73 = .ok (.ifCond .ne 5, 3) := by decide +kernel
theorem dX10_takeLetters_76 : decode cX10_takeLetters 76 = .ok (.iconst 1, 1) := by decide +kernel
theorem dX10_takeLetters_77 : decode cX10_takeLetters 77 = .ok (.ireturn, 1) := by decide +kernel
theorem dX10_takeLetters_78 : decode cX10_takeLetters 78 = .ok (.aload_n 0, 1) := by decide +kernel
theorem dX10_takeLetters_79 : decode cX10_takeLetters 79 = .ok (.ldc 154, 2) := by decide +kernel
theorem dX10_takeLetters_81 : decode cX10_takeLetters 81 = .ok (.invokevirtual 97, 3) := by decide +kernel
theorem dX10_takeLetters_84 : decode cX10_takeLetters 84 = .ok (.ifCond .eq 22, 3) := by decide +kernel
theorem dX10_takeLetters_87 : decode cX10_takeLetters 87 = .ok (.aload_n 0, 1) := by decide +kernel
theorem dX10_takeLetters_88 : decode cX10_takeLetters 88 = .ok (.getfield 9, 3) := by decide +kernel
theorem dX10_takeLetters_91 : decode cX10_takeLetters 91 = .ok (.getfield 156, 3) := by decide +kernel
theorem dX10_takeLetters_94 : decode cX10_takeLetters 94 = .ok (.invokevirtual 138, 3) := by decide +kernel
theorem dX10_takeLetters_97 : decode cX10_takeLetters 97 = .ok (.ifCond .ne 7, 3) := by decide +kernel
theorem dX10_takeLetters_100 : decode cX10_takeLetters 100 = .ok (.iconst 3, 1) := by decide +kernel
theorem dX10_takeLetters_101 : decode cX10_takeLetters 101 = .ok (.goto 4, 3) := by decide +kernel
theorem dX10_takeLetters_104 : decode cX10_takeLetters 104 = .ok (.iconst 0, 1) := by decide +kernel
theorem dX10_takeLetters_105 : decode cX10_takeLetters 105 = .ok (.ireturn, 1) := by decide +kernel
theorem dX10_takeLetters_106 : decode cX10_takeLetters 106 = .ok (.aload_n 0, 1) := by decide +kernel
theorem dX10_takeLetters_107 : decode cX10_takeLetters 107 = .ok (.invokevirtual 159, 3) := by decide +kernel
theorem dX10_takeLetters_110 : decode cX10_takeLetters 110 = .ok (.istore_n 1, 1) := by decide +kernel
theorem dX10_takeLetters_111 : decode cX10_takeLetters 111 = .ok (.iinc 3 1, 3) := by decide +kernel
theorem dX10_takeLetters_114 : decode cX10_takeLetters 114 = .ok (.goto (-54), 3) := by decide +kernel
theorem dX10_takeLetters_117 : decode cX10_takeLetters 117 = .ok (.iload_n 1, 1) := by decide +kernel
theorem dX10_takeLetters_118 : decode cX10_takeLetters 118 = .ok (.ireturn, 1) := by decide +kernel
theorem dX10_takeLocal_0 : decode cX10_takeLocal 0 = .ok (.aload_n 0, 1) := by decide +kernel
theorem dX10_takeLocal_1 : decode cX10_takeLocal 1 = .ok (.getfield 48, 3) := by decide +kernel
theorem dX10_takeLocal_4 : decode cX10_takeLocal 4 = .ok (.istore_n 1, 1) := by decide +kernel
theorem dX10_takeLocal_5 : decode cX10_takeLocal 5 = .ok (.aload_n 0, 1) := by decide +kernel
theorem dX10_takeLocal_6 : decode cX10_takeLocal 6 = .ok (.invokevirtual 92, 3) := by decide +kernel
theorem dX10_takeLocal_9 : decode cX10_takeLocal 9 = .ok (.ifCond .ne 5, 3) := by decide +kernel
theorem dX10_takeLocal_12 : decode cX10_takeLocal 12 = .ok (.iconst 1, 1) := by decide +kernel
theorem dX10_takeLocal_13 : decode cX10_takeLocal 13 = .ok (.ireturn, 1) := by decide +kernel
theorem dX10_takeLocal_14 : decode cX10_takeLocal 14 = .ok (.aload_n 0, 1) := by decide +kernel
theorem dX10_takeLocal_15 : decode cX10_takeLocal 15 = .ok (.invokevirtual 135, 3) := by decide +kernel
theorem dX10_takeLocal_18 : decode cX10_takeLocal 18 = .ok (.istore_n 2, 1) := by decide +kernel
theorem dX10_takeLocal_19 : decode cX10_takeLocal 19 = .ok (.iload_n 2, 1) := by decide +kernel
theorem dX10_takeLocal_20 : decode cX10_takeLocal 20 = .ok (.iconst (-1), 1) := by decide +kernel
theorem dX10_takeLocal_21 : decode cX10_takeLocal 21 = .ok (.if_icmp .ne 10, 3) := by decide +kernel
theorem dX10_takeLocal_24 : decode cX10_takeLocal 24 = .ok (.aload_n 0, 1) := by decide +kernel
theorem dX10_takeLocal_25 : decode cX10_takeLocal 25 = .ok (.iload_n 1, 1) := by decide +kernel
theorem dX10_takeLocal_26 : decode cX10_takeLocal 26 = .ok (.putfield 48, 3) := by decide +kernel
theorem dX10_takeLocal_29 : decode cX10_takeLocal 29 = .ok (.iconst 0, 1) := by decide +kernel
theorem dX10_takeLocal_30 : decode cX10_takeLocal 30 = .ok (.ireturn, 1) := by decide +kernel
theorem dX10_takeLocal_31 : decode cX10_takeLocal 31 = .ok (.iload_n 2, 1) := by decide +kernel
theorem dX10_takeLocal_32 : decode cX10_takeLocal 32 = .ok (.aload_n 0, 1) := by decide +kernel
theorem dX10_takeLocal_33 : decode cX10_takeLocal 33 = .ok (.getfield 9, 3) := by decide +kernel
theorem dX10_takeLocal_36 : decode cX10_takeLocal 36 = .ok (.getfield 119, 3) := by decide +kernel
theorem dX10_takeLocal_39 : decode cX10_takeLocal 39 = .ok (.invokevirtual 138, 3) := by decide +kernel
theorem dX10_takeLocal_42 : decode cX10_takeLocal 42 = .ok (.if_icmp .lt 5, 3) := by decide +kernel
theorem dX10_takeLocal_45 : decode cX10_takeLocal 45 = .ok (.iconst 2, 1) := by decide +kernel
theorem dX10_takeLocal_46 : decode cX10_takeLocal 46 = .ok (.ireturn, 1) := by decide +kernel
theorem dX10_takeLocal_47 : decode cX10_takeLocal 47 = .ok (.aload_n 0, 1) := by decide +kernel
theorem dX10_takeLocal_48 : decode cX10_takeLocal 48 = .ok (.invokevirtual 139, 3) := by decide +kernel
theorem dX10_takeLocal_51 : decode cX10_takeLocal 51 = .ok (.istore_n 3, 1) := by decide +kernel
theorem dX10_takeLocal_52 : decode cX10_takeLocal 52 = .ok (.iload_n 3, 1) := by decide +kernel
theorem dX10_takeLocal_53 : decode cX10_takeLocal 53 = .ok (.ifCond .ne 22, 3) := by decide +kernel
theorem dX10_takeLocal_56 : decode cX10_takeLocal 56 = .ok (.aload_n 0, 1) := by decide +kernel
theorem dX10_takeLocal_57 : decode cX10_takeLocal 57 = .ok (.getfield 9, 3) := by decide +kernel
theorem dX10_takeLocal_60 : decode cX10_takeLocal 60 = .ok (.getfield 119, 3) := by decide +kernel
theorem dX10_takeLocal_63 : decode cX10_takeLocal 63 = .ok (.iload_n 2, 1) := by decide +kernel
theorem dX10_takeLocal_64 : decode cX10_takeLocal 64 = .ok (.aload_n 0, 1) := by decide +kernel
theorem dX10_takeLocal_65 : decode cX10_takeLocal 65 = .ok (.getfield 142, 3) := by decide +kernel
theorem dX10_takeLocal_68 : decode cX10_takeLocal 68 = .ok (.aload_n 0, 1) := by decide +kernel
theorem dX10_takeLocal_69 : decode cX10_takeLocal 69 = .ok (.getfield 145, 3) := by decide +kernel
theorem dX10_takeLocal_72 : decode cX10_takeLocal 72 = .ok (.invokevirtual 148, 3) := by decide +kernel
theorem dX10_takeLocal_75 : decode cX10_takeLocal 75 = .ok (.iload_n 3, 1) := by decide +kernel
theorem dX10_takeLocal_76 : decode cX10_takeLocal 76 = .ok (.ireturn, 1) := by decide +kernel
theorem dX10_takeLocals_0 : decode cX10_takeLocals 0 = .ok (.aload_n 0, 1) := by decide +kernel
theorem dX10_takeLocals_1 : decode cX10_takeLocals 1 = .ok (.invokevirtual 103, 3) := by decide +kernel
theorem dX10_takeLocals_4 : decode cX10_takeLocals 4 = .ok (.istore_n 1, 1) := by decide +kernel
theorem dX10_takeLocals_5 : decode cX10_takeLocals 5 = .ok (.iload_n 1, 1) := by decide +kernel
theorem dX10_takeLocals_6 : decode cX10_takeLocals 6 = .ok (.ifCond .eq 5, 3) := by decide +kernel
theorem dX10_takeLocals_9 : decode cX10_takeLocals 9 = .ok (.iload_n 1, 1) := by decide +kernel
theorem dX10_takeLocals_10 : decode cX10_takeLocals 10 = .ok (.ireturn, 1) := by decide +kernel
theorem dX10_takeLocals_11 : decode cX10_takeLocals 11 = .ok (.aload_n 0, 1) := by decide +kernel
theorem dX10_takeLocals_12 : decode cX10_takeLocals 12 = .ok (.getfield 106, 3) := by decide +kernel
theorem dX10_takeLocals_15 : decode cX10_takeLocals 15 = .ok (.sipush 200, 3) := by decide +kernel
theorem dX10_takeLocals_18 : decode cX10_takeLocals 18 = .ok (.if_icmp .le 5, 3) := by decide +kernel
theorem dX10_takeLocals_21 : decode cX10_takeLocals 21 = .ok (.iconst 2, 1) := by decide +kernel
theorem dX10_takeLocals_22 : decode cX10_takeLocals 22 = .ok (.ireturn, 1) := by decide +kernel
theorem dX10_takeLocals_23 : decode cX10_takeLocals 23 = .ok (.aload_n 0, 1) := by decide +kernel
theorem dX10_takeLocals_24 : decode cX10_takeLocals 24 = .ok (.getfield 9, 3) := by decide +kernel
theorem dX10_takeLocals_27 : decode cX10_takeLocals 27 = .ok (.getfield 119, 3) := by decide +kernel
theorem dX10_takeLocals_30 : decode cX10_takeLocals 30 = .ok (.aload_n 0, 1) := by decide +kernel
theorem dX10_takeLocals_31 : decode cX10_takeLocals 31 = .ok (.getfield 106, 3) := by decide +kernel
theorem dX10_takeLocals_34 : decode cX10_takeLocals 34 = .ok (.invokevirtual 123, 3) := by decide +kernel
theorem dX10_takeLocals_37 : decode cX10_takeLocals 37 = .ok (.aload_n 0, 1) := by decide +kernel
theorem dX10_takeLocals_38 : decode cX10_takeLocals 38 = .ok (.iconst 1, 1) := by decide +kernel
theorem dX10_takeLocals_39 : decode cX10_takeLocals 39 = .ok (.putfield 55, 3) := by decide +kernel
theorem dX10_takeLocals_42 : decode cX10_takeLocals 42 = .ok (.aload_n 0, 1) := by decide +kernel
theorem dX10_takeLocals_43 : decode cX10_takeLocals 43 = .ok (.ldc 129, 2) := by decide +kernel
theorem dX10_takeLocals_45 : decode cX10_takeLocals 45 = .ok (.invokevirtual 131, 3) := by decide +kernel
theorem dX10_takeLocals_48 : decode cX10_takeLocals 48 = .ok (.ireturn, 1) := by decide +kernel
theorem dX10_takeProgram_0 : decode cX10_takeProgram 0 = .ok (.aload_n 0, 1) := by decide +kernel
theorem dX10_takeProgram_1 : decode cX10_takeProgram 1 = .ok (.invokevirtual 103, 3) := by decide +kernel
theorem dX10_takeProgram_4 : decode cX10_takeProgram 4 = .ok (.istore_n 1, 1) := by decide +kernel
theorem dX10_takeProgram_5 : decode cX10_takeProgram 5 = .ok (.iload_n 1, 1) := by decide +kernel
theorem dX10_takeProgram_6 : decode cX10_takeProgram 6 = .ok (.ifCond .eq 5, 3) := by decide +kernel
theorem dX10_takeProgram_9 : decode cX10_takeProgram 9 = .ok (.iload_n 1, 1) := by decide +kernel
theorem dX10_takeProgram_10 : decode cX10_takeProgram 10 = .ok (.ireturn, 1) := by decide +kernel
theorem dX10_takeProgram_11 : decode cX10_takeProgram 11 = .ok (.aload_n 0, 1) := by decide +kernel
theorem dX10_takeProgram_12 : decode cX10_takeProgram 12 = .ok (.getfield 106, 3) := by decide +kernel
theorem dX10_takeProgram_15 : decode cX10_takeProgram 15 = .ok (.istore_n 2, 1) := by decide +kernel
theorem dX10_takeProgram_16 : decode cX10_takeProgram 16 = .ok (.aload_n 0, 1) := by decide +kernel
theorem dX10_takeProgram_17 : decode cX10_takeProgram 17 = .ok (.invokevirtual 92, 3) := by decide +kernel
theorem dX10_takeProgram_20 : decode cX10_takeProgram 20 = .ok (.ifCond .ne 5, 3) := by decide +kernel
theorem dX10_takeProgram_23 : decode cX10_takeProgram 23 = .ok (.iconst 1, 1) := by decide +kernel
theorem dX10_takeProgram_24 : decode cX10_takeProgram 24 = .ok (.ireturn, 1) := by decide +kernel
theorem dX10_takeProgram_25 : decode cX10_takeProgram 25 = .ok (.aload_n 0, 1) := by decide +kernel
theorem dX10_takeProgram_26 : decode cX10_takeProgram 26 = .ok (.ldc 175, 2) := by decide +kernel
theorem dX10_takeProgram_28 : decode cX10_takeProgram 28 = .ok (.invokevirtual 97, 3) := by decide +kernel
theorem dX10_takeProgram_31 : decode cX10_takeProgram 31 = .ok (.ifCond .ne 14, 3) := by decide +kernel
theorem dX10_takeProgram_34 : decode cX10_takeProgram 34 = .ok (.aload_n 0, 1) := by decide +kernel
theorem dX10_takeProgram_35 : decode cX10_takeProgram 35 = .ok (.ldc 177, 2) := by decide +kernel
theorem dX10_takeProgram_37 : decode cX10_takeProgram 37 = .ok (.invokevirtual 97, 3) := by decide +kernel
theorem dX10_takeProgram_40 : decode cX10_takeProgram 40 = .ok (.ifCond .ne 5, 3) := by decide +kernel
theorem dX10_takeProgram_43 : decode cX10_takeProgram 43 = .ok (.iconst 2, 1) := by decide +kernel
theorem dX10_takeProgram_44 : decode cX10_takeProgram 44 = .ok (.ireturn, 1) := by decide +kernel
theorem dX10_takeProgram_45 : decode cX10_takeProgram 45 = .ok (.aload_n 0, 1) := by decide +kernel
theorem dX10_takeProgram_46 : decode cX10_takeProgram 46 = .ok (.getfield 48, 3) := by decide +kernel
theorem dX10_takeProgram_49 : decode cX10_takeProgram 49 = .ok (.iconst 1, 1) := by decide +kernel
theorem dX10_takeProgram_50 : decode cX10_takeProgram 50 = .ok (.iadd, 1) := by decide +kernel
theorem dX10_takeProgram_51 : decode cX10_takeProgram 51 = .ok (.istore_n 3, 1) := by decide +kernel
theorem dX10_takeProgram_52 : decode cX10_takeProgram 52 = .ok (.iload_n 3, 1) := by decide +kernel
theorem dX10_takeProgram_53 : decode cX10_takeProgram 53 = .ok (.iload_n 2, 1) := by decide +kernel
theorem dX10_takeProgram_54 : decode cX10_takeProgram 54 = .ok (.iadd, 1) := by decide +kernel
theorem dX10_takeProgram_55 : decode cX10_takeProgram 55 = .ok (.aload_n 0, 1) := by decide +kernel
theorem dX10_takeProgram_56 : decode cX10_takeProgram 56 = .ok (.getfield 15, 3) := by decide +kernel
theorem dX10_takeProgram_59 : decode cX10_takeProgram 59 = .ok (.invokevirtual 23, 3) := by decide +kernel
theorem dX10_takeProgram_62 : decode cX10_takeProgram 62 = .ok (.if_icmp .le 5, 3) := by decide +kernel
theorem dX10_takeProgram_65 : decode cX10_takeProgram 65 = .ok (.iconst 1, 1) := by decide +kernel
theorem dX10_takeProgram_66 : decode cX10_takeProgram 66 = .ok (.ireturn, 1) := by decide +kernel
theorem dX10_takeProgram_67 : decode cX10_takeProgram 67 = .ok (.aload_n 0, 1) := by decide +kernel
theorem dX10_takeProgram_68 : decode cX10_takeProgram 68 = .ok (.iload_n 3, 1) := by decide +kernel
theorem dX10_takeProgram_69 : decode cX10_takeProgram 69 = .ok (.iload_n 2, 1) := by decide +kernel
theorem dX10_takeProgram_70 : decode cX10_takeProgram 70 = .ok (.iadd, 1) := by decide +kernel
theorem dX10_takeProgram_71 : decode cX10_takeProgram 71 = .ok (.putfield 48, 3) := by decide +kernel
theorem dX10_takeProgram_74 : decode cX10_takeProgram 74 = .ok (.aload_n 0, 1) := by decide +kernel
theorem dX10_takeProgram_75 : decode cX10_takeProgram 75 = .ok (.getfield 15, 3) := by decide +kernel
theorem dX10_takeProgram_78 : decode cX10_takeProgram 78 = .ok (.sipush 4330, 3) := by decide +kernel
theorem dX10_takeProgram_81 : decode cX10_takeProgram 81 = .ok (.iload_n 3, 1) := by decide +kernel
theorem dX10_takeProgram_82 : decode cX10_takeProgram 82 = .ok (.aload_n 0, 1) := by decide +kernel
theorem dX10_takeProgram_83 : decode cX10_takeProgram 83 = .ok (.getfield 48, 3) := by decide +kernel
theorem dX10_takeProgram_86 : decode cX10_takeProgram 86 = .ok (.invokevirtual 44, 3) := by decide +kernel
theorem dX10_takeProgram_89 : decode cX10_takeProgram 89 = .ok (.aload_n 0, 1) := by decide +kernel
theorem dX10_takeProgram_90 : decode cX10_takeProgram 90 = .ok (.iload_n 3, 1) := by decide +kernel
theorem dX10_takeProgram_91 : decode cX10_takeProgram 91 = .ok (.aload_n 0, 1) := by decide +kernel
theorem dX10_takeProgram_92 : decode cX10_takeProgram 92 = .ok (.getfield 52, 3) := by decide +kernel
theorem dX10_takeProgram_95 : decode cX10_takeProgram 95 = .ok (.iadd, 1) := by decide +kernel
theorem dX10_takeProgram_96 : decode cX10_takeProgram 96 = .ok (.aload_n 0, 1) := by decide +kernel
theorem dX10_takeProgram_97 : decode cX10_takeProgram 97 = .ok (.getfield 48, 3) := by decide +kernel
theorem dX10_takeProgram_100 : decode cX10_takeProgram 100 = .ok (.invokestatic 179, 3) := by decide +kernel
theorem dX10_takeProgram_103 : decode cX10_takeProgram 103 = .ok (.putfield 142, 3) := by decide +kernel
theorem dX10_takeProgram_106 : decode cX10_takeProgram 106 = .ok (.aload_n 0, 1) := by decide +kernel
theorem dX10_takeProgram_107 : decode cX10_takeProgram 107 = .ok (.aload_n 0, 1) := by decide +kernel
theorem dX10_takeProgram_108 : decode cX10_takeProgram 108 = .ok (.getfield 48, 3) := by decide +kernel
theorem dX10_takeProgram_111 : decode cX10_takeProgram 111 = .ok (.putfield 145, 3) := by decide +kernel
theorem dX10_takeProgram_114 : decode cX10_takeProgram 114 = .ok (.iconst 0, 1) := by decide +kernel
theorem dX10_takeProgram_115 : decode cX10_takeProgram 115 = .ok (.ireturn, 1) := by decide +kernel
theorem dX10_takeSettings_0 : decode cX10_takeSettings 0 = .ok (.aload_n 0, 1) := by decide +kernel
theorem dX10_takeSettings_1 : decode cX10_takeSettings 1 = .ok (.getfield 15, 3) := by decide +kernel
theorem dX10_takeSettings_4 : decode cX10_takeSettings 4 = .ok (.invokevirtual 23, 3) := by decide +kernel
theorem dX10_takeSettings_7 : decode cX10_takeSettings 7 = .ok (.istore_n 1, 1) := by decide +kernel
theorem dX10_takeSettings_8 : decode cX10_takeSettings 8 = .ok (.iconst 0, 1) := by decide +kernel
theorem dX10_takeSettings_9 : decode cX10_takeSettings 9 = .ok (.istore_n 2, 1) := by decide +kernel
theorem dX10_takeSettings_10 : decode cX10_takeSettings 10 = .ok (.iconst 0, 1) := by decide +kernel
theorem dX10_takeSettings_11 : decode cX10_takeSettings 11 = .ok (.istore_n 3, 1) := by decide +kernel
theorem dX10_takeSettings_12 : decode cX10_takeSettings 12 = .ok (.iload_n 3, 1) := by decide +kernel
theorem dX10_takeSettings_13 : decode cX10_takeSettings 13 = .ok (.iload_n 1, 1) := by decide +kernel
theorem dX10_takeSettings_14 : decode cX10_takeSettings 14 = .ok (.if_icmp .gt 107, 3) := by decide +kernel
theorem dX10_takeSettings_17 : decode cX10_takeSettings 17 = .ok (.iload_n 2, 1) := by decide +kernel
theorem dX10_takeSettings_18 : decode cX10_takeSettings 18 = .ok (.ifCond .ne 103, 3) := by decide +kernel
theorem dX10_takeSettings_21 : decode cX10_takeSettings 21 = .ok (.aload_n 0, 1) := by decide +kernel
theorem dX10_takeSettings_22 : decode cX10_takeSettings 22 = .ok (.invokevirtual 92, 3) := by decide +kernel
theorem dX10_takeSettings_25 : decode cX10_takeSettings 25 = .ok (.ifCond .ne 5, 3) := by decide +kernel
theorem dX10_takeSettings_28 : decode cX10_takeSettings 28 = .ok (.iconst 1, 1) := by decide +kernel
theorem dX10_takeSettings_29 : decode cX10_takeSettings 29 = .ok (.ireturn, 1) := by decide +kernel
theorem dX10_takeSettings_30 : decode cX10_takeSettings 30 = .ok (.aload_n 0, 1) := by decide +kernel
theorem dX10_takeSettings_31 : decode cX10_takeSettings 31 = .ok (.ldc 95, 2) := by decide +kernel
theorem dX10_takeSettings_33 : decode cX10_takeSettings 33 = .ok (.invokevirtual 97, 3) := by decide +kernel
theorem dX10_takeSettings_36 : decode cX10_takeSettings 36 = .ok (.ifCond .eq 5, 3) := by decide +kernel
theorem dX10_takeSettings_39 : decode cX10_takeSettings 39 = .ok (.iconst 0, 1) := by decide +kernel
theorem dX10_takeSettings_40 : decode cX10_takeSettings 40 = .ok (.ireturn, 1) := by decide +kernel
theorem dX10_takeSettings_41 : decode cX10_takeSettings 41 = .ok (.aload_n 0, 1) := by decide +kernel
theorem dX10_takeSettings_42 : decode cX10_takeSettings 42 = .ok (.ldc 101, 2) := by decide +kernel
theorem dX10_takeSettings_44 : decode cX10_takeSettings 44 = .ok (.invokevirtual 97, 3) := by decide +kernel
theorem dX10_takeSettings_47 : decode cX10_takeSettings 47 = .ok (.ifCond .eq 30, 3) := by decide +kernel
theorem dX10_takeSettings_50 : decode cX10_takeSettings 50 = .ok (.aload_n 0, 1) := by decide +kernel
theorem dX10_takeSettings_51 : decode cX10_takeSettings 51 = .ok (.invokevirtual 103, 3) := by decide +kernel
theorem dX10_takeSettings_54 : decode cX10_takeSettings 54 = .ok (.istore_n 2, 1) := by decide +kernel
theorem dX10_takeSettings_55 : decode cX10_takeSettings 55 = .ok (.aload_n 0, 1) := by decide +kernel
theorem dX10_takeSettings_56 : decode cX10_takeSettings 56 = .ok (.iload_n 2, 1) := by decide +kernel
theorem dX10_takeSettings_57 : decode cX10_takeSettings 57 = .ok (.ifCond .ne 10, 3) := by decide +kernel
theorem dX10_takeSettings_60 : decode cX10_takeSettings 60 = .ok (.aload_n 0, 1) := by decide +kernel
theorem dX10_takeSettings_61 : decode cX10_takeSettings 61 = .ok (.getfield 106, 3) := by decide +kernel
theorem dX10_takeSettings_64 : decode cX10_takeSettings 64 = .ok (.goto 7, 3) := by decide +kernel
theorem dX10_takeSettings_67 : decode cX10_takeSettings 67 = .ok (.aload_n 0, 1) := by decide +kernel
theorem dX10_takeSettings_68 : decode cX10_takeSettings 68 = .ok (.getfield 52, 3) := by decide +kernel
theorem dX10_takeSettings_71 : decode cX10_takeSettings 71 = .ok (.putfield 52, 3) := by decide +kernel
theorem dX10_takeSettings_74 : decode cX10_takeSettings 74 = .ok (.goto 41, 3) := by decide +kernel
theorem dX10_takeSettings_77 : decode cX10_takeSettings 77 = .ok (.aload_n 0, 1) := by decide +kernel
theorem dX10_takeSettings_78 : decode cX10_takeSettings 78 = .ok (.ldc 109, 2) := by decide +kernel
theorem dX10_takeSettings_80 : decode cX10_takeSettings 80 = .ok (.invokevirtual 97, 3) := by decide +kernel
theorem dX10_takeSettings_83 : decode cX10_takeSettings 83 = .ok (.ifCond .eq 11, 3) := by decide +kernel
theorem dX10_takeSettings_86 : decode cX10_takeSettings 86 = .ok (.aload_n 0, 1) := by decide +kernel
theorem dX10_takeSettings_87 : decode cX10_takeSettings 87 = .ok (.invokevirtual 111, 3) := by decide +kernel
theorem dX10_takeSettings_90 : decode cX10_takeSettings 90 = .ok (.istore_n 2, 1) := by decide +kernel
theorem dX10_takeSettings_91 : decode cX10_takeSettings 91 = .ok (.goto 24, 3) := by decide +kernel
theorem dX10_takeSettings_94 : decode cX10_takeSettings 94 = .ok (.aload_n 0, 1) := by decide +kernel
theorem dX10_takeSettings_95 : decode cX10_takeSettings 95 = .ok (.ldc 114, 2) := by decide +kernel
theorem dX10_takeSettings_97 : decode cX10_takeSettings 97 = .ok (.invokevirtual 97, 3) := by decide +kernel
theorem dX10_takeSettings_100 : decode cX10_takeSettings 100 = .ok (.ifCond .eq 15, 3) := by decide +kernel
theorem dX10_takeSettings_103 : decode cX10_takeSettings 103 = .ok (.aload_n 0, 1) := by decide +kernel
theorem dX10_takeSettings_104 : decode cX10_takeSettings 104 = .ok (.getfield 55, 3) := by decide +kernel
theorem dX10_takeSettings_107 : decode cX10_takeSettings 107 = .ok (.ifCond .eq 8, 3) := by decide +kernel
theorem dX10_takeSettings_110 : decode cX10_takeSettings 110 = .ok (.aload_n 0, 1) := by decide +kernel
theorem dX10_takeSettings_111 : decode cX10_takeSettings 111 = .ok (.invokevirtual 116, 3) := by decide +kernel
theorem dX10_takeSettings_114 : decode cX10_takeSettings 114 = .ok (.istore_n 2, 1) := by decide +kernel
theorem dX10_takeSettings_115 : decode cX10_takeSettings 115 = .ok (.iinc 3 1, 3) := by decide +kernel
theorem dX10_takeSettings_118 : decode cX10_takeSettings 118 = .ok (.goto (-106), 3) := by decide +kernel
theorem dX10_takeSettings_121 : decode cX10_takeSettings 121 = .ok (.iload_n 2, 1) := by decide +kernel
theorem dX10_takeSettings_122 : decode cX10_takeSettings 122 = .ok (.ireturn, 1) := by decide +kernel
theorem dX10_takeThisWord_0 : decode cX10_takeThisWord 0 = .ok (.aload_n 0, 1) := by decide +kernel
theorem dX10_takeThisWord_1 : decode cX10_takeThisWord 1 = .ok (.invokevirtual 92, 3) := by decide +kernel
theorem dX10_takeThisWord_4 : decode cX10_takeThisWord 4 = .ok (.ifCond .ne 5, 3) := by decide +kernel
theorem dX10_takeThisWord_7 : decode cX10_takeThisWord 7 = .ok (.iconst 1, 1) := by decide +kernel
theorem dX10_takeThisWord_8 : decode cX10_takeThisWord 8 = .ok (.ireturn, 1) := by decide +kernel
theorem dX10_takeThisWord_9 : decode cX10_takeThisWord 9 = .ok (.aload_n 0, 1) := by decide +kernel
theorem dX10_takeThisWord_10 : decode cX10_takeThisWord 10 = .ok (.aload_n 1, 1) := by decide +kernel
theorem dX10_takeThisWord_11 : decode cX10_takeThisWord 11 = .ok (.invokevirtual 97, 3) := by decide +kernel
theorem dX10_takeThisWord_14 : decode cX10_takeThisWord 14 = .ok (.ifCond .eq 7, 3) := by decide +kernel
theorem dX10_takeThisWord_17 : decode cX10_takeThisWord 17 = .ok (.iconst 0, 1) := by decide +kernel
theorem dX10_takeThisWord_18 : decode cX10_takeThisWord 18 = .ok (.goto 4, 3) := by decide +kernel
theorem dX10_takeThisWord_21 : decode cX10_takeThisWord 21 = .ok (.iconst 2, 1) := by decide +kernel
theorem dX10_takeThisWord_22 : decode cX10_takeThisWord 22 = .ok (.ireturn, 1) := by decide +kernel
theorem dX10_takeWord_0 : decode cX10_takeWord 0 = .ok (.aload_n 0, 1) := by decide +kernel
theorem dX10_takeWord_1 : decode cX10_takeWord 1 = .ok (.getfield 15, 3) := by decide +kernel
theorem dX10_takeWord_4 : decode cX10_takeWord 4 = .ok (.invokevirtual 23, 3) := by decide +kernel
theorem dX10_takeWord_7 : decode cX10_takeWord 7 = .ok (.istore_n 1, 1) := by decide +kernel
theorem dX10_takeWord_8 : decode cX10_takeWord 8 = .ok (.aload_n 0, 1) := by decide +kernel
theorem dX10_takeWord_9 : decode cX10_takeWord 9 = .ok (.getfield 48, 3) := by decide +kernel
theorem dX10_takeWord_12 : decode cX10_takeWord 12 = .ok (.iload_n 1, 1) := by decide +kernel
theorem dX10_takeWord_13 : decode cX10_takeWord 13 = .ok (.if_icmp .ge 34, 3) := by decide +kernel
theorem dX10_takeWord_16 : decode cX10_takeWord 16 = .ok (.aload_n 0, 1) := by decide +kernel
theorem dX10_takeWord_17 : decode cX10_takeWord 17 = .ok (.getfield 15, 3) := by decide +kernel
theorem dX10_takeWord_20 : decode cX10_takeWord 20 = .ok (.aload_n 0, 1) := by decide +kernel
theorem dX10_takeWord_21 : decode cX10_takeWord 21 = .ok (.getfield 48, 3) := by decide +kernel
theorem dX10_takeWord_24 : decode cX10_takeWord 24 = .ok (.i2l, 1) := by decide +kernel
theorem dX10_takeWord_25 : decode cX10_takeWord 25 = .ok (.invokevirtual 76, 3) := by decide +kernel
theorem dX10_takeWord_28 : decode cX10_takeWord 28 = .ok (.invokestatic 80, 3) := by decide +kernel
theorem dX10_takeWord_31 : decode cX10_takeWord 31 = .ok (.ifCond .eq 16, 3) := by decide +kernel
theorem dX10_takeWord_34 : decode cX10_takeWord 34 = .ok (.aload_n 0, 1) := by decide +kernel
theorem dX10_takeWord_35 : decode cX10_takeWord 35 = .ok (.dup, 1) := by decide +kernel
theorem dX10_takeWord_36 : decode cX10_takeWord 36 = .ok (.getfield 48, 3) := by decide +kernel
theorem dX10_takeWord_39 : decode cX10_takeWord 39 = .ok (.iconst 1, 1) := by decide +kernel
theorem dX10_takeWord_40 : decode cX10_takeWord 40 = .ok (.iadd, 1) := by decide +kernel
theorem dX10_takeWord_41 : decode cX10_takeWord 41 = .ok (.putfield 48, 3) := by decide +kernel
theorem dX10_takeWord_44 : decode cX10_takeWord 44 = .ok (.goto (-36), 3) := by decide +kernel
theorem dX10_takeWord_47 : decode cX10_takeWord 47 = .ok (.aload_n 0, 1) := by decide +kernel
theorem dX10_takeWord_48 : decode cX10_takeWord 48 = .ok (.aload_n 0, 1) := by decide +kernel
theorem dX10_takeWord_49 : decode cX10_takeWord 49 = .ok (.getfield 48, 3) := by decide +kernel
theorem dX10_takeWord_52 : decode cX10_takeWord 52 = .ok (.putfield 162, 3) := by decide +kernel
theorem dX10_takeWord_55 : decode cX10_takeWord 55 = .ok (.aload_n 0, 1) := by decide +kernel
theorem dX10_takeWord_56 : decode cX10_takeWord 56 = .ok (.getfield 48, 3) := by decide +kernel
theorem dX10_takeWord_59 : decode cX10_takeWord 59 = .ok (.iload_n 1, 1) := by decide +kernel
theorem dX10_takeWord_60 : decode cX10_takeWord 60 = .ok (.if_icmp .ge 34, 3) := by decide +kernel
theorem dX10_takeWord_63 : decode cX10_takeWord 63 = .ok (.aload_n 0, 1) := by decide +kernel
theorem dX10_takeWord_64 : decode cX10_takeWord 64 = .ok (.getfield 15, 3) := by decide +kernel
theorem dX10_takeWord_67 : decode cX10_takeWord 67 = .ok (.aload_n 0, 1) := by decide +kernel
theorem dX10_takeWord_68 : decode cX10_takeWord 68 = .ok (.getfield 48, 3) := by decide +kernel
theorem dX10_takeWord_71 : decode cX10_takeWord 71 = .ok (.i2l, 1) := by decide +kernel
theorem dX10_takeWord_72 : decode cX10_takeWord 72 = .ok (.invokevirtual 76, 3) := by decide +kernel
theorem dX10_takeWord_75 : decode cX10_takeWord 75 = .ok (.invokestatic 80, 3) := by decide +kernel
theorem dX10_takeWord_78 : decode cX10_takeWord 78 = .ok (.ifCond .ne 16, 3) := by decide +kernel
theorem dX10_takeWord_81 : decode cX10_takeWord 81 = .ok (.aload_n 0, 1) := by decide +kernel
theorem dX10_takeWord_82 : decode cX10_takeWord 82 = .ok (.dup, 1) := by decide +kernel
theorem dX10_takeWord_83 : decode cX10_takeWord 83 = .ok (.getfield 48, 3) := by decide +kernel
theorem dX10_takeWord_86 : decode cX10_takeWord 86 = .ok (.iconst 1, 1) := by decide +kernel
theorem dX10_takeWord_87 : decode cX10_takeWord 87 = .ok (.iadd, 1) := by decide +kernel
theorem dX10_takeWord_88 : decode cX10_takeWord 88 = .ok (.putfield 48, 3) := by decide +kernel
theorem dX10_takeWord_91 : decode cX10_takeWord 91 = .ok (.goto (-36), 3) := by decide +kernel
theorem dX10_takeWord_94 : decode cX10_takeWord 94 = .ok (.aload_n 0, 1) := by decide +kernel
theorem dX10_takeWord_95 : decode cX10_takeWord 95 = .ok (.aload_n 0, 1) := by decide +kernel
theorem dX10_takeWord_96 : decode cX10_takeWord 96 = .ok (.getfield 48, 3) := by decide +kernel
theorem dX10_takeWord_99 : decode cX10_takeWord 99 = .ok (.putfield 165, 3) := by decide +kernel
theorem dX10_takeWord_102 : decode cX10_takeWord 102 = .ok (.aload_n 0, 1) := by decide +kernel
theorem dX10_takeWord_103 : decode cX10_takeWord 103 = .ok (.getfield 165, 3) := by decide +kernel
theorem dX10_takeWord_106 : decode cX10_takeWord 106 = .ok (.aload_n 0, 1) := by decide +kernel
theorem dX10_takeWord_107 : decode cX10_takeWord 107 = .ok (.getfield 162, 3) := by decide +kernel
theorem dX10_takeWord_110 : decode cX10_takeWord 110 = .ok (.if_icmp .le 7, 3) := by decide +kernel
theorem dX10_takeWord_113 : decode cX10_takeWord 113 = .ok (.iconst 1, 1) := by decide +kernel
theorem dX10_takeWord_114 : decode cX10_takeWord 114 = .ok (.goto 4, 3) := by decide +kernel
theorem dX10_takeWord_117 : decode cX10_takeWord 117 = .ok (.iconst 0, 1) := by decide +kernel
theorem dX10_takeWord_118 : decode cX10_takeWord 118 = .ok (.ireturn, 1) := by decide +kernel
theorem dX11_at_0 : decode cX11_at 0 = .ok (.aload_n 0, 1) := by decide +kernel
theorem dX11_at_1 : decode cX11_at 1 = .ok (.getfield 48, 3) := by decide +kernel
theorem dX11_at_4 : decode cX11_at 4 = .ok (.iload_n 1, 1) := by decide +kernel
theorem dX11_at_5 : decode cX11_at 5 = .ok (.iload_n 2, 1) := by decide +kernel
theorem dX11_at_6 : decode cX11_at 6 = .ok (.iload_n 3, 1) := by decide +kernel
theorem dX11_at_7 : decode cX11_at 7 = .ok (.invokevirtual 161, 3) := by decide +kernel
theorem dX11_at_10 : decode cX11_at 10 = .ok (.lreturn, 1) := by decide +kernel
theorem dX11_back_0 : decode cX11_back 0 = .ok (.aload_n 0, 1) := by decide +kernel
theorem dX11_back_1 : decode cX11_back 1 = .ok (.getfield 14, 3) := by decide +kernel
theorem dX11_back_4 : decode cX11_back 4 = .ok (.invokevirtual 75, 3) := by decide +kernel
theorem dX11_back_7 : decode cX11_back 7 = .ok (.aload_n 0, 1) := by decide +kernel
theorem dX11_back_8 : decode cX11_back 8 = .ok (.getfield 18, 3) := by decide +kernel
theorem dX11_back_11 : decode cX11_back 11 = .ok (.invokevirtual 75, 3) := by decide +kernel
theorem dX11_back_14 : decode cX11_back 14 = .ok (.iadd, 1) := by decide +kernel
theorem dX11_back_15 : decode cX11_back 15 = .ok (.sipush 1500, 3) := by decide +kernel
theorem dX11_back_18 : decode cX11_back 18 = .ok (.if_icmp .le 5, 3) := by decide +kernel
theorem dX11_back_21 : decode cX11_back 21 = .ok (.iconst (-1), 1) := by decide +kernel
theorem dX11_back_22 : decode cX11_back 22 = .ok (.ireturn, 1) := by decide +kernel
theorem dX11_back_23 : decode cX11_back 23 = .ok (.aload_n 0, 1) := by decide +kernel
theorem dX11_back_24 : decode cX11_back 24 = .ok (.getfield 14, 3) := by decide +kernel
theorem dX11_back_27 : decode cX11_back 27 = .ok (.aload_n 0, 1) := by decide +kernel
theorem dX11_back_28 : decode cX11_back 28 = .ok (.getfield 18, 3) := by decide +kernel
theorem dX11_back_31 : decode cX11_back 31 = .ok (.iconst 0, 1) := by decide +kernel
theorem dX11_back_32 : decode cX11_back 32 = .ok (.invokevirtual 172, 3) := by decide +kernel
theorem dX11_back_35 : decode cX11_back 35 = .ok (.aload_n 0, 1) := by decide +kernel
theorem dX11_back_36 : decode cX11_back 36 = .ok (.getfield 18, 3) := by decide +kernel
theorem dX11_back_39 : decode cX11_back 39 = .ok (.iconst 0, 1) := by decide +kernel
theorem dX11_back_40 : decode cX11_back 40 = .ok (.invokevirtual 82, 3) := by decide +kernel
theorem dX11_back_43 : decode cX11_back 43 = .ok (.aload_n 0, 1) := by decide +kernel
theorem dX11_back_44 : decode cX11_back 44 = .ok (.getfield 14, 3) := by decide +kernel
theorem dX11_back_47 : decode cX11_back 47 = .ok (.invokevirtual 75, 3) := by decide +kernel
theorem dX11_back_50 : decode cX11_back 50 = .ok (.ireturn, 1) := by decide +kernel
theorem dX11_bytesBehind_0 : decode cX11_bytesBehind 0 = .ok (.iload_n 0, 1) := by decide +kernel
theorem dX11_bytesBehind_1 : decode cX11_bytesBehind 1 = .ok (.bipush 28, 2) := by decide +kernel
theorem dX11_bytesBehind_3 : decode cX11_bytesBehind 3 = .ok (.if_icmp .ne 5, 3) := by decide +kernel
theorem dX11_bytesBehind_6 : decode cX11_bytesBehind 6 = .ok (.iconst 2, 1) := by decide +kernel
theorem dX11_bytesBehind_7 : decode cX11_bytesBehind 7 = .ok (.ireturn, 1) := by decide +kernel
theorem dX11_bytesBehind_8 : decode cX11_bytesBehind 8 = .ok (.iload_n 0, 1) := by decide +kernel
theorem dX11_bytesBehind_9 : decode cX11_bytesBehind 9 = .ok (.bipush 29, 2) := by decide +kernel
theorem dX11_bytesBehind_11 : decode cX11_bytesBehind 11 = .ok (.if_icmp .eq 10, 3) := by decide +kernel
theorem dX11_bytesBehind_14 : decode cX11_bytesBehind 14 = .ok (.iload_n 0, 1) := by decide +kernel
theorem dX11_bytesBehind_15 : decode cX11_bytesBehind 15 = .ok (.sipush 255, 3) := by decide +kernel
theorem dX11_bytesBehind_18 : decode cX11_bytesBehind 18 = .ok (.if_icmp .ne 5, 3) := by decide +kernel
theorem dX11_bytesBehind_21 : decode cX11_bytesBehind 21 = .ok (.iconst 4, 1) := by decide +kernel
theorem dX11_bytesBehind_22 : decode cX11_bytesBehind 22 = .ok (.ireturn, 1) := by decide +kernel
theorem dX11_bytesBehind_23 : decode cX11_bytesBehind 23 = .ok (.iload_n 0, 1) := by decide +kernel
theorem dX11_bytesBehind_24 : decode cX11_bytesBehind 24 = .ok (.sipush 247, 3) := by decide +kernel
theorem dX11_bytesBehind_27 : decode cX11_bytesBehind 27 = .ok (.if_icmp .lt 7, 3) := by decide +kernel
theorem dX11_bytesBehind_30 : decode cX11_bytesBehind 30 = .ok (.iconst 1, 1) := by decide +kernel
theorem dX11_bytesBehind_31 : decode cX11_bytesBehind 31 = .ok (.goto 4, 3) := by decide +kernel
theorem dX11_bytesBehind_34 : decode cX11_bytesBehind 34 = .ok (.iconst 0, 1) := by decide +kernel
theorem dX11_bytesBehind_35 : decode cX11_bytesBehind 35 = .ok (.ireturn, 1) := by decide +kernel
theorem dX11_cipher_0 : decode cX11_cipher 0 = .ok (.iload_n 1, 1) := by decide +kernel
theorem dX11_cipher_1 : decode cX11_cipher 1 = .ok (.iload_n 2, 1) := by decide +kernel
theorem dX11_cipher_2 : decode cX11_cipher 2 = .ok (.invokestatic 165, 3) := by decide +kernel
theorem dX11_cipher_5 : decode cX11_cipher 5 = .ok (.ifCond .ne 5, 3) := by decide +kernel
theorem dX11_cipher_8 : decode cX11_cipher 8 = .ok (.iconst (-1), 1) := by decide +kernel
theorem dX11_cipher_9 : decode cX11_cipher 9 = .ok (.ireturn, 1) := by decide +kernel
theorem dX11_cipher_10 : decode cX11_cipher 10 = .ok (.aload_n 0, 1) := by decide +kernel
theorem dX11_cipher_11 : decode cX11_cipher 11 = .ok (.getfield 18, 3) := by decide +kernel
theorem dX11_cipher_14 : decode cX11_cipher 14 = .ok (.iconst 0, 1) := by decide +kernel
theorem dX11_cipher_15 : decode cX11_cipher 15 = .ok (.invokevirtual 82, 3) := by decide +kernel
theorem dX11_cipher_18 : decode cX11_cipher 18 = .ok (.iconst 0, 1) := by decide +kernel
theorem dX11_cipher_19 : decode cX11_cipher 19 = .ok (.istore_n 3, 1) := by decide +kernel
theorem dX11_cipher_20 : decode cX11_cipher 20 = .ok (.iload_n 3, 1) := by decide +kernel
theorem dX11_cipher_21 : decode cX11_cipher 21 = .ok (.iload_n 2, 1) := by decide +kernel
theorem dX11_cipher_22 : decode cX11_cipher 22 = .ok (.if_icmp .ge 17, 3) := by decide +kernel
theorem dX11_cipher_25 : decode cX11_cipher 25 = .ok (.aload_n 0, 1) := by decide +kernel
theorem dX11_cipher_26 : decode cX11_cipher 26 = .ok (.getfield 18, 3) := by decide +kernel
theorem dX11_cipher_29 : decode cX11_cipher 29 = .ok (.iconst 0, 1) := by decide +kernel
theorem dX11_cipher_30 : decode cX11_cipher 30 = .ok (.invokevirtual 169, 3) := by decide +kernel
theorem dX11_cipher_33 : decode cX11_cipher 33 = .ok (.iinc 3 1, 3) := by decide +kernel
theorem dX11_cipher_36 : decode cX11_cipher 36 = .ok (.goto (-16), 3) := by decide +kernel
theorem dX11_cipher_39 : decode cX11_cipher 39 = .ok (.aload_n 0, 1) := by decide +kernel
theorem dX11_cipher_40 : decode cX11_cipher 40 = .ok (.getfield 18, 3) := by decide +kernel
theorem dX11_cipher_43 : decode cX11_cipher 43 = .ok (.aload_n 0, 1) := by decide +kernel
theorem dX11_cipher_44 : decode cX11_cipher 44 = .ok (.getfield 14, 3) := by decide +kernel
theorem dX11_cipher_47 : decode cX11_cipher 47 = .ok (.iconst 0, 1) := by decide +kernel
theorem dX11_cipher_48 : decode cX11_cipher 48 = .ok (.invokevirtual 172, 3) := by decide +kernel
theorem dX11_cipher_51 : decode cX11_cipher 51 = .ok (.aload_n 0, 1) := by decide +kernel
theorem dX11_cipher_52 : decode cX11_cipher 52 = .ok (.getfield 18, 3) := by decide +kernel
theorem dX11_cipher_55 : decode cX11_cipher 55 = .ok (.iload_n 1, 1) := by decide +kernel
theorem dX11_cipher_56 : decode cX11_cipher 56 = .ok (.invokevirtual 176, 3) := by decide +kernel
theorem dX11_cipher_59 : decode cX11_cipher 59 = .ok (.aload_n 0, 1) := by decide +kernel
theorem dX11_cipher_60 : decode cX11_cipher 60 = .ok (.getfield 14, 3) := by decide +kernel
theorem dX11_cipher_63 : decode cX11_cipher 63 = .ok (.iconst 0, 1) := by decide +kernel
theorem dX11_cipher_64 : decode cX11_cipher 64 = .ok (.invokevirtual 82, 3) := by decide +kernel
theorem dX11_cipher_67 : decode cX11_cipher 67 = .ok (.aload_n 0, 1) := by decide +kernel
theorem dX11_cipher_68 : decode cX11_cipher 68 = .ok (.getfield 18, 3) := by decide +kernel
theorem dX11_cipher_71 : decode cX11_cipher 71 = .ok (.invokevirtual 75, 3) := by decide +kernel
theorem dX11_cipher_74 : decode cX11_cipher 74 = .ok (.ireturn, 1) := by decide +kernel
theorem dX11_code_0 : decode cX11_code 0 = .ok (.aload_n 0, 1) := by decide +kernel
theorem dX11_code_1 : decode cX11_code 1 = .ok (.getfield 24, 3) := by decide +kernel
theorem dX11_code_4 : decode cX11_code 4 = .ok (.iload_n 1, 1) := by decide +kernel
theorem dX11_code_5 : decode cX11_code 5 = .ok (.invokevirtual 113, 3) := by decide +kernel
theorem dX11_code_8 : decode cX11_code 8 = .ok (.astore 4, 2) := by decide +kernel
theorem dX11_code_10 : decode cX11_code 10 = .ok (.aload 4, 2) := by decide +kernel
theorem dX11_code_12 : decode cX11_code 12 = .ok (.ifnull 34, 3) := by decide +kernel
theorem dX11_code_15 : decode cX11_code 15 = .ok (.aload 4, 2) := by decide +kernel
theorem dX11_code_17 : decode cX11_code 17 = .ok (.iload_n 2, 1) := by decide +kernel
theorem dX11_code_18 : decode cX11_code 18 = .ok (.i2l, 1) := by decide +kernel
theorem dX11_code_19 : decode cX11_code 19 = .ok (.invokevirtual 117, 3) := by decide +kernel
theorem dX11_code_22 : decode cX11_code 22 = .ok (.ifCond .eq 24, 3) := by decide +kernel
theorem dX11_code_25 : decode cX11_code 25 = .ok (.iload_n 3, 1) := by decide +kernel
theorem dX11_code_26 : decode cX11_code 26 = .ok (.ifCond .lt 20, 3) := by decide +kernel
theorem dX11_code_29 : decode cX11_code 29 = .ok (.iload_n 3, 1) := by decide +kernel
theorem dX11_code_30 : decode cX11_code 30 = .ok (.aload 4, 2) := by decide +kernel
theorem dX11_code_32 : decode cX11_code 32 = .ok (.iload_n 2, 1) := by decide +kernel
theorem dX11_code_33 : decode cX11_code 33 = .ok (.invokevirtual 121, 3) := by decide +kernel
theorem dX11_code_36 : decode cX11_code 36 = .ok (.aload 4, 2) := by decide +kernel
theorem dX11_code_38 : decode cX11_code 38 = .ok (.iload_n 2, 1) := by decide +kernel
theorem dX11_code_39 : decode cX11_code 39 = .ok (.invokevirtual 125, 3) := by decide +kernel
theorem dX11_code_42 : decode cX11_code 42 = .ok (.isub, 1) := by decide +kernel
theorem dX11_code_43 : decode cX11_code 43 = .ok (.if_icmp .lt 5, 3) := by decide +kernel
theorem dX11_code_46 : decode cX11_code 46 = .ok (.iconst (-1), 1) := by decide +kernel
theorem dX11_code_47 : decode cX11_code 47 = .ok (.ireturn, 1) := by decide +kernel
theorem dX11_code_48 : decode cX11_code 48 = .ok (.aload_n 0, 1) := by decide +kernel
theorem dX11_code_49 : decode cX11_code 49 = .ok (.getfield 24, 3) := by decide +kernel
theorem dX11_code_52 : decode cX11_code 52 = .ok (.getfield 128, 3) := by decide +kernel
theorem dX11_code_55 : decode cX11_code 55 = .ok (.aload 4, 2) := by decide +kernel
theorem dX11_code_57 : decode cX11_code 57 = .ok (.iload_n 2, 1) := by decide +kernel
theorem dX11_code_58 : decode cX11_code 58 = .ok (.invokevirtual 125, 3) := by decide +kernel
theorem dX11_code_61 : decode cX11_code 61 = .ok (.iload_n 3, 1) := by decide +kernel
theorem dX11_code_62 : decode cX11_code 62 = .ok (.iadd, 1) := by decide +kernel
theorem dX11_code_63 : decode cX11_code 63 = .ok (.i2l, 1) := by decide +kernel
theorem dX11_code_64 : decode cX11_code 64 = .ok (.invokevirtual 131, 3) := by decide +kernel
theorem dX11_code_67 : decode cX11_code 67 = .ok (.ireturn, 1) := by decide +kernel
theorem dX11_count_0 : decode cX11_count 0 = .ok (.iload_n 1, 1) := by decide +kernel
theorem dX11_count_1 : decode cX11_count 1 = .ok (.lookupswitch 43 #[(0, 27), (1, 35)], 27) := by decide +kernel
theorem dX11_count_28 : decode cX11_count 28 = .ok (.aload_n 0, 1) := by decide +kernel
theorem dX11_count_29 : decode cX11_count 29 = .ok (.getfield 14, 3) := by decide +kernel
theorem dX11_count_32 : decode cX11_count 32 = .ok (.invokevirtual 75, 3) := by decide +kernel
theorem dX11_count_35 : decode cX11_count 35 = .ok (.ireturn, 1) := by decide +kernel
theorem dX11_count_36 : decode cX11_count 36 = .ok (.aload_n 0, 1) := by decide +kernel
theorem dX11_count_37 : decode cX11_count 37 = .ok (.getfield 18, 3) := by decide +kernel
theorem dX11_count_40 : decode cX11_count 40 = .ok (.invokevirtual 75, 3) := by decide +kernel
theorem dX11_count_43 : decode cX11_count 43 = .ok (.ireturn, 1) := by decide +kernel
theorem dX11_count_44 : decode cX11_count 44 = .ok (.iconst (-1), 1) := by decide +kernel
theorem dX11_count_45 : decode cX11_count 45 = .ok (.ireturn, 1) := by decide +kernel
theorem dX11_digitOf_0 : decode cX11_digitOf 0 = .ok (.iload_n 0, 1) := by decide +kernel
theorem dX11_digitOf_1 : decode cX11_digitOf 1 = .ok (.bipush 48, 2) := by decide +kernel
theorem dX11_digitOf_3 : decode cX11_digitOf 3 = .ok (.if_icmp .lt 14, 3) := by decide +kernel
theorem dX11_digitOf_6 : decode cX11_digitOf 6 = .ok (.iload_n 0, 1) := by decide +kernel
theorem dX11_digitOf_7 : decode cX11_digitOf 7 = .ok (.bipush 57, 2) := by decide +kernel
theorem dX11_digitOf_9 : decode cX11_digitOf 9 = .ok (.if_icmp .gt 8, 3) := by decide +kernel
theorem dX11_digitOf_12 : decode cX11_digitOf 12 = .ok (.iload_n 0, 1) := by decide +kernel
theorem dX11_digitOf_13 : decode cX11_digitOf 13 = .ok (.bipush 48, 2) := by decide +kernel
theorem dX11_digitOf_15 : decode cX11_digitOf 15 = .ok (.isub, 1) := by decide +kernel
theorem dX11_digitOf_16 : decode cX11_digitOf 16 = .ok (.ireturn, 1) := by decide +kernel
theorem dX11_digitOf_17 : decode cX11_digitOf 17 = .ok (.iload_n 0, 1) := by decide +kernel
theorem dX11_digitOf_18 : decode cX11_digitOf 18 = .ok (.bipush 97, 2) := by decide +kernel
theorem dX11_digitOf_20 : decode cX11_digitOf 20 = .ok (.if_icmp .lt 17, 3) := by decide +kernel
theorem dX11_digitOf_23 : decode cX11_digitOf 23 = .ok (.iload_n 0, 1) := by decide +kernel
theorem dX11_digitOf_24 : decode cX11_digitOf 24 = .ok (.bipush 102, 2) := by decide +kernel
theorem dX11_digitOf_26 : decode cX11_digitOf 26 = .ok (.if_icmp .gt 11, 3) := by decide +kernel
theorem dX11_digitOf_29 : decode cX11_digitOf 29 = .ok (.iload_n 0, 1) := by decide +kernel
theorem dX11_digitOf_30 : decode cX11_digitOf 30 = .ok (.bipush 97, 2) := by decide +kernel
theorem dX11_digitOf_32 : decode cX11_digitOf 32 = .ok (.isub, 1) := by decide +kernel
theorem dX11_digitOf_33 : decode cX11_digitOf 33 = .ok (.bipush 10, 2) := by decide +kernel
theorem dX11_digitOf_35 : decode cX11_digitOf 35 = .ok (.iadd, 1) := by decide +kernel
theorem dX11_digitOf_36 : decode cX11_digitOf 36 = .ok (.ireturn, 1) := by decide +kernel
theorem dX11_digitOf_37 : decode cX11_digitOf 37 = .ok (.iload_n 0, 1) := by decide +kernel
theorem dX11_digitOf_38 : decode cX11_digitOf 38 = .ok (.bipush 65, 2) := by decide +kernel
theorem dX11_digitOf_40 : decode cX11_digitOf 40 = .ok (.if_icmp .lt 17, 3) := by decide +kernel
theorem dX11_digitOf_43 : decode cX11_digitOf 43 = .ok (.iload_n 0, 1) := by decide +kernel
theorem dX11_digitOf_44 : decode cX11_digitOf 44 = .ok (.bipush 70, 2) := by decide +kernel
theorem dX11_digitOf_46 : decode cX11_digitOf 46 = .ok (.if_icmp .gt 11, 3) := by decide +kernel
theorem dX11_digitOf_49 : decode cX11_digitOf 49 = .ok (.iload_n 0, 1) := by decide +kernel
theorem dX11_digitOf_50 : decode cX11_digitOf 50 = .ok (.bipush 65, 2) := by decide +kernel
theorem dX11_digitOf_52 : decode cX11_digitOf 52 = .ok (.isub, 1) := by decide +kernel
theorem dX11_digitOf_53 : decode cX11_digitOf 53 = .ok (.bipush 10, 2) := by decide +kernel
theorem dX11_digitOf_55 : decode cX11_digitOf 55 = .ok (.iadd, 1) := by decide +kernel
theorem dX11_digitOf_56 : decode cX11_digitOf 56 = .ok (.ireturn, 1) := by decide +kernel
theorem dX11_digitOf_57 : decode cX11_digitOf 57 = .ok (.iconst (-1), 1) := by decide +kernel
theorem dX11_digitOf_58 : decode cX11_digitOf 58 = .ok (.ireturn, 1) := by decide +kernel
theorem dX11_draw_0 : decode cX11_draw 0 = .ok (.aload_n 0, 1) := by decide +kernel
theorem dX11_draw_1 : decode cX11_draw 1 = .ok (.getfield 24, 3) := by decide +kernel
theorem dX11_draw_4 : decode cX11_draw 4 = .ok (.getfield 94, 3) := by decide +kernel
theorem dX11_draw_7 : decode cX11_draw 7 = .ok (.iload_n 1, 1) := by decide +kernel
theorem dX11_draw_8 : decode cX11_draw 8 = .ok (.i2l, 1) := by decide +kernel
theorem dX11_draw_9 : decode cX11_draw 9 = .ok (.invokevirtual 117, 3) := by decide +kernel
theorem dX11_draw_12 : decode cX11_draw 12 = .ok (.ifCond .eq 14, 3) := by decide +kernel
theorem dX11_draw_15 : decode cX11_draw 15 = .ok (.iload_n 2, 1) := by decide +kernel
theorem dX11_draw_16 : decode cX11_draw 16 = .ok (.ifCond .lt 10, 3) := by decide +kernel
theorem dX11_draw_19 : decode cX11_draw 19 = .ok (.iload_n 2, 1) := by decide +kernel
theorem dX11_draw_20 : decode cX11_draw 20 = .ok (.sipush 400, 3) := by decide +kernel
theorem dX11_draw_23 : decode cX11_draw 23 = .ok (.if_icmp .le 5, 3) := by decide +kernel
theorem dX11_draw_26 : decode cX11_draw 26 = .ok (.iconst (-1), 1) := by decide +kernel
theorem dX11_draw_27 : decode cX11_draw 27 = .ok (.ireturn, 1) := by decide +kernel
theorem dX11_draw_28 : decode cX11_draw 28 = .ok (.aload_n 0, 1) := by decide +kernel
theorem dX11_draw_29 : decode cX11_draw 29 = .ok (.getfield 48, 3) := by decide +kernel
theorem dX11_draw_32 : decode cX11_draw 32 = .ok (.iload_n 2, 1) := by decide +kernel
theorem dX11_draw_33 : decode cX11_draw 33 = .ok (.invokevirtual 135, 3) := by decide +kernel
theorem dX11_draw_36 : decode cX11_draw 36 = .ok (.aload_n 0, 1) := by decide +kernel
theorem dX11_draw_37 : decode cX11_draw 37 = .ok (.getfield 24, 3) := by decide +kernel
theorem dX11_draw_40 : decode cX11_draw 40 = .ok (.getfield 90, 3) := by decide +kernel
theorem dX11_draw_43 : decode cX11_draw 43 = .ok (.ifCond .ne 14, 3) := by decide +kernel
theorem dX11_draw_46 : decode cX11_draw 46 = .ok (.aload_n 0, 1) := by decide +kernel
theorem dX11_draw_47 : decode cX11_draw 47 = .ok (.aload_n 0, 1) := by decide +kernel
theorem dX11_draw_48 : decode cX11_draw 48 = .ok (.getfield 60, 3) := by decide +kernel
theorem dX11_draw_51 : decode cX11_draw 51 = .ok (.putfield 71, 3) := by decide +kernel
theorem dX11_draw_54 : decode cX11_draw 54 = .ok (.goto 11, 3) := by decide +kernel
theorem dX11_draw_57 : decode cX11_draw 57 = .ok (.aload_n 0, 1) := by decide +kernel
theorem dX11_draw_58 : decode cX11_draw 58 = .ok (.aload_n 0, 1) := by decide +kernel
theorem dX11_draw_59 : decode cX11_draw 59 = .ok (.getfield 67, 3) := by decide +kernel
theorem dX11_draw_62 : decode cX11_draw 62 = .ok (.putfield 71, 3) := by decide +kernel
theorem dX11_draw_65 : decode cX11_draw 65 = .ok (.aload_n 0, 1) := by decide +kernel
theorem dX11_draw_66 : decode cX11_draw 66 = .ok (.getfield 71, 3) := by decide +kernel
theorem dX11_draw_69 : decode cX11_draw 69 = .ok (.aload_n 0, 1) := by decide +kernel
theorem dX11_draw_70 : decode cX11_draw 70 = .ok (.getfield 24, 3) := by decide +kernel
theorem dX11_draw_73 : decode cX11_draw 73 = .ok (.iload_n 1, 1) := by decide +kernel
theorem dX11_draw_74 : decode cX11_draw 74 = .ok (.invokevirtual 138, 3) := by decide +kernel
theorem dX11_draw_77 : decode cX11_draw 77 = .ok (.ireturn, 1) := by decide +kernel
theorem dX11_drawn_0 : decode cX11_drawn 0 = .ok (.aload_n 0, 1) := by decide +kernel
theorem dX11_drawn_1 : decode cX11_drawn 1 = .ok (.getfield 71, 3) := by decide +kernel
theorem dX11_drawn_4 : decode cX11_drawn 4 = .ok (.ifnonnull 5, 3) := by decide +kernel
theorem dX11_drawn_7 : decode cX11_drawn 7 = .ok (.iconst (-1), 1) := by decide +kernel
theorem dX11_drawn_8 : decode cX11_drawn 8 = .ok (.ireturn, 1) := by decide +kernel
theorem dX11_drawn_9 : decode cX11_drawn 9 = .ok (.iload_n 1, 1) := by decide +kernel
theorem dX11_drawn_10 : decode cX11_drawn 10 = .ok (.tableswitch 62 0 3 #[30, 38, 46, 54], 30) := by decide +kernel
theorem dX11_drawn_40 : decode cX11_drawn 40 = .ok (.aload_n 0, 1) := by decide +kernel
theorem dX11_drawn_41 : decode cX11_drawn 41 = .ok (.getfield 48, 3) := by decide +kernel
theorem dX11_drawn_44 : decode cX11_drawn 44 = .ok (.invokevirtual 144, 3) := by decide +kernel
theorem dX11_drawn_47 : decode cX11_drawn 47 = .ok (.ireturn, 1) := by decide +kernel
theorem dX11_drawn_48 : decode cX11_drawn 48 = .ok (.aload_n 0, 1) := by decide +kernel
theorem dX11_drawn_49 : decode cX11_drawn 49 = .ok (.getfield 71, 3) := by decide +kernel
theorem dX11_drawn_52 : decode cX11_drawn 52 = .ok (.getfield 145, 3) := by decide +kernel
theorem dX11_drawn_55 : decode cX11_drawn 55 = .ok (.ireturn, 1) := by decide +kernel
theorem dX11_drawn_56 : decode cX11_drawn 56 = .ok (.aload_n 0, 1) := by decide +kernel
theorem dX11_drawn_57 : decode cX11_drawn 57 = .ok (.getfield 71, 3) := by decide +kernel
theorem dX11_drawn_60 : decode cX11_drawn 60 = .ok (.getfield 148, 3) := by decide +kernel
theorem dX11_drawn_63 : decode cX11_drawn 63 = .ok (.ireturn, 1) := by decide +kernel
theorem dX11_drawn_64 : decode cX11_drawn 64 = .ok (.aload_n 0, 1) := by decide +kernel
theorem dX11_drawn_65 : decode cX11_drawn 65 = .ok (.getfield 71, 3) := by decide +kernel
theorem dX11_drawn_68 : decode cX11_drawn 68 = .ok (.invokevirtual 151, 3) := by decide +kernel
theorem dX11_drawn_71 : decode cX11_drawn 71 = .ok (.ireturn, 1) := by decide +kernel
theorem dX11_drawn_72 : decode cX11_drawn 72 = .ok (.iconst (-1), 1) := by decide +kernel
theorem dX11_drawn_73 : decode cX11_drawn 73 = .ok (.ireturn, 1) := by decide +kernel
theorem dX11_end_0 : decode cX11_end 0 = .ok (.iload_n 1, 1) := by decide +kernel
theorem dX11_end_1 : decode cX11_end 1 = .ok (.ifCond .lt 14, 3) := by decide +kernel
theorem dX11_end_4 : decode cX11_end 4 = .ok (.iload_n 1, 1) := by decide +kernel
theorem dX11_end_5 : decode cX11_end 5 = .ok (.aload_n 0, 1) := by decide +kernel
theorem dX11_end_6 : decode cX11_end 6 = .ok (.getfield 14, 3) := by decide +kernel
theorem dX11_end_9 : decode cX11_end 9 = .ok (.invokevirtual 75, 3) := by decide +kernel
theorem dX11_end_12 : decode cX11_end 12 = .ok (.if_icmp .le 5, 3) := by decide +kernel
theorem dX11_end_15 : decode cX11_end 15 = .ok (.iconst (-1), 1) := by decide +kernel
theorem dX11_end_16 : decode cX11_end 16 = .ok (.ireturn, 1) := by decide +kernel
theorem dX11_end_17 : decode cX11_end 17 = .ok (.aload_n 0, 1) := by decide +kernel
theorem dX11_end_18 : decode cX11_end 18 = .ok (.getfield 14, 3) := by decide +kernel
theorem dX11_end_21 : decode cX11_end 21 = .ok (.iload_n 1, 1) := by decide +kernel
theorem dX11_end_22 : decode cX11_end 22 = .ok (.invokevirtual 82, 3) := by decide +kernel
theorem dX11_end_25 : decode cX11_end 25 = .ok (.iload_n 1, 1) := by decide +kernel
theorem dX11_end_26 : decode cX11_end 26 = .ok (.ireturn, 1) := by decide +kernel
theorem dX11_feed_0 : decode cX11_feed 0 = .ok (.aload_n 0, 1) := by decide +kernel
theorem dX11_feed_1 : decode cX11_feed 1 = .ok (.getfield 14, 3) := by decide +kernel
theorem dX11_feed_4 : decode cX11_feed 4 = .ok (.invokevirtual 75, 3) := by decide +kernel
theorem dX11_feed_7 : decode cX11_feed 7 = .ok (.bipush 20, 2) := by decide +kernel
theorem dX11_feed_9 : decode cX11_feed 9 = .ok (.iadd, 1) := by decide +kernel
theorem dX11_feed_10 : decode cX11_feed 10 = .ok (.sipush 1500, 3) := by decide +kernel
theorem dX11_feed_13 : decode cX11_feed 13 = .ok (.if_icmp .le 5, 3) := by decide +kernel
theorem dX11_feed_16 : decode cX11_feed 16 = .ok (.iconst (-1), 1) := by decide +kernel
theorem dX11_feed_17 : decode cX11_feed 17 = .ok (.ireturn, 1) := by decide +kernel
theorem dX11_feed_18 : decode cX11_feed 18 = .ok (.aload_n 0, 1) := by decide +kernel
theorem dX11_feed_19 : decode cX11_feed 19 = .ok (.getfield 14, 3) := by decide +kernel
theorem dX11_feed_22 : decode cX11_feed 22 = .ok (.iload_n 1, 1) := by decide +kernel
theorem dX11_feed_23 : decode cX11_feed 23 = .ok (.invokevirtual 79, 3) := by decide +kernel
theorem dX11_feed_26 : decode cX11_feed 26 = .ok (.aload_n 0, 1) := by decide +kernel
theorem dX11_feed_27 : decode cX11_feed 27 = .ok (.getfield 14, 3) := by decide +kernel
theorem dX11_feed_30 : decode cX11_feed 30 = .ok (.iload_n 2, 1) := by decide +kernel
theorem dX11_feed_31 : decode cX11_feed 31 = .ok (.invokevirtual 79, 3) := by decide +kernel
theorem dX11_feed_34 : decode cX11_feed 34 = .ok (.aload_n 0, 1) := by decide +kernel
theorem dX11_feed_35 : decode cX11_feed 35 = .ok (.getfield 14, 3) := by decide +kernel
theorem dX11_feed_38 : decode cX11_feed 38 = .ok (.iload_n 3, 1) := by decide +kernel
theorem dX11_feed_39 : decode cX11_feed 39 = .ok (.invokevirtual 79, 3) := by decide +kernel
theorem dX11_feed_42 : decode cX11_feed 42 = .ok (.aload_n 0, 1) := by decide +kernel
theorem dX11_feed_43 : decode cX11_feed 43 = .ok (.getfield 14, 3) := by decide +kernel
theorem dX11_feed_46 : decode cX11_feed 46 = .ok (.iload 4, 2) := by decide +kernel
theorem dX11_feed_48 : decode cX11_feed 48 = .ok (.invokevirtual 79, 3) := by decide +kernel
theorem dX11_feed_51 : decode cX11_feed 51 = .ok (.aload_n 0, 1) := by decide +kernel
theorem dX11_feed_52 : decode cX11_feed 52 = .ok (.getfield 14, 3) := by decide +kernel
theorem dX11_feed_55 : decode cX11_feed 55 = .ok (.iload 5, 2) := by decide +kernel
theorem dX11_feed_57 : decode cX11_feed 57 = .ok (.invokevirtual 79, 3) := by decide +kernel
theorem dX11_feed_60 : decode cX11_feed 60 = .ok (.aload_n 0, 1) := by decide +kernel
theorem dX11_feed_61 : decode cX11_feed 61 = .ok (.getfield 14, 3) := by decide +kernel
theorem dX11_feed_64 : decode cX11_feed 64 = .ok (.invokevirtual 75, 3) := by decide +kernel
theorem dX11_feed_67 : decode cX11_feed 67 = .ok (.ireturn, 1) := by decide +kernel
theorem dX11_font_0 : decode cX11_font 0 = .ok (.aload_n 0, 1) := by decide +kernel
theorem dX11_font_1 : decode cX11_font 1 = .ok (.getfield 24, 3) := by decide +kernel
theorem dX11_font_4 : decode cX11_font 4 = .ok (.getfield 90, 3) := by decide +kernel
theorem dX11_font_7 : decode cX11_font 7 = .ok (.iconst (-1), 1) := by decide +kernel
theorem dX11_font_8 : decode cX11_font 8 = .ok (.if_icmp .ne 5, 3) := by decide +kernel
theorem dX11_font_11 : decode cX11_font 11 = .ok (.iconst (-1), 1) := by decide +kernel
theorem dX11_font_12 : decode cX11_font 12 = .ok (.ireturn, 1) := by decide +kernel
theorem dX11_font_13 : decode cX11_font 13 = .ok (.iload_n 1, 1) := by decide +kernel
theorem dX11_font_14 : decode cX11_font 14 = .ok (.tableswitch 95 0 5 #[38, 46, 57, 68, 79, 87], 38) := by decide +kernel
theorem dX11_font_52 : decode cX11_font 52 = .ok (.aload_n 0, 1) := by decide +kernel
theorem dX11_font_53 : decode cX11_font 53 = .ok (.getfield 24, 3) := by decide +kernel
theorem dX11_font_56 : decode cX11_font 56 = .ok (.getfield 90, 3) := by decide +kernel
theorem dX11_font_59 : decode cX11_font 59 = .ok (.ireturn, 1) := by decide +kernel
theorem dX11_font_60 : decode cX11_font 60 = .ok (.aload_n 0, 1) := by decide +kernel
theorem dX11_font_61 : decode cX11_font 61 = .ok (.getfield 24, 3) := by decide +kernel
theorem dX11_font_64 : decode cX11_font 64 = .ok (.getfield 94, 3) := by decide +kernel
theorem dX11_font_67 : decode cX11_font 67 = .ok (.invokevirtual 98, 3) := by decide +kernel
theorem dX11_font_70 : decode cX11_font 70 = .ok (.ireturn, 1) := by decide +kernel
theorem dX11_font_71 : decode cX11_font 71 = .ok (.aload_n 0, 1) := by decide +kernel
theorem dX11_font_72 : decode cX11_font 72 = .ok (.getfield 24, 3) := by decide +kernel
theorem dX11_font_75 : decode cX11_font 75 = .ok (.getfield 101, 3) := by decide +kernel
theorem dX11_font_78 : decode cX11_font 78 = .ok (.invokevirtual 98, 3) := by decide +kernel
theorem dX11_font_81 : decode cX11_font 81 = .ok (.ireturn, 1) := by decide +kernel
theorem dX11_font_82 : decode cX11_font 82 = .ok (.aload_n 0, 1) := by decide +kernel
theorem dX11_font_83 : decode cX11_font 83 = .ok (.getfield 24, 3) := by decide +kernel
theorem dX11_font_86 : decode cX11_font 86 = .ok (.getfield 104, 3) := by decide +kernel
theorem dX11_font_89 : decode cX11_font 89 = .ok (.invokevirtual 98, 3) := by decide +kernel
theorem dX11_font_92 : decode cX11_font 92 = .ok (.ireturn, 1) := by decide +kernel
theorem dX11_font_93 : decode cX11_font 93 = .ok (.aload_n 0, 1) := by decide +kernel
theorem dX11_font_94 : decode cX11_font 94 = .ok (.getfield 24, 3) := by decide +kernel
theorem dX11_font_97 : decode cX11_font 97 = .ok (.getfield 107, 3) := by decide +kernel
theorem dX11_font_100 : decode cX11_font 100 = .ok (.ireturn, 1) := by decide +kernel
theorem dX11_font_101 : decode cX11_font 101 = .ok (.aload_n 0, 1) := by decide +kernel
theorem dX11_font_102 : decode cX11_font 102 = .ok (.getfield 24, 3) := by decide +kernel
theorem dX11_font_105 : decode cX11_font 105 = .ok (.getfield 110, 3) := by decide +kernel
theorem dX11_font_108 : decode cX11_font 108 = .ok (.ireturn, 1) := by decide +kernel
theorem dX11_font_109 : decode cX11_font 109 = .ok (.iconst (-1), 1) := by decide +kernel
theorem dX11_font_110 : decode cX11_font 110 = .ok (.ireturn, 1) := by decide +kernel
theorem dX11_isBlank_0 : decode cX11_isBlank 0 = .ok (.iload_n 0, 1) := by decide +kernel
theorem dX11_isBlank_1 : decode cX11_isBlank 1 = .ok (.bipush 9, 2) := by decide +kernel
theorem dX11_isBlank_3 : decode cX11_isBlank 3 = .ok (.if_icmp .eq 21, 3) := by decide +kernel
theorem dX11_isBlank_6 : decode cX11_isBlank 6 = .ok (.iload_n 0, 1) := by decide +kernel
theorem dX11_isBlank_7 : decode cX11_isBlank 7 = .ok (.bipush 10, 2) := by decide +kernel
theorem dX11_isBlank_9 : decode cX11_isBlank 9 = .ok (.if_icmp .eq 15, 3) := by decide +kernel
theorem dX11_isBlank_12 : decode cX11_isBlank 12 = .ok (.iload_n 0, 1) := by decide +kernel
theorem dX11_isBlank_13 : decode cX11_isBlank 13 = .ok (.bipush 13, 2) := by decide +kernel
theorem dX11_isBlank_15 : decode cX11_isBlank 15 = .ok (.if_icmp .eq 9, 3) := by decide +kernel
theorem dX11_isBlank_18 : decode cX11_isBlank 18 = .ok (.iload_n 0, 1) := by decide +kernel
theorem dX11_isBlank_19 : decode cX11_isBlank 19 = .ok (.bipush 32, 2) := by decide +kernel
theorem dX11_isBlank_21 : decode cX11_isBlank 21 = .ok (.if_icmp .ne 7, 3) := by decide +kernel
theorem dX11_isBlank_24 : decode cX11_isBlank 24 = .ok (.iconst 1, 1) := by decide +kernel
theorem dX11_isBlank_25 : decode cX11_isBlank 25 = .ok (.goto 4, 3) := by decide +kernel
theorem dX11_isBlank_28 : decode cX11_isBlank 28 = .ok (.iconst 0, 1) := by decide +kernel
theorem dX11_isBlank_29 : decode cX11_isBlank 29 = .ok (.ireturn, 1) := by decide +kernel
theorem dX11_isKeyAndNumber_0 : decode cX11_isKeyAndNumber 0 = .ok (.iload_n 0, 1) := by decide +kernel
theorem dX11_isKeyAndNumber_1 : decode cX11_isKeyAndNumber 1 = .ok (.ifCond .lt 23, 3) := by decide +kernel
theorem dX11_isKeyAndNumber_4 : decode cX11_isKeyAndNumber 4 = .ok (.iload_n 0, 1) := by decide +kernel
theorem dX11_isKeyAndNumber_5 : decode cX11_isKeyAndNumber 5 = .ok (.ldc 183, 2) := by decide +kernel
theorem dX11_isKeyAndNumber_7 : decode cX11_isKeyAndNumber 7 = .ok (.if_icmp .gt 17, 3) := by decide +kernel
theorem dX11_isKeyAndNumber_10 : decode cX11_isKeyAndNumber 10 = .ok (.iload_n 1, 1) := by decide +kernel
theorem dX11_isKeyAndNumber_11 : decode cX11_isKeyAndNumber 11 = .ok (.ifCond .lt 13, 3) := by decide +kernel
theorem dX11_isKeyAndNumber_14 : decode cX11_isKeyAndNumber 14 = .ok (.iload_n 1, 1) := by decide +kernel
theorem dX11_isKeyAndNumber_15 : decode cX11_isKeyAndNumber 15 = .ok (.bipush 8, 2) := by decide +kernel
theorem dX11_isKeyAndNumber_17 : decode cX11_isKeyAndNumber 17 = .ok (.if_icmp .gt 7, 3) := by decide +kernel
theorem dX11_isKeyAndNumber_20 : decode cX11_isKeyAndNumber 20 = .ok (.iconst 1, 1) := by decide +kernel
theorem dX11_isKeyAndNumber_21 : decode cX11_isKeyAndNumber 21 = .ok (.goto 4, 3) := by decide +kernel
theorem dX11_isKeyAndNumber_24 : decode cX11_isKeyAndNumber 24 = .ok (.iconst 0, 1) := by decide +kernel
theorem dX11_isKeyAndNumber_25 : decode cX11_isKeyAndNumber 25 = .ok (.ireturn, 1) := by decide +kernel
theorem dX11_octet_0 : decode cX11_octet 0 = .ok (.aload_n 0, 1) := by decide +kernel
theorem dX11_octet_1 : decode cX11_octet 1 = .ok (.getfield 18, 3) := by decide +kernel
theorem dX11_octet_4 : decode cX11_octet 4 = .ok (.iload_n 1, 1) := by decide +kernel
theorem dX11_octet_5 : decode cX11_octet 5 = .ok (.i2l, 1) := by decide +kernel
theorem dX11_octet_6 : decode cX11_octet 6 = .ok (.invokevirtual 131, 3) := by decide +kernel
theorem dX11_octet_9 : decode cX11_octet 9 = .ok (.ireturn, 1) := by decide +kernel
theorem dX11_part_0 : decode cX11_part 0 = .ok (.aload_n 0, 1) := by decide +kernel
theorem dX11_part_1 : decode cX11_part 1 = .ok (.getfield 48, 3) := by decide +kernel
theorem dX11_part_4 : decode cX11_part 4 = .ok (.iload_n 1, 1) := by decide +kernel
theorem dX11_part_5 : decode cX11_part 5 = .ok (.invokevirtual 158, 3) := by decide +kernel
theorem dX11_part_8 : decode cX11_part 8 = .ok (.ireturn, 1) := by decide +kernel
theorem dX11_plain_0 : decode cX11_plain 0 = .ok (.iload_n 1, 1) := by decide +kernel
theorem dX11_plain_1 : decode cX11_plain 1 = .ok (.iload_n 2, 1) := by decide +kernel
theorem dX11_plain_2 : decode cX11_plain 2 = .ok (.invokestatic 165, 3) := by decide +kernel
theorem dX11_plain_5 : decode cX11_plain 5 = .ok (.ifCond .ne 5, 3) := by decide +kernel
theorem dX11_plain_8 : decode cX11_plain 8 = .ok (.iconst (-1), 1) := by decide +kernel
theorem dX11_plain_9 : decode cX11_plain 9 = .ok (.ireturn, 1) := by decide +kernel
theorem dX11_plain_10 : decode cX11_plain 10 = .ok (.aload_n 0, 1) := by decide +kernel
theorem dX11_plain_11 : decode cX11_plain 11 = .ok (.getfield 14, 3) := by decide +kernel
theorem dX11_plain_14 : decode cX11_plain 14 = .ok (.iload_n 1, 1) := by decide +kernel
theorem dX11_plain_15 : decode cX11_plain 15 = .ok (.iconst 0, 1) := by decide +kernel
theorem dX11_plain_16 : decode cX11_plain 16 = .ok (.aload_n 0, 1) := by decide +kernel
theorem dX11_plain_17 : decode cX11_plain 17 = .ok (.getfield 14, 3) := by decide +kernel
theorem dX11_plain_20 : decode cX11_plain 20 = .ok (.invokevirtual 75, 3) := by decide +kernel
theorem dX11_plain_23 : decode cX11_plain 23 = .ok (.invokevirtual 179, 3) := by decide +kernel
theorem dX11_plain_26 : decode cX11_plain 26 = .ok (.aload_n 0, 1) := by decide +kernel
theorem dX11_plain_27 : decode cX11_plain 27 = .ok (.getfield 18, 3) := by decide +kernel
theorem dX11_plain_30 : decode cX11_plain 30 = .ok (.iconst 0, 1) := by decide +kernel
theorem dX11_plain_31 : decode cX11_plain 31 = .ok (.invokevirtual 82, 3) := by decide +kernel
theorem dX11_plain_34 : decode cX11_plain 34 = .ok (.aload_n 0, 1) := by decide +kernel
theorem dX11_plain_35 : decode cX11_plain 35 = .ok (.getfield 18, 3) := by decide +kernel
theorem dX11_plain_38 : decode cX11_plain 38 = .ok (.aload_n 0, 1) := by decide +kernel
theorem dX11_plain_39 : decode cX11_plain 39 = .ok (.getfield 14, 3) := by decide +kernel
theorem dX11_plain_42 : decode cX11_plain 42 = .ok (.iload_n 2, 1) := by decide +kernel
theorem dX11_plain_43 : decode cX11_plain 43 = .ok (.invokevirtual 172, 3) := by decide +kernel
theorem dX11_plain_46 : decode cX11_plain 46 = .ok (.aload_n 0, 1) := by decide +kernel
theorem dX11_plain_47 : decode cX11_plain 47 = .ok (.getfield 14, 3) := by decide +kernel
theorem dX11_plain_50 : decode cX11_plain 50 = .ok (.iconst 0, 1) := by decide +kernel
theorem dX11_plain_51 : decode cX11_plain 51 = .ok (.invokevirtual 82, 3) := by decide +kernel
theorem dX11_plain_54 : decode cX11_plain 54 = .ok (.aload_n 0, 1) := by decide +kernel
theorem dX11_plain_55 : decode cX11_plain 55 = .ok (.getfield 18, 3) := by decide +kernel
theorem dX11_plain_58 : decode cX11_plain 58 = .ok (.invokevirtual 75, 3) := by decide +kernel
theorem dX11_plain_61 : decode cX11_plain 61 = .ok (.ireturn, 1) := by decide +kernel
theorem dX11_read_0 : decode cX11_read 0 = .ok (.iload_n 1, 1) := by decide +kernel
theorem dX11_read_1 : decode cX11_read 1 = .ok (.ifCond .eq 10, 3) := by decide +kernel
theorem dX11_read_4 : decode cX11_read 4 = .ok (.iload_n 1, 1) := by decide +kernel
theorem dX11_read_5 : decode cX11_read 5 = .ok (.iconst 1, 1) := by decide +kernel
theorem dX11_read_6 : decode cX11_read 6 = .ok (.if_icmp .eq 5, 3) := by decide +kernel
theorem dX11_read_9 : decode cX11_read 9 = .ok (.iconst (-1), 1) := by decide +kernel
theorem dX11_read_10 : decode cX11_read 10 = .ok (.ireturn, 1) := by decide +kernel
theorem dX11_read_11 : decode cX11_read 11 = .ok (.iload_n 1, 1) := by decide +kernel
theorem dX11_read_12 : decode cX11_read 12 = .ok (.ifCond .ne 21, 3) := by decide +kernel
theorem dX11_read_15 : decode cX11_read 15 = .ok (.aload_n 0, 1) := by decide +kernel
theorem dX11_read_16 : decode cX11_read 16 = .ok (.getfield 34, 3) := by decide +kernel
theorem dX11_read_19 : decode cX11_read 19 = .ok (.aload_n 0, 1) := by decide +kernel
theorem dX11_read_20 : decode cX11_read 20 = .ok (.getfield 14, 3) := by decide +kernel
theorem dX11_read_23 : decode cX11_read 23 = .ok (.aload_n 0, 1) := by decide +kernel
theorem dX11_read_24 : decode cX11_read 24 = .ok (.getfield 28, 3) := by decide +kernel
theorem dX11_read_27 : decode cX11_read 27 = .ok (.invokevirtual 85, 3) := by decide +kernel
theorem dX11_read_30 : decode cX11_read 30 = .ok (.goto 18, 3) := by decide +kernel
theorem dX11_read_33 : decode cX11_read 33 = .ok (.aload_n 0, 1) := by decide +kernel
theorem dX11_read_34 : decode cX11_read 34 = .ok (.getfield 41, 3) := by decide +kernel
theorem dX11_read_37 : decode cX11_read 37 = .ok (.aload_n 0, 1) := by decide +kernel
theorem dX11_read_38 : decode cX11_read 38 = .ok (.getfield 14, 3) := by decide +kernel
theorem dX11_read_41 : decode cX11_read 41 = .ok (.aload_n 0, 1) := by decide +kernel
theorem dX11_read_42 : decode cX11_read 42 = .ok (.getfield 28, 3) := by decide +kernel
theorem dX11_read_45 : decode cX11_read 45 = .ok (.invokevirtual 89, 3) := by decide +kernel
theorem dX11_read_48 : decode cX11_read 48 = .ok (.istore_n 2, 1) := by decide +kernel
theorem dX11_read_49 : decode cX11_read 49 = .ok (.aload_n 0, 1) := by decide +kernel
theorem dX11_read_50 : decode cX11_read 50 = .ok (.getfield 14, 3) := by decide +kernel
theorem dX11_read_53 : decode cX11_read 53 = .ok (.iconst 0, 1) := by decide +kernel
theorem dX11_read_54 : decode cX11_read 54 = .ok (.invokevirtual 82, 3) := by decide +kernel
theorem dX11_read_57 : decode cX11_read 57 = .ok (.iload_n 2, 1) := by decide +kernel
theorem dX11_read_58 : decode cX11_read 58 = .ok (.ifCond .ne 21, 3) := by decide +kernel
theorem dX11_read_61 : decode cX11_read 61 = .ok (.aload_n 0, 1) := by decide +kernel
theorem dX11_read_62 : decode cX11_read 62 = .ok (.getfield 24, 3) := by decide +kernel
theorem dX11_read_65 : decode cX11_read 65 = .ok (.astore_n 3, 1) := by decide +kernel
theorem dX11_read_66 : decode cX11_read 66 = .ok (.aload_n 0, 1) := by decide +kernel
theorem dX11_read_67 : decode cX11_read 67 = .ok (.aload_n 0, 1) := by decide +kernel
theorem dX11_read_68 : decode cX11_read 68 = .ok (.getfield 28, 3) := by decide +kernel
theorem dX11_read_71 : decode cX11_read 71 = .ok (.putfield 24, 3) := by decide +kernel
theorem dX11_read_74 : decode cX11_read 74 = .ok (.aload_n 0, 1) := by decide +kernel
theorem dX11_read_75 : decode cX11_read 75 = .ok (.aload_n 3, 1) := by decide +kernel
theorem dX11_read_76 : decode cX11_read 76 = .ok (.putfield 28, 3) := by decide +kernel
theorem dX11_read_79 : decode cX11_read 79 = .ok (.iload_n 2, 1) := by decide +kernel
theorem dX11_read_80 : decode cX11_read 80 = .ok (.ireturn, 1) := by decide +kernel
theorem dX11_wholeNumber_0 : decode cX11_wholeNumber 0 = .ok (.iload_n 0, 1) := by decide +kernel
theorem dX11_wholeNumber_1 : decode cX11_wholeNumber 1 = .ok (.bipush 28, 2) := by decide +kernel
theorem dX11_wholeNumber_3 : decode cX11_wholeNumber 3 = .ok (.if_icmp .ne 6, 3) := by decide +kernel
theorem dX11_wholeNumber_6 : decode cX11_wholeNumber 6 = .ok (.iload_n 1, 1) := by decide +kernel
theorem dX11_wholeNumber_7 : decode cX11_wholeNumber 7 = .ok (.i2s, 1) := by decide +kernel
theorem dX11_wholeNumber_8 : decode cX11_wholeNumber 8 = .ok (.ireturn, 1) := by decide +kernel
theorem dX11_wholeNumber_9 : decode cX11_wholeNumber 9 = .ok (.iload_n 0, 1) := by decide +kernel
theorem dX11_wholeNumber_10 : decode cX11_wholeNumber 10 = .ok (.bipush 29, 2) := by decide +kernel
theorem dX11_wholeNumber_12 : decode cX11_wholeNumber 12 = .ok (.if_icmp .ne 5, 3) := by decide +kernel
theorem dX11_wholeNumber_15 : decode cX11_wholeNumber 15 = .ok (.iload_n 1, 1) := by decide +kernel
theorem dX11_wholeNumber_16 : decode cX11_wholeNumber 16 = .ok (.ireturn, 1) := by decide +kernel
theorem dX11_wholeNumber_17 : decode cX11_wholeNumber 17 = .ok (.iload_n 0, 1) := by decide +kernel
theorem dX11_wholeNumber_18 : decode cX11_wholeNumber 18 = .ok (.sipush 246, 3) := by decide +kernel
theorem dX11_wholeNumber_21 : decode cX11_wholeNumber 21 = .ok (.if_icmp .gt 9, 3) := by decide +kernel
theorem dX11_wholeNumber_24 : decode cX11_wholeNumber 24 = .ok (.iload_n 0, 1) := by decide +kernel
theorem dX11_wholeNumber_25 : decode cX11_wholeNumber 25 = .ok (.sipush 139, 3) := by decide +kernel
theorem dX11_wholeNumber_28 : decode cX11_wholeNumber 28 = .ok (.isub, 1) := by decide +kernel
theorem dX11_wholeNumber_29 : decode cX11_wholeNumber 29 = .ok (.ireturn, 1) := by decide +kernel
theorem dX11_wholeNumber_30 : decode cX11_wholeNumber 30 = .ok (.iload_n 0, 1) := by decide +kernel
theorem dX11_wholeNumber_31 : decode cX11_wholeNumber 31 = .ok (.sipush 250, 3) := by decide +kernel
theorem dX11_wholeNumber_34 : decode cX11_wholeNumber 34 = .ok (.if_icmp .gt 18, 3) := by decide +kernel
theorem dX11_wholeNumber_37 : decode cX11_wholeNumber 37 = .ok (.iload_n 0, 1) := by decide +kernel
theorem dX11_wholeNumber_38 : decode cX11_wholeNumber 38 = .ok (.sipush 247, 3) := by decide +kernel
theorem dX11_wholeNumber_41 : decode cX11_wholeNumber 41 = .ok (.isub, 1) := by decide +kernel
theorem dX11_wholeNumber_42 : decode cX11_wholeNumber 42 = .ok (.sipush 256, 3) := by decide +kernel
theorem dX11_wholeNumber_45 : decode cX11_wholeNumber 45 = .ok (.imul, 1) := by decide +kernel
theorem dX11_wholeNumber_46 : decode cX11_wholeNumber 46 = .ok (.iload_n 1, 1) := by decide +kernel
theorem dX11_wholeNumber_47 : decode cX11_wholeNumber 47 = .ok (.iadd, 1) := by decide +kernel
theorem dX11_wholeNumber_48 : decode cX11_wholeNumber 48 = .ok (.bipush 108, 2) := by decide +kernel
theorem dX11_wholeNumber_50 : decode cX11_wholeNumber 50 = .ok (.iadd, 1) := by decide +kernel
theorem dX11_wholeNumber_51 : decode cX11_wholeNumber 51 = .ok (.ireturn, 1) := by decide +kernel
theorem dX11_wholeNumber_52 : decode cX11_wholeNumber 52 = .ok (.iload_n 0, 1) := by decide +kernel
theorem dX11_wholeNumber_53 : decode cX11_wholeNumber 53 = .ok (.sipush 251, 3) := by decide +kernel
theorem dX11_wholeNumber_56 : decode cX11_wholeNumber 56 = .ok (.isub, 1) := by decide +kernel
theorem dX11_wholeNumber_57 : decode cX11_wholeNumber 57 = .ok (.ineg, 1) := by decide +kernel
theorem dX11_wholeNumber_58 : decode cX11_wholeNumber 58 = .ok (.sipush 256, 3) := by decide +kernel
theorem dX11_wholeNumber_61 : decode cX11_wholeNumber 61 = .ok (.imul, 1) := by decide +kernel
theorem dX11_wholeNumber_62 : decode cX11_wholeNumber 62 = .ok (.iload_n 1, 1) := by decide +kernel
theorem dX11_wholeNumber_63 : decode cX11_wholeNumber 63 = .ok (.isub, 1) := by decide +kernel
theorem dX11_wholeNumber_64 : decode cX11_wholeNumber 64 = .ok (.bipush 108, 2) := by decide +kernel
theorem dX11_wholeNumber_66 : decode cX11_wholeNumber 66 = .ok (.isub, 1) := by decide +kernel
theorem dX11_wholeNumber_67 : decode cX11_wholeNumber 67 = .ok (.ireturn, 1) := by decide +kernel
theorem dX11_width_0 : decode cX11_width 0 = .ok (.aload_n 0, 1) := by decide +kernel
theorem dX11_width_1 : decode cX11_width 1 = .ok (.getfield 71, 3) := by decide +kernel
theorem dX11_width_4 : decode cX11_width 4 = .ok (.ifnonnull 7, 3) := by decide +kernel
theorem dX11_width_7 : decode cX11_width 7 = .ok (.lconst 0, 1) := by decide +kernel
theorem dX11_width_8 : decode cX11_width 8 = .ok (.goto 10, 3) := by decide +kernel
theorem dX11_width_11 : decode cX11_width 11 = .ok (.aload_n 0, 1) := by decide +kernel
theorem dX11_width_12 : decode cX11_width 12 = .ok (.getfield 71, 3) := by decide +kernel
theorem dX11_width_15 : decode cX11_width 15 = .ok (.getfield 154, 3) := by decide +kernel
theorem dX11_width_18 : decode cX11_width 18 = .ok (.lreturn, 1) := by decide +kernel
theorem dX1_isOperand_0 : decode cX1_isOperand 0 = .ok (.iload_n 0, 1) := by decide +kernel
theorem dX1_isOperand_1 : decode cX1_isOperand 1 = .ok (.bipush 28, 2) := by decide +kernel
theorem dX1_isOperand_3 : decode cX1_isOperand 3 = .ok (.if_icmp .lt 9, 3) := by decide +kernel
theorem dX1_isOperand_6 : decode cX1_isOperand 6 = .ok (.iload_n 0, 1) := by decide +kernel
theorem dX1_isOperand_7 : decode cX1_isOperand 7 = .ok (.bipush 30, 2) := by decide +kernel
theorem dX1_isOperand_9 : decode cX1_isOperand 9 = .ok (.if_icmp .le 16, 3) := by decide +kernel
theorem dX1_isOperand_12 : decode cX1_isOperand 12 = .ok (.iload_n 0, 1) := by decide +kernel
theorem dX1_isOperand_13 : decode cX1_isOperand 13 = .ok (.bipush 32, 2) := by decide +kernel
theorem dX1_isOperand_15 : decode cX1_isOperand 15 = .ok (.if_icmp .lt 14, 3) := by decide +kernel
theorem dX1_isOperand_18 : decode cX1_isOperand 18 = .ok (.iload_n 0, 1) := by decide +kernel
theorem dX1_isOperand_19 : decode cX1_isOperand 19 = .ok (.sipush 254, 3) := by decide +kernel
theorem dX1_isOperand_22 : decode cX1_isOperand 22 = .ok (.if_icmp .gt 7, 3) := by decide +kernel
theorem dX1_isOperand_25 : decode cX1_isOperand 25 = .ok (.iconst 1, 1) := by decide +kernel
theorem dX1_isOperand_26 : decode cX1_isOperand 26 = .ok (.goto 4, 3) := by decide +kernel
theorem dX1_isOperand_29 : decode cX1_isOperand 29 = .ok (.iconst 0, 1) := by decide +kernel
theorem dX1_isOperand_30 : decode cX1_isOperand 30 = .ok (.ireturn, 1) := by decide +kernel
theorem dX1_parse_0 : decode cX1_parse 0 = .ok (.aload_n 2, 1) := by decide +kernel
theorem dX1_parse_1 : decode cX1_parse 1 = .ok (.iconst 0, 1) := by decide +kernel
theorem dX1_parse_2 : decode cX1_parse 2 = .ok (.aload_n 1, 1) := by decide +kernel
theorem dX1_parse_3 : decode cX1_parse 3 = .ok (.iconst 0, 1) := by decide +kernel
theorem dX1_parse_4 : decode cX1_parse 4 = .ok (.invokevirtual 34, 3) := by decide +kernel
theorem dX1_parse_7 : decode cX1_parse 7 = .ok (.aload_n 0, 1) := by decide +kernel
theorem dX1_parse_8 : decode cX1_parse 8 = .ok (.aload_n 2, 1) := by decide +kernel
theorem dX1_parse_9 : decode cX1_parse 9 = .ok (.putfield 20, 3) := by decide +kernel
theorem dX1_parse_12 : decode cX1_parse 12 = .ok (.aload_n 0, 1) := by decide +kernel
theorem dX1_parse_13 : decode cX1_parse 13 = .ok (.aload_n 2, 1) := by decide +kernel
theorem dX1_parse_14 : decode cX1_parse 14 = .ok (.getfield 40, 3) := by decide +kernel
theorem dX1_parse_17 : decode cX1_parse 17 = .ok (.putfield 24, 3) := by decide +kernel
theorem dX1_parse_20 : decode cX1_parse 20 = .ok (.aload_n 0, 1) := by decide +kernel
theorem dX1_parse_21 : decode cX1_parse 21 = .ok (.iconst 0, 1) := by decide +kernel
theorem dX1_parse_22 : decode cX1_parse 22 = .ok (.putfield 41, 3) := by decide +kernel
theorem dX1_parse_25 : decode cX1_parse 25 = .ok (.aload_n 0, 1) := by decide +kernel
theorem dX1_parse_26 : decode cX1_parse 26 = .ok (.ldc2_w 28, 3) := by decide +kernel
theorem dX1_parse_29 : decode cX1_parse 29 = .ok (.putfield 30, 3) := by decide +kernel
theorem dX1_parse_32 : decode cX1_parse 32 = .ok (.aload_n 0, 1) := by decide +kernel
theorem dX1_parse_33 : decode cX1_parse 33 = .ok (.invokevirtual 45, 3) := by decide +kernel
theorem dX1_parse_36 : decode cX1_parse 36 = .ok (.aload_n 0, 1) := by decide +kernel
theorem dX1_parse_37 : decode cX1_parse 37 = .ok (.iconst 1, 1) := by decide +kernel
theorem dX1_parse_38 : decode cX1_parse 38 = .ok (.iconst 1, 1) := by decide +kernel
theorem dX1_parse_39 : decode cX1_parse 39 = .ok (.invokevirtual 48, 3) := by decide +kernel
theorem dX1_parse_42 : decode cX1_parse 42 = .ok (.aload_n 0, 1) := by decide +kernel
theorem dX1_parse_43 : decode cX1_parse 43 = .ok (.iconst 1, 1) := by decide +kernel
theorem dX1_parse_44 : decode cX1_parse 44 = .ok (.iconst 1, 1) := by decide +kernel
theorem dX1_parse_45 : decode cX1_parse 45 = .ok (.invokevirtual 48, 3) := by decide +kernel
theorem dX1_parse_48 : decode cX1_parse 48 = .ok (.aload_n 0, 1) := by decide +kernel
theorem dX1_parse_49 : decode cX1_parse 49 = .ok (.getfield 52, 3) := by decide +kernel
theorem dX1_parse_52 : decode cX1_parse 52 = .ok (.lstore_n 3, 1) := by decide +kernel
theorem dX1_parse_53 : decode cX1_parse 53 = .ok (.aload_n 0, 1) := by decide +kernel
theorem dX1_parse_54 : decode cX1_parse 54 = .ok (.getfield 55, 3) := by decide +kernel
theorem dX1_parse_57 : decode cX1_parse 57 = .ok (.lstore 5, 2) := by decide +kernel
theorem dX1_parse_59 : decode cX1_parse 59 = .ok (.aload_n 0, 1) := by decide +kernel
theorem dX1_parse_60 : decode cX1_parse 60 = .ok (.iconst 0, 1) := by decide +kernel
theorem dX1_parse_61 : decode cX1_parse 61 = .ok (.ldc 58, 2) := by decide +kernel
theorem dX1_parse_63 : decode cX1_parse 63 = .ok (.invokevirtual 48, 3) := by decide +kernel
theorem dX1_parse_66 : decode cX1_parse 66 = .ok (.aload_n 0, 1) := by decide +kernel
theorem dX1_parse_67 : decode cX1_parse 67 = .ok (.iconst 0, 1) := by decide +kernel
theorem dX1_parse_68 : decode cX1_parse 68 = .ok (.ldc 58, 2) := by decide +kernel
theorem dX1_parse_70 : decode cX1_parse 70 = .ok (.invokevirtual 48, 3) := by decide +kernel
theorem dX1_parse_73 : decode cX1_parse 73 = .ok (.aload_n 0, 1) := by decide +kernel
theorem dX1_parse_74 : decode cX1_parse 74 = .ok (.aload_n 0, 1) := by decide +kernel
theorem dX1_parse_75 : decode cX1_parse 75 = .ok (.getfield 20, 3) := by decide +kernel
theorem dX1_parse_78 : decode cX1_parse 78 = .ok (.getfield 59, 3) := by decide +kernel
theorem dX1_parse_81 : decode cX1_parse 81 = .ok (.invokevirtual 63, 3) := by decide +kernel
theorem dX1_parse_84 : decode cX1_parse 84 = .ok (.aload_n 0, 1) := by decide +kernel
theorem dX1_parse_85 : decode cX1_parse 85 = .ok (.lload_n 3, 1) := by decide +kernel
theorem dX1_parse_86 : decode cX1_parse 86 = .ok (.lload 5, 2) := by decide +kernel
theorem dX1_parse_88 : decode cX1_parse 88 = .ok (.invokevirtual 67, 3) := by decide +kernel
theorem dX1_parse_91 : decode cX1_parse 91 = .ok (.aload_n 0, 1) := by decide +kernel
theorem dX1_parse_92 : decode cX1_parse 92 = .ok (.getfield 14, 3) := by decide +kernel
theorem dX1_parse_95 : decode cX1_parse 95 = .ok (.bipush 18, 2) := by decide +kernel
theorem dX1_parse_97 : decode cX1_parse 97 = .ok (.invokevirtual 71, 3) := by decide +kernel
theorem dX1_parse_100 : decode cX1_parse 100 = .ok (.i2l, 1) := by decide +kernel
theorem dX1_parse_101 : decode cX1_parse 101 = .ok (.lstore 7, 2) := by decide +kernel
theorem dX1_parse_103 : decode cX1_parse 103 = .ok (.aload_n 0, 1) := by decide +kernel
theorem dX1_parse_104 : decode cX1_parse 104 = .ok (.getfield 14, 3) := by decide +kernel
theorem dX1_parse_107 : decode cX1_parse 107 = .ok (.bipush 18, 2) := by decide +kernel
theorem dX1_parse_109 : decode cX1_parse 109 = .ok (.invokevirtual 75, 3) := by decide +kernel
theorem dX1_parse_112 : decode cX1_parse 112 = .ok (.i2l, 1) := by decide +kernel
theorem dX1_parse_113 : decode cX1_parse 113 = .ok (.lstore 9, 2) := by decide +kernel
theorem dX1_parse_115 : decode cX1_parse 115 = .ok (.aload_n 0, 1) := by decide +kernel
theorem dX1_parse_116 : decode cX1_parse 116 = .ok (.getfield 14, 3) := by decide +kernel
theorem dX1_parse_119 : decode cX1_parse 119 = .ok (.bipush 18, 2) := by decide +kernel
theorem dX1_parse_121 : decode cX1_parse 121 = .ok (.invokevirtual 78, 3) := by decide +kernel
theorem dX1_parse_124 : decode cX1_parse 124 = .ok (.istore 11, 2) := by decide +kernel
theorem dX1_parse_126 : decode cX1_parse 126 = .ok (.aload_n 0, 1) := by decide +kernel
theorem dX1_parse_127 : decode cX1_parse 127 = .ok (.aload_n 0, 1) := by decide +kernel
theorem dX1_parse_128 : decode cX1_parse 128 = .ok (.getfield 14, 3) := by decide +kernel
theorem dX1_parse_131 : decode cX1_parse 131 = .ok (.bipush 17, 2) := by decide +kernel
theorem dX1_parse_133 : decode cX1_parse 133 = .ok (.invokevirtual 75, 3) := by decide +kernel
theorem dX1_parse_136 : decode cX1_parse 136 = .ok (.i2l, 1) := by decide +kernel
theorem dX1_parse_137 : decode cX1_parse 137 = .ok (.putfield 55, 3) := by decide +kernel
theorem dX1_parse_140 : decode cX1_parse 140 = .ok (.aload_n 0, 1) := by decide +kernel
theorem dX1_parse_141 : decode cX1_parse 141 = .ok (.iconst 1, 1) := by decide +kernel
theorem dX1_parse_142 : decode cX1_parse 142 = .ok (.bipush 40, 2) := by decide +kernel
theorem dX1_parse_144 : decode cX1_parse 144 = .ok (.invokevirtual 48, 3) := by decide +kernel
theorem dX1_parse_147 : decode cX1_parse 147 = .ok (.aload_n 0, 1) := by decide +kernel
theorem dX1_parse_148 : decode cX1_parse 148 = .ok (.aload_n 0, 1) := by decide +kernel
theorem dX1_parse_149 : decode cX1_parse 149 = .ok (.getfield 20, 3) := by decide +kernel
theorem dX1_parse_152 : decode cX1_parse 152 = .ok (.getfield 82, 3) := by decide +kernel
theorem dX1_parse_155 : decode cX1_parse 155 = .ok (.invokevirtual 63, 3) := by decide +kernel
theorem dX1_parse_158 : decode cX1_parse 158 = .ok (.aload_n 0, 1) := by decide +kernel
theorem dX1_parse_159 : decode cX1_parse 159 = .ok (.getfield 41, 3) := by decide +kernel
theorem dX1_parse_162 : decode cX1_parse 162 = .ok (.ifCond .ne 16, 3) := by decide +kernel
theorem dX1_parse_165 : decode cX1_parse 165 = .ok (.iload 11, 2) := by decide +kernel
theorem dX1_parse_167 : decode cX1_parse 167 = .ok (.ifCond .eq 11, 3) := by decide +kernel
theorem dX1_parse_170 : decode cX1_parse 170 = .ok (.aload_n 0, 1) := by decide +kernel
theorem dX1_parse_171 : decode cX1_parse 171 = .ok (.lload 7, 2) := by decide +kernel
theorem dX1_parse_173 : decode cX1_parse 173 = .ok (.lload 9, 2) := by decide +kernel
theorem dX1_parse_175 : decode cX1_parse 175 = .ok (.invokevirtual 85, 3) := by decide +kernel
theorem dX1_parse_178 : decode cX1_parse 178 = .ok (.aload_n 0, 1) := by decide +kernel
theorem dX1_parse_179 : decode cX1_parse 179 = .ok (.getfield 41, 3) := by decide +kernel
theorem dX1_parse_182 : decode cX1_parse 182 = .ok (.ireturn, 1) := by decide +kernel
theorem dX1_shelve_0 : decode cX1_shelve 0 = .ok (.aload_n 0, 1) := by decide +kernel
theorem dX1_shelve_1 : decode cX1_shelve 1 = .ok (.getfield 41, 3) := by decide +kernel
theorem dX1_shelve_4 : decode cX1_shelve 4 = .ok (.ifCond .ne 27, 3) := by decide +kernel
theorem dX1_shelve_7 : decode cX1_shelve 7 = .ok (.aload_n 0, 1) := by decide +kernel
theorem dX1_shelve_8 : decode cX1_shelve 8 = .ok (.getfield 115, 3) := by decide +kernel
theorem dX1_shelve_11 : decode cX1_shelve 11 = .ok (.ifCond .le 20, 3) := by decide +kernel
theorem dX1_shelve_14 : decode cX1_shelve 14 = .ok (.aload_n 1, 1) := by decide +kernel
theorem dX1_shelve_15 : decode cX1_shelve 15 = .ok (.aload_n 0, 1) := by decide +kernel
theorem dX1_shelve_16 : decode cX1_shelve 16 = .ok (.getfield 115, 3) := by decide +kernel
theorem dX1_shelve_19 : decode cX1_shelve 19 = .ok (.aload_n 0, 1) := by decide +kernel
theorem dX1_shelve_20 : decode cX1_shelve 20 = .ok (.getfield 121, 3) := by decide +kernel
theorem dX1_shelve_23 : decode cX1_shelve 23 = .ok (.l2i, 1) := by decide +kernel
theorem dX1_shelve_24 : decode cX1_shelve 24 = .ok (.aload_n 0, 1) := by decide +kernel
theorem dX1_shelve_25 : decode cX1_shelve 25 = .ok (.getfield 118, 3) := by decide +kernel
theorem dX1_shelve_28 : decode cX1_shelve 28 = .ok (.invokevirtual 124, 3) := by decide +kernel
theorem dX1_shelve_31 : decode cX1_shelve 31 = .ok (.return_, 1) := by decide +kernel
theorem dX1_take_0 : decode cX1_take 0 = .ok (.aload_n 0, 1) := by decide +kernel
theorem dX1_take_1 : decode cX1_take 1 = .ok (.getfield 55, 3) := by decide +kernel
theorem dX1_take_4 : decode cX1_take 4 = .ok (.lconst 0, 1) := by decide +kernel
theorem dX1_take_5 : decode cX1_take 5 = .ok (.lcmp, 1) := by decide +kernel
theorem dX1_take_6 : decode cX1_take 6 = .ok (.ifCond .lt 19, 3) := by decide +kernel
theorem dX1_take_9 : decode cX1_take 9 = .ok (.aload_n 0, 1) := by decide +kernel
theorem dX1_take_10 : decode cX1_take 10 = .ok (.getfield 55, 3) := by decide +kernel
theorem dX1_take_13 : decode cX1_take 13 = .ok (.aload_n 0, 1) := by decide +kernel
theorem dX1_take_14 : decode cX1_take 14 = .ok (.getfield 24, 3) := by decide +kernel
theorem dX1_take_17 : decode cX1_take 17 = .ok (.invokevirtual 92, 3) := by decide +kernel
theorem dX1_take_20 : decode cX1_take 20 = .ok (.i2l, 1) := by decide +kernel
theorem dX1_take_21 : decode cX1_take 21 = .ok (.lcmp, 1) := by decide +kernel
theorem dX1_take_22 : decode cX1_take 22 = .ok (.ifCond .lt 11, 3) := by decide +kernel
theorem dX1_take_25 : decode cX1_take 25 = .ok (.aload_n 0, 1) := by decide +kernel
theorem dX1_take_26 : decode cX1_take 26 = .ok (.iconst 1, 1) := by decide +kernel
theorem dX1_take_27 : decode cX1_take 27 = .ok (.invokevirtual 88, 3) := by decide +kernel
theorem dX1_take_30 : decode cX1_take 30 = .ok (.goto 20, 3) := by decide +kernel
theorem dX1_take_33 : decode cX1_take 33 = .ok (.aload_n 0, 1) := by decide +kernel
theorem dX1_take_34 : decode cX1_take 34 = .ok (.getfield 55, 3) := by decide +kernel
theorem dX1_take_37 : decode cX1_take 37 = .ok (.aload_n 0, 1) := by decide +kernel
theorem dX1_take_38 : decode cX1_take 38 = .ok (.getfield 30, 3) := by decide +kernel
theorem dX1_take_41 : decode cX1_take 41 = .ok (.lcmp, 1) := by decide +kernel
theorem dX1_take_42 : decode cX1_take 42 = .ok (.ifCond .lt 8, 3) := by decide +kernel
theorem dX1_take_45 : decode cX1_take 45 = .ok (.aload_n 0, 1) := by decide +kernel
theorem dX1_take_46 : decode cX1_take 46 = .ok (.iconst 2, 1) := by decide +kernel
theorem dX1_take_47 : decode cX1_take 47 = .ok (.invokevirtual 88, 3) := by decide +kernel
theorem dX1_take_50 : decode cX1_take 50 = .ok (.aload_n 0, 1) := by decide +kernel
theorem dX1_take_51 : decode cX1_take 51 = .ok (.getfield 41, 3) := by decide +kernel
theorem dX1_take_54 : decode cX1_take 54 = .ok (.ifCond .eq 5, 3) := by decide +kernel
theorem dX1_take_57 : decode cX1_take 57 = .ok (.iconst (-1), 1) := by decide +kernel
theorem dX1_take_58 : decode cX1_take 58 = .ok (.ireturn, 1) := by decide +kernel
theorem dX1_take_59 : decode cX1_take 59 = .ok (.aload_n 0, 1) := by decide +kernel
theorem dX1_take_60 : decode cX1_take 60 = .ok (.getfield 24, 3) := by decide +kernel
theorem dX1_take_63 : decode cX1_take 63 = .ok (.aload_n 0, 1) := by decide +kernel
theorem dX1_take_64 : decode cX1_take 64 = .ok (.getfield 55, 3) := by decide +kernel
theorem dX1_take_67 : decode cX1_take 67 = .ok (.invokevirtual 98, 3) := by decide +kernel
theorem dX1_take_70 : decode cX1_take 70 = .ok (.istore_n 1, 1) := by decide +kernel
theorem dX1_take_71 : decode cX1_take 71 = .ok (.aload_n 0, 1) := by decide +kernel
theorem dX1_take_72 : decode cX1_take 72 = .ok (.dup, 1) := by decide +kernel
theorem dX1_take_73 : decode cX1_take 73 = .ok (.getfield 55, 3) := by decide +kernel
theorem dX1_take_76 : decode cX1_take 76 = .ok (.lconst 1, 1) := by decide +kernel
theorem dX1_take_77 : decode cX1_take 77 = .ok (.ladd, 1) := by decide +kernel
theorem dX1_take_78 : decode cX1_take 78 = .ok (.putfield 55, 3) := by decide +kernel
theorem dX1_take_81 : decode cX1_take 81 = .ok (.iload_n 1, 1) := by decide +kernel
theorem dX1_take_82 : decode cX1_take 82 = .ok (.ireturn, 1) := by decide +kernel
theorem dX1_takeDict_0 : decode cX1_takeDict 0 = .ok (.aload_n 0, 1) := by decide +kernel
theorem dX1_takeDict_1 : decode cX1_takeDict 1 = .ok (.getfield 14, 3) := by decide +kernel
theorem dX1_takeDict_4 : decode cX1_takeDict 4 = .ok (.invokevirtual 146, 3) := by decide +kernel
theorem dX1_takeDict_7 : decode cX1_takeDict 7 = .ok (.aload_n 0, 1) := by decide +kernel
theorem dX1_takeDict_8 : decode cX1_takeDict 8 = .ok (.lload_n 1, 1) := by decide +kernel
theorem dX1_takeDict_9 : decode cX1_takeDict 9 = .ok (.putfield 55, 3) := by decide +kernel
theorem dX1_takeDict_12 : decode cX1_takeDict 12 = .ok (.aload_n 0, 1) := by decide +kernel
theorem dX1_takeDict_13 : decode cX1_takeDict 13 = .ok (.lload_n 3, 1) := by decide +kernel
theorem dX1_takeDict_14 : decode cX1_takeDict 14 = .ok (.putfield 30, 3) := by decide +kernel
theorem dX1_takeDict_17 : decode cX1_takeDict 17 = .ok (.iconst 0, 1) := by decide +kernel
theorem dX1_takeDict_18 : decode cX1_takeDict 18 = .ok (.istore 5, 2) := by decide +kernel
theorem dX1_takeDict_20 : decode cX1_takeDict 20 = .ok (.iload 5, 2) := by decide +kernel
theorem dX1_takeDict_22 : decode cX1_takeDict 22 = .ok (.sipush 1500, 3) := by decide +kernel
theorem dX1_takeDict_25 : decode cX1_takeDict 25 = .ok (.if_icmp .gt 32, 3) := by decide +kernel
theorem dX1_takeDict_28 : decode cX1_takeDict 28 = .ok (.aload_n 0, 1) := by decide +kernel
theorem dX1_takeDict_29 : decode cX1_takeDict 29 = .ok (.getfield 41, 3) := by decide +kernel
theorem dX1_takeDict_32 : decode cX1_takeDict 32 = .ok (.ifCond .ne 25, 3) := by decide +kernel
theorem dX1_takeDict_35 : decode cX1_takeDict 35 = .ok (.aload_n 0, 1) := by decide +kernel
theorem dX1_takeDict_36 : decode cX1_takeDict 36 = .ok (.getfield 55, 3) := by decide +kernel
theorem dX1_takeDict_39 : decode cX1_takeDict 39 = .ok (.aload_n 0, 1) := by decide +kernel
theorem dX1_takeDict_40 : decode cX1_takeDict 40 = .ok (.getfield 30, 3) := by decide +kernel
theorem dX1_takeDict_43 : decode cX1_takeDict 43 = .ok (.lcmp, 1) := by decide +kernel
theorem dX1_takeDict_44 : decode cX1_takeDict 44 = .ok (.ifCond .ge 13, 3) := by decide +kernel
theorem dX1_takeDict_47 : decode cX1_takeDict 47 = .ok (.aload_n 0, 1) := by decide +kernel
theorem dX1_takeDict_48 : decode cX1_takeDict 48 = .ok (.invokevirtual 149, 3) := by decide +kernel
theorem dX1_takeDict_51 : decode cX1_takeDict 51 = .ok (.iinc 5 1, 3) := by decide +kernel
theorem dX1_takeDict_54 : decode cX1_takeDict 54 = .ok (.goto (-34), 3) := by decide +kernel
theorem dX1_takeDict_57 : decode cX1_takeDict 57 = .ok (.aload_n 0, 1) := by decide +kernel
theorem dX1_takeDict_58 : decode cX1_takeDict 58 = .ok (.aload_n 0, 1) := by decide +kernel
theorem dX1_takeDict_59 : decode cX1_takeDict 59 = .ok (.getfield 14, 3) := by decide +kernel
theorem dX1_takeDict_62 : decode cX1_takeDict 62 = .ok (.invokevirtual 152, 3) := by decide +kernel
theorem dX1_takeDict_65 : decode cX1_takeDict 65 = .ok (.invokevirtual 107, 3) := by decide +kernel
theorem dX1_takeDict_68 : decode cX1_takeDict 68 = .ok (.aload_n 0, 1) := by decide +kernel
theorem dX1_takeDict_69 : decode cX1_takeDict 69 = .ok (.ldc2_w 28, 3) := by decide +kernel
theorem dX1_takeDict_72 : decode cX1_takeDict 72 = .ok (.putfield 30, 3) := by decide +kernel
theorem dX1_takeDict_75 : decode cX1_takeDict 75 = .ok (.return_, 1) := by decide +kernel
theorem dX1_takeHeader_0 : decode cX1_takeHeader 0 = .ok (.aload_n 0, 1) := by decide +kernel
theorem dX1_takeHeader_1 : decode cX1_takeHeader 1 = .ok (.lconst 0, 1) := by decide +kernel
theorem dX1_takeHeader_2 : decode cX1_takeHeader 2 = .ok (.putfield 55, 3) := by decide +kernel
theorem dX1_takeHeader_5 : decode cX1_takeHeader 5 = .ok (.aload_n 0, 1) := by decide +kernel
theorem dX1_takeHeader_6 : decode cX1_takeHeader 6 = .ok (.aload_n 0, 1) := by decide +kernel
theorem dX1_takeHeader_7 : decode cX1_takeHeader 7 = .ok (.invokevirtual 104, 3) := by decide +kernel
theorem dX1_takeHeader_10 : decode cX1_takeHeader 10 = .ok (.iconst 1, 1) := by decide +kernel
theorem dX1_takeHeader_11 : decode cX1_takeHeader 11 = .ok (.if_icmp .ne 7, 3) := by decide +kernel
theorem dX1_takeHeader_14 : decode cX1_takeHeader 14 = .ok (.iconst 1, 1) := by decide +kernel
theorem dX1_takeHeader_15 : decode cX1_takeHeader 15 = .ok (.goto 4, 3) := by decide +kernel
theorem dX1_takeHeader_18 : decode cX1_takeHeader 18 = .ok (.iconst 0, 1) := by decide +kernel
theorem dX1_takeHeader_19 : decode cX1_takeHeader 19 = .ok (.invokevirtual 107, 3) := by decide +kernel
theorem dX1_takeHeader_22 : decode cX1_takeHeader 22 = .ok (.aload_n 0, 1) := by decide +kernel
theorem dX1_takeHeader_23 : decode cX1_takeHeader 23 = .ok (.invokevirtual 104, 3) := by decide +kernel
theorem dX1_takeHeader_26 : decode cX1_takeHeader 26 = .ok (.pop, 1) := by decide +kernel
theorem dX1_takeHeader_27 : decode cX1_takeHeader 27 = .ok (.aload_n 0, 1) := by decide +kernel
theorem dX1_takeHeader_28 : decode cX1_takeHeader 28 = .ok (.invokevirtual 104, 3) := by decide +kernel
theorem dX1_takeHeader_31 : decode cX1_takeHeader 31 = .ok (.istore_n 1, 1) := by decide +kernel
theorem dX1_takeHeader_32 : decode cX1_takeHeader 32 = .ok (.aload_n 0, 1) := by decide +kernel
theorem dX1_takeHeader_33 : decode cX1_takeHeader 33 = .ok (.iload_n 1, 1) := by decide +kernel
theorem dX1_takeHeader_34 : decode cX1_takeHeader 34 = .ok (.iconst 4, 1) := by decide +kernel
theorem dX1_takeHeader_35 : decode cX1_takeHeader 35 = .ok (.if_icmp .lt 7, 3) := by decide +kernel
theorem dX1_takeHeader_38 : decode cX1_takeHeader 38 = .ok (.iconst 1, 1) := by decide +kernel
theorem dX1_takeHeader_39 : decode cX1_takeHeader 39 = .ok (.goto 4, 3) := by decide +kernel
theorem dX1_takeHeader_42 : decode cX1_takeHeader 42 = .ok (.iconst 0, 1) := by decide +kernel
theorem dX1_takeHeader_43 : decode cX1_takeHeader 43 = .ok (.invokevirtual 107, 3) := by decide +kernel
theorem dX1_takeHeader_46 : decode cX1_takeHeader 46 = .ok (.aload_n 0, 1) := by decide +kernel
theorem dX1_takeHeader_47 : decode cX1_takeHeader 47 = .ok (.invokevirtual 104, 3) := by decide +kernel
theorem dX1_takeHeader_50 : decode cX1_takeHeader 50 = .ok (.istore_n 2, 1) := by decide +kernel
theorem dX1_takeHeader_51 : decode cX1_takeHeader 51 = .ok (.aload_n 0, 1) := by decide +kernel
theorem dX1_takeHeader_52 : decode cX1_takeHeader 52 = .ok (.iload_n 2, 1) := by decide +kernel
theorem dX1_takeHeader_53 : decode cX1_takeHeader 53 = .ok (.iconst 1, 1) := by decide +kernel
theorem dX1_takeHeader_54 : decode cX1_takeHeader 54 = .ok (.if_icmp .lt 12, 3) := by decide +kernel
theorem dX1_takeHeader_57 : decode cX1_takeHeader 57 = .ok (.iload_n 2, 1) := by decide +kernel
theorem dX1_takeHeader_58 : decode cX1_takeHeader 58 = .ok (.iconst 4, 1) := by decide +kernel
theorem dX1_takeHeader_59 : decode cX1_takeHeader 59 = .ok (.if_icmp .gt 7, 3) := by decide +kernel
theorem dX1_takeHeader_62 : decode cX1_takeHeader 62 = .ok (.iconst 1, 1) := by decide +kernel
theorem dX1_takeHeader_63 : decode cX1_takeHeader 63 = .ok (.goto 4, 3) := by decide +kernel
theorem dX1_takeHeader_66 : decode cX1_takeHeader 66 = .ok (.iconst 0, 1) := by decide +kernel
theorem dX1_takeHeader_67 : decode cX1_takeHeader 67 = .ok (.invokevirtual 107, 3) := by decide +kernel
theorem dX1_takeHeader_70 : decode cX1_takeHeader 70 = .ok (.aload_n 0, 1) := by decide +kernel
theorem dX1_takeHeader_71 : decode cX1_takeHeader 71 = .ok (.iload_n 1, 1) := by decide +kernel
theorem dX1_takeHeader_72 : decode cX1_takeHeader 72 = .ok (.i2l, 1) := by decide +kernel
theorem dX1_takeHeader_73 : decode cX1_takeHeader 73 = .ok (.putfield 55, 3) := by decide +kernel
theorem dX1_takeHeader_76 : decode cX1_takeHeader 76 = .ok (.return_, 1) := by decide +kernel
theorem dX1_takeIndex_0 : decode cX1_takeIndex 0 = .ok (.aload_n 0, 1) := by decide +kernel
theorem dX1_takeIndex_1 : decode cX1_takeIndex 1 = .ok (.aload_n 0, 1) := by decide +kernel
theorem dX1_takeIndex_2 : decode cX1_takeIndex 2 = .ok (.iconst 2, 1) := by decide +kernel
theorem dX1_takeIndex_3 : decode cX1_takeIndex 3 = .ok (.invokevirtual 111, 3) := by decide +kernel
theorem dX1_takeIndex_6 : decode cX1_takeIndex 6 = .ok (.l2i, 1) := by decide +kernel
theorem dX1_takeIndex_7 : decode cX1_takeIndex 7 = .ok (.putfield 115, 3) := by decide +kernel
theorem dX1_takeIndex_10 : decode cX1_takeIndex 10 = .ok (.aload_n 0, 1) := by decide +kernel
theorem dX1_takeIndex_11 : decode cX1_takeIndex 11 = .ok (.aload_n 0, 1) := by decide +kernel
theorem dX1_takeIndex_12 : decode cX1_takeIndex 12 = .ok (.getfield 115, 3) := by decide +kernel
theorem dX1_takeIndex_15 : decode cX1_takeIndex 15 = .ok (.iload_n 1, 1) := by decide +kernel
theorem dX1_takeIndex_16 : decode cX1_takeIndex 16 = .ok (.if_icmp .lt 15, 3) := by decide +kernel
theorem dX1_takeIndex_19 : decode cX1_takeIndex 19 = .ok (.aload_n 0, 1) := by decide +kernel
theorem dX1_takeIndex_20 : decode cX1_takeIndex 20 = .ok (.getfield 115, 3) := by decide +kernel
theorem dX1_takeIndex_23 : decode cX1_takeIndex 23 = .ok (.iload_n 2, 1) := by decide +kernel
theorem dX1_takeIndex_24 : decode cX1_takeIndex 24 = .ok (.if_icmp .gt 7, 3) := by decide +kernel
theorem dX1_takeIndex_27 : decode cX1_takeIndex 27 = .ok (.iconst 1, 1) := by decide +kernel
theorem dX1_takeIndex_28 : decode cX1_takeIndex 28 = .ok (.goto 4, 3) := by decide +kernel
theorem dX1_takeIndex_31 : decode cX1_takeIndex 31 = .ok (.iconst 0, 1) := by decide +kernel
theorem dX1_takeIndex_32 : decode cX1_takeIndex 32 = .ok (.invokevirtual 107, 3) := by decide +kernel
theorem dX1_takeIndex_35 : decode cX1_takeIndex 35 = .ok (.aload_n 0, 1) := by decide +kernel
theorem dX1_takeIndex_36 : decode cX1_takeIndex 36 = .ok (.getfield 41, 3) := by decide +kernel
theorem dX1_takeIndex_39 : decode cX1_takeIndex 39 = .ok (.ifCond .ne 10, 3) := by decide +kernel
theorem dX1_takeIndex_42 : decode cX1_takeIndex 42 = .ok (.aload_n 0, 1) := by decide +kernel
theorem dX1_takeIndex_43 : decode cX1_takeIndex 43 = .ok (.getfield 115, 3) := by decide +kernel
theorem dX1_takeIndex_46 : decode cX1_takeIndex 46 = .ok (.ifCond .ne 4, 3) := by decide +kernel
theorem dX1_takeIndex_49 : decode cX1_takeIndex 49 = .ok (.return_, 1) := by decide +kernel
theorem dX1_takeIndex_50 : decode cX1_takeIndex 50 = .ok (.aload_n 0, 1) := by decide +kernel
theorem dX1_takeIndex_51 : decode cX1_takeIndex 51 = .ok (.aload_n 0, 1) := by decide +kernel
theorem dX1_takeIndex_52 : decode cX1_takeIndex 52 = .ok (.invokevirtual 104, 3) := by decide +kernel
theorem dX1_takeIndex_55 : decode cX1_takeIndex 55 = .ok (.putfield 118, 3) := by decide +kernel
theorem dX1_takeIndex_58 : decode cX1_takeIndex 58 = .ok (.aload_n 0, 1) := by decide +kernel
theorem dX1_takeIndex_59 : decode cX1_takeIndex 59 = .ok (.aload_n 0, 1) := by decide +kernel
theorem dX1_takeIndex_60 : decode cX1_takeIndex 60 = .ok (.getfield 118, 3) := by decide +kernel
theorem dX1_takeIndex_63 : decode cX1_takeIndex 63 = .ok (.iconst 1, 1) := by decide +kernel
theorem dX1_takeIndex_64 : decode cX1_takeIndex 64 = .ok (.if_icmp .lt 15, 3) := by decide +kernel
theorem dX1_takeIndex_67 : decode cX1_takeIndex 67 = .ok (.aload_n 0, 1) := by decide +kernel
theorem dX1_takeIndex_68 : decode cX1_takeIndex 68 = .ok (.getfield 118, 3) := by decide +kernel
theorem dX1_takeIndex_71 : decode cX1_takeIndex 71 = .ok (.iconst 4, 1) := by decide +kernel
theorem dX1_takeIndex_72 : decode cX1_takeIndex 72 = .ok (.if_icmp .gt 7, 3) := by decide +kernel
theorem dX1_takeIndex_75 : decode cX1_takeIndex 75 = .ok (.iconst 1, 1) := by decide +kernel
theorem dX1_takeIndex_76 : decode cX1_takeIndex 76 = .ok (.goto 4, 3) := by decide +kernel
theorem dX1_takeIndex_79 : decode cX1_takeIndex 79 = .ok (.iconst 0, 1) := by decide +kernel
theorem dX1_takeIndex_80 : decode cX1_takeIndex 80 = .ok (.invokevirtual 107, 3) := by decide +kernel
theorem dX1_takeIndex_83 : decode cX1_takeIndex 83 = .ok (.aload_n 0, 1) := by decide +kernel
theorem dX1_takeIndex_84 : decode cX1_takeIndex 84 = .ok (.aload_n 0, 1) := by decide +kernel
theorem dX1_takeIndex_85 : decode cX1_takeIndex 85 = .ok (.getfield 55, 3) := by decide +kernel
theorem dX1_takeIndex_88 : decode cX1_takeIndex 88 = .ok (.putfield 121, 3) := by decide +kernel
theorem dX1_takeIndex_91 : decode cX1_takeIndex 91 = .ok (.lconst 1, 1) := by decide +kernel
theorem dX1_takeIndex_92 : decode cX1_takeIndex 92 = .ok (.lstore_n 3, 1) := by decide +kernel
theorem dX1_takeIndex_93 : decode cX1_takeIndex 93 = .ok (.iconst 0, 1) := by decide +kernel
theorem dX1_takeIndex_94 : decode cX1_takeIndex 94 = .ok (.istore 5, 2) := by decide +kernel
theorem dX1_takeIndex_96 : decode cX1_takeIndex 96 = .ok (.iload 5, 2) := by decide +kernel
theorem dX1_takeIndex_98 : decode cX1_takeIndex 98 = .ok (.aload_n 0, 1) := by decide +kernel
theorem dX1_takeIndex_99 : decode cX1_takeIndex 99 = .ok (.getfield 115, 3) := by decide +kernel
theorem dX1_takeIndex_102 : decode cX1_takeIndex 102 = .ok (.if_icmp .gt 57, 3) := by decide +kernel
theorem dX1_takeIndex_105 : decode cX1_takeIndex 105 = .ok (.aload_n 0, 1) := by decide +kernel
theorem dX1_takeIndex_106 : decode cX1_takeIndex 106 = .ok (.getfield 41, 3) := by decide +kernel
theorem dX1_takeIndex_109 : decode cX1_takeIndex 109 = .ok (.ifCond .ne 50, 3) := by decide +kernel
theorem dX1_takeIndex_112 : decode cX1_takeIndex 112 = .ok (.aload_n 0, 1) := by decide +kernel
theorem dX1_takeIndex_113 : decode cX1_takeIndex 113 = .ok (.aload_n 0, 1) := by decide +kernel
theorem dX1_takeIndex_114 : decode cX1_takeIndex 114 = .ok (.getfield 118, 3) := by decide +kernel
theorem dX1_takeIndex_117 : decode cX1_takeIndex 117 = .ok (.invokevirtual 111, 3) := by decide +kernel
theorem dX1_takeIndex_120 : decode cX1_takeIndex 120 = .ok (.lstore 6, 2) := by decide +kernel
theorem dX1_takeIndex_122 : decode cX1_takeIndex 122 = .ok (.aload_n 0, 1) := by decide +kernel
theorem dX1_takeIndex_123 : decode cX1_takeIndex 123 = .ok (.lload 6, 2) := by decide +kernel
theorem dX1_takeIndex_125 : decode cX1_takeIndex 125 = .ok (.lload_n 3, 1) := by decide +kernel
theorem dX1_takeIndex_126 : decode cX1_takeIndex 126 = .ok (.lcmp, 1) := by decide +kernel
theorem dX1_takeIndex_127 : decode cX1_takeIndex 127 = .ok (.ifCond .lt 19, 3) := by decide +kernel
theorem dX1_takeIndex_130 : decode cX1_takeIndex 130 = .ok (.iload 5, 2) := by decide +kernel
theorem dX1_takeIndex_132 : decode cX1_takeIndex 132 = .ok (.ifCond .gt 10, 3) := by decide +kernel
theorem dX1_takeIndex_135 : decode cX1_takeIndex 135 = .ok (.lload 6, 2) := by decide +kernel
theorem dX1_takeIndex_137 : decode cX1_takeIndex 137 = .ok (.lconst 1, 1) := by decide +kernel
theorem dX1_takeIndex_138 : decode cX1_takeIndex 138 = .ok (.lcmp, 1) := by decide +kernel
theorem dX1_takeIndex_139 : decode cX1_takeIndex 139 = .ok (.ifCond .ne 7, 3) := by decide +kernel
theorem dX1_takeIndex_142 : decode cX1_takeIndex 142 = .ok (.iconst 1, 1) := by decide +kernel
theorem dX1_takeIndex_143 : decode cX1_takeIndex 143 = .ok (.goto 4, 3) := by decide +kernel
theorem dX1_takeIndex_146 : decode cX1_takeIndex 146 = .ok (.iconst 0, 1) := by decide +kernel
theorem dX1_takeIndex_147 : decode cX1_takeIndex 147 = .ok (.invokevirtual 107, 3) := by decide +kernel
theorem dX1_takeIndex_150 : decode cX1_takeIndex 150 = .ok (.lload 6, 2) := by decide +kernel
theorem dX1_takeIndex_152 : decode cX1_takeIndex 152 = .ok (.lstore_n 3, 1) := by decide +kernel
theorem dX1_takeIndex_153 : decode cX1_takeIndex 153 = .ok (.iinc 5 1, 3) := by decide +kernel
theorem dX1_takeIndex_156 : decode cX1_takeIndex 156 = .ok (.goto (-60), 3) := by decide +kernel
theorem dX1_takeIndex_159 : decode cX1_takeIndex 159 = .ok (.aload_n 0, 1) := by decide +kernel
theorem dX1_takeIndex_160 : decode cX1_takeIndex 160 = .ok (.aload_n 0, 1) := by decide +kernel
theorem dX1_takeIndex_161 : decode cX1_takeIndex 161 = .ok (.getfield 55, 3) := by decide +kernel
theorem dX1_takeIndex_164 : decode cX1_takeIndex 164 = .ok (.putfield 52, 3) := by decide +kernel
theorem dX1_takeIndex_167 : decode cX1_takeIndex 167 = .ok (.aload_n 0, 1) := by decide +kernel
theorem dX1_takeIndex_168 : decode cX1_takeIndex 168 = .ok (.dup, 1) := by decide +kernel
theorem dX1_takeIndex_169 : decode cX1_takeIndex 169 = .ok (.getfield 55, 3) := by decide +kernel
theorem dX1_takeIndex_172 : decode cX1_takeIndex 172 = .ok (.lload_n 3, 1) := by decide +kernel
theorem dX1_takeIndex_173 : decode cX1_takeIndex 173 = .ok (.lconst 1, 1) := by decide +kernel
theorem dX1_takeIndex_174 : decode cX1_takeIndex 174 = .ok (.lsub, 1) := by decide +kernel
theorem dX1_takeIndex_175 : decode cX1_takeIndex 175 = .ok (.ladd, 1) := by decide +kernel
theorem dX1_takeIndex_176 : decode cX1_takeIndex 176 = .ok (.putfield 55, 3) := by decide +kernel
theorem dX1_takeIndex_179 : decode cX1_takeIndex 179 = .ok (.aload_n 0, 1) := by decide +kernel
theorem dX1_takeIndex_180 : decode cX1_takeIndex 180 = .ok (.getfield 55, 3) := by decide +kernel
theorem dX1_takeIndex_183 : decode cX1_takeIndex 183 = .ok (.aload_n 0, 1) := by decide +kernel
theorem dX1_takeIndex_184 : decode cX1_takeIndex 184 = .ok (.getfield 24, 3) := by decide +kernel
theorem dX1_takeIndex_187 : decode cX1_takeIndex 187 = .ok (.invokevirtual 92, 3) := by decide +kernel
theorem dX1_takeIndex_190 : decode cX1_takeIndex 190 = .ok (.i2l, 1) := by decide +kernel
theorem dX1_takeIndex_191 : decode cX1_takeIndex 191 = .ok (.lcmp, 1) := by decide +kernel
theorem dX1_takeIndex_192 : decode cX1_takeIndex 192 = .ok (.ifCond .le 8, 3) := by decide +kernel
theorem dX1_takeIndex_195 : decode cX1_takeIndex 195 = .ok (.aload_n 0, 1) := by decide +kernel
theorem dX1_takeIndex_196 : decode cX1_takeIndex 196 = .ok (.iconst 1, 1) := by decide +kernel
theorem dX1_takeIndex_197 : decode cX1_takeIndex 197 = .ok (.invokevirtual 88, 3) := by decide +kernel
theorem dX1_takeIndex_200 : decode cX1_takeIndex 200 = .ok (.return_, 1) := by decide +kernel
theorem dX1_takeNumber_0 : decode cX1_takeNumber 0 = .ok (.lconst 0, 1) := by decide +kernel
theorem dX1_takeNumber_1 : decode cX1_takeNumber 1 = .ok (.lstore_n 2, 1) := by decide +kernel
theorem dX1_takeNumber_2 : decode cX1_takeNumber 2 = .ok (.iconst 0, 1) := by decide +kernel
theorem dX1_takeNumber_3 : decode cX1_takeNumber 3 = .ok (.istore 4, 2) := by decide +kernel
theorem dX1_takeNumber_5 : decode cX1_takeNumber 5 = .ok (.iload 4, 2) := by decide +kernel
theorem dX1_takeNumber_7 : decode cX1_takeNumber 7 = .ok (.iload_n 1, 1) := by decide +kernel
theorem dX1_takeNumber_8 : decode cX1_takeNumber 8 = .ok (.if_icmp .ge 28, 3) := by decide +kernel
theorem dX1_takeNumber_11 : decode cX1_takeNumber 11 = .ok (.aload_n 0, 1) := by decide +kernel
theorem dX1_takeNumber_12 : decode cX1_takeNumber 12 = .ok (.getfield 41, 3) := by decide +kernel
theorem dX1_takeNumber_15 : decode cX1_takeNumber 15 = .ok (.ifCond .ne 21, 3) := by decide +kernel
theorem dX1_takeNumber_18 : decode cX1_takeNumber 18 = .ok (.lload_n 2, 1) := by decide +kernel
theorem dX1_takeNumber_19 : decode cX1_takeNumber 19 = .ok (.ldc2_w 102, 3) := by decide +kernel
theorem dX1_takeNumber_22 : decode cX1_takeNumber 22 = .ok (.lmul, 1) := by decide +kernel
theorem dX1_takeNumber_23 : decode cX1_takeNumber 23 = .ok (.aload_n 0, 1) := by decide +kernel
theorem dX1_takeNumber_24 : decode cX1_takeNumber 24 = .ok (.invokevirtual 104, 3) := by decide +kernel
theorem dX1_takeNumber_27 : decode cX1_takeNumber 27 = .ok (.i2l, 1) := by decide +kernel
theorem dX1_takeNumber_28 : decode cX1_takeNumber 28 = .ok (.ladd, 1) := by decide +kernel
theorem dX1_takeNumber_29 : decode cX1_takeNumber 29 = .ok (.lstore_n 2, 1) := by decide +kernel
theorem dX1_takeNumber_30 : decode cX1_takeNumber 30 = .ok (.iinc 4 1, 3) := by decide +kernel
theorem dX1_takeNumber_33 : decode cX1_takeNumber 33 = .ok (.goto (-28), 3) := by decide +kernel
theorem dX1_takeNumber_36 : decode cX1_takeNumber 36 = .ok (.aload_n 0, 1) := by decide +kernel
theorem dX1_takeNumber_37 : decode cX1_takeNumber 37 = .ok (.getfield 41, 3) := by decide +kernel
theorem dX1_takeNumber_40 : decode cX1_takeNumber 40 = .ok (.ifCond .ne 7, 3) := by decide +kernel
theorem dX1_takeNumber_43 : decode cX1_takeNumber 43 = .ok (.lload_n 2, 1) := by decide +kernel
theorem dX1_takeNumber_44 : decode cX1_takeNumber 44 = .ok (.goto 4, 3) := by decide +kernel
theorem dX1_takeNumber_47 : decode cX1_takeNumber 47 = .ok (.lconst 0, 1) := by decide +kernel
theorem dX1_takeNumber_48 : decode cX1_takeNumber 48 = .ok (.lreturn, 1) := by decide +kernel
theorem dX1_takeOperandOrOperator_0 : decode cX1_takeOperandOrOperator 0 = .ok (.aload_n 0, 1) := by decide +kernel
theorem dX1_takeOperandOrOperator_1 : decode cX1_takeOperandOrOperator 1 = .ok (.invokevirtual 104, 3) := by decide +kernel
theorem dX1_takeOperandOrOperator_4 : decode cX1_takeOperandOrOperator 4 = .ok (.istore_n 1, 1) := by decide +kernel
theorem dX1_takeOperandOrOperator_5 : decode cX1_takeOperandOrOperator 5 = .ok (.iload_n 1, 1) := by decide +kernel
theorem dX1_takeOperandOrOperator_6 : decode cX1_takeOperandOrOperator 6 = .ok (.bipush 21, 2) := by decide +kernel
theorem dX1_takeOperandOrOperator_8 : decode cX1_takeOperandOrOperator 8 = .ok (.if_icmp .gt 38, 3) := by decide +kernel
theorem dX1_takeOperandOrOperator_11 : decode cX1_takeOperandOrOperator 11 = .ok (.iload_n 1, 1) := by decide +kernel
theorem dX1_takeOperandOrOperator_12 : decode cX1_takeOperandOrOperator 12 = .ok (.bipush 12, 2) := by decide +kernel
theorem dX1_takeOperandOrOperator_14 : decode cX1_takeOperandOrOperator 14 = .ok (.if_icmp .ne 14, 3) := by decide +kernel
theorem dX1_takeOperandOrOperator_17 : decode cX1_takeOperandOrOperator 17 = .ok (.sipush 256, 3) := by decide +kernel
theorem dX1_takeOperandOrOperator_20 : decode cX1_takeOperandOrOperator 20 = .ok (.aload_n 0, 1) := by decide +kernel
theorem dX1_takeOperandOrOperator_21 : decode cX1_takeOperandOrOperator 21 = .ok (.invokevirtual 104, 3) := by decide +kernel
theorem dX1_takeOperandOrOperator_24 : decode cX1_takeOperandOrOperator 24 = .ok (.iadd, 1) := by decide +kernel
theorem dX1_takeOperandOrOperator_25 : decode cX1_takeOperandOrOperator 25 = .ok (.goto 4, 3) := by decide +kernel
theorem dX1_takeOperandOrOperator_28 : decode cX1_takeOperandOrOperator 28 = .ok (.iload_n 1, 1) := by decide +kernel
theorem dX1_takeOperandOrOperator_29 : decode cX1_takeOperandOrOperator 29 = .ok (.istore_n 2, 1) := by decide +kernel
theorem dX1_takeOperandOrOperator_30 : decode cX1_takeOperandOrOperator 30 = .ok (.aload_n 0, 1) := by decide +kernel
theorem dX1_takeOperandOrOperator_31 : decode cX1_takeOperandOrOperator 31 = .ok (.getfield 41, 3) := by decide +kernel
theorem dX1_takeOperandOrOperator_34 : decode cX1_takeOperandOrOperator 34 = .ok (.ifCond .ne 11, 3) := by decide +kernel
theorem dX1_takeOperandOrOperator_37 : decode cX1_takeOperandOrOperator 37 = .ok (.aload_n 0, 1) := by decide +kernel
theorem dX1_takeOperandOrOperator_38 : decode cX1_takeOperandOrOperator 38 = .ok (.getfield 14, 3) := by decide +kernel
theorem dX1_takeOperandOrOperator_41 : decode cX1_takeOperandOrOperator 41 = .ok (.iload_n 2, 1) := by decide +kernel
theorem dX1_takeOperandOrOperator_42 : decode cX1_takeOperandOrOperator 42 = .ok (.invokevirtual 156, 3) := by decide +kernel
theorem dX1_takeOperandOrOperator_45 : decode cX1_takeOperandOrOperator 45 = .ok (.return_, 1) := by decide +kernel
theorem dX1_takeOperandOrOperator_46 : decode cX1_takeOperandOrOperator 46 = .ok (.aload_n 0, 1) := by decide +kernel
theorem dX1_takeOperandOrOperator_47 : decode cX1_takeOperandOrOperator 47 = .ok (.aload_n 0, 1) := by decide +kernel
theorem dX1_takeOperandOrOperator_48 : decode cX1_takeOperandOrOperator 48 = .ok (.getfield 14, 3) := by decide +kernel
theorem dX1_takeOperandOrOperator_51 : decode cX1_takeOperandOrOperator 51 = .ok (.invokevirtual 159, 3) := by decide +kernel
theorem dX1_takeOperandOrOperator_54 : decode cX1_takeOperandOrOperator 54 = .ok (.ifCond .ne 14, 3) := by decide +kernel
theorem dX1_takeOperandOrOperator_57 : decode cX1_takeOperandOrOperator 57 = .ok (.iload_n 1, 1) := by decide +kernel
theorem dX1_takeOperandOrOperator_58 : decode cX1_takeOperandOrOperator 58 = .ok (.invokestatic 162, 3) := by decide +kernel
theorem dX1_takeOperandOrOperator_61 : decode cX1_takeOperandOrOperator 61 = .ok (.ifCond .eq 7, 3) := by decide +kernel
theorem dX1_takeOperandOrOperator_64 : decode cX1_takeOperandOrOperator 64 = .ok (.iconst 1, 1) := by decide +kernel
theorem dX1_takeOperandOrOperator_65 : decode cX1_takeOperandOrOperator 65 = .ok (.goto 4, 3) := by decide +kernel
theorem dX1_takeOperandOrOperator_68 : decode cX1_takeOperandOrOperator 68 = .ok (.iconst 0, 1) := by decide +kernel
theorem dX1_takeOperandOrOperator_69 : decode cX1_takeOperandOrOperator 69 = .ok (.invokevirtual 107, 3) := by decide +kernel
theorem dX1_takeOperandOrOperator_72 : decode cX1_takeOperandOrOperator 72 = .ok (.aload_n 0, 1) := by decide +kernel
theorem dX1_takeOperandOrOperator_73 : decode cX1_takeOperandOrOperator 73 = .ok (.getfield 41, 3) := by decide +kernel
theorem dX1_takeOperandOrOperator_76 : decode cX1_takeOperandOrOperator 76 = .ok (.ifCond .ne 23, 3) := by decide +kernel
theorem dX1_takeOperandOrOperator_79 : decode cX1_takeOperandOrOperator 79 = .ok (.iload_n 1, 1) := by decide +kernel
theorem dX1_takeOperandOrOperator_80 : decode cX1_takeOperandOrOperator 80 = .ok (.bipush 30, 2) := by decide +kernel
theorem dX1_takeOperandOrOperator_82 : decode cX1_takeOperandOrOperator 82 = .ok (.if_icmp .ne 17, 3) := by decide +kernel
theorem dX1_takeOperandOrOperator_85 : decode cX1_takeOperandOrOperator 85 = .ok (.aload_n 0, 1) := by decide +kernel
theorem dX1_takeOperandOrOperator_86 : decode cX1_takeOperandOrOperator 86 = .ok (.invokevirtual 165, 3) := by decide +kernel
theorem dX1_takeOperandOrOperator_89 : decode cX1_takeOperandOrOperator 89 = .ok (.aload_n 0, 1) := by decide +kernel
theorem dX1_takeOperandOrOperator_90 : decode cX1_takeOperandOrOperator 90 = .ok (.getfield 14, 3) := by decide +kernel
theorem dX1_takeOperandOrOperator_93 : decode cX1_takeOperandOrOperator 93 = .ok (.invokevirtual 168, 3) := by decide +kernel
theorem dX1_takeOperandOrOperator_96 : decode cX1_takeOperandOrOperator 96 = .ok (.goto 30, 3) := by decide +kernel
theorem dX1_takeOperandOrOperator_99 : decode cX1_takeOperandOrOperator 99 = .ok (.aload_n 0, 1) := by decide +kernel
theorem dX1_takeOperandOrOperator_100 : decode cX1_takeOperandOrOperator 100 = .ok (.getfield 41, 3) := by decide +kernel
theorem dX1_takeOperandOrOperator_103 : decode cX1_takeOperandOrOperator 103 = .ok (.ifCond .ne 23, 3) := by decide +kernel
theorem dX1_takeOperandOrOperator_106 : decode cX1_takeOperandOrOperator 106 = .ok (.aload_n 0, 1) := by decide +kernel
theorem dX1_takeOperandOrOperator_107 : decode cX1_takeOperandOrOperator 107 = .ok (.getfield 14, 3) := by decide +kernel
theorem dX1_takeOperandOrOperator_110 : decode cX1_takeOperandOrOperator 110 = .ok (.iload_n 1, 1) := by decide +kernel
theorem dX1_takeOperandOrOperator_111 : decode cX1_takeOperandOrOperator 111 = .ok (.aload_n 0, 1) := by decide +kernel
theorem dX1_takeOperandOrOperator_112 : decode cX1_takeOperandOrOperator 112 = .ok (.iload_n 1, 1) := by decide +kernel
theorem dX1_takeOperandOrOperator_113 : decode cX1_takeOperandOrOperator 113 = .ok (.invokestatic 171, 3) := by decide +kernel
theorem dX1_takeOperandOrOperator_116 : decode cX1_takeOperandOrOperator 116 = .ok (.invokevirtual 111, 3) := by decide +kernel
theorem dX1_takeOperandOrOperator_119 : decode cX1_takeOperandOrOperator 119 = .ok (.l2i, 1) := by decide +kernel
theorem dX1_takeOperandOrOperator_120 : decode cX1_takeOperandOrOperator 120 = .ok (.invokestatic 174, 3) := by decide +kernel
theorem dX1_takeOperandOrOperator_123 : decode cX1_takeOperandOrOperator 123 = .ok (.invokevirtual 178, 3) := by decide +kernel
theorem dX1_takeOperandOrOperator_126 : decode cX1_takeOperandOrOperator 126 = .ok (.return_, 1) := by decide +kernel
theorem dX1_takePrivate_0 : decode cX1_takePrivate 0 = .ok (.lload_n 1, 1) := by decide +kernel
theorem dX1_takePrivate_1 : decode cX1_takePrivate 1 = .ok (.lconst 0, 1) := by decide +kernel
theorem dX1_takePrivate_2 : decode cX1_takePrivate 2 = .ok (.lcmp, 1) := by decide +kernel
theorem dX1_takePrivate_3 : decode cX1_takePrivate 3 = .ok (.ifCond .lt 16, 3) := by decide +kernel
theorem dX1_takePrivate_6 : decode cX1_takePrivate 6 = .ok (.lload_n 1, 1) := by decide +kernel
theorem dX1_takePrivate_7 : decode cX1_takePrivate 7 = .ok (.aload_n 0, 1) := by decide +kernel
theorem dX1_takePrivate_8 : decode cX1_takePrivate 8 = .ok (.getfield 24, 3) := by decide +kernel
theorem dX1_takePrivate_11 : decode cX1_takePrivate 11 = .ok (.invokevirtual 92, 3) := by decide +kernel
theorem dX1_takePrivate_14 : decode cX1_takePrivate 14 = .ok (.i2l, 1) := by decide +kernel
theorem dX1_takePrivate_15 : decode cX1_takePrivate 15 = .ok (.lcmp, 1) := by decide +kernel
theorem dX1_takePrivate_16 : decode cX1_takePrivate 16 = .ok (.ifCond .le 8, 3) := by decide +kernel
theorem dX1_takePrivate_19 : decode cX1_takePrivate 19 = .ok (.aload_n 0, 1) := by decide +kernel
theorem dX1_takePrivate_20 : decode cX1_takePrivate 20 = .ok (.iconst 1, 1) := by decide +kernel
theorem dX1_takePrivate_21 : decode cX1_takePrivate 21 = .ok (.invokevirtual 88, 3) := by decide +kernel
theorem dX1_takePrivate_24 : decode cX1_takePrivate 24 = .ok (.aload_n 0, 1) := by decide +kernel
theorem dX1_takePrivate_25 : decode cX1_takePrivate 25 = .ok (.lload_n 3, 1) := by decide +kernel
theorem dX1_takePrivate_26 : decode cX1_takePrivate 26 = .ok (.lconst 0, 1) := by decide +kernel
theorem dX1_takePrivate_27 : decode cX1_takePrivate 27 = .ok (.lcmp, 1) := by decide +kernel
theorem dX1_takePrivate_28 : decode cX1_takePrivate 28 = .ok (.ifCond .lt 7, 3) := by decide +kernel
theorem dX1_takePrivate_31 : decode cX1_takePrivate 31 = .ok (.iconst 1, 1) := by decide +kernel
theorem dX1_takePrivate_32 : decode cX1_takePrivate 32 = .ok (.goto 4, 3) := by decide +kernel
theorem dX1_takePrivate_35 : decode cX1_takePrivate 35 = .ok (.iconst 0, 1) := by decide +kernel
theorem dX1_takePrivate_36 : decode cX1_takePrivate 36 = .ok (.invokevirtual 107, 3) := by decide +kernel
theorem dX1_takePrivate_39 : decode cX1_takePrivate 39 = .ok (.aload_n 0, 1) := by decide +kernel
theorem dX1_takePrivate_40 : decode cX1_takePrivate 40 = .ok (.lload_n 1, 1) := by decide +kernel
theorem dX1_takePrivate_41 : decode cX1_takePrivate 41 = .ok (.lload_n 1, 1) := by decide +kernel
theorem dX1_takePrivate_42 : decode cX1_takePrivate 42 = .ok (.lload_n 3, 1) := by decide +kernel
theorem dX1_takePrivate_43 : decode cX1_takePrivate 43 = .ok (.ladd, 1) := by decide +kernel
theorem dX1_takePrivate_44 : decode cX1_takePrivate 44 = .ok (.invokevirtual 130, 3) := by decide +kernel
theorem dX1_takePrivate_47 : decode cX1_takePrivate 47 = .ok (.aload_n 0, 1) := by decide +kernel
theorem dX1_takePrivate_48 : decode cX1_takePrivate 48 = .ok (.aload_n 0, 1) := by decide +kernel
theorem dX1_takePrivate_49 : decode cX1_takePrivate 49 = .ok (.getfield 14, 3) := by decide +kernel
theorem dX1_takePrivate_52 : decode cX1_takePrivate 52 = .ok (.bipush 19, 2) := by decide +kernel
theorem dX1_takePrivate_54 : decode cX1_takePrivate 54 = .ok (.iconst 1, 1) := by decide +kernel
theorem dX1_takePrivate_55 : decode cX1_takePrivate 55 = .ok (.invokevirtual 133, 3) := by decide +kernel
theorem dX1_takePrivate_58 : decode cX1_takePrivate 58 = .ok (.invokevirtual 107, 3) := by decide +kernel
theorem dX1_takePrivate_61 : decode cX1_takePrivate 61 = .ok (.aload_n 0, 1) := by decide +kernel
theorem dX1_takePrivate_62 : decode cX1_takePrivate 62 = .ok (.aload_n 0, 1) := by decide +kernel
theorem dX1_takePrivate_63 : decode cX1_takePrivate 63 = .ok (.getfield 14, 3) := by decide +kernel
theorem dX1_takePrivate_66 : decode cX1_takePrivate 66 = .ok (.bipush 20, 2) := by decide +kernel
theorem dX1_takePrivate_68 : decode cX1_takePrivate 68 = .ok (.iconst 1, 1) := by decide +kernel
theorem dX1_takePrivate_69 : decode cX1_takePrivate 69 = .ok (.invokevirtual 133, 3) := by decide +kernel
theorem dX1_takePrivate_72 : decode cX1_takePrivate 72 = .ok (.invokevirtual 107, 3) := by decide +kernel
theorem dX1_takePrivate_75 : decode cX1_takePrivate 75 = .ok (.aload_n 0, 1) := by decide +kernel
theorem dX1_takePrivate_76 : decode cX1_takePrivate 76 = .ok (.aload_n 0, 1) := by decide +kernel
theorem dX1_takePrivate_77 : decode cX1_takePrivate 77 = .ok (.getfield 14, 3) := by decide +kernel
theorem dX1_takePrivate_80 : decode cX1_takePrivate 80 = .ok (.bipush 21, 2) := by decide +kernel
theorem dX1_takePrivate_82 : decode cX1_takePrivate 82 = .ok (.iconst 1, 1) := by decide +kernel
theorem dX1_takePrivate_83 : decode cX1_takePrivate 83 = .ok (.invokevirtual 133, 3) := by decide +kernel
theorem dX1_takePrivate_86 : decode cX1_takePrivate 86 = .ok (.invokevirtual 107, 3) := by decide +kernel
theorem dX1_takePrivate_89 : decode cX1_takePrivate 89 = .ok (.aload_n 0, 1) := by decide +kernel
theorem dX1_takePrivate_90 : decode cX1_takePrivate 90 = .ok (.getfield 20, 3) := by decide +kernel
theorem dX1_takePrivate_93 : decode cX1_takePrivate 93 = .ok (.aload_n 0, 1) := by decide +kernel
theorem dX1_takePrivate_94 : decode cX1_takePrivate 94 = .ok (.getfield 14, 3) := by decide +kernel
theorem dX1_takePrivate_97 : decode cX1_takePrivate 97 = .ok (.bipush 20, 2) := by decide +kernel
theorem dX1_takePrivate_99 : decode cX1_takePrivate 99 = .ok (.invokevirtual 75, 3) := by decide +kernel
theorem dX1_takePrivate_102 : decode cX1_takePrivate 102 = .ok (.putfield 137, 3) := by decide +kernel
theorem dX1_takePrivate_105 : decode cX1_takePrivate 105 = .ok (.aload_n 0, 1) := by decide +kernel
theorem dX1_takePrivate_106 : decode cX1_takePrivate 106 = .ok (.getfield 20, 3) := by decide +kernel
theorem dX1_takePrivate_109 : decode cX1_takePrivate 109 = .ok (.aload_n 0, 1) := by decide +kernel
theorem dX1_takePrivate_110 : decode cX1_takePrivate 110 = .ok (.getfield 14, 3) := by decide +kernel
theorem dX1_takePrivate_113 : decode cX1_takePrivate 113 = .ok (.bipush 21, 2) := by decide +kernel
theorem dX1_takePrivate_115 : decode cX1_takePrivate 115 = .ok (.invokevirtual 75, 3) := by decide +kernel
theorem dX1_takePrivate_118 : decode cX1_takePrivate 118 = .ok (.putfield 140, 3) := by decide +kernel
theorem dX1_takePrivate_121 : decode cX1_takePrivate 121 = .ok (.aload_n 0, 1) := by decide +kernel
theorem dX1_takePrivate_122 : decode cX1_takePrivate 122 = .ok (.getfield 41, 3) := by decide +kernel
theorem dX1_takePrivate_125 : decode cX1_takePrivate 125 = .ok (.ifCond .ne 49, 3) := by decide +kernel
theorem dX1_takePrivate_128 : decode cX1_takePrivate 128 = .ok (.aload_n 0, 1) := by decide +kernel
theorem dX1_takePrivate_129 : decode cX1_takePrivate 129 = .ok (.getfield 14, 3) := by decide +kernel
theorem dX1_takePrivate_132 : decode cX1_takePrivate 132 = .ok (.bipush 19, 2) := by decide +kernel
theorem dX1_takePrivate_134 : decode cX1_takePrivate 134 = .ok (.invokevirtual 78, 3) := by decide +kernel
theorem dX1_takePrivate_137 : decode cX1_takePrivate 137 = .ok (.ifCond .eq 37, 3) := by decide +kernel
theorem dX1_takePrivate_140 : decode cX1_takePrivate 140 = .ok (.aload_n 0, 1) := by decide +kernel
theorem dX1_takePrivate_141 : decode cX1_takePrivate 141 = .ok (.lload_n 1, 1) := by decide +kernel
theorem dX1_takePrivate_142 : decode cX1_takePrivate 142 = .ok (.aload_n 0, 1) := by decide +kernel
theorem dX1_takePrivate_143 : decode cX1_takePrivate 143 = .ok (.getfield 14, 3) := by decide +kernel
theorem dX1_takePrivate_146 : decode cX1_takePrivate 146 = .ok (.bipush 19, 2) := by decide +kernel
theorem dX1_takePrivate_148 : decode cX1_takePrivate 148 = .ok (.invokevirtual 75, 3) := by decide +kernel
theorem dX1_takePrivate_151 : decode cX1_takePrivate 151 = .ok (.i2l, 1) := by decide +kernel
theorem dX1_takePrivate_152 : decode cX1_takePrivate 152 = .ok (.ladd, 1) := by decide +kernel
theorem dX1_takePrivate_153 : decode cX1_takePrivate 153 = .ok (.putfield 55, 3) := by decide +kernel
theorem dX1_takePrivate_156 : decode cX1_takePrivate 156 = .ok (.aload_n 0, 1) := by decide +kernel
theorem dX1_takePrivate_157 : decode cX1_takePrivate 157 = .ok (.iconst 0, 1) := by decide +kernel
theorem dX1_takePrivate_158 : decode cX1_takePrivate 158 = .ok (.ldc 58, 2) := by decide +kernel
theorem dX1_takePrivate_160 : decode cX1_takePrivate 160 = .ok (.invokevirtual 48, 3) := by decide +kernel
theorem dX1_takePrivate_163 : decode cX1_takePrivate 163 = .ok (.aload_n 0, 1) := by decide +kernel
theorem dX1_takePrivate_164 : decode cX1_takePrivate 164 = .ok (.aload_n 0, 1) := by decide +kernel
theorem dX1_takePrivate_165 : decode cX1_takePrivate 165 = .ok (.getfield 20, 3) := by decide +kernel
theorem dX1_takePrivate_168 : decode cX1_takePrivate 168 = .ok (.getfield 143, 3) := by decide +kernel
theorem dX1_takePrivate_171 : decode cX1_takePrivate 171 = .ok (.invokevirtual 63, 3) := by decide +kernel
theorem dX1_takePrivate_174 : decode cX1_takePrivate 174 = .ok (.return_, 1) := by decide +kernel
theorem dX1_takeReal_0 : decode cX1_takeReal 0 = .ok (.iconst 1, 1) := by decide +kernel
theorem dX1_takeReal_1 : decode cX1_takeReal 1 = .ok (.istore_n 1, 1) := by decide +kernel
theorem dX1_takeReal_2 : decode cX1_takeReal 2 = .ok (.iconst 0, 1) := by decide +kernel
theorem dX1_takeReal_3 : decode cX1_takeReal 3 = .ok (.istore_n 2, 1) := by decide +kernel
theorem dX1_takeReal_4 : decode cX1_takeReal 4 = .ok (.iload_n 2, 1) := by decide +kernel
theorem dX1_takeReal_5 : decode cX1_takeReal 5 = .ok (.sipush 1500, 3) := by decide +kernel
theorem dX1_takeReal_8 : decode cX1_takeReal 8 = .ok (.if_icmp .gt 86, 3) := by decide +kernel
theorem dX1_takeReal_11 : decode cX1_takeReal 11 = .ok (.iload_n 1, 1) := by decide +kernel
theorem dX1_takeReal_12 : decode cX1_takeReal 12 = .ok (.ifCond .eq 82, 3) := by decide +kernel
theorem dX1_takeReal_15 : decode cX1_takeReal 15 = .ok (.aload_n 0, 1) := by decide +kernel
theorem dX1_takeReal_16 : decode cX1_takeReal 16 = .ok (.getfield 41, 3) := by decide +kernel
theorem dX1_takeReal_19 : decode cX1_takeReal 19 = .ok (.ifCond .ne 75, 3) := by decide +kernel
theorem dX1_takeReal_22 : decode cX1_takeReal 22 = .ok (.aload_n 0, 1) := by decide +kernel
theorem dX1_takeReal_23 : decode cX1_takeReal 23 = .ok (.invokevirtual 104, 3) := by decide +kernel
theorem dX1_takeReal_26 : decode cX1_takeReal 26 = .ok (.istore_n 3, 1) := by decide +kernel
theorem dX1_takeReal_27 : decode cX1_takeReal 27 = .ok (.iload_n 3, 1) := by decide +kernel
theorem dX1_takeReal_28 : decode cX1_takeReal 28 = .ok (.iconst 4, 1) := by decide +kernel
theorem dX1_takeReal_29 : decode cX1_takeReal 29 = .ok (.ishr, 1) := by decide +kernel
theorem dX1_takeReal_30 : decode cX1_takeReal 30 = .ok (.istore 4, 2) := by decide +kernel
theorem dX1_takeReal_32 : decode cX1_takeReal 32 = .ok (.iload_n 3, 1) := by decide +kernel
theorem dX1_takeReal_33 : decode cX1_takeReal 33 = .ok (.bipush 15, 2) := by decide +kernel
theorem dX1_takeReal_35 : decode cX1_takeReal 35 = .ok (.iand, 1) := by decide +kernel
theorem dX1_takeReal_36 : decode cX1_takeReal 36 = .ok (.istore 5, 2) := by decide +kernel
theorem dX1_takeReal_38 : decode cX1_takeReal 38 = .ok (.iload 4, 2) := by decide +kernel
theorem dX1_takeReal_40 : decode cX1_takeReal 40 = .ok (.bipush 15, 2) := by decide +kernel
theorem dX1_takeReal_42 : decode cX1_takeReal 42 = .ok (.if_icmp .eq 14, 3) := by decide +kernel
theorem dX1_takeReal_45 : decode cX1_takeReal 45 = .ok (.iload 5, 2) := by decide +kernel
theorem dX1_takeReal_47 : decode cX1_takeReal 47 = .ok (.bipush 15, 2) := by decide +kernel
theorem dX1_takeReal_49 : decode cX1_takeReal 49 = .ok (.if_icmp .eq 7, 3) := by decide +kernel
theorem dX1_takeReal_52 : decode cX1_takeReal 52 = .ok (.iconst 1, 1) := by decide +kernel
theorem dX1_takeReal_53 : decode cX1_takeReal 53 = .ok (.goto 4, 3) := by decide +kernel
theorem dX1_takeReal_56 : decode cX1_takeReal 56 = .ok (.iconst 0, 1) := by decide +kernel
theorem dX1_takeReal_57 : decode cX1_takeReal 57 = .ok (.istore_n 1, 1) := by decide +kernel
theorem dX1_takeReal_58 : decode cX1_takeReal 58 = .ok (.aload_n 0, 1) := by decide +kernel
theorem dX1_takeReal_59 : decode cX1_takeReal 59 = .ok (.iload 4, 2) := by decide +kernel
theorem dX1_takeReal_61 : decode cX1_takeReal 61 = .ok (.bipush 13, 2) := by decide +kernel
theorem dX1_takeReal_63 : decode cX1_takeReal 63 = .ok (.if_icmp .eq 21, 3) := by decide +kernel
theorem dX1_takeReal_66 : decode cX1_takeReal 66 = .ok (.iload 4, 2) := by decide +kernel
theorem dX1_takeReal_68 : decode cX1_takeReal 68 = .ok (.bipush 15, 2) := by decide +kernel
theorem dX1_takeReal_70 : decode cX1_takeReal 70 = .ok (.if_icmp .eq 10, 3) := by decide +kernel
theorem dX1_takeReal_73 : decode cX1_takeReal 73 = .ok (.iload 5, 2) := by decide +kernel
theorem dX1_takeReal_75 : decode cX1_takeReal 75 = .ok (.bipush 13, 2) := by decide +kernel
theorem dX1_takeReal_77 : decode cX1_takeReal 77 = .ok (.if_icmp .eq 7, 3) := by decide +kernel
theorem dX1_takeReal_80 : decode cX1_takeReal 80 = .ok (.iconst 1, 1) := by decide +kernel
theorem dX1_takeReal_81 : decode cX1_takeReal 81 = .ok (.goto 4, 3) := by decide +kernel
theorem dX1_takeReal_84 : decode cX1_takeReal 84 = .ok (.iconst 0, 1) := by decide +kernel
theorem dX1_takeReal_85 : decode cX1_takeReal 85 = .ok (.invokevirtual 107, 3) := by decide +kernel
theorem dX1_takeReal_88 : decode cX1_takeReal 88 = .ok (.iinc 2 1, 3) := by decide +kernel
theorem dX1_takeReal_91 : decode cX1_takeReal 91 = .ok (.goto (-87), 3) := by decide +kernel
theorem dX1_takeReal_94 : decode cX1_takeReal 94 = .ok (.return_, 1) := by decide +kernel
theorem dX1_takeTop_0 : decode cX1_takeTop 0 = .ok (.aload_n 0, 1) := by decide +kernel
theorem dX1_takeTop_1 : decode cX1_takeTop 1 = .ok (.lload_n 1, 1) := by decide +kernel
theorem dX1_takeTop_2 : decode cX1_takeTop 2 = .ok (.lload_n 3, 1) := by decide +kernel
theorem dX1_takeTop_3 : decode cX1_takeTop 3 = .ok (.invokevirtual 130, 3) := by decide +kernel
theorem dX1_takeTop_6 : decode cX1_takeTop 6 = .ok (.aload_n 0, 1) := by decide +kernel
theorem dX1_takeTop_7 : decode cX1_takeTop 7 = .ok (.aload_n 0, 1) := by decide +kernel
theorem dX1_takeTop_8 : decode cX1_takeTop 8 = .ok (.getfield 14, 3) := by decide +kernel
theorem dX1_takeTop_11 : decode cX1_takeTop 11 = .ok (.bipush 17, 2) := by decide +kernel
theorem dX1_takeTop_13 : decode cX1_takeTop 13 = .ok (.invokevirtual 78, 3) := by decide +kernel
theorem dX1_takeTop_16 : decode cX1_takeTop 16 = .ok (.ifCond .eq 20, 3) := by decide +kernel
theorem dX1_takeTop_19 : decode cX1_takeTop 19 = .ok (.aload_n 0, 1) := by decide +kernel
theorem dX1_takeTop_20 : decode cX1_takeTop 20 = .ok (.getfield 14, 3) := by decide +kernel
theorem dX1_takeTop_23 : decode cX1_takeTop 23 = .ok (.bipush 17, 2) := by decide +kernel
theorem dX1_takeTop_25 : decode cX1_takeTop 25 = .ok (.iconst 1, 1) := by decide +kernel
theorem dX1_takeTop_26 : decode cX1_takeTop 26 = .ok (.invokevirtual 133, 3) := by decide +kernel
theorem dX1_takeTop_29 : decode cX1_takeTop 29 = .ok (.ifCond .eq 7, 3) := by decide +kernel
theorem dX1_takeTop_32 : decode cX1_takeTop 32 = .ok (.iconst 1, 1) := by decide +kernel
theorem dX1_takeTop_33 : decode cX1_takeTop 33 = .ok (.goto 4, 3) := by decide +kernel
theorem dX1_takeTop_36 : decode cX1_takeTop 36 = .ok (.iconst 0, 1) := by decide +kernel
theorem dX1_takeTop_37 : decode cX1_takeTop 37 = .ok (.invokevirtual 107, 3) := by decide +kernel
theorem dX1_takeTop_40 : decode cX1_takeTop 40 = .ok (.aload_n 0, 1) := by decide +kernel
theorem dX1_takeTop_41 : decode cX1_takeTop 41 = .ok (.aload_n 0, 1) := by decide +kernel
theorem dX1_takeTop_42 : decode cX1_takeTop 42 = .ok (.getfield 14, 3) := by decide +kernel
theorem dX1_takeTop_45 : decode cX1_takeTop 45 = .ok (.bipush 18, 2) := by decide +kernel
theorem dX1_takeTop_47 : decode cX1_takeTop 47 = .ok (.iconst 2, 1) := by decide +kernel
theorem dX1_takeTop_48 : decode cX1_takeTop 48 = .ok (.invokevirtual 133, 3) := by decide +kernel
theorem dX1_takeTop_51 : decode cX1_takeTop 51 = .ok (.invokevirtual 107, 3) := by decide +kernel
theorem dX1_takeTop_54 : decode cX1_takeTop 54 = .ok (.aload_n 0, 1) := by decide +kernel
theorem dX1_takeTop_55 : decode cX1_takeTop 55 = .ok (.aload_n 0, 1) := by decide +kernel
theorem dX1_takeTop_56 : decode cX1_takeTop 56 = .ok (.getfield 14, 3) := by decide +kernel
theorem dX1_takeTop_59 : decode cX1_takeTop 59 = .ok (.sipush 262, 3) := by decide +kernel
theorem dX1_takeTop_62 : decode cX1_takeTop 62 = .ok (.iconst 1, 1) := by decide +kernel
theorem dX1_takeTop_63 : decode cX1_takeTop 63 = .ok (.invokevirtual 133, 3) := by decide +kernel
theorem dX1_takeTop_66 : decode cX1_takeTop 66 = .ok (.invokevirtual 107, 3) := by decide +kernel
theorem dX1_takeTop_69 : decode cX1_takeTop 69 = .ok (.aload_n 0, 1) := by decide +kernel
theorem dX1_takeTop_70 : decode cX1_takeTop 70 = .ok (.aload_n 0, 1) := by decide +kernel
theorem dX1_takeTop_71 : decode cX1_takeTop 71 = .ok (.getfield 14, 3) := by decide +kernel
theorem dX1_takeTop_74 : decode cX1_takeTop 74 = .ok (.sipush 262, 3) := by decide +kernel
theorem dX1_takeTop_77 : decode cX1_takeTop 77 = .ok (.invokevirtual 78, 3) := by decide +kernel
theorem dX1_takeTop_80 : decode cX1_takeTop 80 = .ok (.ifCond .eq 17, 3) := by decide +kernel
theorem dX1_takeTop_83 : decode cX1_takeTop 83 = .ok (.aload_n 0, 1) := by decide +kernel
theorem dX1_takeTop_84 : decode cX1_takeTop 84 = .ok (.getfield 14, 3) := by decide +kernel
theorem dX1_takeTop_87 : decode cX1_takeTop 87 = .ok (.sipush 262, 3) := by decide +kernel
theorem dX1_takeTop_90 : decode cX1_takeTop 90 = .ok (.invokevirtual 75, 3) := by decide +kernel
theorem dX1_takeTop_93 : decode cX1_takeTop 93 = .ok (.iconst 2, 1) := by decide +kernel
theorem dX1_takeTop_94 : decode cX1_takeTop 94 = .ok (.if_icmp .ne 7, 3) := by decide +kernel
theorem dX1_takeTop_97 : decode cX1_takeTop 97 = .ok (.iconst 1, 1) := by decide +kernel
theorem dX1_takeTop_98 : decode cX1_takeTop 98 = .ok (.goto 4, 3) := by decide +kernel
theorem dX1_takeTop_101 : decode cX1_takeTop 101 = .ok (.iconst 0, 1) := by decide +kernel
theorem dX1_takeTop_102 : decode cX1_takeTop 102 = .ok (.invokevirtual 107, 3) := by decide +kernel
theorem dX1_takeTop_105 : decode cX1_takeTop 105 = .ok (.return_, 1) := by decide +kernel
theorem dX1_want_0 : decode cX1_want 0 = .ok (.iload_n 1, 1) := by decide +kernel
theorem dX1_want_1 : decode cX1_want 1 = .ok (.ifCond .ne 8, 3) := by decide +kernel
theorem dX1_want_4 : decode cX1_want 4 = .ok (.aload_n 0, 1) := by decide +kernel
theorem dX1_want_5 : decode cX1_want 5 = .ok (.iconst 2, 1) := by decide +kernel
theorem dX1_want_6 : decode cX1_want 6 = .ok (.invokevirtual 88, 3) := by decide +kernel
theorem dX1_want_9 : decode cX1_want 9 = .ok (.return_, 1) := by decide +kernel
theorem dX1_wrong_0 : decode cX1_wrong 0 = .ok (.aload_n 0, 1) := by decide +kernel
theorem dX1_wrong_1 : decode cX1_wrong 1 = .ok (.getfield 41, 3) := by decide +kernel
theorem dX1_wrong_4 : decode cX1_wrong 4 = .ok (.ifCond .ne 8, 3) := by decide +kernel
theorem dX1_wrong_7 : decode cX1_wrong 7 = .ok (.aload_n 0, 1) := by decide +kernel
theorem dX1_wrong_8 : decode cX1_wrong 8 = .ok (.iload_n 1, 1) := by decide +kernel
theorem dX1_wrong_9 : decode cX1_wrong 9 = .ok (.putfield 41, 3) := by decide +kernel
theorem dX1_wrong_12 : decode cX1_wrong 12 = .ok (.return_, 1) := by decide +kernel
theorem dX2_add_0 : decode cX2_add 0 = .ok (.aload_n 0, 1) := by decide +kernel
theorem dX2_add_1 : decode cX2_add 1 = .ok (.invokevirtual 38, 3) := by decide +kernel
theorem dX2_add_4 : decode cX2_add 4 = .ok (.ifCond .ne 23, 3) := by decide +kernel
theorem dX2_add_7 : decode cX2_add 7 = .ok (.aload_n 0, 1) := by decide +kernel
theorem dX2_add_8 : decode cX2_add 8 = .ok (.getfield 11, 3) := by decide +kernel
theorem dX2_add_11 : decode cX2_add 11 = .ok (.aload_n 0, 1) := by decide +kernel
theorem dX2_add_12 : decode cX2_add 12 = .ok (.getfield 15, 3) := by decide +kernel
theorem dX2_add_15 : decode cX2_add 15 = .ok (.iload_n 1, 1) := by decide +kernel
theorem dX2_add_16 : decode cX2_add 16 = .ok (.iastore, 1) := by decide +kernel
theorem dX2_add_17 : decode cX2_add 17 = .ok (.aload_n 0, 1) := by decide +kernel
theorem dX2_add_18 : decode cX2_add 18 = .ok (.dup, 1) := by decide +kernel
theorem dX2_add_19 : decode cX2_add 19 = .ok (.getfield 15, 3) := by decide +kernel
theorem dX2_add_22 : decode cX2_add 22 = .ok (.iconst 1, 1) := by decide +kernel
theorem dX2_add_23 : decode cX2_add 23 = .ok (.iadd, 1) := by decide +kernel
theorem dX2_add_24 : decode cX2_add 24 = .ok (.putfield 15, 3) := by decide +kernel
theorem dX2_add_27 : decode cX2_add 27 = .ok (.return_, 1) := by decide +kernel
theorem dX2_addReal_0 : decode cX2_addReal 0 = .ok (.aload_n 0, 1) := by decide +kernel
theorem dX2_addReal_1 : decode cX2_addReal 1 = .ok (.iconst 0, 1) := by decide +kernel
theorem dX2_addReal_2 : decode cX2_addReal 2 = .ok (.invokevirtual 42, 3) := by decide +kernel
theorem dX2_addReal_5 : decode cX2_addReal 5 = .ok (.aload_n 0, 1) := by decide +kernel
theorem dX2_addReal_6 : decode cX2_addReal 6 = .ok (.iconst 1, 1) := by decide +kernel
theorem dX2_addReal_7 : decode cX2_addReal 7 = .ok (.putfield 19, 3) := by decide +kernel
theorem dX2_addReal_10 : decode cX2_addReal 10 = .ok (.return_, 1) := by decide +kernel
theorem dX2_clear_0 : decode cX2_clear 0 = .ok (.aload_n 0, 1) := by decide +kernel
theorem dX2_clear_1 : decode cX2_clear 1 = .ok (.iconst 0, 1) := by decide +kernel
theorem dX2_clear_2 : decode cX2_clear 2 = .ok (.putfield 15, 3) := by decide +kernel
theorem dX2_clear_5 : decode cX2_clear 5 = .ok (.aload_n 0, 1) := by decide +kernel
theorem dX2_clear_6 : decode cX2_clear 6 = .ok (.iconst 0, 1) := by decide +kernel
theorem dX2_clear_7 : decode cX2_clear 7 = .ok (.putfield 19, 3) := by decide +kernel
theorem dX2_clear_10 : decode cX2_clear 10 = .ok (.aload_n 0, 1) := by decide +kernel
theorem dX2_clear_11 : decode cX2_clear 11 = .ok (.getfield 23, 3) := by decide +kernel
theorem dX2_clear_14 : decode cX2_clear 14 = .ok (.iconst (-1), 1) := by decide +kernel
theorem dX2_clear_15 : decode cX2_clear 15 = .ok (.invokestatic 32, 3) := by decide +kernel
theorem dX2_clear_18 : decode cX2_clear 18 = .ok (.return_, 1) := by decide +kernel
theorem dX2_first_0 : decode cX2_first 0 = .ok (.aload_n 0, 1) := by decide +kernel
theorem dX2_first_1 : decode cX2_first 1 = .ok (.iload_n 1, 1) := by decide +kernel
theorem dX2_first_2 : decode cX2_first 2 = .ok (.invokevirtual 50, 3) := by decide +kernel
theorem dX2_first_5 : decode cX2_first 5 = .ok (.ifCond .eq 15, 3) := by decide +kernel
theorem dX2_first_8 : decode cX2_first 8 = .ok (.aload_n 0, 1) := by decide +kernel
theorem dX2_first_9 : decode cX2_first 9 = .ok (.getfield 26, 3) := by decide +kernel
theorem dX2_first_12 : decode cX2_first 12 = .ok (.iload_n 1, 1) := by decide +kernel
theorem dX2_first_13 : decode cX2_first 13 = .ok (.invokestatic 46, 3) := by decide +kernel
theorem dX2_first_16 : decode cX2_first 16 = .ok (.iaload, 1) := by decide +kernel
theorem dX2_first_17 : decode cX2_first 17 = .ok (.goto 4, 3) := by decide +kernel
theorem dX2_first_20 : decode cX2_first 20 = .ok (.iconst 0, 1) := by decide +kernel
theorem dX2_first_21 : decode cX2_first 21 = .ok (.ireturn, 1) := by decide +kernel
theorem dX2_fits_0 : decode cX2_fits 0 = .ok (.iload_n 1, 1) := by decide +kernel
theorem dX2_fits_1 : decode cX2_fits 1 = .ok (.invokestatic 46, 3) := by decide +kernel
theorem dX2_fits_4 : decode cX2_fits 4 = .ok (.istore_n 3, 1) := by decide +kernel
theorem dX2_fits_5 : decode cX2_fits 5 = .ok (.iload_n 3, 1) := by decide +kernel
theorem dX2_fits_6 : decode cX2_fits 6 = .ok (.iconst (-1), 1) := by decide +kernel
theorem dX2_fits_7 : decode cX2_fits 7 = .ok (.if_icmp .eq 23, 3) := by decide +kernel
theorem dX2_fits_10 : decode cX2_fits 10 = .ok (.aload_n 0, 1) := by decide +kernel
theorem dX2_fits_11 : decode cX2_fits 11 = .ok (.getfield 23, 3) := by decide +kernel
theorem dX2_fits_14 : decode cX2_fits 14 = .ok (.iload_n 3, 1) := by decide +kernel
theorem dX2_fits_15 : decode cX2_fits 15 = .ok (.iaload, 1) := by decide +kernel
theorem dX2_fits_16 : decode cX2_fits 16 = .ok (.iconst (-1), 1) := by decide +kernel
theorem dX2_fits_17 : decode cX2_fits 17 = .ok (.if_icmp .eq 13, 3) := by decide +kernel
theorem dX2_fits_20 : decode cX2_fits 20 = .ok (.aload_n 0, 1) := by decide +kernel
theorem dX2_fits_21 : decode cX2_fits 21 = .ok (.getfield 23, 3) := by decide +kernel
theorem dX2_fits_24 : decode cX2_fits 24 = .ok (.iload_n 3, 1) := by decide +kernel
theorem dX2_fits_25 : decode cX2_fits 25 = .ok (.iaload, 1) := by decide +kernel
theorem dX2_fits_26 : decode cX2_fits 26 = .ok (.iload_n 2, 1) := by decide +kernel
theorem dX2_fits_27 : decode cX2_fits 27 = .ok (.if_icmp .ne 7, 3) := by decide +kernel
theorem dX2_fits_30 : decode cX2_fits 30 = .ok (.iconst 1, 1) := by decide +kernel
theorem dX2_fits_31 : decode cX2_fits 31 = .ok (.goto 4, 3) := by decide +kernel
theorem dX2_fits_34 : decode cX2_fits 34 = .ok (.iconst 0, 1) := by decide +kernel
theorem dX2_fits_35 : decode cX2_fits 35 = .ok (.ireturn, 1) := by decide +kernel
theorem dX2_isBetween_0 : decode cX2_isBetween 0 = .ok (.aload_n 0, 1) := by decide +kernel
theorem dX2_isBetween_1 : decode cX2_isBetween 1 = .ok (.getfield 15, 3) := by decide +kernel
theorem dX2_isBetween_4 : decode cX2_isBetween 4 = .ok (.ifCond .ne 7, 3) := by decide +kernel
theorem dX2_isBetween_7 : decode cX2_isBetween 7 = .ok (.iconst 1, 1) := by decide +kernel
theorem dX2_isBetween_8 : decode cX2_isBetween 8 = .ok (.goto 4, 3) := by decide +kernel
theorem dX2_isBetween_11 : decode cX2_isBetween 11 = .ok (.iconst 0, 1) := by decide +kernel
theorem dX2_isBetween_12 : decode cX2_isBetween 12 = .ok (.ireturn, 1) := by decide +kernel
theorem dX2_isFull_0 : decode cX2_isFull 0 = .ok (.aload_n 0, 1) := by decide +kernel
theorem dX2_isFull_1 : decode cX2_isFull 1 = .ok (.getfield 15, 3) := by decide +kernel
theorem dX2_isFull_4 : decode cX2_isFull 4 = .ok (.bipush 48, 2) := by decide +kernel
theorem dX2_isFull_6 : decode cX2_isFull 6 = .ok (.if_icmp .lt 7, 3) := by decide +kernel
theorem dX2_isFull_9 : decode cX2_isFull 9 = .ok (.iconst 1, 1) := by decide +kernel
theorem dX2_isFull_10 : decode cX2_isFull 10 = .ok (.goto 4, 3) := by decide +kernel
theorem dX2_isFull_13 : decode cX2_isFull 13 = .ok (.iconst 0, 1) := by decide +kernel
theorem dX2_isFull_14 : decode cX2_isFull 14 = .ok (.ireturn, 1) := by decide +kernel
theorem dX2_isTold_0 : decode cX2_isTold 0 = .ok (.iload_n 1, 1) := by decide +kernel
theorem dX2_isTold_1 : decode cX2_isTold 1 = .ok (.invokestatic 46, 3) := by decide +kernel
theorem dX2_isTold_4 : decode cX2_isTold 4 = .ok (.istore_n 2, 1) := by decide +kernel
theorem dX2_isTold_5 : decode cX2_isTold 5 = .ok (.iload_n 2, 1) := by decide +kernel
theorem dX2_isTold_6 : decode cX2_isTold 6 = .ok (.iconst (-1), 1) := by decide +kernel
theorem dX2_isTold_7 : decode cX2_isTold 7 = .ok (.if_icmp .eq 17, 3) := by decide +kernel
theorem dX2_isTold_10 : decode cX2_isTold 10 = .ok (.aload_n 0, 1) := by decide +kernel
theorem dX2_isTold_11 : decode cX2_isTold 11 = .ok (.getfield 23, 3) := by decide +kernel
theorem dX2_isTold_14 : decode cX2_isTold 14 = .ok (.iload_n 2, 1) := by decide +kernel
theorem dX2_isTold_15 : decode cX2_isTold 15 = .ok (.iaload, 1) := by decide +kernel
theorem dX2_isTold_16 : decode cX2_isTold 16 = .ok (.iconst (-1), 1) := by decide +kernel
theorem dX2_isTold_17 : decode cX2_isTold 17 = .ok (.if_icmp .eq 7, 3) := by decide +kernel
theorem dX2_isTold_20 : decode cX2_isTold 20 = .ok (.iconst 1, 1) := by decide +kernel
theorem dX2_isTold_21 : decode cX2_isTold 21 = .ok (.goto 4, 3) := by decide +kernel
theorem dX2_isTold_24 : decode cX2_isTold 24 = .ok (.iconst 0, 1) := by decide +kernel
theorem dX2_isTold_25 : decode cX2_isTold 25 = .ok (.ireturn, 1) := by decide +kernel
theorem dX2_second_0 : decode cX2_second 0 = .ok (.aload_n 0, 1) := by decide +kernel
theorem dX2_second_1 : decode cX2_second 1 = .ok (.iload_n 1, 1) := by decide +kernel
theorem dX2_second_2 : decode cX2_second 2 = .ok (.invokevirtual 50, 3) := by decide +kernel
theorem dX2_second_5 : decode cX2_second 5 = .ok (.ifCond .eq 15, 3) := by decide +kernel
theorem dX2_second_8 : decode cX2_second 8 = .ok (.aload_n 0, 1) := by decide +kernel
theorem dX2_second_9 : decode cX2_second 9 = .ok (.getfield 29, 3) := by decide +kernel
theorem dX2_second_12 : decode cX2_second 12 = .ok (.iload_n 1, 1) := by decide +kernel
theorem dX2_second_13 : decode cX2_second 13 = .ok (.invokestatic 46, 3) := by decide +kernel
theorem dX2_second_16 : decode cX2_second 16 = .ok (.iaload, 1) := by decide +kernel
theorem dX2_second_17 : decode cX2_second 17 = .ok (.goto 4, 3) := by decide +kernel
theorem dX2_second_20 : decode cX2_second 20 = .ok (.iconst 0, 1) := by decide +kernel
theorem dX2_second_21 : decode cX2_second 21 = .ok (.ireturn, 1) := by decide +kernel
theorem dX2_slotOf_0 : decode cX2_slotOf 0 = .ok (.iload_n 0, 1) := by decide +kernel
theorem dX2_slotOf_1 : decode cX2_slotOf 1 = .ok (.lookupswitch 71 #[(17, 59), (18, 61), (19, 65), (20, 67), (21, 69), (262, 63)], 59) := by decide +kernel
theorem dX2_slotOf_60 : decode cX2_slotOf 60 = .ok (.iconst 0, 1) := by decide +kernel
theorem dX2_slotOf_61 : decode cX2_slotOf 61 = .ok (.ireturn, 1) := by decide +kernel
theorem dX2_slotOf_62 : decode cX2_slotOf 62 = .ok (.iconst 1, 1) := by decide +kernel
theorem dX2_slotOf_63 : decode cX2_slotOf 63 = .ok (.ireturn, 1) := by decide +kernel
theorem dX2_slotOf_64 : decode cX2_slotOf 64 = .ok (.iconst 2, 1) := by decide +kernel
theorem dX2_slotOf_65 : decode cX2_slotOf 65 = .ok (.ireturn, 1) := by decide +kernel
theorem dX2_slotOf_66 : decode cX2_slotOf 66 = .ok (.iconst 3, 1) := by decide +kernel
theorem dX2_slotOf_67 : decode cX2_slotOf 67 = .ok (.ireturn, 1) := by decide +kernel
theorem dX2_slotOf_68 : decode cX2_slotOf 68 = .ok (.iconst 4, 1) := by decide +kernel
theorem dX2_slotOf_69 : decode cX2_slotOf 69 = .ok (.ireturn, 1) := by decide +kernel
theorem dX2_slotOf_70 : decode cX2_slotOf 70 = .ok (.iconst 5, 1) := by decide +kernel
theorem dX2_slotOf_71 : decode cX2_slotOf 71 = .ok (.ireturn, 1) := by decide +kernel
theorem dX2_slotOf_72 : decode cX2_slotOf 72 = .ok (.iconst (-1), 1) := by decide +kernel
theorem dX2_slotOf_73 : decode cX2_slotOf 73 = .ok (.ireturn, 1) := by decide +kernel
theorem dX2_tell_0 : decode cX2_tell 0 = .ok (.iload_n 1, 1) := by decide +kernel
theorem dX2_tell_1 : decode cX2_tell 1 = .ok (.invokestatic 46, 3) := by decide +kernel
theorem dX2_tell_4 : decode cX2_tell 4 = .ok (.istore_n 2, 1) := by decide +kernel
theorem dX2_tell_5 : decode cX2_tell 5 = .ok (.iload_n 2, 1) := by decide +kernel
theorem dX2_tell_6 : decode cX2_tell 6 = .ok (.iconst (-1), 1) := by decide +kernel
theorem dX2_tell_7 : decode cX2_tell 7 = .ok (.if_icmp .eq 72, 3) := by decide +kernel
theorem dX2_tell_10 : decode cX2_tell 10 = .ok (.aload_n 0, 1) := by decide +kernel
theorem dX2_tell_11 : decode cX2_tell 11 = .ok (.getfield 23, 3) := by decide +kernel
theorem dX2_tell_14 : decode cX2_tell 14 = .ok (.iload_n 2, 1) := by decide +kernel
theorem dX2_tell_15 : decode cX2_tell 15 = .ok (.aload_n 0, 1) := by decide +kernel
theorem dX2_tell_16 : decode cX2_tell 16 = .ok (.getfield 19, 3) := by decide +kernel
theorem dX2_tell_19 : decode cX2_tell 19 = .ok (.ifCond .eq 8, 3) := by decide +kernel
theorem dX2_tell_22 : decode cX2_tell 22 = .ok (.bipush 49, 2) := by decide +kernel
theorem dX2_tell_24 : decode cX2_tell 24 = .ok (.goto 7, 3) := by decide +kernel
theorem dX2_tell_27 : decode cX2_tell 27 = .ok (.aload_n 0, 1) := by decide +kernel
theorem dX2_tell_28 : decode cX2_tell 28 = .ok (.getfield 15, 3) := by decide +kernel
theorem dX2_tell_31 : decode cX2_tell 31 = .ok (.iastore, 1) := by decide +kernel
theorem dX2_tell_32 : decode cX2_tell 32 = .ok (.aload_n 0, 1) := by decide +kernel
theorem dX2_tell_33 : decode cX2_tell 33 = .ok (.getfield 26, 3) := by decide +kernel
theorem dX2_tell_36 : decode cX2_tell 36 = .ok (.iload_n 2, 1) := by decide +kernel
theorem dX2_tell_37 : decode cX2_tell 37 = .ok (.aload_n 0, 1) := by decide +kernel
theorem dX2_tell_38 : decode cX2_tell 38 = .ok (.getfield 15, 3) := by decide +kernel
theorem dX2_tell_41 : decode cX2_tell 41 = .ok (.ifCond .le 12, 3) := by decide +kernel
theorem dX2_tell_44 : decode cX2_tell 44 = .ok (.aload_n 0, 1) := by decide +kernel
theorem dX2_tell_45 : decode cX2_tell 45 = .ok (.getfield 11, 3) := by decide +kernel
theorem dX2_tell_48 : decode cX2_tell 48 = .ok (.iconst 0, 1) := by decide +kernel
theorem dX2_tell_49 : decode cX2_tell 49 = .ok (.iaload, 1) := by decide +kernel
theorem dX2_tell_50 : decode cX2_tell 50 = .ok (.goto 4, 3) := by decide +kernel
theorem dX2_tell_53 : decode cX2_tell 53 = .ok (.iconst 0, 1) := by decide +kernel
theorem dX2_tell_54 : decode cX2_tell 54 = .ok (.iastore, 1) := by decide +kernel
theorem dX2_tell_55 : decode cX2_tell 55 = .ok (.aload_n 0, 1) := by decide +kernel
theorem dX2_tell_56 : decode cX2_tell 56 = .ok (.getfield 29, 3) := by decide +kernel
theorem dX2_tell_59 : decode cX2_tell 59 = .ok (.iload_n 2, 1) := by decide +kernel
theorem dX2_tell_60 : decode cX2_tell 60 = .ok (.aload_n 0, 1) := by decide +kernel
theorem dX2_tell_61 : decode cX2_tell 61 = .ok (.getfield 15, 3) := by decide +kernel
theorem dX2_tell_64 : decode cX2_tell 64 = .ok (.iconst 1, 1) := by decide +kernel
theorem dX2_tell_65 : decode cX2_tell 65 = .ok (.if_icmp .le 12, 3) := by decide +kernel
theorem dX2_tell_68 : decode cX2_tell 68 = .ok (.aload_n 0, 1) := by decide +kernel
theorem dX2_tell_69 : decode cX2_tell 69 = .ok (.getfield 11, 3) := by decide +kernel
theorem dX2_tell_72 : decode cX2_tell 72 = .ok (.iconst 1, 1) := by decide +kernel
theorem dX2_tell_73 : decode cX2_tell 73 = .ok (.iaload, 1) := by decide +kernel
theorem dX2_tell_74 : decode cX2_tell 74 = .ok (.goto 4, 3) := by decide +kernel
theorem dX2_tell_77 : decode cX2_tell 77 = .ok (.iconst 0, 1) := by decide +kernel
theorem dX2_tell_78 : decode cX2_tell 78 = .ok (.iastore, 1) := by decide +kernel
theorem dX2_tell_79 : decode cX2_tell 79 = .ok (.aload_n 0, 1) := by decide +kernel
theorem dX2_tell_80 : decode cX2_tell 80 = .ok (.iconst 0, 1) := by decide +kernel
theorem dX2_tell_81 : decode cX2_tell 81 = .ok (.putfield 15, 3) := by decide +kernel
theorem dX2_tell_84 : decode cX2_tell 84 = .ok (.aload_n 0, 1) := by decide +kernel
theorem dX2_tell_85 : decode cX2_tell 85 = .ok (.iconst 0, 1) := by decide +kernel
theorem dX2_tell_86 : decode cX2_tell 86 = .ok (.putfield 19, 3) := by decide +kernel
theorem dX2_tell_89 : decode cX2_tell 89 = .ok (.return_, 1) := by decide +kernel
theorem dX3_begin_0 : decode cX3_begin 0 = .ok (.aload_n 0, 1) := by decide +kernel
theorem dX3_begin_1 : decode cX3_begin 1 = .ok (.iload_n 1, 1) := by decide +kernel
theorem dX3_begin_2 : decode cX3_begin 2 = .ok (.putfield 35, 3) := by decide +kernel
theorem dX3_begin_5 : decode cX3_begin 5 = .ok (.aload_n 0, 1) := by decide +kernel
theorem dX3_begin_6 : decode cX3_begin 6 = .ok (.getfield 14, 3) := by decide +kernel
theorem dX3_begin_9 : decode cX3_begin 9 = .ok (.iconst 0, 1) := by decide +kernel
theorem dX3_begin_10 : decode cX3_begin 10 = .ok (.invokevirtual 45, 3) := by decide +kernel
theorem dX3_begin_13 : decode cX3_begin 13 = .ok (.aload_n 0, 1) := by decide +kernel
theorem dX3_begin_14 : decode cX3_begin 14 = .ok (.getfield 14, 3) := by decide +kernel
theorem dX3_begin_17 : decode cX3_begin 17 = .ok (.aload_n 2, 1) := by decide +kernel
theorem dX3_begin_18 : decode cX3_begin 18 = .ok (.iload_n 3, 1) := by decide +kernel
theorem dX3_begin_19 : decode cX3_begin 19 = .ok (.invokevirtual 48, 3) := by decide +kernel
theorem dX3_begin_22 : decode cX3_begin 22 = .ok (.aload_n 0, 1) := by decide +kernel
theorem dX3_begin_23 : decode cX3_begin 23 = .ok (.getfield 25, 3) := by decide +kernel
theorem dX3_begin_26 : decode cX3_begin 26 = .ok (.iconst 0, 1) := by decide +kernel
theorem dX3_begin_27 : decode cX3_begin 27 = .ok (.invokevirtual 51, 3) := by decide +kernel
theorem dX3_begin_30 : decode cX3_begin 30 = .ok (.aload_n 0, 1) := by decide +kernel
theorem dX3_begin_31 : decode cX3_begin 31 = .ok (.getfield 29, 3) := by decide +kernel
theorem dX3_begin_34 : decode cX3_begin 34 = .ok (.iconst 0, 1) := by decide +kernel
theorem dX3_begin_35 : decode cX3_begin 35 = .ok (.invokevirtual 51, 3) := by decide +kernel
theorem dX3_begin_38 : decode cX3_begin 38 = .ok (.aload_n 0, 1) := by decide +kernel
theorem dX3_begin_39 : decode cX3_begin 39 = .ok (.getfield 32, 3) := by decide +kernel
theorem dX3_begin_42 : decode cX3_begin 42 = .ok (.iconst 0, 1) := by decide +kernel
theorem dX3_begin_43 : decode cX3_begin 43 = .ok (.invokevirtual 51, 3) := by decide +kernel
theorem dX3_begin_46 : decode cX3_begin 46 = .ok (.aload_n 0, 1) := by decide +kernel
theorem dX3_begin_47 : decode cX3_begin 47 = .ok (.iconst 0, 1) := by decide +kernel
theorem dX3_begin_48 : decode cX3_begin 48 = .ok (.putfield 39, 3) := by decide +kernel
theorem dX3_begin_51 : decode cX3_begin 51 = .ok (.aload_n 0, 1) := by decide +kernel
theorem dX3_begin_52 : decode cX3_begin 52 = .ok (.iconst 0, 1) := by decide +kernel
theorem dX3_begin_53 : decode cX3_begin 53 = .ok (.putfield 42, 3) := by decide +kernel
theorem dX3_begin_56 : decode cX3_begin 56 = .ok (.return_, 1) := by decide +kernel
theorem dX3_shelfOf_0 : decode cX3_shelfOf 0 = .ok (.iload_n 1, 1) := by decide +kernel
theorem dX3_shelfOf_1 : decode cX3_shelfOf 1 = .ok (.tableswitch 42 0 2 #[27, 32, 37], 27) := by decide +kernel
theorem dX3_shelfOf_28 : decode cX3_shelfOf 28 = .ok (.aload_n 0, 1) := by decide +kernel
theorem dX3_shelfOf_29 : decode cX3_shelfOf 29 = .ok (.getfield 25, 3) := by decide +kernel
theorem dX3_shelfOf_32 : decode cX3_shelfOf 32 = .ok (.areturn, 1) := by decide +kernel
theorem dX3_shelfOf_33 : decode cX3_shelfOf 33 = .ok (.aload_n 0, 1) := by decide +kernel
theorem dX3_shelfOf_34 : decode cX3_shelfOf 34 = .ok (.getfield 29, 3) := by decide +kernel
theorem dX3_shelfOf_37 : decode cX3_shelfOf 37 = .ok (.areturn, 1) := by decide +kernel
theorem dX3_shelfOf_38 : decode cX3_shelfOf 38 = .ok (.aload_n 0, 1) := by decide +kernel
theorem dX3_shelfOf_39 : decode cX3_shelfOf 39 = .ok (.getfield 32, 3) := by decide +kernel
theorem dX3_shelfOf_42 : decode cX3_shelfOf 42 = .ok (.areturn, 1) := by decide +kernel
theorem dX3_shelfOf_43 : decode cX3_shelfOf 43 = .ok (.aconst_null, 1) := by decide +kernel
theorem dX3_shelfOf_44 : decode cX3_shelfOf 44 = .ok (.areturn, 1) := by decide +kernel
theorem dX4_bytesDone_0 : decode cX4_bytesDone 0 = .ok (.aload_n 0, 1) := by decide +kernel
theorem dX4_bytesDone_1 : decode cX4_bytesDone 1 = .ok (.getfield 55, 3) := by decide +kernel
theorem dX4_bytesDone_4 : decode cX4_bytesDone 4 = .ok (.aload_n 0, 1) := by decide +kernel
theorem dX4_bytesDone_5 : decode cX4_bytesDone 5 = .ok (.getfield 45, 3) := by decide +kernel
theorem dX4_bytesDone_8 : decode cX4_bytesDone 8 = .ok (.isub, 1) := by decide +kernel
theorem dX4_bytesDone_9 : decode cX4_bytesDone 9 = .ok (.ireturn, 1) := by decide +kernel
theorem dX4_call_0 : decode cX4_call 0 = .ok (.aload_n 0, 1) := by decide +kernel
theorem dX4_call_1 : decode cX4_call 1 = .ok (.getfield 9, 3) := by decide +kernel
theorem dX4_call_4 : decode cX4_call 4 = .ok (.invokevirtual 128, 3) := by decide +kernel
theorem dX4_call_7 : decode cX4_call 7 = .ok (.iconst 1, 1) := by decide +kernel
theorem dX4_call_8 : decode cX4_call 8 = .ok (.if_icmp .ge 5, 3) := by decide +kernel
theorem dX4_call_11 : decode cX4_call 11 = .ok (.iconst 2, 1) := by decide +kernel
theorem dX4_call_12 : decode cX4_call 12 = .ok (.ireturn, 1) := by decide +kernel
theorem dX4_call_13 : decode cX4_call 13 = .ok (.aload_n 0, 1) := by decide +kernel
theorem dX4_call_14 : decode cX4_call 14 = .ok (.getfield 9, 3) := by decide +kernel
theorem dX4_call_17 : decode cX4_call 17 = .ok (.iconst 0, 1) := by decide +kernel
theorem dX4_call_18 : decode cX4_call 18 = .ok (.invokevirtual 131, 3) := by decide +kernel
theorem dX4_call_21 : decode cX4_call 21 = .ok (.iload_n 2, 1) := by decide +kernel
theorem dX4_call_22 : decode cX4_call 22 = .ok (.i2l, 1) := by decide +kernel
theorem dX4_call_23 : decode cX4_call 23 = .ok (.ladd, 1) := by decide +kernel
theorem dX4_call_24 : decode cX4_call 24 = .ok (.lstore_n 3, 1) := by decide +kernel
theorem dX4_call_25 : decode cX4_call 25 = .ok (.aload_n 1, 1) := by decide +kernel
theorem dX4_call_26 : decode cX4_call 26 = .ok (.lload_n 3, 1) := by decide +kernel
theorem dX4_call_27 : decode cX4_call 27 = .ok (.invokevirtual 134, 3) := by decide +kernel
theorem dX4_call_30 : decode cX4_call 30 = .ok (.ifCond .ne 5, 3) := by decide +kernel
theorem dX4_call_33 : decode cX4_call 33 = .ok (.iconst 4, 1) := by decide +kernel
theorem dX4_call_34 : decode cX4_call 34 = .ok (.ireturn, 1) := by decide +kernel
theorem dX4_call_35 : decode cX4_call 35 = .ok (.aload_n 0, 1) := by decide +kernel
theorem dX4_call_36 : decode cX4_call 36 = .ok (.getfield 62, 3) := by decide +kernel
theorem dX4_call_39 : decode cX4_call 39 = .ok (.bipush 10, 2) := by decide +kernel
theorem dX4_call_41 : decode cX4_call 41 = .ok (.if_icmp .lt 5, 3) := by decide +kernel
theorem dX4_call_44 : decode cX4_call 44 = .ok (.iconst 5, 1) := by decide +kernel
theorem dX4_call_45 : decode cX4_call 45 = .ok (.ireturn, 1) := by decide +kernel
theorem dX4_call_46 : decode cX4_call 46 = .ok (.aload_n 0, 1) := by decide +kernel
theorem dX4_call_47 : decode cX4_call 47 = .ok (.getfield 9, 3) := by decide +kernel
theorem dX4_call_50 : decode cX4_call 50 = .ok (.iconst 1, 1) := by decide +kernel
theorem dX4_call_51 : decode cX4_call 51 = .ok (.invokevirtual 138, 3) := by decide +kernel
theorem dX4_call_54 : decode cX4_call 54 = .ok (.aload_n 0, 1) := by decide +kernel
theorem dX4_call_55 : decode cX4_call 55 = .ok (.getfield 23, 3) := by decide +kernel
theorem dX4_call_58 : decode cX4_call 58 = .ok (.aload_n 0, 1) := by decide +kernel
theorem dX4_call_59 : decode cX4_call 59 = .ok (.getfield 62, 3) := by decide +kernel
theorem dX4_call_62 : decode cX4_call 62 = .ok (.aload_n 0, 1) := by decide +kernel
theorem dX4_call_63 : decode cX4_call 63 = .ok (.getfield 45, 3) := by decide +kernel
theorem dX4_call_66 : decode cX4_call 66 = .ok (.iastore, 1) := by decide +kernel
theorem dX4_call_67 : decode cX4_call 67 = .ok (.aload_n 0, 1) := by decide +kernel
theorem dX4_call_68 : decode cX4_call 68 = .ok (.getfield 27, 3) := by decide +kernel
theorem dX4_call_71 : decode cX4_call 71 = .ok (.aload_n 0, 1) := by decide +kernel
theorem dX4_call_72 : decode cX4_call 72 = .ok (.getfield 62, 3) := by decide +kernel
theorem dX4_call_75 : decode cX4_call 75 = .ok (.aload_n 0, 1) := by decide +kernel
theorem dX4_call_76 : decode cX4_call 76 = .ok (.getfield 52, 3) := by decide +kernel
theorem dX4_call_79 : decode cX4_call 79 = .ok (.iastore, 1) := by decide +kernel
theorem dX4_call_80 : decode cX4_call 80 = .ok (.aload_n 0, 1) := by decide +kernel
theorem dX4_call_81 : decode cX4_call 81 = .ok (.getfield 30, 3) := by decide +kernel
theorem dX4_call_84 : decode cX4_call 84 = .ok (.aload_n 0, 1) := by decide +kernel
theorem dX4_call_85 : decode cX4_call 85 = .ok (.getfield 62, 3) := by decide +kernel
theorem dX4_call_88 : decode cX4_call 88 = .ok (.aload_n 0, 1) := by decide +kernel
theorem dX4_call_89 : decode cX4_call 89 = .ok (.getfield 55, 3) := by decide +kernel
theorem dX4_call_92 : decode cX4_call 92 = .ok (.iastore, 1) := by decide +kernel
theorem dX4_call_93 : decode cX4_call 93 = .ok (.aload_n 0, 1) := by decide +kernel
theorem dX4_call_94 : decode cX4_call 94 = .ok (.dup, 1) := by decide +kernel
theorem dX4_call_95 : decode cX4_call 95 = .ok (.getfield 62, 3) := by decide +kernel
theorem dX4_call_98 : decode cX4_call 98 = .ok (.iconst 1, 1) := by decide +kernel
theorem dX4_call_99 : decode cX4_call 99 = .ok (.iadd, 1) := by decide +kernel
theorem dX4_call_100 : decode cX4_call 100 = .ok (.putfield 62, 3) := by decide +kernel
theorem dX4_call_103 : decode cX4_call 103 = .ok (.aload_n 0, 1) := by decide +kernel
theorem dX4_call_104 : decode cX4_call 104 = .ok (.aload_n 1, 1) := by decide +kernel
theorem dX4_call_105 : decode cX4_call 105 = .ok (.lload_n 3, 1) := by decide +kernel
theorem dX4_call_106 : decode cX4_call 106 = .ok (.l2i, 1) := by decide +kernel
theorem dX4_call_107 : decode cX4_call 107 = .ok (.invokevirtual 39, 3) := by decide +kernel
theorem dX4_call_110 : decode cX4_call 110 = .ok (.putfield 45, 3) := by decide +kernel
theorem dX4_call_113 : decode cX4_call 113 = .ok (.aload_n 0, 1) := by decide +kernel
theorem dX4_call_114 : decode cX4_call 114 = .ok (.aload_n 1, 1) := by decide +kernel
theorem dX4_call_115 : decode cX4_call 115 = .ok (.lload_n 3, 1) := by decide +kernel
theorem dX4_call_116 : decode cX4_call 116 = .ok (.l2i, 1) := by decide +kernel
theorem dX4_call_117 : decode cX4_call 117 = .ok (.invokevirtual 49, 3) := by decide +kernel
theorem dX4_call_120 : decode cX4_call 120 = .ok (.putfield 52, 3) := by decide +kernel
theorem dX4_call_123 : decode cX4_call 123 = .ok (.aload_n 0, 1) := by decide +kernel
theorem dX4_call_124 : decode cX4_call 124 = .ok (.aload_n 0, 1) := by decide +kernel
theorem dX4_call_125 : decode cX4_call 125 = .ok (.getfield 45, 3) := by decide +kernel
theorem dX4_call_128 : decode cX4_call 128 = .ok (.putfield 55, 3) := by decide +kernel
theorem dX4_call_131 : decode cX4_call 131 = .ok (.iconst 0, 1) := by decide +kernel
theorem dX4_call_132 : decode cX4_call 132 = .ok (.ireturn, 1) := by decide +kernel
theorem dX4_curves_0 : decode cX4_curves 0 = .ok (.iconst 0, 1) := by decide +kernel
theorem dX4_curves_1 : decode cX4_curves 1 = .ok (.istore_n 3, 1) := by decide +kernel
theorem dX4_curves_2 : decode cX4_curves 2 = .ok (.iload_n 1, 1) := by decide +kernel
theorem dX4_curves_3 : decode cX4_curves 3 = .ok (.istore 4, 2) := by decide +kernel
theorem dX4_curves_5 : decode cX4_curves 5 = .ok (.iload 4, 2) := by decide +kernel
theorem dX4_curves_7 : decode cX4_curves 7 = .ok (.bipush 6, 2) := by decide +kernel
theorem dX4_curves_9 : decode cX4_curves 9 = .ok (.iadd, 1) := by decide +kernel
theorem dX4_curves_10 : decode cX4_curves 10 = .ok (.iload_n 2, 1) := by decide +kernel
theorem dX4_curves_11 : decode cX4_curves 11 = .ok (.if_icmp .gt 85, 3) := by decide +kernel
theorem dX4_curves_14 : decode cX4_curves 14 = .ok (.iload_n 3, 1) := by decide +kernel
theorem dX4_curves_15 : decode cX4_curves 15 = .ok (.ifCond .ne 81, 3) := by decide +kernel
theorem dX4_curves_18 : decode cX4_curves 18 = .ok (.aload_n 0, 1) := by decide +kernel
theorem dX4_curves_19 : decode cX4_curves 19 = .ok (.getfield 15, 3) := by decide +kernel
theorem dX4_curves_22 : decode cX4_curves 22 = .ok (.aload_n 0, 1) := by decide +kernel
theorem dX4_curves_23 : decode cX4_curves 23 = .ok (.getfield 9, 3) := by decide +kernel
theorem dX4_curves_26 : decode cX4_curves 26 = .ok (.iload 4, 2) := by decide +kernel
theorem dX4_curves_28 : decode cX4_curves 28 = .ok (.invokevirtual 142, 3) := by decide +kernel
theorem dX4_curves_31 : decode cX4_curves 31 = .ok (.aload_n 0, 1) := by decide +kernel
theorem dX4_curves_32 : decode cX4_curves 32 = .ok (.getfield 9, 3) := by decide +kernel
theorem dX4_curves_35 : decode cX4_curves 35 = .ok (.iload 4, 2) := by decide +kernel
theorem dX4_curves_37 : decode cX4_curves 37 = .ok (.iconst 1, 1) := by decide +kernel
theorem dX4_curves_38 : decode cX4_curves 38 = .ok (.iadd, 1) := by decide +kernel
theorem dX4_curves_39 : decode cX4_curves 39 = .ok (.invokevirtual 142, 3) := by decide +kernel
theorem dX4_curves_42 : decode cX4_curves 42 = .ok (.aload_n 0, 1) := by decide +kernel
theorem dX4_curves_43 : decode cX4_curves 43 = .ok (.getfield 9, 3) := by decide +kernel
theorem dX4_curves_46 : decode cX4_curves 46 = .ok (.iload 4, 2) := by decide +kernel
theorem dX4_curves_48 : decode cX4_curves 48 = .ok (.iconst 2, 1) := by decide +kernel
theorem dX4_curves_49 : decode cX4_curves 49 = .ok (.iadd, 1) := by decide +kernel
theorem dX4_curves_50 : decode cX4_curves 50 = .ok (.invokevirtual 142, 3) := by decide +kernel
theorem dX4_curves_53 : decode cX4_curves 53 = .ok (.aload_n 0, 1) := by decide +kernel
theorem dX4_curves_54 : decode cX4_curves 54 = .ok (.getfield 9, 3) := by decide +kernel
theorem dX4_curves_57 : decode cX4_curves 57 = .ok (.iload 4, 2) := by decide +kernel
theorem dX4_curves_59 : decode cX4_curves 59 = .ok (.iconst 3, 1) := by decide +kernel
theorem dX4_curves_60 : decode cX4_curves 60 = .ok (.iadd, 1) := by decide +kernel
theorem dX4_curves_61 : decode cX4_curves 61 = .ok (.invokevirtual 142, 3) := by decide +kernel
theorem dX4_curves_64 : decode cX4_curves 64 = .ok (.aload_n 0, 1) := by decide +kernel
theorem dX4_curves_65 : decode cX4_curves 65 = .ok (.getfield 9, 3) := by decide +kernel
theorem dX4_curves_68 : decode cX4_curves 68 = .ok (.iload 4, 2) := by decide +kernel
theorem dX4_curves_70 : decode cX4_curves 70 = .ok (.iconst 4, 1) := by decide +kernel
theorem dX4_curves_71 : decode cX4_curves 71 = .ok (.iadd, 1) := by decide +kernel
theorem dX4_curves_72 : decode cX4_curves 72 = .ok (.invokevirtual 142, 3) := by decide +kernel
theorem dX4_curves_75 : decode cX4_curves 75 = .ok (.aload_n 0, 1) := by decide +kernel
theorem dX4_curves_76 : decode cX4_curves 76 = .ok (.getfield 9, 3) := by decide +kernel
theorem dX4_curves_79 : decode cX4_curves 79 = .ok (.iload 4, 2) := by decide +kernel
theorem dX4_curves_81 : decode cX4_curves 81 = .ok (.iconst 5, 1) := by decide +kernel
theorem dX4_curves_82 : decode cX4_curves 82 = .ok (.iadd, 1) := by decide +kernel
theorem dX4_curves_83 : decode cX4_curves 83 = .ok (.invokevirtual 142, 3) := by decide +kernel
theorem dX4_curves_86 : decode cX4_curves 86 = .ok (.invokevirtual 144, 3) := by decide +kernel
theorem dX4_curves_89 : decode cX4_curves 89 = .ok (.istore_n 3, 1) := by decide +kernel
theorem dX4_curves_90 : decode cX4_curves 90 = .ok (.iinc 4 6, 3) := by decide +kernel
theorem dX4_curves_93 : decode cX4_curves 93 = .ok (.goto (-88), 3) := by decide +kernel
theorem dX4_curves_96 : decode cX4_curves 96 = .ok (.iload_n 3, 1) := by decide +kernel
theorem dX4_curves_97 : decode cX4_curves 97 = .ok (.ireturn, 1) := by decide +kernel
theorem dX4_finishAll_0 : decode cX4_finishAll 0 = .ok (.aload_n 0, 1) := by decide +kernel
theorem dX4_finishAll_1 : decode cX4_finishAll 1 = .ok (.iconst 1, 1) := by decide +kernel
theorem dX4_finishAll_2 : decode cX4_finishAll 2 = .ok (.putfield 58, 3) := by decide +kernel
theorem dX4_finishAll_5 : decode cX4_finishAll 5 = .ok (.return_, 1) := by decide +kernel
theorem dX4_goBack_0 : decode cX4_goBack 0 = .ok (.aload_n 0, 1) := by decide +kernel
theorem dX4_goBack_1 : decode cX4_goBack 1 = .ok (.getfield 62, 3) := by decide +kernel
theorem dX4_goBack_4 : decode cX4_goBack 4 = .ok (.iconst 1, 1) := by decide +kernel
theorem dX4_goBack_5 : decode cX4_goBack 5 = .ok (.if_icmp .ge 5, 3) := by decide +kernel
theorem dX4_goBack_8 : decode cX4_goBack 8 = .ok (.iconst 1, 1) := by decide +kernel
theorem dX4_goBack_9 : decode cX4_goBack 9 = .ok (.ireturn, 1) := by decide +kernel
theorem dX4_goBack_10 : decode cX4_goBack 10 = .ok (.aload_n 0, 1) := by decide +kernel
theorem dX4_goBack_11 : decode cX4_goBack 11 = .ok (.dup, 1) := by decide +kernel
theorem dX4_goBack_12 : decode cX4_goBack 12 = .ok (.getfield 62, 3) := by decide +kernel
theorem dX4_goBack_15 : decode cX4_goBack 15 = .ok (.iconst 1, 1) := by decide +kernel
theorem dX4_goBack_16 : decode cX4_goBack 16 = .ok (.isub, 1) := by decide +kernel
theorem dX4_goBack_17 : decode cX4_goBack 17 = .ok (.putfield 62, 3) := by decide +kernel
theorem dX4_goBack_20 : decode cX4_goBack 20 = .ok (.aload_n 0, 1) := by decide +kernel
theorem dX4_goBack_21 : decode cX4_goBack 21 = .ok (.aload_n 0, 1) := by decide +kernel
theorem dX4_goBack_22 : decode cX4_goBack 22 = .ok (.getfield 23, 3) := by decide +kernel
theorem dX4_goBack_25 : decode cX4_goBack 25 = .ok (.aload_n 0, 1) := by decide +kernel
theorem dX4_goBack_26 : decode cX4_goBack 26 = .ok (.getfield 62, 3) := by decide +kernel
theorem dX4_goBack_29 : decode cX4_goBack 29 = .ok (.iaload, 1) := by decide +kernel
theorem dX4_goBack_30 : decode cX4_goBack 30 = .ok (.putfield 45, 3) := by decide +kernel
theorem dX4_goBack_33 : decode cX4_goBack 33 = .ok (.aload_n 0, 1) := by decide +kernel
theorem dX4_goBack_34 : decode cX4_goBack 34 = .ok (.aload_n 0, 1) := by decide +kernel
theorem dX4_goBack_35 : decode cX4_goBack 35 = .ok (.getfield 27, 3) := by decide +kernel
theorem dX4_goBack_38 : decode cX4_goBack 38 = .ok (.aload_n 0, 1) := by decide +kernel
theorem dX4_goBack_39 : decode cX4_goBack 39 = .ok (.getfield 62, 3) := by decide +kernel
theorem dX4_goBack_42 : decode cX4_goBack 42 = .ok (.iaload, 1) := by decide +kernel
theorem dX4_goBack_43 : decode cX4_goBack 43 = .ok (.putfield 52, 3) := by decide +kernel
theorem dX4_goBack_46 : decode cX4_goBack 46 = .ok (.aload_n 0, 1) := by decide +kernel
theorem dX4_goBack_47 : decode cX4_goBack 47 = .ok (.aload_n 0, 1) := by decide +kernel
theorem dX4_goBack_48 : decode cX4_goBack 48 = .ok (.getfield 30, 3) := by decide +kernel
theorem dX4_goBack_51 : decode cX4_goBack 51 = .ok (.aload_n 0, 1) := by decide +kernel
theorem dX4_goBack_52 : decode cX4_goBack 52 = .ok (.getfield 62, 3) := by decide +kernel
theorem dX4_goBack_55 : decode cX4_goBack 55 = .ok (.iaload, 1) := by decide +kernel
theorem dX4_goBack_56 : decode cX4_goBack 56 = .ok (.putfield 55, 3) := by decide +kernel
theorem dX4_goBack_59 : decode cX4_goBack 59 = .ok (.iconst 0, 1) := by decide +kernel
theorem dX4_goBack_60 : decode cX4_goBack 60 = .ok (.ireturn, 1) := by decide +kernel
theorem dX4_run_0 : decode cX4_run 0 = .ok (.aload_n 0, 1) := by decide +kernel
theorem dX4_run_1 : decode cX4_run 1 = .ok (.aload_n 1, 1) := by decide +kernel
theorem dX4_run_2 : decode cX4_run 2 = .ok (.putfield 19, 3) := by decide +kernel
theorem dX4_run_5 : decode cX4_run 5 = .ok (.aload_n 0, 1) := by decide +kernel
theorem dX4_run_6 : decode cX4_run 6 = .ok (.aload_n 0, 1) := by decide +kernel
theorem dX4_run_7 : decode cX4_run 7 = .ok (.getfield 19, 3) := by decide +kernel
theorem dX4_run_10 : decode cX4_run 10 = .ok (.getfield 33, 3) := by decide +kernel
theorem dX4_run_13 : decode cX4_run 13 = .ok (.iload_n 2, 1) := by decide +kernel
theorem dX4_run_14 : decode cX4_run 14 = .ok (.invokevirtual 39, 3) := by decide +kernel
theorem dX4_run_17 : decode cX4_run 17 = .ok (.putfield 45, 3) := by decide +kernel
theorem dX4_run_20 : decode cX4_run 20 = .ok (.aload_n 0, 1) := by decide +kernel
theorem dX4_run_21 : decode cX4_run 21 = .ok (.aload_n 0, 1) := by decide +kernel
theorem dX4_run_22 : decode cX4_run 22 = .ok (.getfield 19, 3) := by decide +kernel
theorem dX4_run_25 : decode cX4_run 25 = .ok (.getfield 33, 3) := by decide +kernel
theorem dX4_run_28 : decode cX4_run 28 = .ok (.iload_n 2, 1) := by decide +kernel
theorem dX4_run_29 : decode cX4_run 29 = .ok (.invokevirtual 49, 3) := by decide +kernel
theorem dX4_run_32 : decode cX4_run 32 = .ok (.putfield 52, 3) := by decide +kernel
theorem dX4_run_35 : decode cX4_run 35 = .ok (.aload_n 0, 1) := by decide +kernel
theorem dX4_run_36 : decode cX4_run 36 = .ok (.aload_n 0, 1) := by decide +kernel
theorem dX4_run_37 : decode cX4_run 37 = .ok (.getfield 45, 3) := by decide +kernel
theorem dX4_run_40 : decode cX4_run 40 = .ok (.putfield 55, 3) := by decide +kernel
theorem dX4_run_43 : decode cX4_run 43 = .ok (.aload_n 0, 1) := by decide +kernel
theorem dX4_run_44 : decode cX4_run 44 = .ok (.iconst 0, 1) := by decide +kernel
theorem dX4_run_45 : decode cX4_run 45 = .ok (.putfield 58, 3) := by decide +kernel
theorem dX4_run_48 : decode cX4_run 48 = .ok (.aload_n 0, 1) := by decide +kernel
theorem dX4_run_49 : decode cX4_run 49 = .ok (.iconst 0, 1) := by decide +kernel
theorem dX4_run_50 : decode cX4_run 50 = .ok (.putfield 62, 3) := by decide +kernel
theorem dX4_run_53 : decode cX4_run 53 = .ok (.aload_n 0, 1) := by decide +kernel
theorem dX4_run_54 : decode cX4_run 54 = .ok (.iconst 0, 1) := by decide +kernel
theorem dX4_run_55 : decode cX4_run 55 = .ok (.putfield 65, 3) := by decide +kernel
theorem dX4_run_58 : decode cX4_run 58 = .ok (.aload_n 0, 1) := by decide +kernel
theorem dX4_run_59 : decode cX4_run 59 = .ok (.iconst 0, 1) := by decide +kernel
theorem dX4_run_60 : decode cX4_run 60 = .ok (.putfield 68, 3) := by decide +kernel
theorem dX4_run_63 : decode cX4_run 63 = .ok (.aload_n 0, 1) := by decide +kernel
theorem dX4_run_64 : decode cX4_run 64 = .ok (.lconst 0, 1) := by decide +kernel
theorem dX4_run_65 : decode cX4_run 65 = .ok (.putfield 71, 3) := by decide +kernel
theorem dX4_run_68 : decode cX4_run 68 = .ok (.aload_n 0, 1) := by decide +kernel
theorem dX4_run_69 : decode cX4_run 69 = .ok (.invokevirtual 75, 3) := by decide +kernel
theorem dX4_run_72 : decode cX4_run 72 = .ok (.iconst 0, 1) := by decide +kernel
theorem dX4_run_73 : decode cX4_run 73 = .ok (.istore_n 3, 1) := by decide +kernel
theorem dX4_run_74 : decode cX4_run 74 = .ok (.iconst 0, 1) := by decide +kernel
theorem dX4_run_75 : decode cX4_run 75 = .ok (.istore 4, 2) := by decide +kernel
theorem dX4_run_77 : decode cX4_run 77 = .ok (.iload 4, 2) := by decide +kernel
theorem dX4_run_79 : decode cX4_run 79 = .ok (.sipush 3000, 3) := by decide +kernel
theorem dX4_run_82 : decode cX4_run 82 = .ok (.if_icmp .gt 58, 3) := by decide +kernel
theorem dX4_run_85 : decode cX4_run 85 = .ok (.iload_n 3, 1) := by decide +kernel
theorem dX4_run_86 : decode cX4_run 86 = .ok (.ifCond .ne 54, 3) := by decide +kernel
theorem dX4_run_89 : decode cX4_run 89 = .ok (.aload_n 0, 1) := by decide +kernel
theorem dX4_run_90 : decode cX4_run 90 = .ok (.getfield 58, 3) := by decide +kernel
theorem dX4_run_93 : decode cX4_run 93 = .ok (.ifCond .ne 47, 3) := by decide +kernel
theorem dX4_run_96 : decode cX4_run 96 = .ok (.aload_n 0, 1) := by decide +kernel
theorem dX4_run_97 : decode cX4_run 97 = .ok (.invokevirtual 78, 3) := by decide +kernel
theorem dX4_run_100 : decode cX4_run 100 = .ok (.istore 5, 2) := by decide +kernel
theorem dX4_run_102 : decode cX4_run 102 = .ok (.iload 5, 2) := by decide +kernel
theorem dX4_run_104 : decode cX4_run 104 = .ok (.ifCond .ge 9, 3) := by decide +kernel
theorem dX4_run_107 : decode cX4_run 107 = .ok (.iload 5, 2) := by decide +kernel
theorem dX4_run_109 : decode cX4_run 109 = .ok (.ineg, 1) := by decide +kernel
theorem dX4_run_110 : decode cX4_run 110 = .ok (.goto 9, 3) := by decide +kernel
theorem dX4_run_113 : decode cX4_run 113 = .ok (.aload_n 0, 1) := by decide +kernel
theorem dX4_run_114 : decode cX4_run 114 = .ok (.iload 5, 2) := by decide +kernel
theorem dX4_run_116 : decode cX4_run 116 = .ok (.invokevirtual 82, 3) := by decide +kernel
theorem dX4_run_119 : decode cX4_run 119 = .ok (.istore_n 3, 1) := by decide +kernel
theorem dX4_run_120 : decode cX4_run 120 = .ok (.iload_n 3, 1) := by decide +kernel
theorem dX4_run_121 : decode cX4_run 121 = .ok (.ifCond .ne 13, 3) := by decide +kernel
theorem dX4_run_124 : decode cX4_run 124 = .ok (.aload_n 0, 1) := by decide +kernel
theorem dX4_run_125 : decode cX4_run 125 = .ok (.dup, 1) := by decide +kernel
theorem dX4_run_126 : decode cX4_run 126 = .ok (.getfield 65, 3) := by decide +kernel
theorem dX4_run_129 : decode cX4_run 129 = .ok (.iconst 1, 1) := by decide +kernel
theorem dX4_run_130 : decode cX4_run 130 = .ok (.iadd, 1) := by decide +kernel
theorem dX4_run_131 : decode cX4_run 131 = .ok (.putfield 65, 3) := by decide +kernel
theorem dX4_run_134 : decode cX4_run 134 = .ok (.iinc 4 1, 3) := by decide +kernel
theorem dX4_run_137 : decode cX4_run 137 = .ok (.goto (-60), 3) := by decide +kernel
theorem dX4_run_140 : decode cX4_run 140 = .ok (.iload_n 3, 1) := by decide +kernel
theorem dX4_run_141 : decode cX4_run 141 = .ok (.ireturn, 1) := by decide +kernel
theorem dX4_skipBytes_0 : decode cX4_skipBytes 0 = .ok (.aload_n 0, 1) := by decide +kernel
theorem dX4_skipBytes_1 : decode cX4_skipBytes 1 = .ok (.getfield 52, 3) := by decide +kernel
theorem dX4_skipBytes_4 : decode cX4_skipBytes 4 = .ok (.aload_n 0, 1) := by decide +kernel
theorem dX4_skipBytes_5 : decode cX4_skipBytes 5 = .ok (.getfield 55, 3) := by decide +kernel
theorem dX4_skipBytes_8 : decode cX4_skipBytes 8 = .ok (.isub, 1) := by decide +kernel
theorem dX4_skipBytes_9 : decode cX4_skipBytes 9 = .ok (.istore_n 2, 1) := by decide +kernel
theorem dX4_skipBytes_10 : decode cX4_skipBytes 10 = .ok (.aload_n 0, 1) := by decide +kernel
theorem dX4_skipBytes_11 : decode cX4_skipBytes 11 = .ok (.dup, 1) := by decide +kernel
theorem dX4_skipBytes_12 : decode cX4_skipBytes 12 = .ok (.getfield 55, 3) := by decide +kernel
theorem dX4_skipBytes_15 : decode cX4_skipBytes 15 = .ok (.iload_n 1, 1) := by decide +kernel
theorem dX4_skipBytes_16 : decode cX4_skipBytes 16 = .ok (.iload_n 2, 1) := by decide +kernel
theorem dX4_skipBytes_17 : decode cX4_skipBytes 17 = .ok (.invokestatic 123, 3) := by decide +kernel
theorem dX4_skipBytes_20 : decode cX4_skipBytes 20 = .ok (.iadd, 1) := by decide +kernel
theorem dX4_skipBytes_21 : decode cX4_skipBytes 21 = .ok (.putfield 55, 3) := by decide +kernel
theorem dX4_skipBytes_24 : decode cX4_skipBytes 24 = .ok (.iload_n 1, 1) := by decide +kernel
theorem dX4_skipBytes_25 : decode cX4_skipBytes 25 = .ok (.iload_n 2, 1) := by decide +kernel
theorem dX4_skipBytes_26 : decode cX4_skipBytes 26 = .ok (.if_icmp .gt 7, 3) := by decide +kernel
theorem dX4_skipBytes_29 : decode cX4_skipBytes 29 = .ok (.iconst 1, 1) := by decide +kernel
theorem dX4_skipBytes_30 : decode cX4_skipBytes 30 = .ok (.goto 4, 3) := by decide +kernel
theorem dX4_skipBytes_33 : decode cX4_skipBytes 33 = .ok (.iconst 0, 1) := by decide +kernel
theorem dX4_skipBytes_34 : decode cX4_skipBytes 34 = .ok (.ireturn, 1) := by decide +kernel
theorem dX4_takeByte_0 : decode cX4_takeByte 0 = .ok (.aload_n 0, 1) := by decide +kernel
theorem dX4_takeByte_1 : decode cX4_takeByte 1 = .ok (.getfield 55, 3) := by decide +kernel
theorem dX4_takeByte_4 : decode cX4_takeByte 4 = .ok (.aload_n 0, 1) := by decide +kernel
theorem dX4_takeByte_5 : decode cX4_takeByte 5 = .ok (.getfield 52, 3) := by decide +kernel
theorem dX4_takeByte_8 : decode cX4_takeByte 8 = .ok (.if_icmp .lt 5, 3) := by decide +kernel
theorem dX4_takeByte_11 : decode cX4_takeByte 11 = .ok (.iconst (-1), 1) := by decide +kernel
theorem dX4_takeByte_12 : decode cX4_takeByte 12 = .ok (.ireturn, 1) := by decide +kernel
theorem dX4_takeByte_13 : decode cX4_takeByte 13 = .ok (.aload_n 0, 1) := by decide +kernel
theorem dX4_takeByte_14 : decode cX4_takeByte 14 = .ok (.dup, 1) := by decide +kernel
theorem dX4_takeByte_15 : decode cX4_takeByte 15 = .ok (.getfield 55, 3) := by decide +kernel
theorem dX4_takeByte_18 : decode cX4_takeByte 18 = .ok (.iconst 1, 1) := by decide +kernel
theorem dX4_takeByte_19 : decode cX4_takeByte 19 = .ok (.iadd, 1) := by decide +kernel
theorem dX4_takeByte_20 : decode cX4_takeByte 20 = .ok (.putfield 55, 3) := by decide +kernel
theorem dX4_takeByte_23 : decode cX4_takeByte 23 = .ok (.aload_n 0, 1) := by decide +kernel
theorem dX4_takeByte_24 : decode cX4_takeByte 24 = .ok (.getfield 19, 3) := by decide +kernel
theorem dX4_takeByte_27 : decode cX4_takeByte 27 = .ok (.getfield 95, 3) := by decide +kernel
theorem dX4_takeByte_30 : decode cX4_takeByte 30 = .ok (.aload_n 0, 1) := by decide +kernel
theorem dX4_takeByte_31 : decode cX4_takeByte 31 = .ok (.getfield 55, 3) := by decide +kernel
theorem dX4_takeByte_34 : decode cX4_takeByte 34 = .ok (.iconst 1, 1) := by decide +kernel
theorem dX4_takeByte_35 : decode cX4_takeByte 35 = .ok (.isub, 1) := by decide +kernel
theorem dX4_takeByte_36 : decode cX4_takeByte 36 = .ok (.i2l, 1) := by decide +kernel
theorem dX4_takeByte_37 : decode cX4_takeByte 37 = .ok (.invokevirtual 99, 3) := by decide +kernel
theorem dX4_takeByte_40 : decode cX4_takeByte 40 = .ok (.ireturn, 1) := by decide +kernel
theorem dX4_takeNumber_0 : decode cX4_takeNumber 0 = .ok (.iload_n 1, 1) := by decide +kernel
theorem dX4_takeNumber_1 : decode cX4_takeNumber 1 = .ok (.invokestatic 105, 3) := by decide +kernel
theorem dX4_takeNumber_4 : decode cX4_takeNumber 4 = .ok (.istore_n 2, 1) := by decide +kernel
theorem dX4_takeNumber_5 : decode cX4_takeNumber 5 = .ok (.iconst 0, 1) := by decide +kernel
theorem dX4_takeNumber_6 : decode cX4_takeNumber 6 = .ok (.istore_n 3, 1) := by decide +kernel
theorem dX4_takeNumber_7 : decode cX4_takeNumber 7 = .ok (.iconst 0, 1) := by decide +kernel
theorem dX4_takeNumber_8 : decode cX4_takeNumber 8 = .ok (.istore 4, 2) := by decide +kernel
theorem dX4_takeNumber_10 : decode cX4_takeNumber 10 = .ok (.iload 4, 2) := by decide +kernel
theorem dX4_takeNumber_12 : decode cX4_takeNumber 12 = .ok (.iload_n 2, 1) := by decide +kernel
theorem dX4_takeNumber_13 : decode cX4_takeNumber 13 = .ok (.if_icmp .ge 32, 3) := by decide +kernel
theorem dX4_takeNumber_16 : decode cX4_takeNumber 16 = .ok (.aload_n 0, 1) := by decide +kernel
theorem dX4_takeNumber_17 : decode cX4_takeNumber 17 = .ok (.invokevirtual 85, 3) := by decide +kernel
theorem dX4_takeNumber_20 : decode cX4_takeNumber 20 = .ok (.istore 5, 2) := by decide +kernel
theorem dX4_takeNumber_22 : decode cX4_takeNumber 22 = .ok (.iload 5, 2) := by decide +kernel
theorem dX4_takeNumber_24 : decode cX4_takeNumber 24 = .ok (.iconst (-1), 1) := by decide +kernel
theorem dX4_takeNumber_25 : decode cX4_takeNumber 25 = .ok (.if_icmp .ne 6, 3) := by decide +kernel
theorem dX4_takeNumber_28 : decode cX4_takeNumber 28 = .ok (.bipush 7, 2) := by decide +kernel
theorem dX4_takeNumber_30 : decode cX4_takeNumber 30 = .ok (.ireturn, 1) := by decide +kernel
theorem dX4_takeNumber_31 : decode cX4_takeNumber 31 = .ok (.iload_n 3, 1) := by decide +kernel
theorem dX4_takeNumber_32 : decode cX4_takeNumber 32 = .ok (.bipush 8, 2) := by decide +kernel
theorem dX4_takeNumber_34 : decode cX4_takeNumber 34 = .ok (.ishl, 1) := by decide +kernel
theorem dX4_takeNumber_35 : decode cX4_takeNumber 35 = .ok (.iload 5, 2) := by decide +kernel
theorem dX4_takeNumber_37 : decode cX4_takeNumber 37 = .ok (.ior, 1) := by decide +kernel
theorem dX4_takeNumber_38 : decode cX4_takeNumber 38 = .ok (.istore_n 3, 1) := by decide +kernel
theorem dX4_takeNumber_39 : decode cX4_takeNumber 39 = .ok (.iinc 4 1, 3) := by decide +kernel
theorem dX4_takeNumber_42 : decode cX4_takeNumber 42 = .ok (.goto (-32), 3) := by decide +kernel
theorem dX4_takeNumber_45 : decode cX4_takeNumber 45 = .ok (.aload_n 0, 1) := by decide +kernel
theorem dX4_takeNumber_46 : decode cX4_takeNumber 46 = .ok (.getfield 9, 3) := by decide +kernel
theorem dX4_takeNumber_49 : decode cX4_takeNumber 49 = .ok (.iload_n 1, 1) := by decide +kernel
theorem dX4_takeNumber_50 : decode cX4_takeNumber 50 = .ok (.sipush 255, 3) := by decide +kernel
theorem dX4_takeNumber_53 : decode cX4_takeNumber 53 = .ok (.if_icmp .ne 11, 3) := by decide +kernel
theorem dX4_takeNumber_56 : decode cX4_takeNumber 56 = .ok (.aload_n 0, 1) := by decide +kernel
theorem dX4_takeNumber_57 : decode cX4_takeNumber 57 = .ok (.iload_n 3, 1) := by decide +kernel
theorem dX4_takeNumber_58 : decode cX4_takeNumber 58 = .ok (.invokevirtual 108, 3) := by decide +kernel
theorem dX4_takeNumber_61 : decode cX4_takeNumber 61 = .ok (.goto 13, 3) := by decide +kernel
theorem dX4_takeNumber_64 : decode cX4_takeNumber 64 = .ok (.iload_n 1, 1) := by decide +kernel
theorem dX4_takeNumber_65 : decode cX4_takeNumber 65 = .ok (.iload_n 3, 1) := by decide +kernel
theorem dX4_takeNumber_66 : decode cX4_takeNumber 66 = .ok (.invokestatic 112, 3) := by decide +kernel
theorem dX4_takeNumber_69 : decode cX4_takeNumber 69 = .ok (.i2l, 1) := by decide +kernel
theorem dX4_takeNumber_70 : decode cX4_takeNumber 70 = .ok (.ldc2_w 116, 3) := by decide +kernel
theorem dX4_takeNumber_73 : decode cX4_takeNumber 73 = .ok (.lmul, 1) := by decide +kernel
theorem dX4_takeNumber_74 : decode cX4_takeNumber 74 = .ok (.invokevirtual 118, 3) := by decide +kernel
theorem dX4_takeNumber_77 : decode cX4_takeNumber 77 = .ok (.ireturn, 1) := by decide +kernel
theorem dX4_takeOperator_0 : decode cX4_takeOperator 0 = .ok (.aload_n 0, 1) := by decide +kernel
theorem dX4_takeOperator_1 : decode cX4_takeOperator 1 = .ok (.invokevirtual 85, 3) := by decide +kernel
theorem dX4_takeOperator_4 : decode cX4_takeOperator 4 = .ok (.istore_n 1, 1) := by decide +kernel
theorem dX4_takeOperator_5 : decode cX4_takeOperator 5 = .ok (.iconst 0, 1) := by decide +kernel
theorem dX4_takeOperator_6 : decode cX4_takeOperator 6 = .ok (.istore_n 2, 1) := by decide +kernel
theorem dX4_takeOperator_7 : decode cX4_takeOperator 7 = .ok (.iload_n 2, 1) := by decide +kernel
theorem dX4_takeOperator_8 : decode cX4_takeOperator 8 = .ok (.bipush 48, 2) := by decide +kernel
theorem dX4_takeOperator_10 : decode cX4_takeOperator 10 = .ok (.if_icmp .gt 35, 3) := by decide +kernel
theorem dX4_takeOperator_13 : decode cX4_takeOperator 13 = .ok (.aload_n 0, 1) := by decide +kernel
theorem dX4_takeOperator_14 : decode cX4_takeOperator 14 = .ok (.iload_n 1, 1) := by decide +kernel
theorem dX4_takeOperator_15 : decode cX4_takeOperator 15 = .ok (.invokevirtual 88, 3) := by decide +kernel
theorem dX4_takeOperator_18 : decode cX4_takeOperator 18 = .ok (.ifCond .eq 27, 3) := by decide +kernel
theorem dX4_takeOperator_21 : decode cX4_takeOperator 21 = .ok (.aload_n 0, 1) := by decide +kernel
theorem dX4_takeOperator_22 : decode cX4_takeOperator 22 = .ok (.iload_n 1, 1) := by decide +kernel
theorem dX4_takeOperator_23 : decode cX4_takeOperator 23 = .ok (.invokevirtual 92, 3) := by decide +kernel
theorem dX4_takeOperator_26 : decode cX4_takeOperator 26 = .ok (.istore_n 3, 1) := by decide +kernel
theorem dX4_takeOperator_27 : decode cX4_takeOperator 27 = .ok (.iload_n 3, 1) := by decide +kernel
theorem dX4_takeOperator_28 : decode cX4_takeOperator 28 = .ok (.ifCond .eq 6, 3) := by decide +kernel
theorem dX4_takeOperator_31 : decode cX4_takeOperator 31 = .ok (.iload_n 3, 1) := by decide +kernel
theorem dX4_takeOperator_32 : decode cX4_takeOperator 32 = .ok (.ineg, 1) := by decide +kernel
theorem dX4_takeOperator_33 : decode cX4_takeOperator 33 = .ok (.ireturn, 1) := by decide +kernel
theorem dX4_takeOperator_34 : decode cX4_takeOperator 34 = .ok (.aload_n 0, 1) := by decide +kernel
theorem dX4_takeOperator_35 : decode cX4_takeOperator 35 = .ok (.invokevirtual 85, 3) := by decide +kernel
theorem dX4_takeOperator_38 : decode cX4_takeOperator 38 = .ok (.istore_n 1, 1) := by decide +kernel
theorem dX4_takeOperator_39 : decode cX4_takeOperator 39 = .ok (.iinc 2 1, 3) := by decide +kernel
theorem dX4_takeOperator_42 : decode cX4_takeOperator 42 = .ok (.goto (-35), 3) := by decide +kernel
theorem dX4_takeOperator_45 : decode cX4_takeOperator 45 = .ok (.iload_n 1, 1) := by decide +kernel
theorem dX4_takeOperator_46 : decode cX4_takeOperator 46 = .ok (.iconst (-1), 1) := by decide +kernel
theorem dX4_takeOperator_47 : decode cX4_takeOperator 47 = .ok (.if_icmp .ne 6, 3) := by decide +kernel
theorem dX4_takeOperator_50 : decode cX4_takeOperator 50 = .ok (.bipush (-7), 2) := by decide +kernel
theorem dX4_takeOperator_52 : decode cX4_takeOperator 52 = .ok (.ireturn, 1) := by decide +kernel
theorem dX4_takeOperator_53 : decode cX4_takeOperator 53 = .ok (.aload_n 0, 1) := by decide +kernel
theorem dX4_takeOperator_54 : decode cX4_takeOperator 54 = .ok (.getfield 65, 3) := by decide +kernel
theorem dX4_takeOperator_57 : decode cX4_takeOperator 57 = .ok (.sipush 3000, 3) := by decide +kernel
theorem dX4_takeOperator_60 : decode cX4_takeOperator 60 = .ok (.if_icmp .lt 6, 3) := by decide +kernel
theorem dX4_takeOperator_63 : decode cX4_takeOperator 63 = .ok (.bipush (-8), 2) := by decide +kernel
theorem dX4_takeOperator_65 : decode cX4_takeOperator 65 = .ok (.ireturn, 1) := by decide +kernel
theorem dX4_takeOperator_66 : decode cX4_takeOperator 66 = .ok (.iload_n 1, 1) := by decide +kernel
theorem dX4_takeOperator_67 : decode cX4_takeOperator 67 = .ok (.bipush 12, 2) := by decide +kernel
theorem dX4_takeOperator_69 : decode cX4_takeOperator 69 = .ok (.if_icmp .eq 5, 3) := by decide +kernel
theorem dX4_takeOperator_72 : decode cX4_takeOperator 72 = .ok (.iload_n 1, 1) := by decide +kernel
theorem dX4_takeOperator_73 : decode cX4_takeOperator 73 = .ok (.ireturn, 1) := by decide +kernel
theorem dX4_takeOperator_74 : decode cX4_takeOperator 74 = .ok (.aload_n 0, 1) := by decide +kernel
theorem dX4_takeOperator_75 : decode cX4_takeOperator 75 = .ok (.invokevirtual 85, 3) := by decide +kernel
theorem dX4_takeOperator_78 : decode cX4_takeOperator 78 = .ok (.istore_n 2, 1) := by decide +kernel
theorem dX4_takeOperator_79 : decode cX4_takeOperator 79 = .ok (.iload_n 2, 1) := by decide +kernel
theorem dX4_takeOperator_80 : decode cX4_takeOperator 80 = .ok (.iconst (-1), 1) := by decide +kernel
theorem dX4_takeOperator_81 : decode cX4_takeOperator 81 = .ok (.if_icmp .ne 8, 3) := by decide +kernel
theorem dX4_takeOperator_84 : decode cX4_takeOperator 84 = .ok (.bipush (-7), 2) := by decide +kernel
theorem dX4_takeOperator_86 : decode cX4_takeOperator 86 = .ok (.goto 8, 3) := by decide +kernel
theorem dX4_takeOperator_89 : decode cX4_takeOperator 89 = .ok (.sipush 256, 3) := by decide +kernel
theorem dX4_takeOperator_92 : decode cX4_takeOperator 92 = .ok (.iload_n 2, 1) := by decide +kernel
theorem dX4_takeOperator_93 : decode cX4_takeOperator 93 = .ok (.iadd, 1) := by decide +kernel
theorem dX4_takeOperator_94 : decode cX4_takeOperator 94 = .ok (.ireturn, 1) := by decide +kernel
theorem dX4_turningCurves_0 : decode cX4_turningCurves 0 = .ok (.aload_n 0, 1) := by decide +kernel
theorem dX4_turningCurves_1 : decode cX4_turningCurves 1 = .ok (.getfield 9, 3) := by decide +kernel
theorem dX4_turningCurves_4 : decode cX4_turningCurves 4 = .ok (.invokevirtual 128, 3) := by decide +kernel
theorem dX4_turningCurves_7 : decode cX4_turningCurves 7 = .ok (.istore_n 2, 1) := by decide +kernel
theorem dX4_turningCurves_8 : decode cX4_turningCurves 8 = .ok (.iload_n 2, 1) := by decide +kernel
theorem dX4_turningCurves_9 : decode cX4_turningCurves 9 = .ok (.iconst 4, 1) := by decide +kernel
theorem dX4_turningCurves_10 : decode cX4_turningCurves 10 = .ok (.if_icmp .lt 10, 3) := by decide +kernel
theorem dX4_turningCurves_13 : decode cX4_turningCurves 13 = .ok (.iload_n 2, 1) := by decide +kernel
theorem dX4_turningCurves_14 : decode cX4_turningCurves 14 = .ok (.iconst 4, 1) := by decide +kernel
theorem dX4_turningCurves_15 : decode cX4_turningCurves 15 = .ok (.irem, 1) := by decide +kernel
theorem dX4_turningCurves_16 : decode cX4_turningCurves 16 = .ok (.iconst 1, 1) := by decide +kernel
theorem dX4_turningCurves_17 : decode cX4_turningCurves 17 = .ok (.if_icmp .le 5, 3) := by decide +kernel
theorem dX4_turningCurves_20 : decode cX4_turningCurves 20 = .ok (.iconst 2, 1) := by decide +kernel
theorem dX4_turningCurves_21 : decode cX4_turningCurves 21 = .ok (.ireturn, 1) := by decide +kernel
theorem dX4_turningCurves_22 : decode cX4_turningCurves 22 = .ok (.iload_n 1, 1) := by decide +kernel
theorem dX4_turningCurves_23 : decode cX4_turningCurves 23 = .ok (.istore_n 3, 1) := by decide +kernel
theorem dX4_turningCurves_24 : decode cX4_turningCurves 24 = .ok (.iconst 0, 1) := by decide +kernel
theorem dX4_turningCurves_25 : decode cX4_turningCurves 25 = .ok (.istore 4, 2) := by decide +kernel
theorem dX4_turningCurves_27 : decode cX4_turningCurves 27 = .ok (.iconst 0, 1) := by decide +kernel
theorem dX4_turningCurves_28 : decode cX4_turningCurves 28 = .ok (.istore 5, 2) := by decide +kernel
theorem dX4_turningCurves_30 : decode cX4_turningCurves 30 = .ok (.iload 5, 2) := by decide +kernel
theorem dX4_turningCurves_32 : decode cX4_turningCurves 32 = .ok (.iconst 4, 1) := by decide +kernel
theorem dX4_turningCurves_33 : decode cX4_turningCurves 33 = .ok (.iadd, 1) := by decide +kernel
theorem dX4_turningCurves_34 : decode cX4_turningCurves 34 = .ok (.iload_n 2, 1) := by decide +kernel
theorem dX4_turningCurves_35 : decode cX4_turningCurves 35 = .ok (.if_icmp .gt 144, 3) := by decide +kernel
theorem dX4_turningCurves_38 : decode cX4_turningCurves 38 = .ok (.iload 4, 2) := by decide +kernel
theorem dX4_turningCurves_40 : decode cX4_turningCurves 40 = .ok (.ifCond .ne 139, 3) := by decide +kernel
theorem dX4_turningCurves_43 : decode cX4_turningCurves 43 = .ok (.aload_n 0, 1) := by decide +kernel
theorem dX4_turningCurves_44 : decode cX4_turningCurves 44 = .ok (.getfield 9, 3) := by decide +kernel
theorem dX4_turningCurves_47 : decode cX4_turningCurves 47 = .ok (.iload 5, 2) := by decide +kernel
theorem dX4_turningCurves_49 : decode cX4_turningCurves 49 = .ok (.invokevirtual 142, 3) := by decide +kernel
theorem dX4_turningCurves_52 : decode cX4_turningCurves 52 = .ok (.lstore 6, 2) := by decide +kernel
theorem dX4_turningCurves_54 : decode cX4_turningCurves 54 = .ok (.aload_n 0, 1) := by decide +kernel
theorem dX4_turningCurves_55 : decode cX4_turningCurves 55 = .ok (.getfield 9, 3) := by decide +kernel
theorem dX4_turningCurves_58 : decode cX4_turningCurves 58 = .ok (.iload 5, 2) := by decide +kernel
theorem dX4_turningCurves_60 : decode cX4_turningCurves 60 = .ok (.iconst 1, 1) := by decide +kernel
theorem dX4_turningCurves_61 : decode cX4_turningCurves 61 = .ok (.iadd, 1) := by decide +kernel
theorem dX4_turningCurves_62 : decode cX4_turningCurves 62 = .ok (.invokevirtual 142, 3) := by decide +kernel
theorem dX4_turningCurves_65 : decode cX4_turningCurves 65 = .ok (.lstore 8, 2) := by decide +kernel
theorem dX4_turningCurves_67 : decode cX4_turningCurves 67 = .ok (.aload_n 0, 1) := by decide +kernel
theorem dX4_turningCurves_68 : decode cX4_turningCurves 68 = .ok (.getfield 9, 3) := by decide +kernel
theorem dX4_turningCurves_71 : decode cX4_turningCurves 71 = .ok (.iload 5, 2) := by decide +kernel
theorem dX4_turningCurves_73 : decode cX4_turningCurves 73 = .ok (.iconst 2, 1) := by decide +kernel
theorem dX4_turningCurves_74 : decode cX4_turningCurves 74 = .ok (.iadd, 1) := by decide +kernel
theorem dX4_turningCurves_75 : decode cX4_turningCurves 75 = .ok (.invokevirtual 142, 3) := by decide +kernel
theorem dX4_turningCurves_78 : decode cX4_turningCurves 78 = .ok (.lstore 10, 2) := by decide +kernel
theorem dX4_turningCurves_80 : decode cX4_turningCurves 80 = .ok (.aload_n 0, 1) := by decide +kernel
theorem dX4_turningCurves_81 : decode cX4_turningCurves 81 = .ok (.getfield 9, 3) := by decide +kernel
theorem dX4_turningCurves_84 : decode cX4_turningCurves 84 = .ok (.iload 5, 2) := by decide +kernel
theorem dX4_turningCurves_86 : decode cX4_turningCurves 86 = .ok (.iconst 3, 1) := by decide +kernel
theorem dX4_turningCurves_87 : decode cX4_turningCurves 87 = .ok (.iadd, 1) := by decide +kernel
theorem dX4_turningCurves_88 : decode cX4_turningCurves 88 = .ok (.invokevirtual 142, 3) := by decide +kernel
theorem dX4_turningCurves_91 : decode cX4_turningCurves 91 = .ok (.lstore 12, 2) := by decide +kernel
theorem dX4_turningCurves_93 : decode cX4_turningCurves 93 = .ok (.iload 5, 2) := by decide +kernel
theorem dX4_turningCurves_95 : decode cX4_turningCurves 95 = .ok (.iconst 5, 1) := by decide +kernel
theorem dX4_turningCurves_96 : decode cX4_turningCurves 96 = .ok (.iadd, 1) := by decide +kernel
theorem dX4_turningCurves_97 : decode cX4_turningCurves 97 = .ok (.iload_n 2, 1) := by decide +kernel
theorem dX4_turningCurves_98 : decode cX4_turningCurves 98 = .ok (.if_icmp .ne 17, 3) := by decide +kernel
theorem dX4_turningCurves_101 : decode cX4_turningCurves 101 = .ok (.aload_n 0, 1) := by decide +kernel
theorem dX4_turningCurves_102 : decode cX4_turningCurves 102 = .ok (.getfield 9, 3) := by decide +kernel
theorem dX4_turningCurves_105 : decode cX4_turningCurves 105 = .ok (.iload 5, 2) := by decide +kernel
theorem dX4_turningCurves_107 : decode cX4_turningCurves 107 = .ok (.iconst 4, 1) := by decide +kernel
theorem dX4_turningCurves_108 : decode cX4_turningCurves 108 = .ok (.iadd, 1) := by decide +kernel
theorem dX4_turningCurves_109 : decode cX4_turningCurves 109 = .ok (.invokevirtual 142, 3) := by decide +kernel
theorem dX4_turningCurves_112 : decode cX4_turningCurves 112 = .ok (.goto 4, 3) := by decide +kernel
theorem dX4_turningCurves_115 : decode cX4_turningCurves 115 = .ok (.lconst 0, 1) := by decide +kernel
theorem dX4_turningCurves_116 : decode cX4_turningCurves 116 = .ok (.lstore 14, 2) := by decide +kernel
theorem dX4_turningCurves_118 : decode cX4_turningCurves 118 = .ok (.iload_n 3, 1) := by decide +kernel
theorem dX4_turningCurves_119 : decode cX4_turningCurves 119 = .ok (.ifCond .eq 24, 3) := by decide +kernel
theorem dX4_turningCurves_122 : decode cX4_turningCurves 122 = .ok (.aload_n 0, 1) := by decide +kernel
theorem dX4_turningCurves_123 : decode cX4_turningCurves 123 = .ok (.getfield 15, 3) := by decide +kernel
theorem dX4_turningCurves_126 : decode cX4_turningCurves 126 = .ok (.lload 6, 2) := by decide +kernel
theorem dX4_turningCurves_128 : decode cX4_turningCurves 128 = .ok (.lconst 0, 1) := by decide +kernel
theorem dX4_turningCurves_129 : decode cX4_turningCurves 129 = .ok (.lload 8, 2) := by decide +kernel
theorem dX4_turningCurves_131 : decode cX4_turningCurves 131 = .ok (.lload 10, 2) := by decide +kernel
theorem dX4_turningCurves_133 : decode cX4_turningCurves 133 = .ok (.lload 14, 2) := by decide +kernel
theorem dX4_turningCurves_135 : decode cX4_turningCurves 135 = .ok (.lload 12, 2) := by decide +kernel
theorem dX4_turningCurves_137 : decode cX4_turningCurves 137 = .ok (.invokevirtual 144, 3) := by decide +kernel
theorem dX4_turningCurves_140 : decode cX4_turningCurves 140 = .ok (.goto 21, 3) := by decide +kernel
theorem dX4_turningCurves_143 : decode cX4_turningCurves 143 = .ok (.aload_n 0, 1) := by decide +kernel
theorem dX4_turningCurves_144 : decode cX4_turningCurves 144 = .ok (.getfield 15, 3) := by decide +kernel
theorem dX4_turningCurves_147 : decode cX4_turningCurves 147 = .ok (.lconst 0, 1) := by decide +kernel
theorem dX4_turningCurves_148 : decode cX4_turningCurves 148 = .ok (.lload 6, 2) := by decide +kernel
theorem dX4_turningCurves_150 : decode cX4_turningCurves 150 = .ok (.lload 8, 2) := by decide +kernel
theorem dX4_turningCurves_152 : decode cX4_turningCurves 152 = .ok (.lload 10, 2) := by decide +kernel
theorem dX4_turningCurves_154 : decode cX4_turningCurves 154 = .ok (.lload 12, 2) := by decide +kernel
theorem dX4_turningCurves_156 : decode cX4_turningCurves 156 = .ok (.lload 14, 2) := by decide +kernel
theorem dX4_turningCurves_158 : decode cX4_turningCurves 158 = .ok (.invokevirtual 144, 3) := by decide +kernel
theorem dX4_turningCurves_161 : decode cX4_turningCurves 161 = .ok (.istore 4, 2) := by decide +kernel
theorem dX4_turningCurves_163 : decode cX4_turningCurves 163 = .ok (.iload_n 3, 1) := by decide +kernel
theorem dX4_turningCurves_164 : decode cX4_turningCurves 164 = .ok (.ifCond .ne 7, 3) := by decide +kernel
theorem dX4_turningCurves_167 : decode cX4_turningCurves 167 = .ok (.iconst 1, 1) := by decide +kernel
theorem dX4_turningCurves_168 : decode cX4_turningCurves 168 = .ok (.goto 4, 3) := by decide +kernel
theorem dX4_turningCurves_171 : decode cX4_turningCurves 171 = .ok (.iconst 0, 1) := by decide +kernel
theorem dX4_turningCurves_172 : decode cX4_turningCurves 172 = .ok (.istore_n 3, 1) := by decide +kernel
theorem dX4_turningCurves_173 : decode cX4_turningCurves 173 = .ok (.iinc 5 4, 3) := by decide +kernel
theorem dX4_turningCurves_176 : decode cX4_turningCurves 176 = .ok (.goto (-146), 3) := by decide +kernel
theorem dX4_turningCurves_179 : decode cX4_turningCurves 179 = .ok (.iload 4, 2) := by decide +kernel
theorem dX4_turningCurves_181 : decode cX4_turningCurves 181 = .ok (.ireturn, 1) := by decide +kernel
theorem dX5_add_0 : decode cX5_add 0 = .ok (.aload_n 0, 1) := by decide +kernel
theorem dX5_add_1 : decode cX5_add 1 = .ok (.getfield 15, 3) := by decide +kernel
theorem dX5_add_4 : decode cX5_add 4 = .ok (.aload_n 0, 1) := by decide +kernel
theorem dX5_add_5 : decode cX5_add 5 = .ok (.getfield 9, 3) := by decide +kernel
theorem dX5_add_8 : decode cX5_add 8 = .ok (.arraylength, 1) := by decide +kernel
theorem dX5_add_9 : decode cX5_add 9 = .ok (.if_icmp .ge 24, 3) := by decide +kernel
theorem dX5_add_12 : decode cX5_add 12 = .ok (.aload_n 0, 1) := by decide +kernel
theorem dX5_add_13 : decode cX5_add 13 = .ok (.getfield 9, 3) := by decide +kernel
theorem dX5_add_16 : decode cX5_add 16 = .ok (.aload_n 0, 1) := by decide +kernel
theorem dX5_add_17 : decode cX5_add 17 = .ok (.getfield 15, 3) := by decide +kernel
theorem dX5_add_20 : decode cX5_add 20 = .ok (.iload_n 1, 1) := by decide +kernel
theorem dX5_add_21 : decode cX5_add 21 = .ok (.i2b, 1) := by decide +kernel
theorem dX5_add_22 : decode cX5_add 22 = .ok (.bastore, 1) := by decide +kernel
theorem dX5_add_23 : decode cX5_add 23 = .ok (.aload_n 0, 1) := by decide +kernel
theorem dX5_add_24 : decode cX5_add 24 = .ok (.dup, 1) := by decide +kernel
theorem dX5_add_25 : decode cX5_add 25 = .ok (.getfield 15, 3) := by decide +kernel
theorem dX5_add_28 : decode cX5_add 28 = .ok (.iconst 1, 1) := by decide +kernel
theorem dX5_add_29 : decode cX5_add 29 = .ok (.iadd, 1) := by decide +kernel
theorem dX5_add_30 : decode cX5_add 30 = .ok (.putfield 15, 3) := by decide +kernel
theorem dX5_add_33 : decode cX5_add 33 = .ok (.return_, 1) := by decide +kernel
theorem dX5_addAll_0 : decode cX5_addAll 0 = .ok (.iload_n 2, 1) := by decide +kernel
theorem dX5_addAll_1 : decode cX5_addAll 1 = .ok (.iconst 0, 1) := by decide +kernel
theorem dX5_addAll_2 : decode cX5_addAll 2 = .ok (.invokestatic 23, 3) := by decide +kernel
theorem dX5_addAll_5 : decode cX5_addAll 5 = .ok (.istore_n 3, 1) := by decide +kernel
theorem dX5_addAll_6 : decode cX5_addAll 6 = .ok (.iload_n 3, 1) := by decide +kernel
theorem dX5_addAll_7 : decode cX5_addAll 7 = .ok (.aload_n 1, 1) := by decide +kernel
theorem dX5_addAll_8 : decode cX5_addAll 8 = .ok (.getfield 15, 3) := by decide +kernel
theorem dX5_addAll_11 : decode cX5_addAll 11 = .ok (.if_icmp .ge 19, 3) := by decide +kernel
theorem dX5_addAll_14 : decode cX5_addAll 14 = .ok (.aload_n 0, 1) := by decide +kernel
theorem dX5_addAll_15 : decode cX5_addAll 15 = .ok (.aload_n 1, 1) := by decide +kernel
theorem dX5_addAll_16 : decode cX5_addAll 16 = .ok (.iload_n 3, 1) := by decide +kernel
theorem dX5_addAll_17 : decode cX5_addAll 17 = .ok (.i2l, 1) := by decide +kernel
theorem dX5_addAll_18 : decode cX5_addAll 18 = .ok (.invokevirtual 29, 3) := by decide +kernel
theorem dX5_addAll_21 : decode cX5_addAll 21 = .ok (.invokevirtual 19, 3) := by decide +kernel
theorem dX5_addAll_24 : decode cX5_addAll 24 = .ok (.iinc 3 1, 3) := by decide +kernel
theorem dX5_addAll_27 : decode cX5_addAll 27 = .ok (.goto (-21), 3) := by decide +kernel
theorem dX5_addAll_30 : decode cX5_addAll 30 = .ok (.return_, 1) := by decide +kernel
theorem dX5_addWord_0 : decode cX5_addWord 0 = .ok (.aload_n 0, 1) := by decide +kernel
theorem dX5_addWord_1 : decode cX5_addWord 1 = .ok (.iload_n 1, 1) := by decide +kernel
theorem dX5_addWord_2 : decode cX5_addWord 2 = .ok (.bipush 24, 2) := by decide +kernel
theorem dX5_addWord_4 : decode cX5_addWord 4 = .ok (.ishr, 1) := by decide +kernel
theorem dX5_addWord_5 : decode cX5_addWord 5 = .ok (.invokevirtual 19, 3) := by decide +kernel
theorem dX5_addWord_8 : decode cX5_addWord 8 = .ok (.aload_n 0, 1) := by decide +kernel
theorem dX5_addWord_9 : decode cX5_addWord 9 = .ok (.iload_n 1, 1) := by decide +kernel
theorem dX5_addWord_10 : decode cX5_addWord 10 = .ok (.bipush 16, 2) := by decide +kernel
theorem dX5_addWord_12 : decode cX5_addWord 12 = .ok (.ishr, 1) := by decide +kernel
theorem dX5_addWord_13 : decode cX5_addWord 13 = .ok (.invokevirtual 19, 3) := by decide +kernel
theorem dX5_addWord_16 : decode cX5_addWord 16 = .ok (.aload_n 0, 1) := by decide +kernel
theorem dX5_addWord_17 : decode cX5_addWord 17 = .ok (.iload_n 1, 1) := by decide +kernel
theorem dX5_addWord_18 : decode cX5_addWord 18 = .ok (.bipush 8, 2) := by decide +kernel
theorem dX5_addWord_20 : decode cX5_addWord 20 = .ok (.ishr, 1) := by decide +kernel
theorem dX5_addWord_21 : decode cX5_addWord 21 = .ok (.invokevirtual 19, 3) := by decide +kernel
theorem dX5_addWord_24 : decode cX5_addWord 24 = .ok (.aload_n 0, 1) := by decide +kernel
theorem dX5_addWord_25 : decode cX5_addWord 25 = .ok (.iload_n 1, 1) := by decide +kernel
theorem dX5_addWord_26 : decode cX5_addWord 26 = .ok (.invokevirtual 19, 3) := by decide +kernel
theorem dX5_addWord_29 : decode cX5_addWord 29 = .ok (.return_, 1) := by decide +kernel
theorem dX5_cut_0 : decode cX5_cut 0 = .ok (.iload_n 1, 1) := by decide +kernel
theorem dX5_cut_1 : decode cX5_cut 1 = .ok (.ifCond .lt 16, 3) := by decide +kernel
theorem dX5_cut_4 : decode cX5_cut 4 = .ok (.iload_n 1, 1) := by decide +kernel
theorem dX5_cut_5 : decode cX5_cut 5 = .ok (.aload_n 0, 1) := by decide +kernel
theorem dX5_cut_6 : decode cX5_cut 6 = .ok (.getfield 15, 3) := by decide +kernel
theorem dX5_cut_9 : decode cX5_cut 9 = .ok (.if_icmp .gt 8, 3) := by decide +kernel
theorem dX5_cut_12 : decode cX5_cut 12 = .ok (.aload_n 0, 1) := by decide +kernel
theorem dX5_cut_13 : decode cX5_cut 13 = .ok (.iload_n 1, 1) := by decide +kernel
theorem dX5_cut_14 : decode cX5_cut 14 = .ok (.putfield 15, 3) := by decide +kernel
theorem dX5_cut_17 : decode cX5_cut 17 = .ok (.return_, 1) := by decide +kernel
theorem dX5_decipher_0 : decode cX5_decipher 0 = .ok (.iload_n 1, 1) := by decide +kernel
theorem dX5_decipher_1 : decode cX5_decipher 1 = .ok (.istore 4, 2) := by decide +kernel
theorem dX5_decipher_3 : decode cX5_decipher 3 = .ok (.iload_n 2, 1) := by decide +kernel
theorem dX5_decipher_4 : decode cX5_decipher 4 = .ok (.iconst 0, 1) := by decide +kernel
theorem dX5_decipher_5 : decode cX5_decipher 5 = .ok (.invokestatic 23, 3) := by decide +kernel
theorem dX5_decipher_8 : decode cX5_decipher 8 = .ok (.istore 5, 2) := by decide +kernel
theorem dX5_decipher_10 : decode cX5_decipher 10 = .ok (.iload 5, 2) := by decide +kernel
theorem dX5_decipher_12 : decode cX5_decipher 12 = .ok (.iload_n 3, 1) := by decide +kernel
theorem dX5_decipher_13 : decode cX5_decipher 13 = .ok (.if_icmp .ge 56, 3) := by decide +kernel
theorem dX5_decipher_16 : decode cX5_decipher 16 = .ok (.iload 5, 2) := by decide +kernel
theorem dX5_decipher_18 : decode cX5_decipher 18 = .ok (.aload_n 0, 1) := by decide +kernel
theorem dX5_decipher_19 : decode cX5_decipher 19 = .ok (.getfield 15, 3) := by decide +kernel
theorem dX5_decipher_22 : decode cX5_decipher 22 = .ok (.if_icmp .ge 47, 3) := by decide +kernel
theorem dX5_decipher_25 : decode cX5_decipher 25 = .ok (.aload_n 0, 1) := by decide +kernel
theorem dX5_decipher_26 : decode cX5_decipher 26 = .ok (.getfield 9, 3) := by decide +kernel
theorem dX5_decipher_29 : decode cX5_decipher 29 = .ok (.iload 5, 2) := by decide +kernel
theorem dX5_decipher_31 : decode cX5_decipher 31 = .ok (.baload, 1) := by decide +kernel
theorem dX5_decipher_32 : decode cX5_decipher 32 = .ok (.sipush 255, 3) := by decide +kernel
theorem dX5_decipher_35 : decode cX5_decipher 35 = .ok (.iand, 1) := by decide +kernel
theorem dX5_decipher_36 : decode cX5_decipher 36 = .ok (.istore 6, 2) := by decide +kernel
theorem dX5_decipher_38 : decode cX5_decipher 38 = .ok (.aload_n 0, 1) := by decide +kernel
theorem dX5_decipher_39 : decode cX5_decipher 39 = .ok (.getfield 9, 3) := by decide +kernel
theorem dX5_decipher_42 : decode cX5_decipher 42 = .ok (.iload 5, 2) := by decide +kernel
theorem dX5_decipher_44 : decode cX5_decipher 44 = .ok (.iload 6, 2) := by decide +kernel
theorem dX5_decipher_46 : decode cX5_decipher 46 = .ok (.iload 4, 2) := by decide +kernel
theorem dX5_decipher_48 : decode cX5_decipher 48 = .ok (.bipush 8, 2) := by decide +kernel
theorem dX5_decipher_50 : decode cX5_decipher 50 = .ok (.ishr, 1) := by decide +kernel
theorem dX5_decipher_51 : decode cX5_decipher 51 = .ok (.ixor, 1) := by decide +kernel
theorem dX5_decipher_52 : decode cX5_decipher 52 = .ok (.i2b, 1) := by decide +kernel
theorem dX5_decipher_53 : decode cX5_decipher 53 = .ok (.bastore, 1) := by decide +kernel
theorem dX5_decipher_54 : decode cX5_decipher 54 = .ok (.iload 6, 2) := by decide +kernel
theorem dX5_decipher_56 : decode cX5_decipher 56 = .ok (.iload 4, 2) := by decide +kernel
theorem dX5_decipher_58 : decode cX5_decipher 58 = .ok (.invokestatic 33, 3) := by decide +kernel
theorem dX5_decipher_61 : decode cX5_decipher 61 = .ok (.istore 4, 2) := by decide +kernel
theorem dX5_decipher_63 : decode cX5_decipher 63 = .ok (.iinc 5 1, 3) := by decide +kernel
theorem dX5_decipher_66 : decode cX5_decipher 66 = .ok (.goto (-56), 3) := by decide +kernel
theorem dX5_decipher_69 : decode cX5_decipher 69 = .ok (.return_, 1) := by decide +kernel
theorem dX5_encipher_0 : decode cX5_encipher 0 = .ok (.iload_n 1, 1) := by decide +kernel
theorem dX5_encipher_1 : decode cX5_encipher 1 = .ok (.istore_n 2, 1) := by decide +kernel
theorem dX5_encipher_2 : decode cX5_encipher 2 = .ok (.iconst 0, 1) := by decide +kernel
theorem dX5_encipher_3 : decode cX5_encipher 3 = .ok (.istore_n 3, 1) := by decide +kernel
theorem dX5_encipher_4 : decode cX5_encipher 4 = .ok (.iload_n 3, 1) := by decide +kernel
theorem dX5_encipher_5 : decode cX5_encipher 5 = .ok (.aload_n 0, 1) := by decide +kernel
theorem dX5_encipher_6 : decode cX5_encipher 6 = .ok (.getfield 15, 3) := by decide +kernel
theorem dX5_encipher_9 : decode cX5_encipher 9 = .ok (.if_icmp .ge 42, 3) := by decide +kernel
theorem dX5_encipher_12 : decode cX5_encipher 12 = .ok (.aload_n 0, 1) := by decide +kernel
theorem dX5_encipher_13 : decode cX5_encipher 13 = .ok (.getfield 9, 3) := by decide +kernel
theorem dX5_encipher_16 : decode cX5_encipher 16 = .ok (.iload_n 3, 1) := by decide +kernel
theorem dX5_encipher_17 : decode cX5_encipher 17 = .ok (.baload, 1) := by decide +kernel
theorem dX5_encipher_18 : decode cX5_encipher 18 = .ok (.sipush 255, 3) := by decide +kernel
theorem dX5_encipher_21 : decode cX5_encipher 21 = .ok (.iand, 1) := by decide +kernel
theorem dX5_encipher_22 : decode cX5_encipher 22 = .ok (.iload_n 2, 1) := by decide +kernel
theorem dX5_encipher_23 : decode cX5_encipher 23 = .ok (.bipush 8, 2) := by decide +kernel
theorem dX5_encipher_25 : decode cX5_encipher 25 = .ok (.ishr, 1) := by decide +kernel
theorem dX5_encipher_26 : decode cX5_encipher 26 = .ok (.ixor, 1) := by decide +kernel
theorem dX5_encipher_27 : decode cX5_encipher 27 = .ok (.istore 4, 2) := by decide +kernel
theorem dX5_encipher_29 : decode cX5_encipher 29 = .ok (.aload_n 0, 1) := by decide +kernel
theorem dX5_encipher_30 : decode cX5_encipher 30 = .ok (.getfield 9, 3) := by decide +kernel
theorem dX5_encipher_33 : decode cX5_encipher 33 = .ok (.iload_n 3, 1) := by decide +kernel
theorem dX5_encipher_34 : decode cX5_encipher 34 = .ok (.iload 4, 2) := by decide +kernel
theorem dX5_encipher_36 : decode cX5_encipher 36 = .ok (.i2b, 1) := by decide +kernel
theorem dX5_encipher_37 : decode cX5_encipher 37 = .ok (.bastore, 1) := by decide +kernel
theorem dX5_encipher_38 : decode cX5_encipher 38 = .ok (.iload 4, 2) := by decide +kernel
theorem dX5_encipher_40 : decode cX5_encipher 40 = .ok (.iload_n 2, 1) := by decide +kernel
theorem dX5_encipher_41 : decode cX5_encipher 41 = .ok (.invokestatic 33, 3) := by decide +kernel
theorem dX5_encipher_44 : decode cX5_encipher 44 = .ok (.istore_n 2, 1) := by decide +kernel
theorem dX5_encipher_45 : decode cX5_encipher 45 = .ok (.iinc 3 1, 3) := by decide +kernel
theorem dX5_encipher_48 : decode cX5_encipher 48 = .ok (.goto (-44), 3) := by decide +kernel
theorem dX5_encipher_51 : decode cX5_encipher 51 = .ok (.return_, 1) := by decide +kernel
theorem dX5_get_0 : decode cX5_get 0 = .ok (.lload_n 1, 1) := by decide +kernel
theorem dX5_get_1 : decode cX5_get 1 = .ok (.lconst 0, 1) := by decide +kernel
theorem dX5_get_2 : decode cX5_get 2 = .ok (.lcmp, 1) := by decide +kernel
theorem dX5_get_3 : decode cX5_get 3 = .ok (.ifCond .lt 27, 3) := by decide +kernel
theorem dX5_get_6 : decode cX5_get 6 = .ok (.lload_n 1, 1) := by decide +kernel
theorem dX5_get_7 : decode cX5_get 7 = .ok (.aload_n 0, 1) := by decide +kernel
theorem dX5_get_8 : decode cX5_get 8 = .ok (.getfield 15, 3) := by decide +kernel
theorem dX5_get_11 : decode cX5_get 11 = .ok (.i2l, 1) := by decide +kernel
theorem dX5_get_12 : decode cX5_get 12 = .ok (.lcmp, 1) := by decide +kernel
theorem dX5_get_13 : decode cX5_get 13 = .ok (.ifCond .ge 17, 3) := by decide +kernel
theorem dX5_get_16 : decode cX5_get 16 = .ok (.aload_n 0, 1) := by decide +kernel
theorem dX5_get_17 : decode cX5_get 17 = .ok (.getfield 9, 3) := by decide +kernel
theorem dX5_get_20 : decode cX5_get 20 = .ok (.lload_n 1, 1) := by decide +kernel
theorem dX5_get_21 : decode cX5_get 21 = .ok (.l2i, 1) := by decide +kernel
theorem dX5_get_22 : decode cX5_get 22 = .ok (.baload, 1) := by decide +kernel
theorem dX5_get_23 : decode cX5_get 23 = .ok (.sipush 255, 3) := by decide +kernel
theorem dX5_get_26 : decode cX5_get 26 = .ok (.iand, 1) := by decide +kernel
theorem dX5_get_27 : decode cX5_get 27 = .ok (.goto 4, 3) := by decide +kernel
theorem dX5_get_30 : decode cX5_get 30 = .ok (.iconst (-1), 1) := by decide +kernel
theorem dX5_get_31 : decode cX5_get 31 = .ok (.ireturn, 1) := by decide +kernel
theorem dX5_nextKey_0 : decode cX5_nextKey 0 = .ok (.iload_n 0, 1) := by decide +kernel
theorem dX5_nextKey_1 : decode cX5_nextKey 1 = .ok (.iload_n 1, 1) := by decide +kernel
theorem dX5_nextKey_2 : decode cX5_nextKey 2 = .ok (.iadd, 1) := by decide +kernel
theorem dX5_nextKey_3 : decode cX5_nextKey 3 = .ok (.ldc 36, 2) := by decide +kernel
theorem dX5_nextKey_5 : decode cX5_nextKey 5 = .ok (.imul, 1) := by decide +kernel
theorem dX5_nextKey_6 : decode cX5_nextKey 6 = .ok (.sipush 22719, 3) := by decide +kernel
theorem dX5_nextKey_9 : decode cX5_nextKey 9 = .ok (.iadd, 1) := by decide +kernel
theorem dX5_nextKey_10 : decode cX5_nextKey 10 = .ok (.ldc 37, 2) := by decide +kernel
theorem dX5_nextKey_12 : decode cX5_nextKey 12 = .ok (.iand, 1) := by decide +kernel
theorem dX5_nextKey_13 : decode cX5_nextKey 13 = .ok (.ireturn, 1) := by decide +kernel
theorem dX5_size_0 : decode cX5_size 0 = .ok (.aload_n 0, 1) := by decide +kernel
theorem dX5_size_1 : decode cX5_size 1 = .ok (.getfield 15, 3) := by decide +kernel
theorem dX5_size_4 : decode cX5_size 4 = .ok (.ireturn, 1) := by decide +kernel
theorem dX5_turnFromDigits_0 : decode cX5_turnFromDigits 0 = .ok (.iconst 0, 1) := by decide +kernel
theorem dX5_turnFromDigits_1 : decode cX5_turnFromDigits 1 = .ok (.istore_n 1, 1) := by decide +kernel
theorem dX5_turnFromDigits_2 : decode cX5_turnFromDigits 2 = .ok (.iconst 0, 1) := by decide +kernel
theorem dX5_turnFromDigits_3 : decode cX5_turnFromDigits 3 = .ok (.istore_n 2, 1) := by decide +kernel
theorem dX5_turnFromDigits_4 : decode cX5_turnFromDigits 4 = .ok (.iconst 0, 1) := by decide +kernel
theorem dX5_turnFromDigits_5 : decode cX5_turnFromDigits 5 = .ok (.istore_n 3, 1) := by decide +kernel
theorem dX5_turnFromDigits_6 : decode cX5_turnFromDigits 6 = .ok (.iload_n 3, 1) := by decide +kernel
theorem dX5_turnFromDigits_7 : decode cX5_turnFromDigits 7 = .ok (.aload_n 0, 1) := by decide +kernel
theorem dX5_turnFromDigits_8 : decode cX5_turnFromDigits 8 = .ok (.getfield 15, 3) := by decide +kernel
theorem dX5_turnFromDigits_11 : decode cX5_turnFromDigits 11 = .ok (.if_icmp .ge 90, 3) := by decide +kernel
theorem dX5_turnFromDigits_14 : decode cX5_turnFromDigits 14 = .ok (.aload_n 0, 1) := by decide +kernel
theorem dX5_turnFromDigits_15 : decode cX5_turnFromDigits 15 = .ok (.getfield 9, 3) := by decide +kernel
theorem dX5_turnFromDigits_18 : decode cX5_turnFromDigits 18 = .ok (.iload_n 3, 1) := by decide +kernel
theorem dX5_turnFromDigits_19 : decode cX5_turnFromDigits 19 = .ok (.baload, 1) := by decide +kernel
theorem dX5_turnFromDigits_20 : decode cX5_turnFromDigits 20 = .ok (.sipush 255, 3) := by decide +kernel
theorem dX5_turnFromDigits_23 : decode cX5_turnFromDigits 23 = .ok (.iand, 1) := by decide +kernel
theorem dX5_turnFromDigits_24 : decode cX5_turnFromDigits 24 = .ok (.istore 4, 2) := by decide +kernel
theorem dX5_turnFromDigits_26 : decode cX5_turnFromDigits 26 = .ok (.iload 4, 2) := by decide +kernel
theorem dX5_turnFromDigits_28 : decode cX5_turnFromDigits 28 = .ok (.invokestatic 38, 3) := by decide +kernel
theorem dX5_turnFromDigits_31 : decode cX5_turnFromDigits 31 = .ok (.istore 5, 2) := by decide +kernel
theorem dX5_turnFromDigits_33 : decode cX5_turnFromDigits 33 = .ok (.iload 5, 2) := by decide +kernel
theorem dX5_turnFromDigits_35 : decode cX5_turnFromDigits 35 = .ok (.iconst (-1), 1) := by decide +kernel
theorem dX5_turnFromDigits_36 : decode cX5_turnFromDigits 36 = .ok (.if_icmp .ne 13, 3) := by decide +kernel
theorem dX5_turnFromDigits_39 : decode cX5_turnFromDigits 39 = .ok (.iload 4, 2) := by decide +kernel
theorem dX5_turnFromDigits_41 : decode cX5_turnFromDigits 41 = .ok (.invokestatic 42, 3) := by decide +kernel
theorem dX5_turnFromDigits_44 : decode cX5_turnFromDigits 44 = .ok (.ifCond .ne 5, 3) := by decide +kernel
theorem dX5_turnFromDigits_47 : decode cX5_turnFromDigits 47 = .ok (.iconst 0, 1) := by decide +kernel
theorem dX5_turnFromDigits_48 : decode cX5_turnFromDigits 48 = .ok (.ireturn, 1) := by decide +kernel
theorem dX5_turnFromDigits_49 : decode cX5_turnFromDigits 49 = .ok (.iload 5, 2) := by decide +kernel
theorem dX5_turnFromDigits_51 : decode cX5_turnFromDigits 51 = .ok (.iconst (-1), 1) := by decide +kernel
theorem dX5_turnFromDigits_52 : decode cX5_turnFromDigits 52 = .ok (.if_icmp .eq 18, 3) := by decide +kernel
theorem dX5_turnFromDigits_55 : decode cX5_turnFromDigits 55 = .ok (.iload_n 1, 1) := by decide +kernel
theorem dX5_turnFromDigits_56 : decode cX5_turnFromDigits 56 = .ok (.iconst 2, 1) := by decide +kernel
theorem dX5_turnFromDigits_57 : decode cX5_turnFromDigits 57 = .ok (.irem, 1) := by decide +kernel
theorem dX5_turnFromDigits_58 : decode cX5_turnFromDigits 58 = .ok (.ifCond .ne 12, 3) := by decide +kernel
theorem dX5_turnFromDigits_61 : decode cX5_turnFromDigits 61 = .ok (.iload 5, 2) := by decide +kernel
theorem dX5_turnFromDigits_63 : decode cX5_turnFromDigits 63 = .ok (.istore_n 2, 1) := by decide +kernel
theorem dX5_turnFromDigits_64 : decode cX5_turnFromDigits 64 = .ok (.iinc 1 1, 3) := by decide +kernel
theorem dX5_turnFromDigits_67 : decode cX5_turnFromDigits 67 = .ok (.goto 28, 3) := by decide +kernel
theorem dX5_turnFromDigits_70 : decode cX5_turnFromDigits 70 = .ok (.iload 5, 2) := by decide +kernel
theorem dX5_turnFromDigits_72 : decode cX5_turnFromDigits 72 = .ok (.iconst (-1), 1) := by decide +kernel
theorem dX5_turnFromDigits_73 : decode cX5_turnFromDigits 73 = .ok (.if_icmp .eq 22, 3) := by decide +kernel
theorem dX5_turnFromDigits_76 : decode cX5_turnFromDigits 76 = .ok (.aload_n 0, 1) := by decide +kernel
theorem dX5_turnFromDigits_77 : decode cX5_turnFromDigits 77 = .ok (.getfield 9, 3) := by decide +kernel
theorem dX5_turnFromDigits_80 : decode cX5_turnFromDigits 80 = .ok (.iload_n 1, 1) := by decide +kernel
theorem dX5_turnFromDigits_81 : decode cX5_turnFromDigits 81 = .ok (.iconst 2, 1) := by decide +kernel
theorem dX5_turnFromDigits_82 : decode cX5_turnFromDigits 82 = .ok (.idiv, 1) := by decide +kernel
theorem dX5_turnFromDigits_83 : decode cX5_turnFromDigits 83 = .ok (.iload_n 2, 1) := by decide +kernel
theorem dX5_turnFromDigits_84 : decode cX5_turnFromDigits 84 = .ok (.bipush 16, 2) := by decide +kernel
theorem dX5_turnFromDigits_86 : decode cX5_turnFromDigits 86 = .ok (.imul, 1) := by decide +kernel
theorem dX5_turnFromDigits_87 : decode cX5_turnFromDigits 87 = .ok (.iload 5, 2) := by decide +kernel
theorem dX5_turnFromDigits_89 : decode cX5_turnFromDigits 89 = .ok (.iadd, 1) := by decide +kernel
theorem dX5_turnFromDigits_90 : decode cX5_turnFromDigits 90 = .ok (.i2b, 1) := by decide +kernel
theorem dX5_turnFromDigits_91 : decode cX5_turnFromDigits 91 = .ok (.bastore, 1) := by decide +kernel
theorem dX5_turnFromDigits_92 : decode cX5_turnFromDigits 92 = .ok (.iinc 1 1, 3) := by decide +kernel
theorem dX5_turnFromDigits_95 : decode cX5_turnFromDigits 95 = .ok (.iinc 3 1, 3) := by decide +kernel
theorem dX5_turnFromDigits_98 : decode cX5_turnFromDigits 98 = .ok (.goto (-92), 3) := by decide +kernel
theorem dX5_turnFromDigits_101 : decode cX5_turnFromDigits 101 = .ok (.aload_n 0, 1) := by decide +kernel
theorem dX5_turnFromDigits_102 : decode cX5_turnFromDigits 102 = .ok (.iload_n 1, 1) := by decide +kernel
theorem dX5_turnFromDigits_103 : decode cX5_turnFromDigits 103 = .ok (.iconst 2, 1) := by decide +kernel
theorem dX5_turnFromDigits_104 : decode cX5_turnFromDigits 104 = .ok (.idiv, 1) := by decide +kernel
theorem dX5_turnFromDigits_105 : decode cX5_turnFromDigits 105 = .ok (.putfield 15, 3) := by decide +kernel
theorem dX5_turnFromDigits_108 : decode cX5_turnFromDigits 108 = .ok (.iload_n 1, 1) := by decide +kernel
theorem dX5_turnFromDigits_109 : decode cX5_turnFromDigits 109 = .ok (.iconst 2, 1) := by decide +kernel
theorem dX5_turnFromDigits_110 : decode cX5_turnFromDigits 110 = .ok (.irem, 1) := by decide +kernel
theorem dX5_turnFromDigits_111 : decode cX5_turnFromDigits 111 = .ok (.ifCond .ne 7, 3) := by decide +kernel
theorem dX5_turnFromDigits_114 : decode cX5_turnFromDigits 114 = .ok (.iconst 1, 1) := by decide +kernel
theorem dX5_turnFromDigits_115 : decode cX5_turnFromDigits 115 = .ok (.goto 4, 3) := by decide +kernel
theorem dX5_turnFromDigits_118 : decode cX5_turnFromDigits 118 = .ok (.iconst 0, 1) := by decide +kernel
theorem dX5_turnFromDigits_119 : decode cX5_turnFromDigits 119 = .ok (.ireturn, 1) := by decide +kernel
theorem dX6_add_0 : decode cX6_add 0 = .ok (.aload_n 0, 1) := by decide +kernel
theorem dX6_add_1 : decode cX6_add 1 = .ok (.getfield 19, 3) := by decide +kernel
theorem dX6_add_4 : decode cX6_add 4 = .ok (.aload_n 0, 1) := by decide +kernel
theorem dX6_add_5 : decode cX6_add 5 = .ok (.getfield 23, 3) := by decide +kernel
theorem dX6_add_8 : decode cX6_add 8 = .ok (.if_icmp .lt 6, 3) := by decide +kernel
theorem dX6_add_11 : decode cX6_add 11 = .ok (.bipush 6, 2) := by decide +kernel
theorem dX6_add_13 : decode cX6_add 13 = .ok (.ireturn, 1) := by decide +kernel
theorem dX6_add_14 : decode cX6_add 14 = .ok (.aload_n 0, 1) := by decide +kernel
theorem dX6_add_15 : decode cX6_add 15 = .ok (.getfield 9, 3) := by decide +kernel
theorem dX6_add_18 : decode cX6_add 18 = .ok (.aload_n 0, 1) := by decide +kernel
theorem dX6_add_19 : decode cX6_add 19 = .ok (.getfield 19, 3) := by decide +kernel
theorem dX6_add_22 : decode cX6_add 22 = .ok (.iload_n 1, 1) := by decide +kernel
theorem dX6_add_23 : decode cX6_add 23 = .ok (.i2b, 1) := by decide +kernel
theorem dX6_add_24 : decode cX6_add 24 = .ok (.bastore, 1) := by decide +kernel
theorem dX6_add_25 : decode cX6_add 25 = .ok (.aload_n 0, 1) := by decide +kernel
theorem dX6_add_26 : decode cX6_add 26 = .ok (.getfield 15, 3) := by decide +kernel
theorem dX6_add_29 : decode cX6_add 29 = .ok (.aload_n 0, 1) := by decide +kernel
theorem dX6_add_30 : decode cX6_add 30 = .ok (.getfield 19, 3) := by decide +kernel
theorem dX6_add_33 : decode cX6_add 33 = .ok (.bipush 6, 2) := by decide +kernel
theorem dX6_add_35 : decode cX6_add 35 = .ok (.imul, 1) := by decide +kernel
theorem dX6_add_36 : decode cX6_add 36 = .ok (.aload_n 0, 1) := by decide +kernel
theorem dX6_add_37 : decode cX6_add 37 = .ok (.getfield 47, 3) := by decide +kernel
theorem dX6_add_40 : decode cX6_add 40 = .ok (.lastore, 1) := by decide +kernel
theorem dX6_add_41 : decode cX6_add 41 = .ok (.aload_n 0, 1) := by decide +kernel
theorem dX6_add_42 : decode cX6_add 42 = .ok (.getfield 15, 3) := by decide +kernel
theorem dX6_add_45 : decode cX6_add 45 = .ok (.aload_n 0, 1) := by decide +kernel
theorem dX6_add_46 : decode cX6_add 46 = .ok (.getfield 19, 3) := by decide +kernel
theorem dX6_add_49 : decode cX6_add 49 = .ok (.bipush 6, 2) := by decide +kernel
theorem dX6_add_51 : decode cX6_add 51 = .ok (.imul, 1) := by decide +kernel
theorem dX6_add_52 : decode cX6_add 52 = .ok (.iconst 1, 1) := by decide +kernel
theorem dX6_add_53 : decode cX6_add 53 = .ok (.iadd, 1) := by decide +kernel
theorem dX6_add_54 : decode cX6_add 54 = .ok (.aload_n 0, 1) := by decide +kernel
theorem dX6_add_55 : decode cX6_add 55 = .ok (.getfield 51, 3) := by decide +kernel
theorem dX6_add_58 : decode cX6_add 58 = .ok (.lastore, 1) := by decide +kernel
theorem dX6_add_59 : decode cX6_add 59 = .ok (.aload_n 0, 1) := by decide +kernel
theorem dX6_add_60 : decode cX6_add 60 = .ok (.dup, 1) := by decide +kernel
theorem dX6_add_61 : decode cX6_add 61 = .ok (.getfield 19, 3) := by decide +kernel
theorem dX6_add_64 : decode cX6_add 64 = .ok (.iconst 1, 1) := by decide +kernel
theorem dX6_add_65 : decode cX6_add 65 = .ok (.iadd, 1) := by decide +kernel
theorem dX6_add_66 : decode cX6_add 66 = .ok (.putfield 19, 3) := by decide +kernel
theorem dX6_add_69 : decode cX6_add 69 = .ok (.iconst 0, 1) := by decide +kernel
theorem dX6_add_70 : decode cX6_add 70 = .ok (.ireturn, 1) := by decide +kernel
theorem dX6_begin_0 : decode cX6_begin 0 = .ok (.aload_n 0, 1) := by decide +kernel
theorem dX6_begin_1 : decode cX6_begin 1 = .ok (.iconst 0, 1) := by decide +kernel
theorem dX6_begin_2 : decode cX6_begin 2 = .ok (.putfield 19, 3) := by decide +kernel
theorem dX6_begin_5 : decode cX6_begin 5 = .ok (.aload_n 0, 1) := by decide +kernel
theorem dX6_begin_6 : decode cX6_begin 6 = .ok (.iconst 0, 1) := by decide +kernel
theorem dX6_begin_7 : decode cX6_begin 7 = .ok (.iload_n 1, 1) := by decide +kernel
theorem dX6_begin_8 : decode cX6_begin 8 = .ok (.sipush 400, 3) := by decide +kernel
theorem dX6_begin_11 : decode cX6_begin 11 = .ok (.invokestatic 26, 3) := by decide +kernel
theorem dX6_begin_14 : decode cX6_begin 14 = .ok (.invokestatic 32, 3) := by decide +kernel
theorem dX6_begin_17 : decode cX6_begin 17 = .ok (.putfield 23, 3) := by decide +kernel
theorem dX6_begin_20 : decode cX6_begin 20 = .ok (.aload_n 0, 1) := by decide +kernel
theorem dX6_begin_21 : decode cX6_begin 21 = .ok (.lconst 0, 1) := by decide +kernel
theorem dX6_begin_22 : decode cX6_begin 22 = .ok (.lconst 0, 1) := by decide +kernel
theorem dX6_begin_23 : decode cX6_begin 23 = .ok (.invokevirtual 35, 3) := by decide +kernel
theorem dX6_begin_26 : decode cX6_begin 26 = .ok (.aload_n 0, 1) := by decide +kernel
theorem dX6_begin_27 : decode cX6_begin 27 = .ok (.iconst 0, 1) := by decide +kernel
theorem dX6_begin_28 : decode cX6_begin 28 = .ok (.putfield 39, 3) := by decide +kernel
theorem dX6_begin_31 : decode cX6_begin 31 = .ok (.return_, 1) := by decide +kernel
theorem dX6_close_0 : decode cX6_close 0 = .ok (.aload_n 0, 1) := by decide +kernel
theorem dX6_close_1 : decode cX6_close 1 = .ok (.iconst 3, 1) := by decide +kernel
theorem dX6_close_2 : decode cX6_close 2 = .ok (.invokevirtual 54, 3) := by decide +kernel
theorem dX6_close_5 : decode cX6_close 5 = .ok (.ireturn, 1) := by decide +kernel
theorem dX6_closeIfOpen_0 : decode cX6_closeIfOpen 0 = .ok (.aload_n 0, 1) := by decide +kernel
theorem dX6_closeIfOpen_1 : decode cX6_closeIfOpen 1 = .ok (.getfield 39, 3) := by decide +kernel
theorem dX6_closeIfOpen_4 : decode cX6_closeIfOpen 4 = .ok (.ifCond .eq 10, 3) := by decide +kernel
theorem dX6_closeIfOpen_7 : decode cX6_closeIfOpen 7 = .ok (.aload_n 0, 1) := by decide +kernel
theorem dX6_closeIfOpen_8 : decode cX6_closeIfOpen 8 = .ok (.invokevirtual 57, 3) := by decide +kernel
theorem dX6_closeIfOpen_11 : decode cX6_closeIfOpen 11 = .ok (.goto 4, 3) := by decide +kernel
theorem dX6_closeIfOpen_14 : decode cX6_closeIfOpen 14 = .ok (.iconst 0, 1) := by decide +kernel
theorem dX6_closeIfOpen_15 : decode cX6_closeIfOpen 15 = .ok (.ireturn, 1) := by decide +kernel
theorem dX6_curveBy_0 : decode cX6_curveBy 0 = .ok (.aload_n 0, 1) := by decide +kernel
theorem dX6_curveBy_1 : decode cX6_curveBy 1 = .ok (.dup, 1) := by decide +kernel
theorem dX6_curveBy_2 : decode cX6_curveBy 2 = .ok (.getfield 47, 3) := by decide +kernel
theorem dX6_curveBy_5 : decode cX6_curveBy 5 = .ok (.lload_n 1, 1) := by decide +kernel
theorem dX6_curveBy_6 : decode cX6_curveBy 6 = .ok (.ladd, 1) := by decide +kernel
theorem dX6_curveBy_7 : decode cX6_curveBy 7 = .ok (.putfield 47, 3) := by decide +kernel
theorem dX6_curveBy_10 : decode cX6_curveBy 10 = .ok (.aload_n 0, 1) := by decide +kernel
theorem dX6_curveBy_11 : decode cX6_curveBy 11 = .ok (.dup, 1) := by decide +kernel
theorem dX6_curveBy_12 : decode cX6_curveBy 12 = .ok (.getfield 51, 3) := by decide +kernel
theorem dX6_curveBy_15 : decode cX6_curveBy 15 = .ok (.lload_n 3, 1) := by decide +kernel
theorem dX6_curveBy_16 : decode cX6_curveBy 16 = .ok (.ladd, 1) := by decide +kernel
theorem dX6_curveBy_17 : decode cX6_curveBy 17 = .ok (.putfield 51, 3) := by decide +kernel
theorem dX6_curveBy_20 : decode cX6_curveBy 20 = .ok (.aload_n 0, 1) := by decide +kernel
theorem dX6_curveBy_21 : decode cX6_curveBy 21 = .ok (.iconst 1, 1) := by decide +kernel
theorem dX6_curveBy_22 : decode cX6_curveBy 22 = .ok (.putfield 39, 3) := by decide +kernel
theorem dX6_curveBy_25 : decode cX6_curveBy 25 = .ok (.aload_n 0, 1) := by decide +kernel
theorem dX6_curveBy_26 : decode cX6_curveBy 26 = .ok (.iconst 2, 1) := by decide +kernel
theorem dX6_curveBy_27 : decode cX6_curveBy 27 = .ok (.invokevirtual 54, 3) := by decide +kernel
theorem dX6_curveBy_30 : decode cX6_curveBy 30 = .ok (.istore 13, 2) := by decide +kernel
theorem dX6_curveBy_32 : decode cX6_curveBy 32 = .ok (.iload 13, 2) := by decide +kernel
theorem dX6_curveBy_34 : decode cX6_curveBy 34 = .ok (.ifCond .eq 6, 3) := by decide +kernel
theorem dX6_curveBy_37 : decode cX6_curveBy 37 = .ok (.iload 13, 2) := by decide +kernel
theorem dX6_curveBy_39 : decode cX6_curveBy 39 = .ok (.ireturn, 1) := by decide +kernel
theorem dX6_curveBy_40 : decode cX6_curveBy 40 = .ok (.aload_n 0, 1) := by decide +kernel
theorem dX6_curveBy_41 : decode cX6_curveBy 41 = .ok (.getfield 19, 3) := by decide +kernel
theorem dX6_curveBy_44 : decode cX6_curveBy 44 = .ok (.iconst 1, 1) := by decide +kernel
theorem dX6_curveBy_45 : decode cX6_curveBy 45 = .ok (.isub, 1) := by decide +kernel
theorem dX6_curveBy_46 : decode cX6_curveBy 46 = .ok (.bipush 6, 2) := by decide +kernel
theorem dX6_curveBy_48 : decode cX6_curveBy 48 = .ok (.imul, 1) := by decide +kernel
theorem dX6_curveBy_49 : decode cX6_curveBy 49 = .ok (.istore 14, 2) := by decide +kernel
theorem dX6_curveBy_51 : decode cX6_curveBy 51 = .ok (.aload_n 0, 1) := by decide +kernel
theorem dX6_curveBy_52 : decode cX6_curveBy 52 = .ok (.getfield 15, 3) := by decide +kernel
theorem dX6_curveBy_55 : decode cX6_curveBy 55 = .ok (.iload 14, 2) := by decide +kernel
theorem dX6_curveBy_57 : decode cX6_curveBy 57 = .ok (.iconst 2, 1) := by decide +kernel
theorem dX6_curveBy_58 : decode cX6_curveBy 58 = .ok (.iadd, 1) := by decide +kernel
theorem dX6_curveBy_59 : decode cX6_curveBy 59 = .ok (.aload_n 0, 1) := by decide +kernel
theorem dX6_curveBy_60 : decode cX6_curveBy 60 = .ok (.getfield 47, 3) := by decide +kernel
theorem dX6_curveBy_63 : decode cX6_curveBy 63 = .ok (.lload 5, 2) := by decide +kernel
theorem dX6_curveBy_65 : decode cX6_curveBy 65 = .ok (.ladd, 1) := by decide +kernel
theorem dX6_curveBy_66 : decode cX6_curveBy 66 = .ok (.lastore, 1) := by decide +kernel
theorem dX6_curveBy_67 : decode cX6_curveBy 67 = .ok (.aload_n 0, 1) := by decide +kernel
theorem dX6_curveBy_68 : decode cX6_curveBy 68 = .ok (.getfield 15, 3) := by decide +kernel
theorem dX6_curveBy_71 : decode cX6_curveBy 71 = .ok (.iload 14, 2) := by decide +kernel
theorem dX6_curveBy_73 : decode cX6_curveBy 73 = .ok (.iconst 3, 1) := by decide +kernel
theorem dX6_curveBy_74 : decode cX6_curveBy 74 = .ok (.iadd, 1) := by decide +kernel
theorem dX6_curveBy_75 : decode cX6_curveBy 75 = .ok (.aload_n 0, 1) := by decide +kernel
theorem dX6_curveBy_76 : decode cX6_curveBy 76 = .ok (.getfield 51, 3) := by decide +kernel
theorem dX6_curveBy_79 : decode cX6_curveBy 79 = .ok (.lload 7, 2) := by decide +kernel
theorem dX6_curveBy_81 : decode cX6_curveBy 81 = .ok (.ladd, 1) := by decide +kernel
theorem dX6_curveBy_82 : decode cX6_curveBy 82 = .ok (.lastore, 1) := by decide +kernel
theorem dX6_curveBy_83 : decode cX6_curveBy 83 = .ok (.aload_n 0, 1) := by decide +kernel
theorem dX6_curveBy_84 : decode cX6_curveBy 84 = .ok (.dup, 1) := by decide +kernel
theorem dX6_curveBy_85 : decode cX6_curveBy 85 = .ok (.getfield 47, 3) := by decide +kernel
theorem dX6_curveBy_88 : decode cX6_curveBy 88 = .ok (.lload 5, 2) := by decide +kernel
theorem dX6_curveBy_90 : decode cX6_curveBy 90 = .ok (.lload 9, 2) := by decide +kernel
theorem dX6_curveBy_92 : decode cX6_curveBy 92 = .ok (.ladd, 1) := by decide +kernel
theorem dX6_curveBy_93 : decode cX6_curveBy 93 = .ok (.ladd, 1) := by decide +kernel
theorem dX6_curveBy_94 : decode cX6_curveBy 94 = .ok (.putfield 47, 3) := by decide +kernel
theorem dX6_curveBy_97 : decode cX6_curveBy 97 = .ok (.aload_n 0, 1) := by decide +kernel
theorem dX6_curveBy_98 : decode cX6_curveBy 98 = .ok (.dup, 1) := by decide +kernel
theorem dX6_curveBy_99 : decode cX6_curveBy 99 = .ok (.getfield 51, 3) := by decide +kernel
theorem dX6_curveBy_102 : decode cX6_curveBy 102 = .ok (.lload 7, 2) := by decide +kernel
theorem dX6_curveBy_104 : decode cX6_curveBy 104 = .ok (.lload 11, 2) := by decide +kernel
theorem dX6_curveBy_106 : decode cX6_curveBy 106 = .ok (.ladd, 1) := by decide +kernel
theorem dX6_curveBy_107 : decode cX6_curveBy 107 = .ok (.ladd, 1) := by decide +kernel
theorem dX6_curveBy_108 : decode cX6_curveBy 108 = .ok (.putfield 51, 3) := by decide +kernel
theorem dX6_curveBy_111 : decode cX6_curveBy 111 = .ok (.aload_n 0, 1) := by decide +kernel
theorem dX6_curveBy_112 : decode cX6_curveBy 112 = .ok (.getfield 15, 3) := by decide +kernel
theorem dX6_curveBy_115 : decode cX6_curveBy 115 = .ok (.iload 14, 2) := by decide +kernel
theorem dX6_curveBy_117 : decode cX6_curveBy 117 = .ok (.iconst 4, 1) := by decide +kernel
theorem dX6_curveBy_118 : decode cX6_curveBy 118 = .ok (.iadd, 1) := by decide +kernel
theorem dX6_curveBy_119 : decode cX6_curveBy 119 = .ok (.aload_n 0, 1) := by decide +kernel
theorem dX6_curveBy_120 : decode cX6_curveBy 120 = .ok (.getfield 47, 3) := by decide +kernel
theorem dX6_curveBy_123 : decode cX6_curveBy 123 = .ok (.lastore, 1) := by decide +kernel
theorem dX6_curveBy_124 : decode cX6_curveBy 124 = .ok (.aload_n 0, 1) := by decide +kernel
theorem dX6_curveBy_125 : decode cX6_curveBy 125 = .ok (.getfield 15, 3) := by decide +kernel
theorem dX6_curveBy_128 : decode cX6_curveBy 128 = .ok (.iload 14, 2) := by decide +kernel
theorem dX6_curveBy_130 : decode cX6_curveBy 130 = .ok (.iconst 5, 1) := by decide +kernel
theorem dX6_curveBy_131 : decode cX6_curveBy 131 = .ok (.iadd, 1) := by decide +kernel
theorem dX6_curveBy_132 : decode cX6_curveBy 132 = .ok (.aload_n 0, 1) := by decide +kernel
theorem dX6_curveBy_133 : decode cX6_curveBy 133 = .ok (.getfield 51, 3) := by decide +kernel
theorem dX6_curveBy_136 : decode cX6_curveBy 136 = .ok (.lastore, 1) := by decide +kernel
theorem dX6_curveBy_137 : decode cX6_curveBy 137 = .ok (.iconst 0, 1) := by decide +kernel
theorem dX6_curveBy_138 : decode cX6_curveBy 138 = .ok (.ireturn, 1) := by decide +kernel
theorem dX6_goBy_0 : decode cX6_goBy 0 = .ok (.aload_n 0, 1) := by decide +kernel
theorem dX6_goBy_1 : decode cX6_goBy 1 = .ok (.dup, 1) := by decide +kernel
theorem dX6_goBy_2 : decode cX6_goBy 2 = .ok (.getfield 47, 3) := by decide +kernel
theorem dX6_goBy_5 : decode cX6_goBy 5 = .ok (.lload_n 1, 1) := by decide +kernel
theorem dX6_goBy_6 : decode cX6_goBy 6 = .ok (.ladd, 1) := by decide +kernel
theorem dX6_goBy_7 : decode cX6_goBy 7 = .ok (.putfield 47, 3) := by decide +kernel
theorem dX6_goBy_10 : decode cX6_goBy 10 = .ok (.aload_n 0, 1) := by decide +kernel
theorem dX6_goBy_11 : decode cX6_goBy 11 = .ok (.dup, 1) := by decide +kernel
theorem dX6_goBy_12 : decode cX6_goBy 12 = .ok (.getfield 51, 3) := by decide +kernel
theorem dX6_goBy_15 : decode cX6_goBy 15 = .ok (.lload_n 3, 1) := by decide +kernel
theorem dX6_goBy_16 : decode cX6_goBy 16 = .ok (.ladd, 1) := by decide +kernel
theorem dX6_goBy_17 : decode cX6_goBy 17 = .ok (.putfield 51, 3) := by decide +kernel
theorem dX6_goBy_20 : decode cX6_goBy 20 = .ok (.return_, 1) := by decide +kernel
theorem dX6_goTo_0 : decode cX6_goTo 0 = .ok (.aload_n 0, 1) := by decide +kernel
theorem dX6_goTo_1 : decode cX6_goTo 1 = .ok (.lload_n 1, 1) := by decide +kernel
theorem dX6_goTo_2 : decode cX6_goTo 2 = .ok (.putfield 47, 3) := by decide +kernel
theorem dX6_goTo_5 : decode cX6_goTo 5 = .ok (.aload_n 0, 1) := by decide +kernel
theorem dX6_goTo_6 : decode cX6_goTo 6 = .ok (.lload_n 3, 1) := by decide +kernel
theorem dX6_goTo_7 : decode cX6_goTo 7 = .ok (.putfield 51, 3) := by decide +kernel
theorem dX6_goTo_10 : decode cX6_goTo 10 = .ok (.return_, 1) := by decide +kernel
theorem dX6_kindOf_0 : decode cX6_kindOf 0 = .ok (.iload_n 1, 1) := by decide +kernel
theorem dX6_kindOf_1 : decode cX6_kindOf 1 = .ok (.ifCond .lt 20, 3) := by decide +kernel
theorem dX6_kindOf_4 : decode cX6_kindOf 4 = .ok (.iload_n 1, 1) := by decide +kernel
theorem dX6_kindOf_5 : decode cX6_kindOf 5 = .ok (.aload_n 0, 1) := by decide +kernel
theorem dX6_kindOf_6 : decode cX6_kindOf 6 = .ok (.getfield 19, 3) := by decide +kernel
theorem dX6_kindOf_9 : decode cX6_kindOf 9 = .ok (.if_icmp .ge 12, 3) := by decide +kernel
theorem dX6_kindOf_12 : decode cX6_kindOf 12 = .ok (.aload_n 0, 1) := by decide +kernel
theorem dX6_kindOf_13 : decode cX6_kindOf 13 = .ok (.getfield 9, 3) := by decide +kernel
theorem dX6_kindOf_16 : decode cX6_kindOf 16 = .ok (.iload_n 1, 1) := by decide +kernel
theorem dX6_kindOf_17 : decode cX6_kindOf 17 = .ok (.baload, 1) := by decide +kernel
theorem dX6_kindOf_18 : decode cX6_kindOf 18 = .ok (.goto 4, 3) := by decide +kernel
theorem dX6_kindOf_21 : decode cX6_kindOf 21 = .ok (.iconst (-1), 1) := by decide +kernel
theorem dX6_kindOf_22 : decode cX6_kindOf 22 = .ok (.ireturn, 1) := by decide +kernel
theorem dX6_lineBy_0 : decode cX6_lineBy 0 = .ok (.aload_n 0, 1) := by decide +kernel
theorem dX6_lineBy_1 : decode cX6_lineBy 1 = .ok (.dup, 1) := by decide +kernel
theorem dX6_lineBy_2 : decode cX6_lineBy 2 = .ok (.getfield 47, 3) := by decide +kernel
theorem dX6_lineBy_5 : decode cX6_lineBy 5 = .ok (.lload_n 1, 1) := by decide +kernel
theorem dX6_lineBy_6 : decode cX6_lineBy 6 = .ok (.ladd, 1) := by decide +kernel
theorem dX6_lineBy_7 : decode cX6_lineBy 7 = .ok (.putfield 47, 3) := by decide +kernel
theorem dX6_lineBy_10 : decode cX6_lineBy 10 = .ok (.aload_n 0, 1) := by decide +kernel
theorem dX6_lineBy_11 : decode cX6_lineBy 11 = .ok (.dup, 1) := by decide +kernel
theorem dX6_lineBy_12 : decode cX6_lineBy 12 = .ok (.getfield 51, 3) := by decide +kernel
theorem dX6_lineBy_15 : decode cX6_lineBy 15 = .ok (.lload_n 3, 1) := by decide +kernel
theorem dX6_lineBy_16 : decode cX6_lineBy 16 = .ok (.ladd, 1) := by decide +kernel
theorem dX6_lineBy_17 : decode cX6_lineBy 17 = .ok (.putfield 51, 3) := by decide +kernel
theorem dX6_lineBy_20 : decode cX6_lineBy 20 = .ok (.aload_n 0, 1) := by decide +kernel
theorem dX6_lineBy_21 : decode cX6_lineBy 21 = .ok (.iconst 1, 1) := by decide +kernel
theorem dX6_lineBy_22 : decode cX6_lineBy 22 = .ok (.putfield 39, 3) := by decide +kernel
theorem dX6_lineBy_25 : decode cX6_lineBy 25 = .ok (.aload_n 0, 1) := by decide +kernel
theorem dX6_lineBy_26 : decode cX6_lineBy 26 = .ok (.iconst 1, 1) := by decide +kernel
theorem dX6_lineBy_27 : decode cX6_lineBy 27 = .ok (.invokevirtual 54, 3) := by decide +kernel
theorem dX6_lineBy_30 : decode cX6_lineBy 30 = .ok (.ireturn, 1) := by decide +kernel
theorem dX6_moveBy_0 : decode cX6_moveBy 0 = .ok (.aload_n 0, 1) := by decide +kernel
theorem dX6_moveBy_1 : decode cX6_moveBy 1 = .ok (.dup, 1) := by decide +kernel
theorem dX6_moveBy_2 : decode cX6_moveBy 2 = .ok (.getfield 47, 3) := by decide +kernel
theorem dX6_moveBy_5 : decode cX6_moveBy 5 = .ok (.lload_n 1, 1) := by decide +kernel
theorem dX6_moveBy_6 : decode cX6_moveBy 6 = .ok (.ladd, 1) := by decide +kernel
theorem dX6_moveBy_7 : decode cX6_moveBy 7 = .ok (.putfield 47, 3) := by decide +kernel
theorem dX6_moveBy_10 : decode cX6_moveBy 10 = .ok (.aload_n 0, 1) := by decide +kernel
theorem dX6_moveBy_11 : decode cX6_moveBy 11 = .ok (.dup, 1) := by decide +kernel
theorem dX6_moveBy_12 : decode cX6_moveBy 12 = .ok (.getfield 51, 3) := by decide +kernel
theorem dX6_moveBy_15 : decode cX6_moveBy 15 = .ok (.lload_n 3, 1) := by decide +kernel
theorem dX6_moveBy_16 : decode cX6_moveBy 16 = .ok (.ladd, 1) := by decide +kernel
theorem dX6_moveBy_17 : decode cX6_moveBy 17 = .ok (.putfield 51, 3) := by decide +kernel
theorem dX6_moveBy_20 : decode cX6_moveBy 20 = .ok (.aload_n 0, 1) := by decide +kernel
theorem dX6_moveBy_21 : decode cX6_moveBy 21 = .ok (.iconst 0, 1) := by decide +kernel
theorem dX6_moveBy_22 : decode cX6_moveBy 22 = .ok (.putfield 39, 3) := by decide +kernel
theorem dX6_moveBy_25 : decode cX6_moveBy 25 = .ok (.aload_n 0, 1) := by decide +kernel
theorem dX6_moveBy_26 : decode cX6_moveBy 26 = .ok (.iconst 0, 1) := by decide +kernel
theorem dX6_moveBy_27 : decode cX6_moveBy 27 = .ok (.invokevirtual 54, 3) := by decide +kernel
theorem dX6_moveBy_30 : decode cX6_moveBy 30 = .ok (.ireturn, 1) := by decide +kernel
theorem dX6_pointOf_0 : decode cX6_pointOf 0 = .ok (.aload_n 0, 1) := by decide +kernel
theorem dX6_pointOf_1 : decode cX6_pointOf 1 = .ok (.iload_n 1, 1) := by decide +kernel
theorem dX6_pointOf_2 : decode cX6_pointOf 2 = .ok (.invokevirtual 43, 3) := by decide +kernel
theorem dX6_pointOf_5 : decode cX6_pointOf 5 = .ok (.istore 4, 2) := by decide +kernel
theorem dX6_pointOf_7 : decode cX6_pointOf 7 = .ok (.iload 4, 2) := by decide +kernel
theorem dX6_pointOf_9 : decode cX6_pointOf 9 = .ok (.iconst (-1), 1) := by decide +kernel
theorem dX6_pointOf_10 : decode cX6_pointOf 10 = .ok (.if_icmp .eq 18, 3) := by decide +kernel
theorem dX6_pointOf_13 : decode cX6_pointOf 13 = .ok (.iload 4, 2) := by decide +kernel
theorem dX6_pointOf_15 : decode cX6_pointOf 15 = .ok (.iconst 3, 1) := by decide +kernel
theorem dX6_pointOf_16 : decode cX6_pointOf 16 = .ok (.if_icmp .eq 12, 3) := by decide +kernel
theorem dX6_pointOf_19 : decode cX6_pointOf 19 = .ok (.iload_n 3, 1) := by decide +kernel
theorem dX6_pointOf_20 : decode cX6_pointOf 20 = .ok (.ifCond .lt 8, 3) := by decide +kernel
theorem dX6_pointOf_23 : decode cX6_pointOf 23 = .ok (.iload_n 3, 1) := by decide +kernel
theorem dX6_pointOf_24 : decode cX6_pointOf 24 = .ok (.iconst 1, 1) := by decide +kernel
theorem dX6_pointOf_25 : decode cX6_pointOf 25 = .ok (.if_icmp .le 5, 3) := by decide +kernel
theorem dX6_pointOf_28 : decode cX6_pointOf 28 = .ok (.lconst 0, 1) := by decide +kernel
theorem dX6_pointOf_29 : decode cX6_pointOf 29 = .ok (.lreturn, 1) := by decide +kernel
theorem dX6_pointOf_30 : decode cX6_pointOf 30 = .ok (.iload_n 2, 1) := by decide +kernel
theorem dX6_pointOf_31 : decode cX6_pointOf 31 = .ok (.ifCond .lt 18, 3) := by decide +kernel
theorem dX6_pointOf_34 : decode cX6_pointOf 34 = .ok (.iload_n 2, 1) := by decide +kernel
theorem dX6_pointOf_35 : decode cX6_pointOf 35 = .ok (.iload 4, 2) := by decide +kernel
theorem dX6_pointOf_37 : decode cX6_pointOf 37 = .ok (.iconst 2, 1) := by decide +kernel
theorem dX6_pointOf_38 : decode cX6_pointOf 38 = .ok (.if_icmp .ne 7, 3) := by decide +kernel
theorem dX6_pointOf_41 : decode cX6_pointOf 41 = .ok (.iconst 2, 1) := by decide +kernel
theorem dX6_pointOf_42 : decode cX6_pointOf 42 = .ok (.goto 4, 3) := by decide +kernel
theorem dX6_pointOf_45 : decode cX6_pointOf 45 = .ok (.iconst 0, 1) := by decide +kernel
theorem dX6_pointOf_46 : decode cX6_pointOf 46 = .ok (.if_icmp .le 5, 3) := by decide +kernel
theorem dX6_pointOf_49 : decode cX6_pointOf 49 = .ok (.lconst 0, 1) := by decide +kernel
theorem dX6_pointOf_50 : decode cX6_pointOf 50 = .ok (.lreturn, 1) := by decide +kernel
theorem dX6_pointOf_51 : decode cX6_pointOf 51 = .ok (.aload_n 0, 1) := by decide +kernel
theorem dX6_pointOf_52 : decode cX6_pointOf 52 = .ok (.getfield 15, 3) := by decide +kernel
theorem dX6_pointOf_55 : decode cX6_pointOf 55 = .ok (.iload_n 1, 1) := by decide +kernel
theorem dX6_pointOf_56 : decode cX6_pointOf 56 = .ok (.bipush 6, 2) := by decide +kernel
theorem dX6_pointOf_58 : decode cX6_pointOf 58 = .ok (.imul, 1) := by decide +kernel
theorem dX6_pointOf_59 : decode cX6_pointOf 59 = .ok (.iload_n 2, 1) := by decide +kernel
theorem dX6_pointOf_60 : decode cX6_pointOf 60 = .ok (.iconst 2, 1) := by decide +kernel
theorem dX6_pointOf_61 : decode cX6_pointOf 61 = .ok (.imul, 1) := by decide +kernel
theorem dX6_pointOf_62 : decode cX6_pointOf 62 = .ok (.iadd, 1) := by decide +kernel
theorem dX6_pointOf_63 : decode cX6_pointOf 63 = .ok (.iload_n 3, 1) := by decide +kernel
theorem dX6_pointOf_64 : decode cX6_pointOf 64 = .ok (.iadd, 1) := by decide +kernel
theorem dX6_pointOf_65 : decode cX6_pointOf 65 = .ok (.laload, 1) := by decide +kernel
theorem dX6_pointOf_66 : decode cX6_pointOf 66 = .ok (.lreturn, 1) := by decide +kernel
theorem dX6_size_0 : decode cX6_size 0 = .ok (.aload_n 0, 1) := by decide +kernel
theorem dX6_size_1 : decode cX6_size 1 = .ok (.getfield 19, 3) := by decide +kernel
theorem dX6_size_4 : decode cX6_size 4 = .ok (.ireturn, 1) := by decide +kernel
theorem dX7_begin_0 : decode cX7_begin 0 = .ok (.aload_n 0, 1) := by decide +kernel
theorem dX7_begin_1 : decode cX7_begin 1 = .ok (.iconst 0, 1) := by decide +kernel
theorem dX7_begin_2 : decode cX7_begin 2 = .ok (.putfield 18, 3) := by decide +kernel
theorem dX7_begin_5 : decode cX7_begin 5 = .ok (.aload_n 0, 1) := by decide +kernel
theorem dX7_begin_6 : decode cX7_begin 6 = .ok (.iload_n 1, 1) := by decide +kernel
theorem dX7_begin_7 : decode cX7_begin 7 = .ok (.bipush 48, 2) := by decide +kernel
theorem dX7_begin_9 : decode cX7_begin 9 = .ok (.invokestatic 25, 3) := by decide +kernel
theorem dX7_begin_12 : decode cX7_begin 12 = .ok (.putfield 22, 3) := by decide +kernel
theorem dX7_begin_15 : decode cX7_begin 15 = .ok (.aload_n 0, 1) := by decide +kernel
theorem dX7_begin_16 : decode cX7_begin 16 = .ok (.getfield 15, 3) := by decide +kernel
theorem dX7_begin_19 : decode cX7_begin 19 = .ok (.lconst 0, 1) := by decide +kernel
theorem dX7_begin_20 : decode cX7_begin 20 = .ok (.invokestatic 31, 3) := by decide +kernel
theorem dX7_begin_23 : decode cX7_begin 23 = .ok (.return_, 1) := by decide +kernel
theorem dX7_below_0 : decode cX7_below 0 = .ok (.aload_n 0, 1) := by decide +kernel
theorem dX7_below_1 : decode cX7_below 1 = .ok (.aload_n 0, 1) := by decide +kernel
theorem dX7_below_2 : decode cX7_below 2 = .ok (.getfield 18, 3) := by decide +kernel
theorem dX7_below_5 : decode cX7_below 5 = .ok (.iconst 1, 1) := by decide +kernel
theorem dX7_below_6 : decode cX7_below 6 = .ok (.isub, 1) := by decide +kernel
theorem dX7_below_7 : decode cX7_below 7 = .ok (.iload_n 1, 1) := by decide +kernel
theorem dX7_below_8 : decode cX7_below 8 = .ok (.isub, 1) := by decide +kernel
theorem dX7_below_9 : decode cX7_below 9 = .ok (.invokevirtual 37, 3) := by decide +kernel
theorem dX7_below_12 : decode cX7_below 12 = .ok (.lreturn, 1) := by decide +kernel
theorem dX7_clear_0 : decode cX7_clear 0 = .ok (.aload_n 0, 1) := by decide +kernel
theorem dX7_clear_1 : decode cX7_clear 1 = .ok (.iconst 0, 1) := by decide +kernel
theorem dX7_clear_2 : decode cX7_clear 2 = .ok (.putfield 18, 3) := by decide +kernel
theorem dX7_clear_5 : decode cX7_clear 5 = .ok (.return_, 1) := by decide +kernel
theorem dX7_divide_0 : decode cX7_divide 0 = .ok (.aload_n 0, 1) := by decide +kernel
theorem dX7_divide_1 : decode cX7_divide 1 = .ok (.getfield 18, 3) := by decide +kernel
theorem dX7_divide_4 : decode cX7_divide 4 = .ok (.iconst 2, 1) := by decide +kernel
theorem dX7_divide_5 : decode cX7_divide 5 = .ok (.if_icmp .ge 5, 3) := by decide +kernel
theorem dX7_divide_8 : decode cX7_divide 8 = .ok (.iconst 2, 1) := by decide +kernel
theorem dX7_divide_9 : decode cX7_divide 9 = .ok (.ireturn, 1) := by decide +kernel
theorem dX7_divide_10 : decode cX7_divide 10 = .ok (.aload_n 0, 1) := by decide +kernel
theorem dX7_divide_11 : decode cX7_divide 11 = .ok (.iconst 0, 1) := by decide +kernel
theorem dX7_divide_12 : decode cX7_divide 12 = .ok (.invokevirtual 41, 3) := by decide +kernel
theorem dX7_divide_15 : decode cX7_divide 15 = .ok (.lstore_n 1, 1) := by decide +kernel
theorem dX7_divide_16 : decode cX7_divide 16 = .ok (.lload_n 1, 1) := by decide +kernel
theorem dX7_divide_17 : decode cX7_divide 17 = .ok (.lconst 0, 1) := by decide +kernel
theorem dX7_divide_18 : decode cX7_divide 18 = .ok (.lcmp, 1) := by decide +kernel
theorem dX7_divide_19 : decode cX7_divide 19 = .ok (.ifCond .ne 6, 3) := by decide +kernel
theorem dX7_divide_22 : decode cX7_divide 22 = .ok (.bipush 9, 2) := by decide +kernel
theorem dX7_divide_24 : decode cX7_divide 24 = .ok (.ireturn, 1) := by decide +kernel
theorem dX7_divide_25 : decode cX7_divide 25 = .ok (.aload_n 0, 1) := by decide +kernel
theorem dX7_divide_26 : decode cX7_divide 26 = .ok (.iconst 2, 1) := by decide +kernel
theorem dX7_divide_27 : decode cX7_divide 27 = .ok (.aload_n 0, 1) := by decide +kernel
theorem dX7_divide_28 : decode cX7_divide 28 = .ok (.iconst 1, 1) := by decide +kernel
theorem dX7_divide_29 : decode cX7_divide 29 = .ok (.invokevirtual 41, 3) := by decide +kernel
theorem dX7_divide_32 : decode cX7_divide 32 = .ok (.ldc2_w 54, 3) := by decide +kernel
theorem dX7_divide_35 : decode cX7_divide 35 = .ok (.lmul, 1) := by decide +kernel
theorem dX7_divide_36 : decode cX7_divide 36 = .ok (.lload_n 1, 1) := by decide +kernel
theorem dX7_divide_37 : decode cX7_divide 37 = .ok (.ldiv, 1) := by decide +kernel
theorem dX7_divide_38 : decode cX7_divide 38 = .ok (.invokevirtual 56, 3) := by decide +kernel
theorem dX7_divide_41 : decode cX7_divide 41 = .ok (.ireturn, 1) := by decide +kernel
theorem dX7_drop_0 : decode cX7_drop 0 = .ok (.iload_n 1, 1) := by decide +kernel
theorem dX7_drop_1 : decode cX7_drop 1 = .ok (.ifCond .le 25, 3) := by decide +kernel
theorem dX7_drop_4 : decode cX7_drop 4 = .ok (.aload_n 0, 1) := by decide +kernel
theorem dX7_drop_5 : decode cX7_drop 5 = .ok (.iload_n 1, 1) := by decide +kernel
theorem dX7_drop_6 : decode cX7_drop 6 = .ok (.aload_n 0, 1) := by decide +kernel
theorem dX7_drop_7 : decode cX7_drop 7 = .ok (.getfield 18, 3) := by decide +kernel
theorem dX7_drop_10 : decode cX7_drop 10 = .ok (.if_icmp .ge 12, 3) := by decide +kernel
theorem dX7_drop_13 : decode cX7_drop 13 = .ok (.aload_n 0, 1) := by decide +kernel
theorem dX7_drop_14 : decode cX7_drop 14 = .ok (.getfield 18, 3) := by decide +kernel
theorem dX7_drop_17 : decode cX7_drop 17 = .ok (.iload_n 1, 1) := by decide +kernel
theorem dX7_drop_18 : decode cX7_drop 18 = .ok (.isub, 1) := by decide +kernel
theorem dX7_drop_19 : decode cX7_drop 19 = .ok (.goto 4, 3) := by decide +kernel
theorem dX7_drop_22 : decode cX7_drop 22 = .ok (.iconst 0, 1) := by decide +kernel
theorem dX7_drop_23 : decode cX7_drop 23 = .ok (.putfield 18, 3) := by decide +kernel
theorem dX7_drop_26 : decode cX7_drop 26 = .ok (.return_, 1) := by decide +kernel
theorem dX7_fetch_0 : decode cX7_fetch 0 = .ok (.lload_n 1, 1) := by decide +kernel
theorem dX7_fetch_1 : decode cX7_fetch 1 = .ok (.lconst 0, 1) := by decide +kernel
theorem dX7_fetch_2 : decode cX7_fetch 2 = .ok (.lcmp, 1) := by decide +kernel
theorem dX7_fetch_3 : decode cX7_fetch 3 = .ok (.ifCond .lt 11, 3) := by decide +kernel
theorem dX7_fetch_6 : decode cX7_fetch 6 = .ok (.lload_n 1, 1) := by decide +kernel
theorem dX7_fetch_7 : decode cX7_fetch 7 = .ok (.ldc2_w 97, 3) := by decide +kernel
theorem dX7_fetch_10 : decode cX7_fetch 10 = .ok (.lcmp, 1) := by decide +kernel
theorem dX7_fetch_11 : decode cX7_fetch 11 = .ok (.ifCond .lt 6, 3) := by decide +kernel
theorem dX7_fetch_14 : decode cX7_fetch 14 = .ok (.bipush 9, 2) := by decide +kernel
theorem dX7_fetch_16 : decode cX7_fetch 16 = .ok (.ireturn, 1) := by decide +kernel
theorem dX7_fetch_17 : decode cX7_fetch 17 = .ok (.aload_n 0, 1) := by decide +kernel
theorem dX7_fetch_18 : decode cX7_fetch 18 = .ok (.iconst 1, 1) := by decide +kernel
theorem dX7_fetch_19 : decode cX7_fetch 19 = .ok (.aload_n 0, 1) := by decide +kernel
theorem dX7_fetch_20 : decode cX7_fetch 20 = .ok (.getfield 15, 3) := by decide +kernel
theorem dX7_fetch_23 : decode cX7_fetch 23 = .ok (.lload_n 1, 1) := by decide +kernel
theorem dX7_fetch_24 : decode cX7_fetch 24 = .ok (.l2i, 1) := by decide +kernel
theorem dX7_fetch_25 : decode cX7_fetch 25 = .ok (.laload, 1) := by decide +kernel
theorem dX7_fetch_26 : decode cX7_fetch 26 = .ok (.invokevirtual 56, 3) := by decide +kernel
theorem dX7_fetch_29 : decode cX7_fetch 29 = .ok (.ireturn, 1) := by decide +kernel
theorem dX7_get_0 : decode cX7_get 0 = .ok (.iload_n 1, 1) := by decide +kernel
theorem dX7_get_1 : decode cX7_get 1 = .ok (.ifCond .lt 20, 3) := by decide +kernel
theorem dX7_get_4 : decode cX7_get 4 = .ok (.iload_n 1, 1) := by decide +kernel
theorem dX7_get_5 : decode cX7_get 5 = .ok (.aload_n 0, 1) := by decide +kernel
theorem dX7_get_6 : decode cX7_get 6 = .ok (.getfield 18, 3) := by decide +kernel
theorem dX7_get_9 : decode cX7_get 9 = .ok (.if_icmp .ge 12, 3) := by decide +kernel
theorem dX7_get_12 : decode cX7_get 12 = .ok (.aload_n 0, 1) := by decide +kernel
theorem dX7_get_13 : decode cX7_get 13 = .ok (.getfield 9, 3) := by decide +kernel
theorem dX7_get_16 : decode cX7_get 16 = .ok (.iload_n 1, 1) := by decide +kernel
theorem dX7_get_17 : decode cX7_get 17 = .ok (.laload, 1) := by decide +kernel
theorem dX7_get_18 : decode cX7_get 18 = .ok (.goto 4, 3) := by decide +kernel
theorem dX7_get_21 : decode cX7_get 21 = .ok (.lconst 0, 1) := by decide +kernel
theorem dX7_get_22 : decode cX7_get 22 = .ok (.lreturn, 1) := by decide +kernel
theorem dX7_keep_0 : decode cX7_keep 0 = .ok (.lload_n 3, 1) := by decide +kernel
theorem dX7_keep_1 : decode cX7_keep 1 = .ok (.lconst 0, 1) := by decide +kernel
theorem dX7_keep_2 : decode cX7_keep 2 = .ok (.lcmp, 1) := by decide +kernel
theorem dX7_keep_3 : decode cX7_keep 3 = .ok (.ifCond .lt 11, 3) := by decide +kernel
theorem dX7_keep_6 : decode cX7_keep 6 = .ok (.lload_n 3, 1) := by decide +kernel
theorem dX7_keep_7 : decode cX7_keep 7 = .ok (.ldc2_w 97, 3) := by decide +kernel
theorem dX7_keep_10 : decode cX7_keep 10 = .ok (.lcmp, 1) := by decide +kernel
theorem dX7_keep_11 : decode cX7_keep 11 = .ok (.ifCond .lt 6, 3) := by decide +kernel
theorem dX7_keep_14 : decode cX7_keep 14 = .ok (.bipush 9, 2) := by decide +kernel
theorem dX7_keep_16 : decode cX7_keep 16 = .ok (.ireturn, 1) := by decide +kernel
theorem dX7_keep_17 : decode cX7_keep 17 = .ok (.aload_n 0, 1) := by decide +kernel
theorem dX7_keep_18 : decode cX7_keep 18 = .ok (.getfield 15, 3) := by decide +kernel
theorem dX7_keep_21 : decode cX7_keep 21 = .ok (.lload_n 3, 1) := by decide +kernel
theorem dX7_keep_22 : decode cX7_keep 22 = .ok (.l2i, 1) := by decide +kernel
theorem dX7_keep_23 : decode cX7_keep 23 = .ok (.lload_n 1, 1) := by decide +kernel
theorem dX7_keep_24 : decode cX7_keep 24 = .ok (.lastore, 1) := by decide +kernel
theorem dX7_keep_25 : decode cX7_keep 25 = .ok (.aload_n 0, 1) := by decide +kernel
theorem dX7_keep_26 : decode cX7_keep 26 = .ok (.iconst 2, 1) := by decide +kernel
theorem dX7_keep_27 : decode cX7_keep 27 = .ok (.invokevirtual 46, 3) := by decide +kernel
theorem dX7_keep_30 : decode cX7_keep 30 = .ok (.iconst 0, 1) := by decide +kernel
theorem dX7_keep_31 : decode cX7_keep 31 = .ok (.ireturn, 1) := by decide +kernel
theorem dX7_pick_0 : decode cX7_pick 0 = .ok (.lconst 0, 1) := by decide +kernel
theorem dX7_pick_1 : decode cX7_pick 1 = .ok (.lload_n 1, 1) := by decide +kernel
theorem dX7_pick_2 : decode cX7_pick 2 = .ok (.ldc2_w 99, 3) := by decide +kernel
theorem dX7_pick_5 : decode cX7_pick 5 = .ok (.invokestatic 101, 3) := by decide +kernel
theorem dX7_pick_8 : decode cX7_pick 8 = .ok (.invokestatic 104, 3) := by decide +kernel
theorem dX7_pick_11 : decode cX7_pick 11 = .ok (.l2i, 1) := by decide +kernel
theorem dX7_pick_12 : decode cX7_pick 12 = .ok (.istore_n 3, 1) := by decide +kernel
theorem dX7_pick_13 : decode cX7_pick 13 = .ok (.iload_n 3, 1) := by decide +kernel
theorem dX7_pick_14 : decode cX7_pick 14 = .ok (.iconst 1, 1) := by decide +kernel
theorem dX7_pick_15 : decode cX7_pick 15 = .ok (.iadd, 1) := by decide +kernel
theorem dX7_pick_16 : decode cX7_pick 16 = .ok (.aload_n 0, 1) := by decide +kernel
theorem dX7_pick_17 : decode cX7_pick 17 = .ok (.getfield 18, 3) := by decide +kernel
theorem dX7_pick_20 : decode cX7_pick 20 = .ok (.if_icmp .lt 8, 3) := by decide +kernel
theorem dX7_pick_23 : decode cX7_pick 23 = .ok (.bipush 9, 2) := by decide +kernel
theorem dX7_pick_25 : decode cX7_pick 25 = .ok (.goto 15, 3) := by decide +kernel
theorem dX7_pick_28 : decode cX7_pick 28 = .ok (.aload_n 0, 1) := by decide +kernel
theorem dX7_pick_29 : decode cX7_pick 29 = .ok (.iconst 1, 1) := by decide +kernel
theorem dX7_pick_30 : decode cX7_pick 30 = .ok (.aload_n 0, 1) := by decide +kernel
theorem dX7_pick_31 : decode cX7_pick 31 = .ok (.iload_n 3, 1) := by decide +kernel
theorem dX7_pick_32 : decode cX7_pick 32 = .ok (.iconst 1, 1) := by decide +kernel
theorem dX7_pick_33 : decode cX7_pick 33 = .ok (.iadd, 1) := by decide +kernel
theorem dX7_pick_34 : decode cX7_pick 34 = .ok (.invokevirtual 41, 3) := by decide +kernel
theorem dX7_pick_37 : decode cX7_pick 37 = .ok (.invokevirtual 56, 3) := by decide +kernel
theorem dX7_pick_40 : decode cX7_pick 40 = .ok (.ireturn, 1) := by decide +kernel
theorem dX7_push_0 : decode cX7_push 0 = .ok (.aload_n 0, 1) := by decide +kernel
theorem dX7_push_1 : decode cX7_push 1 = .ok (.getfield 18, 3) := by decide +kernel
theorem dX7_push_4 : decode cX7_push 4 = .ok (.aload_n 0, 1) := by decide +kernel
theorem dX7_push_5 : decode cX7_push 5 = .ok (.getfield 22, 3) := by decide +kernel
theorem dX7_push_8 : decode cX7_push 8 = .ok (.if_icmp .lt 5, 3) := by decide +kernel
theorem dX7_push_11 : decode cX7_push 11 = .ok (.iconst 3, 1) := by decide +kernel
theorem dX7_push_12 : decode cX7_push 12 = .ok (.ireturn, 1) := by decide +kernel
theorem dX7_push_13 : decode cX7_push 13 = .ok (.aload_n 0, 1) := by decide +kernel
theorem dX7_push_14 : decode cX7_push 14 = .ok (.getfield 9, 3) := by decide +kernel
theorem dX7_push_17 : decode cX7_push 17 = .ok (.aload_n 0, 1) := by decide +kernel
theorem dX7_push_18 : decode cX7_push 18 = .ok (.getfield 18, 3) := by decide +kernel
theorem dX7_push_21 : decode cX7_push 21 = .ok (.lload_n 1, 1) := by decide +kernel
theorem dX7_push_22 : decode cX7_push 22 = .ok (.lastore, 1) := by decide +kernel
theorem dX7_push_23 : decode cX7_push 23 = .ok (.aload_n 0, 1) := by decide +kernel
theorem dX7_push_24 : decode cX7_push 24 = .ok (.dup, 1) := by decide +kernel
theorem dX7_push_25 : decode cX7_push 25 = .ok (.getfield 18, 3) := by decide +kernel
theorem dX7_push_28 : decode cX7_push 28 = .ok (.iconst 1, 1) := by decide +kernel
theorem dX7_push_29 : decode cX7_push 29 = .ok (.iadd, 1) := by decide +kernel
theorem dX7_push_30 : decode cX7_push 30 = .ok (.putfield 18, 3) := by decide +kernel
theorem dX7_push_33 : decode cX7_push 33 = .ok (.iconst 0, 1) := by decide +kernel
theorem dX7_push_34 : decode cX7_push 34 = .ok (.ireturn, 1) := by decide +kernel
theorem dX7_reckon_0 : decode cX7_reckon 0 = .ok (.iload_n 1, 1) := by decide +kernel
theorem dX7_reckon_1 : decode cX7_reckon 1 = .ok (.invokestatic 60, 3) := by decide +kernel
theorem dX7_reckon_4 : decode cX7_reckon 4 = .ok (.istore_n 2, 1) := by decide +kernel
theorem dX7_reckon_5 : decode cX7_reckon 5 = .ok (.iload_n 2, 1) := by decide +kernel
theorem dX7_reckon_6 : decode cX7_reckon 6 = .ok (.iconst (-1), 1) := by decide +kernel
theorem dX7_reckon_7 : decode cX7_reckon 7 = .ok (.if_icmp .ne 5, 3) := by decide +kernel
theorem dX7_reckon_10 : decode cX7_reckon 10 = .ok (.iconst 1, 1) := by decide +kernel
theorem dX7_reckon_11 : decode cX7_reckon 11 = .ok (.ireturn, 1) := by decide +kernel
theorem dX7_reckon_12 : decode cX7_reckon 12 = .ok (.aload_n 0, 1) := by decide +kernel
theorem dX7_reckon_13 : decode cX7_reckon 13 = .ok (.getfield 18, 3) := by decide +kernel
theorem dX7_reckon_16 : decode cX7_reckon 16 = .ok (.iload_n 2, 1) := by decide +kernel
theorem dX7_reckon_17 : decode cX7_reckon 17 = .ok (.if_icmp .ge 5, 3) := by decide +kernel
theorem dX7_reckon_20 : decode cX7_reckon 20 = .ok (.iconst 2, 1) := by decide +kernel
theorem dX7_reckon_21 : decode cX7_reckon 21 = .ok (.ireturn, 1) := by decide +kernel
theorem dX7_reckon_22 : decode cX7_reckon 22 = .ok (.iload_n 2, 1) := by decide +kernel
theorem dX7_reckon_23 : decode cX7_reckon 23 = .ok (.lookupswitch 37 #[(1, 25), (2, 31)], 25) := by decide +kernel
theorem dX7_reckon_48 : decode cX7_reckon 48 = .ok (.aload_n 0, 1) := by decide +kernel
theorem dX7_reckon_49 : decode cX7_reckon 49 = .ok (.iload_n 1, 1) := by decide +kernel
theorem dX7_reckon_50 : decode cX7_reckon 50 = .ok (.invokevirtual 64, 3) := by decide +kernel
theorem dX7_reckon_53 : decode cX7_reckon 53 = .ok (.ireturn, 1) := by decide +kernel
theorem dX7_reckon_54 : decode cX7_reckon 54 = .ok (.aload_n 0, 1) := by decide +kernel
theorem dX7_reckon_55 : decode cX7_reckon 55 = .ok (.iload_n 1, 1) := by decide +kernel
theorem dX7_reckon_56 : decode cX7_reckon 56 = .ok (.invokevirtual 67, 3) := by decide +kernel
theorem dX7_reckon_59 : decode cX7_reckon 59 = .ok (.ireturn, 1) := by decide +kernel
theorem dX7_reckon_60 : decode cX7_reckon 60 = .ok (.aload_n 0, 1) := by decide +kernel
theorem dX7_reckon_61 : decode cX7_reckon 61 = .ok (.iconst 4, 1) := by decide +kernel
theorem dX7_reckon_62 : decode cX7_reckon 62 = .ok (.aload_n 0, 1) := by decide +kernel
theorem dX7_reckon_63 : decode cX7_reckon 63 = .ok (.iconst 1, 1) := by decide +kernel
theorem dX7_reckon_64 : decode cX7_reckon 64 = .ok (.invokevirtual 41, 3) := by decide +kernel
theorem dX7_reckon_67 : decode cX7_reckon 67 = .ok (.aload_n 0, 1) := by decide +kernel
theorem dX7_reckon_68 : decode cX7_reckon 68 = .ok (.iconst 0, 1) := by decide +kernel
theorem dX7_reckon_69 : decode cX7_reckon 69 = .ok (.invokevirtual 41, 3) := by decide +kernel
theorem dX7_reckon_72 : decode cX7_reckon 72 = .ok (.lcmp, 1) := by decide +kernel
theorem dX7_reckon_73 : decode cX7_reckon 73 = .ok (.ifCond .gt 11, 3) := by decide +kernel
theorem dX7_reckon_76 : decode cX7_reckon 76 = .ok (.aload_n 0, 1) := by decide +kernel
theorem dX7_reckon_77 : decode cX7_reckon 77 = .ok (.iconst 3, 1) := by decide +kernel
theorem dX7_reckon_78 : decode cX7_reckon 78 = .ok (.invokevirtual 41, 3) := by decide +kernel
theorem dX7_reckon_81 : decode cX7_reckon 81 = .ok (.goto 8, 3) := by decide +kernel
theorem dX7_reckon_84 : decode cX7_reckon 84 = .ok (.aload_n 0, 1) := by decide +kernel
theorem dX7_reckon_85 : decode cX7_reckon 85 = .ok (.iconst 2, 1) := by decide +kernel
theorem dX7_reckon_86 : decode cX7_reckon 86 = .ok (.invokevirtual 41, 3) := by decide +kernel
theorem dX7_reckon_89 : decode cX7_reckon 89 = .ok (.invokevirtual 56, 3) := by decide +kernel
theorem dX7_reckon_92 : decode cX7_reckon 92 = .ok (.ireturn, 1) := by decide +kernel
theorem dX7_reckonOne_0 : decode cX7_reckonOne 0 = .ok (.aload_n 0, 1) := by decide +kernel
theorem dX7_reckonOne_1 : decode cX7_reckonOne 1 = .ok (.iconst 0, 1) := by decide +kernel
theorem dX7_reckonOne_2 : decode cX7_reckonOne 2 = .ok (.invokevirtual 41, 3) := by decide +kernel
theorem dX7_reckonOne_5 : decode cX7_reckonOne 5 = .ok (.lstore_n 2, 1) := by decide +kernel
theorem dX7_reckonOne_6 : decode cX7_reckonOne 6 = .ok (.iload_n 1, 1) := by decide +kernel
theorem dX7_reckonOne_7 : decode cX7_reckonOne 7 = .ok (.tableswitch 195 5 27 #[105, 195, 195, 195, 125, 195, 195, 195, 195, 137, 195, 195, 195, 147, 195, 195, 154, 195, 195, 195, 195, 164, 189], 105) := by decide +kernel
theorem dX7_reckonOne_112 : decode cX7_reckonOne 112 = .ok (.aload_n 0, 1) := by decide +kernel
theorem dX7_reckonOne_113 : decode cX7_reckonOne 113 = .ok (.iconst 1, 1) := by decide +kernel
theorem dX7_reckonOne_114 : decode cX7_reckonOne 114 = .ok (.lload_n 2, 1) := by decide +kernel
theorem dX7_reckonOne_115 : decode cX7_reckonOne 115 = .ok (.lconst 0, 1) := by decide +kernel
theorem dX7_reckonOne_116 : decode cX7_reckonOne 116 = .ok (.lcmp, 1) := by decide +kernel
theorem dX7_reckonOne_117 : decode cX7_reckonOne 117 = .ok (.ifCond .ne 7, 3) := by decide +kernel
theorem dX7_reckonOne_120 : decode cX7_reckonOne 120 = .ok (.iconst 1, 1) := by decide +kernel
theorem dX7_reckonOne_121 : decode cX7_reckonOne 121 = .ok (.goto 4, 3) := by decide +kernel
theorem dX7_reckonOne_124 : decode cX7_reckonOne 124 = .ok (.iconst 0, 1) := by decide +kernel
theorem dX7_reckonOne_125 : decode cX7_reckonOne 125 = .ok (.invokestatic 70, 3) := by decide +kernel
theorem dX7_reckonOne_128 : decode cX7_reckonOne 128 = .ok (.invokevirtual 56, 3) := by decide +kernel
theorem dX7_reckonOne_131 : decode cX7_reckonOne 131 = .ok (.ireturn, 1) := by decide +kernel
theorem dX7_reckonOne_132 : decode cX7_reckonOne 132 = .ok (.aload_n 0, 1) := by decide +kernel
theorem dX7_reckonOne_133 : decode cX7_reckonOne 133 = .ok (.iconst 1, 1) := by decide +kernel
theorem dX7_reckonOne_134 : decode cX7_reckonOne 134 = .ok (.lload_n 2, 1) := by decide +kernel
theorem dX7_reckonOne_135 : decode cX7_reckonOne 135 = .ok (.invokestatic 74, 3) := by decide +kernel
theorem dX7_reckonOne_138 : decode cX7_reckonOne 138 = .ok (.l2i, 1) := by decide +kernel
theorem dX7_reckonOne_139 : decode cX7_reckonOne 139 = .ok (.i2l, 1) := by decide +kernel
theorem dX7_reckonOne_140 : decode cX7_reckonOne 140 = .ok (.invokevirtual 56, 3) := by decide +kernel
theorem dX7_reckonOne_143 : decode cX7_reckonOne 143 = .ok (.ireturn, 1) := by decide +kernel
theorem dX7_reckonOne_144 : decode cX7_reckonOne 144 = .ok (.aload_n 0, 1) := by decide +kernel
theorem dX7_reckonOne_145 : decode cX7_reckonOne 145 = .ok (.iconst 1, 1) := by decide +kernel
theorem dX7_reckonOne_146 : decode cX7_reckonOne 146 = .ok (.lload_n 2, 1) := by decide +kernel
theorem dX7_reckonOne_147 : decode cX7_reckonOne 147 = .ok (.lneg, 1) := by decide +kernel
theorem dX7_reckonOne_148 : decode cX7_reckonOne 148 = .ok (.l2i, 1) := by decide +kernel
theorem dX7_reckonOne_149 : decode cX7_reckonOne 149 = .ok (.i2l, 1) := by decide +kernel
theorem dX7_reckonOne_150 : decode cX7_reckonOne 150 = .ok (.invokevirtual 56, 3) := by decide +kernel
theorem dX7_reckonOne_153 : decode cX7_reckonOne 153 = .ok (.ireturn, 1) := by decide +kernel
theorem dX7_reckonOne_154 : decode cX7_reckonOne 154 = .ok (.aload_n 0, 1) := by decide +kernel
theorem dX7_reckonOne_155 : decode cX7_reckonOne 155 = .ok (.iconst 1, 1) := by decide +kernel
theorem dX7_reckonOne_156 : decode cX7_reckonOne 156 = .ok (.invokevirtual 46, 3) := by decide +kernel
theorem dX7_reckonOne_159 : decode cX7_reckonOne 159 = .ok (.iconst 0, 1) := by decide +kernel
theorem dX7_reckonOne_160 : decode cX7_reckonOne 160 = .ok (.ireturn, 1) := by decide +kernel
theorem dX7_reckonOne_161 : decode cX7_reckonOne 161 = .ok (.aload_n 0, 1) := by decide +kernel
theorem dX7_reckonOne_162 : decode cX7_reckonOne 162 = .ok (.aload_n 0, 1) := by decide +kernel
theorem dX7_reckonOne_163 : decode cX7_reckonOne 163 = .ok (.iconst 0, 1) := by decide +kernel
theorem dX7_reckonOne_164 : decode cX7_reckonOne 164 = .ok (.invokevirtual 78, 3) := by decide +kernel
theorem dX7_reckonOne_167 : decode cX7_reckonOne 167 = .ok (.invokevirtual 81, 3) := by decide +kernel
theorem dX7_reckonOne_170 : decode cX7_reckonOne 170 = .ok (.ireturn, 1) := by decide +kernel
theorem dX7_reckonOne_171 : decode cX7_reckonOne 171 = .ok (.lload_n 2, 1) := by decide +kernel
theorem dX7_reckonOne_172 : decode cX7_reckonOne 172 = .ok (.lconst 0, 1) := by decide +kernel
theorem dX7_reckonOne_173 : decode cX7_reckonOne 173 = .ok (.lcmp, 1) := by decide +kernel
theorem dX7_reckonOne_174 : decode cX7_reckonOne 174 = .ok (.ifCond .ge 8, 3) := by decide +kernel
theorem dX7_reckonOne_177 : decode cX7_reckonOne 177 = .ok (.bipush 9, 2) := by decide +kernel
theorem dX7_reckonOne_179 : decode cX7_reckonOne 179 = .ok (.goto 16, 3) := by decide +kernel
theorem dX7_reckonOne_182 : decode cX7_reckonOne 182 = .ok (.aload_n 0, 1) := by decide +kernel
theorem dX7_reckonOne_183 : decode cX7_reckonOne 183 = .ok (.iconst 1, 1) := by decide +kernel
theorem dX7_reckonOne_184 : decode cX7_reckonOne 184 = .ok (.lload_n 2, 1) := by decide +kernel
theorem dX7_reckonOne_185 : decode cX7_reckonOne 185 = .ok (.ldc2_w 54, 3) := by decide +kernel
theorem dX7_reckonOne_188 : decode cX7_reckonOne 188 = .ok (.lmul, 1) := by decide +kernel
theorem dX7_reckonOne_189 : decode cX7_reckonOne 189 = .ok (.invokestatic 84, 3) := by decide +kernel
theorem dX7_reckonOne_192 : decode cX7_reckonOne 192 = .ok (.invokevirtual 56, 3) := by decide +kernel
theorem dX7_reckonOne_195 : decode cX7_reckonOne 195 = .ok (.ireturn, 1) := by decide +kernel
theorem dX7_reckonOne_196 : decode cX7_reckonOne 196 = .ok (.aload_n 0, 1) := by decide +kernel
theorem dX7_reckonOne_197 : decode cX7_reckonOne 197 = .ok (.lload_n 2, 1) := by decide +kernel
theorem dX7_reckonOne_198 : decode cX7_reckonOne 198 = .ok (.invokevirtual 50, 3) := by decide +kernel
theorem dX7_reckonOne_201 : decode cX7_reckonOne 201 = .ok (.ireturn, 1) := by decide +kernel
theorem dX7_reckonOne_202 : decode cX7_reckonOne 202 = .ok (.aload_n 0, 1) := by decide +kernel
theorem dX7_reckonOne_203 : decode cX7_reckonOne 203 = .ok (.aload_n 0, 1) := by decide +kernel
theorem dX7_reckonOne_204 : decode cX7_reckonOne 204 = .ok (.iconst 0, 1) := by decide +kernel
theorem dX7_reckonOne_205 : decode cX7_reckonOne 205 = .ok (.invokevirtual 78, 3) := by decide +kernel
theorem dX7_reckonOne_208 : decode cX7_reckonOne 208 = .ok (.invokevirtual 87, 3) := by decide +kernel
theorem dX7_reckonOne_211 : decode cX7_reckonOne 211 = .ok (.ireturn, 1) := by decide +kernel
theorem dX7_reckonTwo_0 : decode cX7_reckonTwo 0 = .ok (.aload_n 0, 1) := by decide +kernel
theorem dX7_reckonTwo_1 : decode cX7_reckonTwo 1 = .ok (.iconst 1, 1) := by decide +kernel
theorem dX7_reckonTwo_2 : decode cX7_reckonTwo 2 = .ok (.invokevirtual 41, 3) := by decide +kernel
theorem dX7_reckonTwo_5 : decode cX7_reckonTwo 5 = .ok (.lstore_n 2, 1) := by decide +kernel
theorem dX7_reckonTwo_6 : decode cX7_reckonTwo 6 = .ok (.aload_n 0, 1) := by decide +kernel
theorem dX7_reckonTwo_7 : decode cX7_reckonTwo 7 = .ok (.iconst 0, 1) := by decide +kernel
theorem dX7_reckonTwo_8 : decode cX7_reckonTwo 8 = .ok (.invokevirtual 41, 3) := by decide +kernel
theorem dX7_reckonTwo_11 : decode cX7_reckonTwo 11 = .ok (.lstore 4, 2) := by decide +kernel
theorem dX7_reckonTwo_13 : decode cX7_reckonTwo 13 = .ok (.iload_n 1, 1) := by decide +kernel
theorem dX7_reckonTwo_14 : decode cX7_reckonTwo 14 = .ok (.tableswitch 286 3 28 #[118, 145, 286, 286, 286, 286, 286, 172, 184, 196, 286, 286, 224, 286, 286, 286, 286, 245, 286, 286, 286, 256, 286, 286, 286, 272], 118) := by decide +kernel
theorem dX7_reckonTwo_132 : decode cX7_reckonTwo 132 = .ok (.aload_n 0, 1) := by decide +kernel
theorem dX7_reckonTwo_133 : decode cX7_reckonTwo 133 = .ok (.iconst 2, 1) := by decide +kernel
theorem dX7_reckonTwo_134 : decode cX7_reckonTwo 134 = .ok (.lload_n 2, 1) := by decide +kernel
theorem dX7_reckonTwo_135 : decode cX7_reckonTwo 135 = .ok (.lconst 0, 1) := by decide +kernel
theorem dX7_reckonTwo_136 : decode cX7_reckonTwo 136 = .ok (.lcmp, 1) := by decide +kernel
theorem dX7_reckonTwo_137 : decode cX7_reckonTwo 137 = .ok (.ifCond .eq 14, 3) := by decide +kernel
theorem dX7_reckonTwo_140 : decode cX7_reckonTwo 140 = .ok (.lload 4, 2) := by decide +kernel
theorem dX7_reckonTwo_142 : decode cX7_reckonTwo 142 = .ok (.lconst 0, 1) := by decide +kernel
theorem dX7_reckonTwo_143 : decode cX7_reckonTwo 143 = .ok (.lcmp, 1) := by decide +kernel
theorem dX7_reckonTwo_144 : decode cX7_reckonTwo 144 = .ok (.ifCond .eq 7, 3) := by decide +kernel
theorem dX7_reckonTwo_147 : decode cX7_reckonTwo 147 = .ok (.iconst 1, 1) := by decide +kernel
theorem dX7_reckonTwo_148 : decode cX7_reckonTwo 148 = .ok (.goto 4, 3) := by decide +kernel
theorem dX7_reckonTwo_151 : decode cX7_reckonTwo 151 = .ok (.iconst 0, 1) := by decide +kernel
theorem dX7_reckonTwo_152 : decode cX7_reckonTwo 152 = .ok (.invokestatic 70, 3) := by decide +kernel
theorem dX7_reckonTwo_155 : decode cX7_reckonTwo 155 = .ok (.invokevirtual 56, 3) := by decide +kernel
theorem dX7_reckonTwo_158 : decode cX7_reckonTwo 158 = .ok (.ireturn, 1) := by decide +kernel
theorem dX7_reckonTwo_159 : decode cX7_reckonTwo 159 = .ok (.aload_n 0, 1) := by decide +kernel
theorem dX7_reckonTwo_160 : decode cX7_reckonTwo 160 = .ok (.iconst 2, 1) := by decide +kernel
theorem dX7_reckonTwo_161 : decode cX7_reckonTwo 161 = .ok (.lload_n 2, 1) := by decide +kernel
theorem dX7_reckonTwo_162 : decode cX7_reckonTwo 162 = .ok (.lconst 0, 1) := by decide +kernel
theorem dX7_reckonTwo_163 : decode cX7_reckonTwo 163 = .ok (.lcmp, 1) := by decide +kernel
theorem dX7_reckonTwo_164 : decode cX7_reckonTwo 164 = .ok (.ifCond .ne 10, 3) := by decide +kernel
theorem dX7_reckonTwo_167 : decode cX7_reckonTwo 167 = .ok (.lload 4, 2) := by decide +kernel
theorem dX7_reckonTwo_169 : decode cX7_reckonTwo 169 = .ok (.lconst 0, 1) := by decide +kernel
theorem dX7_reckonTwo_170 : decode cX7_reckonTwo 170 = .ok (.lcmp, 1) := by decide +kernel
theorem dX7_reckonTwo_171 : decode cX7_reckonTwo 171 = .ok (.ifCond .eq 7, 3) := by decide +kernel
theorem dX7_reckonTwo_174 : decode cX7_reckonTwo 174 = .ok (.iconst 1, 1) := by decide +kernel
theorem dX7_reckonTwo_175 : decode cX7_reckonTwo 175 = .ok (.goto 4, 3) := by decide +kernel
theorem dX7_reckonTwo_178 : decode cX7_reckonTwo 178 = .ok (.iconst 0, 1) := by decide +kernel
theorem dX7_reckonTwo_179 : decode cX7_reckonTwo 179 = .ok (.invokestatic 70, 3) := by decide +kernel
theorem dX7_reckonTwo_182 : decode cX7_reckonTwo 182 = .ok (.invokevirtual 56, 3) := by decide +kernel
theorem dX7_reckonTwo_185 : decode cX7_reckonTwo 185 = .ok (.ireturn, 1) := by decide +kernel
theorem dX7_reckonTwo_186 : decode cX7_reckonTwo 186 = .ok (.aload_n 0, 1) := by decide +kernel
theorem dX7_reckonTwo_187 : decode cX7_reckonTwo 187 = .ok (.iconst 2, 1) := by decide +kernel
theorem dX7_reckonTwo_188 : decode cX7_reckonTwo 188 = .ok (.lload_n 2, 1) := by decide +kernel
theorem dX7_reckonTwo_189 : decode cX7_reckonTwo 189 = .ok (.lload 4, 2) := by decide +kernel
theorem dX7_reckonTwo_191 : decode cX7_reckonTwo 191 = .ok (.ladd, 1) := by decide +kernel
theorem dX7_reckonTwo_192 : decode cX7_reckonTwo 192 = .ok (.l2i, 1) := by decide +kernel
theorem dX7_reckonTwo_193 : decode cX7_reckonTwo 193 = .ok (.i2l, 1) := by decide +kernel
theorem dX7_reckonTwo_194 : decode cX7_reckonTwo 194 = .ok (.invokevirtual 56, 3) := by decide +kernel
theorem dX7_reckonTwo_197 : decode cX7_reckonTwo 197 = .ok (.ireturn, 1) := by decide +kernel
theorem dX7_reckonTwo_198 : decode cX7_reckonTwo 198 = .ok (.aload_n 0, 1) := by decide +kernel
theorem dX7_reckonTwo_199 : decode cX7_reckonTwo 199 = .ok (.iconst 2, 1) := by decide +kernel
theorem dX7_reckonTwo_200 : decode cX7_reckonTwo 200 = .ok (.lload_n 2, 1) := by decide +kernel
theorem dX7_reckonTwo_201 : decode cX7_reckonTwo 201 = .ok (.lload 4, 2) := by decide +kernel
theorem dX7_reckonTwo_203 : decode cX7_reckonTwo 203 = .ok (.lsub, 1) := by decide +kernel
theorem dX7_reckonTwo_204 : decode cX7_reckonTwo 204 = .ok (.l2i, 1) := by decide +kernel
theorem dX7_reckonTwo_205 : decode cX7_reckonTwo 205 = .ok (.i2l, 1) := by decide +kernel
theorem dX7_reckonTwo_206 : decode cX7_reckonTwo 206 = .ok (.invokevirtual 56, 3) := by decide +kernel
theorem dX7_reckonTwo_209 : decode cX7_reckonTwo 209 = .ok (.ireturn, 1) := by decide +kernel
theorem dX7_reckonTwo_210 : decode cX7_reckonTwo 210 = .ok (.lload 4, 2) := by decide +kernel
theorem dX7_reckonTwo_212 : decode cX7_reckonTwo 212 = .ok (.lconst 0, 1) := by decide +kernel
theorem dX7_reckonTwo_213 : decode cX7_reckonTwo 213 = .ok (.lcmp, 1) := by decide +kernel
theorem dX7_reckonTwo_214 : decode cX7_reckonTwo 214 = .ok (.ifCond .ne 8, 3) := by decide +kernel
theorem dX7_reckonTwo_217 : decode cX7_reckonTwo 217 = .ok (.bipush 9, 2) := by decide +kernel
theorem dX7_reckonTwo_219 : decode cX7_reckonTwo 219 = .ok (.goto 18, 3) := by decide +kernel
theorem dX7_reckonTwo_222 : decode cX7_reckonTwo 222 = .ok (.aload_n 0, 1) := by decide +kernel
theorem dX7_reckonTwo_223 : decode cX7_reckonTwo 223 = .ok (.iconst 2, 1) := by decide +kernel
theorem dX7_reckonTwo_224 : decode cX7_reckonTwo 224 = .ok (.lload_n 2, 1) := by decide +kernel
theorem dX7_reckonTwo_225 : decode cX7_reckonTwo 225 = .ok (.ldc2_w 54, 3) := by decide +kernel
theorem dX7_reckonTwo_228 : decode cX7_reckonTwo 228 = .ok (.lmul, 1) := by decide +kernel
theorem dX7_reckonTwo_229 : decode cX7_reckonTwo 229 = .ok (.lload 4, 2) := by decide +kernel
theorem dX7_reckonTwo_231 : decode cX7_reckonTwo 231 = .ok (.ldiv, 1) := by decide +kernel
theorem dX7_reckonTwo_232 : decode cX7_reckonTwo 232 = .ok (.l2i, 1) := by decide +kernel
theorem dX7_reckonTwo_233 : decode cX7_reckonTwo 233 = .ok (.i2l, 1) := by decide +kernel
theorem dX7_reckonTwo_234 : decode cX7_reckonTwo 234 = .ok (.invokevirtual 56, 3) := by decide +kernel
theorem dX7_reckonTwo_237 : decode cX7_reckonTwo 237 = .ok (.ireturn, 1) := by decide +kernel
theorem dX7_reckonTwo_238 : decode cX7_reckonTwo 238 = .ok (.aload_n 0, 1) := by decide +kernel
theorem dX7_reckonTwo_239 : decode cX7_reckonTwo 239 = .ok (.iconst 2, 1) := by decide +kernel
theorem dX7_reckonTwo_240 : decode cX7_reckonTwo 240 = .ok (.lload_n 2, 1) := by decide +kernel
theorem dX7_reckonTwo_241 : decode cX7_reckonTwo 241 = .ok (.lload 4, 2) := by decide +kernel
theorem dX7_reckonTwo_243 : decode cX7_reckonTwo 243 = .ok (.lcmp, 1) := by decide +kernel
theorem dX7_reckonTwo_244 : decode cX7_reckonTwo 244 = .ok (.ifCond .ne 7, 3) := by decide +kernel
theorem dX7_reckonTwo_247 : decode cX7_reckonTwo 247 = .ok (.iconst 1, 1) := by decide +kernel
theorem dX7_reckonTwo_248 : decode cX7_reckonTwo 248 = .ok (.goto 4, 3) := by decide +kernel
theorem dX7_reckonTwo_251 : decode cX7_reckonTwo 251 = .ok (.iconst 0, 1) := by decide +kernel
theorem dX7_reckonTwo_252 : decode cX7_reckonTwo 252 = .ok (.invokestatic 70, 3) := by decide +kernel
theorem dX7_reckonTwo_255 : decode cX7_reckonTwo 255 = .ok (.invokevirtual 56, 3) := by decide +kernel
theorem dX7_reckonTwo_258 : decode cX7_reckonTwo 258 = .ok (.ireturn, 1) := by decide +kernel
theorem dX7_reckonTwo_259 : decode cX7_reckonTwo 259 = .ok (.aload_n 0, 1) := by decide +kernel
theorem dX7_reckonTwo_260 : decode cX7_reckonTwo 260 = .ok (.lload_n 2, 1) := by decide +kernel
theorem dX7_reckonTwo_261 : decode cX7_reckonTwo 261 = .ok (.aload_n 0, 1) := by decide +kernel
theorem dX7_reckonTwo_262 : decode cX7_reckonTwo 262 = .ok (.iconst 0, 1) := by decide +kernel
theorem dX7_reckonTwo_263 : decode cX7_reckonTwo 263 = .ok (.invokevirtual 78, 3) := by decide +kernel
theorem dX7_reckonTwo_266 : decode cX7_reckonTwo 266 = .ok (.invokevirtual 90, 3) := by decide +kernel
theorem dX7_reckonTwo_269 : decode cX7_reckonTwo 269 = .ok (.ireturn, 1) := by decide +kernel
theorem dX7_reckonTwo_270 : decode cX7_reckonTwo 270 = .ok (.aload_n 0, 1) := by decide +kernel
theorem dX7_reckonTwo_271 : decode cX7_reckonTwo 271 = .ok (.iconst 2, 1) := by decide +kernel
theorem dX7_reckonTwo_272 : decode cX7_reckonTwo 272 = .ok (.lload_n 2, 1) := by decide +kernel
theorem dX7_reckonTwo_273 : decode cX7_reckonTwo 273 = .ok (.lload 4, 2) := by decide +kernel
theorem dX7_reckonTwo_275 : decode cX7_reckonTwo 275 = .ok (.lmul, 1) := by decide +kernel
theorem dX7_reckonTwo_276 : decode cX7_reckonTwo 276 = .ok (.ldc2_w 54, 3) := by decide +kernel
theorem dX7_reckonTwo_279 : decode cX7_reckonTwo 279 = .ok (.ldiv, 1) := by decide +kernel
theorem dX7_reckonTwo_280 : decode cX7_reckonTwo 280 = .ok (.l2i, 1) := by decide +kernel
theorem dX7_reckonTwo_281 : decode cX7_reckonTwo 281 = .ok (.i2l, 1) := by decide +kernel
theorem dX7_reckonTwo_282 : decode cX7_reckonTwo 282 = .ok (.invokevirtual 56, 3) := by decide +kernel
theorem dX7_reckonTwo_285 : decode cX7_reckonTwo 285 = .ok (.ireturn, 1) := by decide +kernel
theorem dX7_reckonTwo_286 : decode cX7_reckonTwo 286 = .ok (.aload_n 0, 1) := by decide +kernel
theorem dX7_reckonTwo_287 : decode cX7_reckonTwo 287 = .ok (.iconst 2, 1) := by decide +kernel
theorem dX7_reckonTwo_288 : decode cX7_reckonTwo 288 = .ok (.lload 4, 2) := by decide +kernel
theorem dX7_reckonTwo_290 : decode cX7_reckonTwo 290 = .ok (.invokevirtual 56, 3) := by decide +kernel
theorem dX7_reckonTwo_293 : decode cX7_reckonTwo 293 = .ok (.pop, 1) := by decide +kernel
theorem dX7_reckonTwo_294 : decode cX7_reckonTwo 294 = .ok (.aload_n 0, 1) := by decide +kernel
theorem dX7_reckonTwo_295 : decode cX7_reckonTwo 295 = .ok (.lload_n 2, 1) := by decide +kernel
theorem dX7_reckonTwo_296 : decode cX7_reckonTwo 296 = .ok (.invokevirtual 50, 3) := by decide +kernel
theorem dX7_reckonTwo_299 : decode cX7_reckonTwo 299 = .ok (.ireturn, 1) := by decide +kernel
theorem dX7_reckonTwo_300 : decode cX7_reckonTwo 300 = .ok (.aload_n 0, 1) := by decide +kernel
theorem dX7_reckonTwo_301 : decode cX7_reckonTwo 301 = .ok (.aload_n 0, 1) := by decide +kernel
theorem dX7_reckonTwo_302 : decode cX7_reckonTwo 302 = .ok (.iconst 1, 1) := by decide +kernel
theorem dX7_reckonTwo_303 : decode cX7_reckonTwo 303 = .ok (.invokevirtual 78, 3) := by decide +kernel
theorem dX7_reckonTwo_306 : decode cX7_reckonTwo 306 = .ok (.aload_n 0, 1) := by decide +kernel
theorem dX7_reckonTwo_307 : decode cX7_reckonTwo 307 = .ok (.iconst 0, 1) := by decide +kernel
theorem dX7_reckonTwo_308 : decode cX7_reckonTwo 308 = .ok (.invokevirtual 78, 3) := by decide +kernel
theorem dX7_reckonTwo_311 : decode cX7_reckonTwo 311 = .ok (.invokevirtual 94, 3) := by decide +kernel
theorem dX7_reckonTwo_314 : decode cX7_reckonTwo 314 = .ok (.ireturn, 1) := by decide +kernel
theorem dX7_replace_0 : decode cX7_replace 0 = .ok (.aload_n 0, 1) := by decide +kernel
theorem dX7_replace_1 : decode cX7_replace 1 = .ok (.iload_n 1, 1) := by decide +kernel
theorem dX7_replace_2 : decode cX7_replace 2 = .ok (.invokevirtual 46, 3) := by decide +kernel
theorem dX7_replace_5 : decode cX7_replace 5 = .ok (.aload_n 0, 1) := by decide +kernel
theorem dX7_replace_6 : decode cX7_replace 6 = .ok (.lload_n 2, 1) := by decide +kernel
theorem dX7_replace_7 : decode cX7_replace 7 = .ok (.invokevirtual 50, 3) := by decide +kernel
theorem dX7_replace_10 : decode cX7_replace 10 = .ok (.ireturn, 1) := by decide +kernel
theorem dX7_roll_0 : decode cX7_roll 0 = .ok (.lload_n 1, 1) := by decide +kernel
theorem dX7_roll_1 : decode cX7_roll 1 = .ok (.lconst 0, 1) := by decide +kernel
theorem dX7_roll_2 : decode cX7_roll 2 = .ok (.lcmp, 1) := by decide +kernel
theorem dX7_roll_3 : decode cX7_roll 3 = .ok (.ifCond .ge 6, 3) := by decide +kernel
theorem dX7_roll_6 : decode cX7_roll 6 = .ok (.bipush 9, 2) := by decide +kernel
theorem dX7_roll_8 : decode cX7_roll 8 = .ok (.ireturn, 1) := by decide +kernel
theorem dX7_roll_9 : decode cX7_roll 9 = .ok (.lload_n 1, 1) := by decide +kernel
theorem dX7_roll_10 : decode cX7_roll 10 = .ok (.aload_n 0, 1) := by decide +kernel
theorem dX7_roll_11 : decode cX7_roll 11 = .ok (.getfield 18, 3) := by decide +kernel
theorem dX7_roll_14 : decode cX7_roll 14 = .ok (.iconst 2, 1) := by decide +kernel
theorem dX7_roll_15 : decode cX7_roll 15 = .ok (.isub, 1) := by decide +kernel
theorem dX7_roll_16 : decode cX7_roll 16 = .ok (.i2l, 1) := by decide +kernel
theorem dX7_roll_17 : decode cX7_roll 17 = .ok (.lcmp, 1) := by decide +kernel
theorem dX7_roll_18 : decode cX7_roll 18 = .ok (.ifCond .le 5, 3) := by decide +kernel
theorem dX7_roll_21 : decode cX7_roll 21 = .ok (.iconst 2, 1) := by decide +kernel
theorem dX7_roll_22 : decode cX7_roll 22 = .ok (.ireturn, 1) := by decide +kernel
theorem dX7_roll_23 : decode cX7_roll 23 = .ok (.aload_n 0, 1) := by decide +kernel
theorem dX7_roll_24 : decode cX7_roll 24 = .ok (.iconst 2, 1) := by decide +kernel
theorem dX7_roll_25 : decode cX7_roll 25 = .ok (.invokevirtual 46, 3) := by decide +kernel
theorem dX7_roll_28 : decode cX7_roll 28 = .ok (.lload_n 1, 1) := by decide +kernel
theorem dX7_roll_29 : decode cX7_roll 29 = .ok (.lconst 0, 1) := by decide +kernel
theorem dX7_roll_30 : decode cX7_roll 30 = .ok (.lcmp, 1) := by decide +kernel
theorem dX7_roll_31 : decode cX7_roll 31 = .ok (.ifCond .le 51, 3) := by decide +kernel
theorem dX7_roll_34 : decode cX7_roll 34 = .ok (.aload_n 0, 1) := by decide +kernel
theorem dX7_roll_35 : decode cX7_roll 35 = .ok (.getfield 18, 3) := by decide +kernel
theorem dX7_roll_38 : decode cX7_roll 38 = .ok (.lload_n 1, 1) := by decide +kernel
theorem dX7_roll_39 : decode cX7_roll 39 = .ok (.l2i, 1) := by decide +kernel
theorem dX7_roll_40 : decode cX7_roll 40 = .ok (.isub, 1) := by decide +kernel
theorem dX7_roll_41 : decode cX7_roll 41 = .ok (.istore 5, 2) := by decide +kernel
theorem dX7_roll_43 : decode cX7_roll 43 = .ok (.iload 5, 2) := by decide +kernel
theorem dX7_roll_45 : decode cX7_roll 45 = .ok (.lload_n 3, 1) := by decide +kernel
theorem dX7_roll_46 : decode cX7_roll 46 = .ok (.lload_n 1, 1) := by decide +kernel
theorem dX7_roll_47 : decode cX7_roll 47 = .ok (.invokestatic 107, 3) := by decide +kernel
theorem dX7_roll_50 : decode cX7_roll 50 = .ok (.l2i, 1) := by decide +kernel
theorem dX7_roll_51 : decode cX7_roll 51 = .ok (.iadd, 1) := by decide +kernel
theorem dX7_roll_52 : decode cX7_roll 52 = .ok (.istore 6, 2) := by decide +kernel
theorem dX7_roll_54 : decode cX7_roll 54 = .ok (.aload_n 0, 1) := by decide +kernel
theorem dX7_roll_55 : decode cX7_roll 55 = .ok (.iload 5, 2) := by decide +kernel
theorem dX7_roll_57 : decode cX7_roll 57 = .ok (.aload_n 0, 1) := by decide +kernel
theorem dX7_roll_58 : decode cX7_roll 58 = .ok (.getfield 18, 3) := by decide +kernel
theorem dX7_roll_61 : decode cX7_roll 61 = .ok (.invokevirtual 110, 3) := by decide +kernel
theorem dX7_roll_64 : decode cX7_roll 64 = .ok (.aload_n 0, 1) := by decide +kernel
theorem dX7_roll_65 : decode cX7_roll 65 = .ok (.iload 5, 2) := by decide +kernel
theorem dX7_roll_67 : decode cX7_roll 67 = .ok (.iload 6, 2) := by decide +kernel
theorem dX7_roll_69 : decode cX7_roll 69 = .ok (.invokevirtual 110, 3) := by decide +kernel
theorem dX7_roll_72 : decode cX7_roll 72 = .ok (.aload_n 0, 1) := by decide +kernel
theorem dX7_roll_73 : decode cX7_roll 73 = .ok (.iload 6, 2) := by decide +kernel
theorem dX7_roll_75 : decode cX7_roll 75 = .ok (.aload_n 0, 1) := by decide +kernel
theorem dX7_roll_76 : decode cX7_roll 76 = .ok (.getfield 18, 3) := by decide +kernel
theorem dX7_roll_79 : decode cX7_roll 79 = .ok (.invokevirtual 110, 3) := by decide +kernel
theorem dX7_roll_82 : decode cX7_roll 82 = .ok (.iconst 0, 1) := by decide +kernel
theorem dX7_roll_83 : decode cX7_roll 83 = .ok (.ireturn, 1) := by decide +kernel
theorem dX7_rootOf_0 : decode cX7_rootOf 0 = .ok (.lconst 0, 1) := by decide +kernel
theorem dX7_rootOf_1 : decode cX7_rootOf 1 = .ok (.lstore_n 2, 1) := by decide +kernel
theorem dX7_rootOf_2 : decode cX7_rootOf 2 = .ok (.bipush 23, 2) := by decide +kernel
theorem dX7_rootOf_4 : decode cX7_rootOf 4 = .ok (.istore 4, 2) := by decide +kernel
theorem dX7_rootOf_6 : decode cX7_rootOf 6 = .ok (.iload 4, 2) := by decide +kernel
theorem dX7_rootOf_8 : decode cX7_rootOf 8 = .ok (.ifCond .lt 30, 3) := by decide +kernel
theorem dX7_rootOf_11 : decode cX7_rootOf 11 = .ok (.lload_n 2, 1) := by decide +kernel
theorem dX7_rootOf_12 : decode cX7_rootOf 12 = .ok (.lconst 1, 1) := by decide +kernel
theorem dX7_rootOf_13 : decode cX7_rootOf 13 = .ok (.iload 4, 2) := by decide +kernel
theorem dX7_rootOf_15 : decode cX7_rootOf 15 = .ok (.lshl, 1) := by decide +kernel
theorem dX7_rootOf_16 : decode cX7_rootOf 16 = .ok (.lor, 1) := by decide +kernel
theorem dX7_rootOf_17 : decode cX7_rootOf 17 = .ok (.lstore 5, 2) := by decide +kernel
theorem dX7_rootOf_19 : decode cX7_rootOf 19 = .ok (.lload 5, 2) := by decide +kernel
theorem dX7_rootOf_21 : decode cX7_rootOf 21 = .ok (.lload 5, 2) := by decide +kernel
theorem dX7_rootOf_23 : decode cX7_rootOf 23 = .ok (.lmul, 1) := by decide +kernel
theorem dX7_rootOf_24 : decode cX7_rootOf 24 = .ok (.lload_n 0, 1) := by decide +kernel
theorem dX7_rootOf_25 : decode cX7_rootOf 25 = .ok (.lcmp, 1) := by decide +kernel
theorem dX7_rootOf_26 : decode cX7_rootOf 26 = .ok (.ifCond .gt 6, 3) := by decide +kernel
theorem dX7_rootOf_29 : decode cX7_rootOf 29 = .ok (.lload 5, 2) := by decide +kernel
theorem dX7_rootOf_31 : decode cX7_rootOf 31 = .ok (.lstore_n 2, 1) := by decide +kernel
theorem dX7_rootOf_32 : decode cX7_rootOf 32 = .ok (.iinc 4 (-1), 3) := by decide +kernel
theorem dX7_rootOf_35 : decode cX7_rootOf 35 = .ok (.goto (-29), 3) := by decide +kernel
theorem dX7_rootOf_38 : decode cX7_rootOf 38 = .ok (.lload_n 2, 1) := by decide +kernel
theorem dX7_rootOf_39 : decode cX7_rootOf 39 = .ok (.lreturn, 1) := by decide +kernel
theorem dX7_size_0 : decode cX7_size 0 = .ok (.aload_n 0, 1) := by decide +kernel
theorem dX7_size_1 : decode cX7_size 1 = .ok (.getfield 18, 3) := by decide +kernel
theorem dX7_size_4 : decode cX7_size 4 = .ok (.ireturn, 1) := by decide +kernel
theorem dX7_truth_0 : decode cX7_truth 0 = .ok (.iload_n 0, 1) := by decide +kernel
theorem dX7_truth_1 : decode cX7_truth 1 = .ok (.ifCond .eq 9, 3) := by decide +kernel
theorem dX7_truth_4 : decode cX7_truth 4 = .ok (.ldc2_w 54, 3) := by decide +kernel
theorem dX7_truth_7 : decode cX7_truth 7 = .ok (.goto 4, 3) := by decide +kernel
theorem dX7_truth_10 : decode cX7_truth 10 = .ok (.lconst 0, 1) := by decide +kernel
theorem dX7_truth_11 : decode cX7_truth 11 = .ok (.lreturn, 1) := by decide +kernel
theorem dX7_turnRound_0 : decode cX7_turnRound 0 = .ok (.iload_n 1, 1) := by decide +kernel
theorem dX7_turnRound_1 : decode cX7_turnRound 1 = .ok (.istore_n 3, 1) := by decide +kernel
theorem dX7_turnRound_2 : decode cX7_turnRound 2 = .ok (.iload_n 2, 1) := by decide +kernel
theorem dX7_turnRound_3 : decode cX7_turnRound 3 = .ok (.iconst 1, 1) := by decide +kernel
theorem dX7_turnRound_4 : decode cX7_turnRound 4 = .ok (.isub, 1) := by decide +kernel
theorem dX7_turnRound_5 : decode cX7_turnRound 5 = .ok (.istore 4, 2) := by decide +kernel
theorem dX7_turnRound_7 : decode cX7_turnRound 7 = .ok (.iload_n 3, 1) := by decide +kernel
theorem dX7_turnRound_8 : decode cX7_turnRound 8 = .ok (.ifCond .lt 57, 3) := by decide +kernel
theorem dX7_turnRound_11 : decode cX7_turnRound 11 = .ok (.iload_n 3, 1) := by decide +kernel
theorem dX7_turnRound_12 : decode cX7_turnRound 12 = .ok (.iload 4, 2) := by decide +kernel
theorem dX7_turnRound_14 : decode cX7_turnRound 14 = .ok (.if_icmp .ge 51, 3) := by decide +kernel
theorem dX7_turnRound_17 : decode cX7_turnRound 17 = .ok (.iload 4, 2) := by decide +kernel
theorem dX7_turnRound_19 : decode cX7_turnRound 19 = .ok (.aload_n 0, 1) := by decide +kernel
theorem dX7_turnRound_20 : decode cX7_turnRound 20 = .ok (.getfield 18, 3) := by decide +kernel
theorem dX7_turnRound_23 : decode cX7_turnRound 23 = .ok (.if_icmp .ge 42, 3) := by decide +kernel
theorem dX7_turnRound_26 : decode cX7_turnRound 26 = .ok (.aload_n 0, 1) := by decide +kernel
theorem dX7_turnRound_27 : decode cX7_turnRound 27 = .ok (.getfield 9, 3) := by decide +kernel
theorem dX7_turnRound_30 : decode cX7_turnRound 30 = .ok (.iload_n 3, 1) := by decide +kernel
theorem dX7_turnRound_31 : decode cX7_turnRound 31 = .ok (.laload, 1) := by decide +kernel
theorem dX7_turnRound_32 : decode cX7_turnRound 32 = .ok (.lstore 5, 2) := by decide +kernel
theorem dX7_turnRound_34 : decode cX7_turnRound 34 = .ok (.aload_n 0, 1) := by decide +kernel
theorem dX7_turnRound_35 : decode cX7_turnRound 35 = .ok (.getfield 9, 3) := by decide +kernel
theorem dX7_turnRound_38 : decode cX7_turnRound 38 = .ok (.iload_n 3, 1) := by decide +kernel
theorem dX7_turnRound_39 : decode cX7_turnRound 39 = .ok (.aload_n 0, 1) := by decide +kernel
theorem dX7_turnRound_40 : decode cX7_turnRound 40 = .ok (.getfield 9, 3) := by decide +kernel
theorem dX7_turnRound_43 : decode cX7_turnRound 43 = .ok (.iload 4, 2) := by decide +kernel
theorem dX7_turnRound_45 : decode cX7_turnRound 45 = .ok (.laload, 1) := by decide +kernel
theorem dX7_turnRound_46 : decode cX7_turnRound 46 = .ok (.lastore, 1) := by decide +kernel
theorem dX7_turnRound_47 : decode cX7_turnRound 47 = .ok (.aload_n 0, 1) := by decide +kernel
theorem dX7_turnRound_48 : decode cX7_turnRound 48 = .ok (.getfield 9, 3) := by decide +kernel
theorem dX7_turnRound_51 : decode cX7_turnRound 51 = .ok (.iload 4, 2) := by decide +kernel
theorem dX7_turnRound_53 : decode cX7_turnRound 53 = .ok (.lload 5, 2) := by decide +kernel
theorem dX7_turnRound_55 : decode cX7_turnRound 55 = .ok (.lastore, 1) := by decide +kernel
theorem dX7_turnRound_56 : decode cX7_turnRound 56 = .ok (.iinc 3 1, 3) := by decide +kernel
theorem dX7_turnRound_59 : decode cX7_turnRound 59 = .ok (.iinc 4 (-1), 3) := by decide +kernel
theorem dX7_turnRound_62 : decode cX7_turnRound 62 = .ok (.goto (-55), 3) := by decide +kernel
theorem dX7_turnRound_65 : decode cX7_turnRound 65 = .ok (.return_, 1) := by decide +kernel
theorem dX7_wantedBy_0 : decode cX7_wantedBy 0 = .ok (.iload_n 0, 1) := by decide +kernel
theorem dX7_wantedBy_1 : decode cX7_wantedBy 1 = .ok (.tableswitch 133 3 30 #[129, 129, 127, 133, 133, 133, 127, 129, 129, 129, 133, 127, 129, 133, 133, 127, 133, 129, 127, 131, 133, 129, 133, 127, 127, 129, 127, 129], 127) := by decide +kernel
theorem dX7_wantedBy_128 : decode cX7_wantedBy 128 = .ok (.iconst 1, 1) := by decide +kernel
theorem dX7_wantedBy_129 : decode cX7_wantedBy 129 = .ok (.ireturn, 1) := by decide +kernel
theorem dX7_wantedBy_130 : decode cX7_wantedBy 130 = .ok (.iconst 2, 1) := by decide +kernel
theorem dX7_wantedBy_131 : decode cX7_wantedBy 131 = .ok (.ireturn, 1) := by decide +kernel
theorem dX7_wantedBy_132 : decode cX7_wantedBy 132 = .ok (.iconst 4, 1) := by decide +kernel
theorem dX7_wantedBy_133 : decode cX7_wantedBy 133 = .ok (.ireturn, 1) := by decide +kernel
theorem dX7_wantedBy_134 : decode cX7_wantedBy 134 = .ok (.iconst (-1), 1) := by decide +kernel
theorem dX7_wantedBy_135 : decode cX7_wantedBy 135 = .ok (.ireturn, 1) := by decide +kernel
theorem dX7_wholeBelow_0 : decode cX7_wholeBelow 0 = .ok (.aload_n 0, 1) := by decide +kernel
theorem dX7_wholeBelow_1 : decode cX7_wholeBelow 1 = .ok (.iload_n 1, 1) := by decide +kernel
theorem dX7_wholeBelow_2 : decode cX7_wholeBelow 2 = .ok (.invokevirtual 41, 3) := by decide +kernel
theorem dX7_wholeBelow_5 : decode cX7_wholeBelow 5 = .ok (.bipush 16, 2) := by decide +kernel
theorem dX7_wholeBelow_7 : decode cX7_wholeBelow 7 = .ok (.lshr, 1) := by decide +kernel
theorem dX7_wholeBelow_8 : decode cX7_wholeBelow 8 = .ok (.lreturn, 1) := by decide +kernel
theorem dX8_add_0 : decode cX8_add 0 = .ok (.aload_n 0, 1) := by decide +kernel
theorem dX8_add_1 : decode cX8_add 1 = .ok (.invokevirtual 47, 3) := by decide +kernel
theorem dX8_add_4 : decode cX8_add 4 = .ok (.ifCond .ne 25, 3) := by decide +kernel
theorem dX8_add_7 : decode cX8_add 7 = .ok (.aload_n 0, 1) := by decide +kernel
theorem dX8_add_8 : decode cX8_add 8 = .ok (.dup, 1) := by decide +kernel
theorem dX8_add_9 : decode cX8_add 9 = .ok (.getfield 22, 3) := by decide +kernel
theorem dX8_add_12 : decode cX8_add 12 = .ok (.iconst 1, 1) := by decide +kernel
theorem dX8_add_13 : decode cX8_add 13 = .ok (.iadd, 1) := by decide +kernel
theorem dX8_add_14 : decode cX8_add 14 = .ok (.putfield 22, 3) := by decide +kernel
theorem dX8_add_17 : decode cX8_add 17 = .ok (.aload_n 0, 1) := by decide +kernel
theorem dX8_add_18 : decode cX8_add 18 = .ok (.aload_n 0, 1) := by decide +kernel
theorem dX8_add_19 : decode cX8_add 19 = .ok (.getfield 22, 3) := by decide +kernel
theorem dX8_add_22 : decode cX8_add 22 = .ok (.iconst 1, 1) := by decide +kernel
theorem dX8_add_23 : decode cX8_add 23 = .ok (.isub, 1) := by decide +kernel
theorem dX8_add_24 : decode cX8_add 24 = .ok (.iload_n 1, 1) := by decide +kernel
theorem dX8_add_25 : decode cX8_add 25 = .ok (.iload_n 2, 1) := by decide +kernel
theorem dX8_add_26 : decode cX8_add 26 = .ok (.invokevirtual 51, 3) := by decide +kernel
theorem dX8_add_29 : decode cX8_add 29 = .ok (.return_, 1) := by decide +kernel
theorem dX8_beginOf_0 : decode cX8_beginOf 0 = .ok (.aload_n 0, 1) := by decide +kernel
theorem dX8_beginOf_1 : decode cX8_beginOf 1 = .ok (.iload_n 1, 1) := by decide +kernel
theorem dX8_beginOf_2 : decode cX8_beginOf 2 = .ok (.i2l, 1) := by decide +kernel
theorem dX8_beginOf_3 : decode cX8_beginOf 3 = .ok (.invokevirtual 55, 3) := by decide +kernel
theorem dX8_beginOf_6 : decode cX8_beginOf 6 = .ok (.ifCond .ne 5, 3) := by decide +kernel
theorem dX8_beginOf_9 : decode cX8_beginOf 9 = .ok (.iconst 0, 1) := by decide +kernel
theorem dX8_beginOf_10 : decode cX8_beginOf 10 = .ok (.ireturn, 1) := by decide +kernel
theorem dX8_beginOf_11 : decode cX8_beginOf 11 = .ok (.aload_n 0, 1) := by decide +kernel
theorem dX8_beginOf_12 : decode cX8_beginOf 12 = .ok (.getfield 29, 3) := by decide +kernel
theorem dX8_beginOf_15 : decode cX8_beginOf 15 = .ok (.ifCond .le 11, 3) := by decide +kernel
theorem dX8_beginOf_18 : decode cX8_beginOf 18 = .ok (.aload_n 0, 1) := by decide +kernel
theorem dX8_beginOf_19 : decode cX8_beginOf 19 = .ok (.iload_n 1, 1) := by decide +kernel
theorem dX8_beginOf_20 : decode cX8_beginOf 20 = .ok (.invokevirtual 59, 3) := by decide +kernel
theorem dX8_beginOf_23 : decode cX8_beginOf 23 = .ok (.goto 9, 3) := by decide +kernel
theorem dX8_beginOf_26 : decode cX8_beginOf 26 = .ok (.aload_n 0, 1) := by decide +kernel
theorem dX8_beginOf_27 : decode cX8_beginOf 27 = .ok (.getfield 15, 3) := by decide +kernel
theorem dX8_beginOf_30 : decode cX8_beginOf 30 = .ok (.iload_n 1, 1) := by decide +kernel
theorem dX8_beginOf_31 : decode cX8_beginOf 31 = .ok (.iaload, 1) := by decide +kernel
theorem dX8_beginOf_32 : decode cX8_beginOf 32 = .ok (.ireturn, 1) := by decide +kernel
theorem dX8_finishOf_0 : decode cX8_finishOf 0 = .ok (.aload_n 0, 1) := by decide +kernel
theorem dX8_finishOf_1 : decode cX8_finishOf 1 = .ok (.iload_n 1, 1) := by decide +kernel
theorem dX8_finishOf_2 : decode cX8_finishOf 2 = .ok (.i2l, 1) := by decide +kernel
theorem dX8_finishOf_3 : decode cX8_finishOf 3 = .ok (.invokevirtual 55, 3) := by decide +kernel
theorem dX8_finishOf_6 : decode cX8_finishOf 6 = .ok (.ifCond .ne 5, 3) := by decide +kernel
theorem dX8_finishOf_9 : decode cX8_finishOf 9 = .ok (.iconst 0, 1) := by decide +kernel
theorem dX8_finishOf_10 : decode cX8_finishOf 10 = .ok (.ireturn, 1) := by decide +kernel
theorem dX8_finishOf_11 : decode cX8_finishOf 11 = .ok (.aload_n 0, 1) := by decide +kernel
theorem dX8_finishOf_12 : decode cX8_finishOf 12 = .ok (.getfield 29, 3) := by decide +kernel
theorem dX8_finishOf_15 : decode cX8_finishOf 15 = .ok (.ifCond .le 13, 3) := by decide +kernel
theorem dX8_finishOf_18 : decode cX8_finishOf 18 = .ok (.aload_n 0, 1) := by decide +kernel
theorem dX8_finishOf_19 : decode cX8_finishOf 19 = .ok (.iload_n 1, 1) := by decide +kernel
theorem dX8_finishOf_20 : decode cX8_finishOf 20 = .ok (.iconst 1, 1) := by decide +kernel
theorem dX8_finishOf_21 : decode cX8_finishOf 21 = .ok (.iadd, 1) := by decide +kernel
theorem dX8_finishOf_22 : decode cX8_finishOf 22 = .ok (.invokevirtual 59, 3) := by decide +kernel
theorem dX8_finishOf_25 : decode cX8_finishOf 25 = .ok (.goto 9, 3) := by decide +kernel
theorem dX8_finishOf_28 : decode cX8_finishOf 28 = .ok (.aload_n 0, 1) := by decide +kernel
theorem dX8_finishOf_29 : decode cX8_finishOf 29 = .ok (.getfield 19, 3) := by decide +kernel
theorem dX8_finishOf_32 : decode cX8_finishOf 32 = .ok (.iload_n 1, 1) := by decide +kernel
theorem dX8_finishOf_33 : decode cX8_finishOf 33 = .ok (.iaload, 1) := by decide +kernel
theorem dX8_finishOf_34 : decode cX8_finishOf 34 = .ok (.ireturn, 1) := by decide +kernel
theorem dX8_has_0 : decode cX8_has 0 = .ok (.lload_n 1, 1) := by decide +kernel
theorem dX8_has_1 : decode cX8_has 1 = .ok (.lconst 0, 1) := by decide +kernel
theorem dX8_has_2 : decode cX8_has 2 = .ok (.lcmp, 1) := by decide +kernel
theorem dX8_has_3 : decode cX8_has 3 = .ok (.ifCond .lt 13, 3) := by decide +kernel
theorem dX8_has_6 : decode cX8_has 6 = .ok (.lload_n 1, 1) := by decide +kernel
theorem dX8_has_7 : decode cX8_has 7 = .ok (.aload_n 0, 1) := by decide +kernel
theorem dX8_has_8 : decode cX8_has 8 = .ok (.getfield 22, 3) := by decide +kernel
theorem dX8_has_11 : decode cX8_has 11 = .ok (.i2l, 1) := by decide +kernel
theorem dX8_has_12 : decode cX8_has 12 = .ok (.lcmp, 1) := by decide +kernel
theorem dX8_has_13 : decode cX8_has 13 = .ok (.ifCond .lt 5, 3) := by decide +kernel
theorem dX8_has_16 : decode cX8_has 16 = .ok (.iconst 0, 1) := by decide +kernel
theorem dX8_has_17 : decode cX8_has 17 = .ok (.ireturn, 1) := by decide +kernel
theorem dX8_has_18 : decode cX8_has 18 = .ok (.aload_n 0, 1) := by decide +kernel
theorem dX8_has_19 : decode cX8_has 19 = .ok (.getfield 29, 3) := by decide +kernel
theorem dX8_has_22 : decode cX8_has 22 = .ok (.ifCond .gt 25, 3) := by decide +kernel
theorem dX8_has_25 : decode cX8_has 25 = .ok (.lload_n 1, 1) := by decide +kernel
theorem dX8_has_26 : decode cX8_has 26 = .ok (.aload_n 0, 1) := by decide +kernel
theorem dX8_has_27 : decode cX8_has 27 = .ok (.getfield 15, 3) := by decide +kernel
theorem dX8_has_30 : decode cX8_has 30 = .ok (.arraylength, 1) := by decide +kernel
theorem dX8_has_31 : decode cX8_has 31 = .ok (.i2l, 1) := by decide +kernel
theorem dX8_has_32 : decode cX8_has 32 = .ok (.lcmp, 1) := by decide +kernel
theorem dX8_has_33 : decode cX8_has 33 = .ok (.ifCond .ge 18, 3) := by decide +kernel
theorem dX8_has_36 : decode cX8_has 36 = .ok (.aload_n 0, 1) := by decide +kernel
theorem dX8_has_37 : decode cX8_has 37 = .ok (.getfield 15, 3) := by decide +kernel
theorem dX8_has_40 : decode cX8_has 40 = .ok (.lload_n 1, 1) := by decide +kernel
theorem dX8_has_41 : decode cX8_has 41 = .ok (.l2i, 1) := by decide +kernel
theorem dX8_has_42 : decode cX8_has 42 = .ok (.iaload, 1) := by decide +kernel
theorem dX8_has_43 : decode cX8_has 43 = .ok (.iconst (-1), 1) := by decide +kernel
theorem dX8_has_44 : decode cX8_has 44 = .ok (.if_icmp .eq 7, 3) := by decide +kernel
theorem dX8_has_47 : decode cX8_has 47 = .ok (.iconst 1, 1) := by decide +kernel
theorem dX8_has_48 : decode cX8_has 48 = .ok (.goto 4, 3) := by decide +kernel
theorem dX8_has_51 : decode cX8_has 51 = .ok (.iconst 0, 1) := by decide +kernel
theorem dX8_has_52 : decode cX8_has 52 = .ok (.ireturn, 1) := by decide +kernel
theorem dX8_isFull_0 : decode cX8_isFull 0 = .ok (.aload_n 0, 1) := by decide +kernel
theorem dX8_isFull_1 : decode cX8_isFull 1 = .ok (.getfield 22, 3) := by decide +kernel
theorem dX8_isFull_4 : decode cX8_isFull 4 = .ok (.aload_n 0, 1) := by decide +kernel
theorem dX8_isFull_5 : decode cX8_isFull 5 = .ok (.getfield 15, 3) := by decide +kernel
theorem dX8_isFull_8 : decode cX8_isFull 8 = .ok (.arraylength, 1) := by decide +kernel
theorem dX8_isFull_9 : decode cX8_isFull 9 = .ok (.if_icmp .lt 7, 3) := by decide +kernel
theorem dX8_isFull_12 : decode cX8_isFull 12 = .ok (.iconst 1, 1) := by decide +kernel
theorem dX8_isFull_13 : decode cX8_isFull 13 = .ok (.goto 4, 3) := by decide +kernel
theorem dX8_isFull_16 : decode cX8_isFull 16 = .ok (.iconst 0, 1) := by decide +kernel
theorem dX8_isFull_17 : decode cX8_isFull 17 = .ok (.ireturn, 1) := by decide +kernel
theorem dX8_lay_0 : decode cX8_lay 0 = .ok (.aload_n 0, 1) := by decide +kernel
theorem dX8_lay_1 : decode cX8_lay 1 = .ok (.iconst 0, 1) := by decide +kernel
theorem dX8_lay_2 : decode cX8_lay 2 = .ok (.iload_n 1, 1) := by decide +kernel
theorem dX8_lay_3 : decode cX8_lay 3 = .ok (.aload_n 0, 1) := by decide +kernel
theorem dX8_lay_4 : decode cX8_lay 4 = .ok (.getfield 15, 3) := by decide +kernel
theorem dX8_lay_7 : decode cX8_lay 7 = .ok (.arraylength, 1) := by decide +kernel
theorem dX8_lay_8 : decode cX8_lay 8 = .ok (.invokestatic 32, 3) := by decide +kernel
theorem dX8_lay_11 : decode cX8_lay 11 = .ok (.invokestatic 38, 3) := by decide +kernel
theorem dX8_lay_14 : decode cX8_lay 14 = .ok (.putfield 22, 3) := by decide +kernel
theorem dX8_lay_17 : decode cX8_lay 17 = .ok (.aload_n 0, 1) := by decide +kernel
theorem dX8_lay_18 : decode cX8_lay 18 = .ok (.getfield 15, 3) := by decide +kernel
theorem dX8_lay_21 : decode cX8_lay 21 = .ok (.iconst 0, 1) := by decide +kernel
theorem dX8_lay_22 : decode cX8_lay 22 = .ok (.aload_n 0, 1) := by decide +kernel
theorem dX8_lay_23 : decode cX8_lay 23 = .ok (.getfield 22, 3) := by decide +kernel
theorem dX8_lay_26 : decode cX8_lay 26 = .ok (.iconst (-1), 1) := by decide +kernel
theorem dX8_lay_27 : decode cX8_lay 27 = .ok (.invokestatic 41, 3) := by decide +kernel
theorem dX8_lay_30 : decode cX8_lay 30 = .ok (.aload_n 0, 1) := by decide +kernel
theorem dX8_lay_31 : decode cX8_lay 31 = .ok (.iconst 0, 1) := by decide +kernel
theorem dX8_lay_32 : decode cX8_lay 32 = .ok (.putfield 29, 3) := by decide +kernel
theorem dX8_lay_35 : decode cX8_lay 35 = .ok (.return_, 1) := by decide +kernel
theorem dX8_layIndex_0 : decode cX8_layIndex 0 = .ok (.aload_n 0, 1) := by decide +kernel
theorem dX8_layIndex_1 : decode cX8_layIndex 1 = .ok (.iload_n 1, 1) := by decide +kernel
theorem dX8_layIndex_2 : decode cX8_layIndex 2 = .ok (.putfield 22, 3) := by decide +kernel
theorem dX8_layIndex_5 : decode cX8_layIndex 5 = .ok (.aload_n 0, 1) := by decide +kernel
theorem dX8_layIndex_6 : decode cX8_layIndex 6 = .ok (.iload_n 2, 1) := by decide +kernel
theorem dX8_layIndex_7 : decode cX8_layIndex 7 = .ok (.putfield 26, 3) := by decide +kernel
theorem dX8_layIndex_10 : decode cX8_layIndex 10 = .ok (.aload_n 0, 1) := by decide +kernel
theorem dX8_layIndex_11 : decode cX8_layIndex 11 = .ok (.iload_n 3, 1) := by decide +kernel
theorem dX8_layIndex_12 : decode cX8_layIndex 12 = .ok (.putfield 29, 3) := by decide +kernel
theorem dX8_layIndex_15 : decode cX8_layIndex 15 = .ok (.return_, 1) := by decide +kernel
theorem dX8_objectAt_0 : decode cX8_objectAt 0 = .ok (.iconst 0, 1) := by decide +kernel
theorem dX8_objectAt_1 : decode cX8_objectAt 1 = .ok (.istore_n 2, 1) := by decide +kernel
theorem dX8_objectAt_2 : decode cX8_objectAt 2 = .ok (.iconst 0, 1) := by decide +kernel
theorem dX8_objectAt_3 : decode cX8_objectAt 3 = .ok (.istore_n 3, 1) := by decide +kernel
theorem dX8_objectAt_4 : decode cX8_objectAt 4 = .ok (.iload_n 3, 1) := by decide +kernel
theorem dX8_objectAt_5 : decode cX8_objectAt 5 = .ok (.aload_n 0, 1) := by decide +kernel
theorem dX8_objectAt_6 : decode cX8_objectAt 6 = .ok (.getfield 29, 3) := by decide +kernel
theorem dX8_objectAt_9 : decode cX8_objectAt 9 = .ok (.if_icmp .ge 37, 3) := by decide +kernel
theorem dX8_objectAt_12 : decode cX8_objectAt 12 = .ok (.iload_n 2, 1) := by decide +kernel
theorem dX8_objectAt_13 : decode cX8_objectAt 13 = .ok (.sipush 256, 3) := by decide +kernel
theorem dX8_objectAt_16 : decode cX8_objectAt 16 = .ok (.imul, 1) := by decide +kernel
theorem dX8_objectAt_17 : decode cX8_objectAt 17 = .ok (.aload_n 0, 1) := by decide +kernel
theorem dX8_objectAt_18 : decode cX8_objectAt 18 = .ok (.getfield 9, 3) := by decide +kernel
theorem dX8_objectAt_21 : decode cX8_objectAt 21 = .ok (.aload_n 0, 1) := by decide +kernel
theorem dX8_objectAt_22 : decode cX8_objectAt 22 = .ok (.getfield 26, 3) := by decide +kernel
theorem dX8_objectAt_25 : decode cX8_objectAt 25 = .ok (.iload_n 1, 1) := by decide +kernel
theorem dX8_objectAt_26 : decode cX8_objectAt 26 = .ok (.aload_n 0, 1) := by decide +kernel
theorem dX8_objectAt_27 : decode cX8_objectAt 27 = .ok (.getfield 29, 3) := by decide +kernel
theorem dX8_objectAt_30 : decode cX8_objectAt 30 = .ok (.imul, 1) := by decide +kernel
theorem dX8_objectAt_31 : decode cX8_objectAt 31 = .ok (.iadd, 1) := by decide +kernel
theorem dX8_objectAt_32 : decode cX8_objectAt 32 = .ok (.iload_n 3, 1) := by decide +kernel
theorem dX8_objectAt_33 : decode cX8_objectAt 33 = .ok (.iadd, 1) := by decide +kernel
theorem dX8_objectAt_34 : decode cX8_objectAt 34 = .ok (.i2l, 1) := by decide +kernel
theorem dX8_objectAt_35 : decode cX8_objectAt 35 = .ok (.invokevirtual 63, 3) := by decide +kernel
theorem dX8_objectAt_38 : decode cX8_objectAt 38 = .ok (.iadd, 1) := by decide +kernel
theorem dX8_objectAt_39 : decode cX8_objectAt 39 = .ok (.istore_n 2, 1) := by decide +kernel
theorem dX8_objectAt_40 : decode cX8_objectAt 40 = .ok (.iinc 3 1, 3) := by decide +kernel
theorem dX8_objectAt_43 : decode cX8_objectAt 43 = .ok (.goto (-39), 3) := by decide +kernel
theorem dX8_objectAt_46 : decode cX8_objectAt 46 = .ok (.aload_n 0, 1) := by decide +kernel
theorem dX8_objectAt_47 : decode cX8_objectAt 47 = .ok (.getfield 26, 3) := by decide +kernel
theorem dX8_objectAt_50 : decode cX8_objectAt 50 = .ok (.aload_n 0, 1) := by decide +kernel
theorem dX8_objectAt_51 : decode cX8_objectAt 51 = .ok (.getfield 22, 3) := by decide +kernel
theorem dX8_objectAt_54 : decode cX8_objectAt 54 = .ok (.iconst 1, 1) := by decide +kernel
theorem dX8_objectAt_55 : decode cX8_objectAt 55 = .ok (.iadd, 1) := by decide +kernel
theorem dX8_objectAt_56 : decode cX8_objectAt 56 = .ok (.aload_n 0, 1) := by decide +kernel
theorem dX8_objectAt_57 : decode cX8_objectAt 57 = .ok (.getfield 29, 3) := by decide +kernel
theorem dX8_objectAt_60 : decode cX8_objectAt 60 = .ok (.imul, 1) := by decide +kernel
theorem dX8_objectAt_61 : decode cX8_objectAt 61 = .ok (.iadd, 1) := by decide +kernel
theorem dX8_objectAt_62 : decode cX8_objectAt 62 = .ok (.iload_n 2, 1) := by decide +kernel
theorem dX8_objectAt_63 : decode cX8_objectAt 63 = .ok (.iadd, 1) := by decide +kernel
theorem dX8_objectAt_64 : decode cX8_objectAt 64 = .ok (.iconst 1, 1) := by decide +kernel
theorem dX8_objectAt_65 : decode cX8_objectAt 65 = .ok (.isub, 1) := by decide +kernel
theorem dX8_objectAt_66 : decode cX8_objectAt 66 = .ok (.ireturn, 1) := by decide +kernel
theorem dX8_put_0 : decode cX8_put 0 = .ok (.iload_n 1, 1) := by decide +kernel
theorem dX8_put_1 : decode cX8_put 1 = .ok (.ifCond .lt 34, 3) := by decide +kernel
theorem dX8_put_4 : decode cX8_put 4 = .ok (.iload_n 1, 1) := by decide +kernel
theorem dX8_put_5 : decode cX8_put 5 = .ok (.aload_n 0, 1) := by decide +kernel
theorem dX8_put_6 : decode cX8_put 6 = .ok (.getfield 22, 3) := by decide +kernel
theorem dX8_put_9 : decode cX8_put 9 = .ok (.if_icmp .ge 26, 3) := by decide +kernel
theorem dX8_put_12 : decode cX8_put 12 = .ok (.iload_n 1, 1) := by decide +kernel
theorem dX8_put_13 : decode cX8_put 13 = .ok (.aload_n 0, 1) := by decide +kernel
theorem dX8_put_14 : decode cX8_put 14 = .ok (.getfield 15, 3) := by decide +kernel
theorem dX8_put_17 : decode cX8_put 17 = .ok (.arraylength, 1) := by decide +kernel
theorem dX8_put_18 : decode cX8_put 18 = .ok (.if_icmp .ge 17, 3) := by decide +kernel
theorem dX8_put_21 : decode cX8_put 21 = .ok (.aload_n 0, 1) := by decide +kernel
theorem dX8_put_22 : decode cX8_put 22 = .ok (.getfield 15, 3) := by decide +kernel
theorem dX8_put_25 : decode cX8_put 25 = .ok (.iload_n 1, 1) := by decide +kernel
theorem dX8_put_26 : decode cX8_put 26 = .ok (.iload_n 2, 1) := by decide +kernel
theorem dX8_put_27 : decode cX8_put 27 = .ok (.iastore, 1) := by decide +kernel
theorem dX8_put_28 : decode cX8_put 28 = .ok (.aload_n 0, 1) := by decide +kernel
theorem dX8_put_29 : decode cX8_put 29 = .ok (.getfield 19, 3) := by decide +kernel
theorem dX8_put_32 : decode cX8_put 32 = .ok (.iload_n 1, 1) := by decide +kernel
theorem dX8_put_33 : decode cX8_put 33 = .ok (.iload_n 3, 1) := by decide +kernel
theorem dX8_put_34 : decode cX8_put 34 = .ok (.iastore, 1) := by decide +kernel
theorem dX8_put_35 : decode cX8_put 35 = .ok (.return_, 1) := by decide +kernel
theorem dX8_size_0 : decode cX8_size 0 = .ok (.aload_n 0, 1) := by decide +kernel
theorem dX8_size_1 : decode cX8_size 1 = .ok (.getfield 22, 3) := by decide +kernel
theorem dX8_size_4 : decode cX8_size 4 = .ok (.ireturn, 1) := by decide +kernel
theorem dX9_beginFlex_0 : decode cX9_beginFlex 0 = .ok (.aload_n 0, 1) := by decide +kernel
theorem dX9_beginFlex_1 : decode cX9_beginFlex 1 = .ok (.iconst 1, 1) := by decide +kernel
theorem dX9_beginFlex_2 : decode cX9_beginFlex 2 = .ok (.putfield 9, 3) := by decide +kernel
theorem dX9_beginFlex_5 : decode cX9_beginFlex 5 = .ok (.aload_n 0, 1) := by decide +kernel
theorem dX9_beginFlex_6 : decode cX9_beginFlex 6 = .ok (.iconst 0, 1) := by decide +kernel
theorem dX9_beginFlex_7 : decode cX9_beginFlex 7 = .ok (.putfield 22, 3) := by decide +kernel
theorem dX9_beginFlex_10 : decode cX9_beginFlex 10 = .ok (.return_, 1) := by decide +kernel
theorem dX9_callOther_0 : decode cX9_callOther 0 = .ok (.aload_n 0, 1) := by decide +kernel
theorem dX9_callOther_1 : decode cX9_callOther 1 = .ok (.getfield 32, 3) := by decide +kernel
theorem dX9_callOther_4 : decode cX9_callOther 4 = .ok (.invokevirtual 75, 3) := by decide +kernel
theorem dX9_callOther_7 : decode cX9_callOther 7 = .ok (.iconst 2, 1) := by decide +kernel
theorem dX9_callOther_8 : decode cX9_callOther 8 = .ok (.if_icmp .ge 5, 3) := by decide +kernel
theorem dX9_callOther_11 : decode cX9_callOther 11 = .ok (.iconst 2, 1) := by decide +kernel
theorem dX9_callOther_12 : decode cX9_callOther 12 = .ok (.ireturn, 1) := by decide +kernel
theorem dX9_callOther_13 : decode cX9_callOther 13 = .ok (.aload_n 0, 1) := by decide +kernel
theorem dX9_callOther_14 : decode cX9_callOther 14 = .ok (.getfield 32, 3) := by decide +kernel
theorem dX9_callOther_17 : decode cX9_callOther 17 = .ok (.iconst 0, 1) := by decide +kernel
theorem dX9_callOther_18 : decode cX9_callOther 18 = .ok (.invokevirtual 133, 3) := by decide +kernel
theorem dX9_callOther_21 : decode cX9_callOther 21 = .ok (.lstore_n 1, 1) := by decide +kernel
theorem dX9_callOther_22 : decode cX9_callOther 22 = .ok (.aload_n 0, 1) := by decide +kernel
theorem dX9_callOther_23 : decode cX9_callOther 23 = .ok (.getfield 32, 3) := by decide +kernel
theorem dX9_callOther_26 : decode cX9_callOther 26 = .ok (.iconst 1, 1) := by decide +kernel
theorem dX9_callOther_27 : decode cX9_callOther 27 = .ok (.invokevirtual 133, 3) := by decide +kernel
theorem dX9_callOther_30 : decode cX9_callOther 30 = .ok (.lstore_n 3, 1) := by decide +kernel
theorem dX9_callOther_31 : decode cX9_callOther 31 = .ok (.lload_n 3, 1) := by decide +kernel
theorem dX9_callOther_32 : decode cX9_callOther 32 = .ok (.lconst 0, 1) := by decide +kernel
theorem dX9_callOther_33 : decode cX9_callOther 33 = .ok (.lcmp, 1) := by decide +kernel
theorem dX9_callOther_34 : decode cX9_callOther 34 = .ok (.ifCond .ge 6, 3) := by decide +kernel
theorem dX9_callOther_37 : decode cX9_callOther 37 = .ok (.bipush 9, 2) := by decide +kernel
theorem dX9_callOther_39 : decode cX9_callOther 39 = .ok (.ireturn, 1) := by decide +kernel
theorem dX9_callOther_40 : decode cX9_callOther 40 = .ok (.lload_n 3, 1) := by decide +kernel
theorem dX9_callOther_41 : decode cX9_callOther 41 = .ok (.aload_n 0, 1) := by decide +kernel
theorem dX9_callOther_42 : decode cX9_callOther 42 = .ok (.getfield 32, 3) := by decide +kernel
theorem dX9_callOther_45 : decode cX9_callOther 45 = .ok (.invokevirtual 75, 3) := by decide +kernel
theorem dX9_callOther_48 : decode cX9_callOther 48 = .ok (.iconst 2, 1) := by decide +kernel
theorem dX9_callOther_49 : decode cX9_callOther 49 = .ok (.isub, 1) := by decide +kernel
theorem dX9_callOther_50 : decode cX9_callOther 50 = .ok (.i2l, 1) := by decide +kernel
theorem dX9_callOther_51 : decode cX9_callOther 51 = .ok (.lcmp, 1) := by decide +kernel
theorem dX9_callOther_52 : decode cX9_callOther 52 = .ok (.ifCond .le 5, 3) := by decide +kernel
theorem dX9_callOther_55 : decode cX9_callOther 55 = .ok (.iconst 2, 1) := by decide +kernel
theorem dX9_callOther_56 : decode cX9_callOther 56 = .ok (.ireturn, 1) := by decide +kernel
theorem dX9_callOther_57 : decode cX9_callOther 57 = .ok (.aload_n 0, 1) := by decide +kernel
theorem dX9_callOther_58 : decode cX9_callOther 58 = .ok (.getfield 32, 3) := by decide +kernel
theorem dX9_callOther_61 : decode cX9_callOther 61 = .ok (.iconst 2, 1) := by decide +kernel
theorem dX9_callOther_62 : decode cX9_callOther 62 = .ok (.invokevirtual 136, 3) := by decide +kernel
theorem dX9_callOther_65 : decode cX9_callOther 65 = .ok (.aload_n 0, 1) := by decide +kernel
theorem dX9_callOther_66 : decode cX9_callOther 66 = .ok (.iconst 0, 1) := by decide +kernel
theorem dX9_callOther_67 : decode cX9_callOther 67 = .ok (.putfield 29, 3) := by decide +kernel
theorem dX9_callOther_70 : decode cX9_callOther 70 = .ok (.lload_n 3, 1) := by decide +kernel
theorem dX9_callOther_71 : decode cX9_callOther 71 = .ok (.l2i, 1) := by decide +kernel
theorem dX9_callOther_72 : decode cX9_callOther 72 = .ok (.istore 5, 2) := by decide +kernel
theorem dX9_callOther_74 : decode cX9_callOther 74 = .ok (.iconst 0, 1) := by decide +kernel
theorem dX9_callOther_75 : decode cX9_callOther 75 = .ok (.istore 6, 2) := by decide +kernel
theorem dX9_callOther_77 : decode cX9_callOther 77 = .ok (.lload_n 1, 1) := by decide +kernel
theorem dX9_callOther_78 : decode cX9_callOther 78 = .ok (.lconst 0, 1) := by decide +kernel
theorem dX9_callOther_79 : decode cX9_callOther 79 = .ok (.lcmp, 1) := by decide +kernel
theorem dX9_callOther_80 : decode cX9_callOther 80 = .ok (.ifCond .lt 11, 3) := by decide +kernel
theorem dX9_callOther_83 : decode cX9_callOther 83 = .ok (.lload_n 1, 1) := by decide +kernel
theorem dX9_callOther_84 : decode cX9_callOther 84 = .ok (.ldc2_w 139, 3) := by decide +kernel
theorem dX9_callOther_87 : decode cX9_callOther 87 = .ok (.lcmp, 1) := by decide +kernel
theorem dX9_callOther_88 : decode cX9_callOther 88 = .ok (.ifCond .le 12, 3) := by decide +kernel
theorem dX9_callOther_91 : decode cX9_callOther 91 = .ok (.aload_n 0, 1) := by decide +kernel
theorem dX9_callOther_92 : decode cX9_callOther 92 = .ok (.iload 5, 2) := by decide +kernel
theorem dX9_callOther_94 : decode cX9_callOther 94 = .ok (.invokevirtual 141, 3) := by decide +kernel
theorem dX9_callOther_97 : decode cX9_callOther 97 = .ok (.goto 72, 3) := by decide +kernel
theorem dX9_callOther_100 : decode cX9_callOther 100 = .ok (.iload 5, 2) := by decide +kernel
theorem dX9_callOther_102 : decode cX9_callOther 102 = .ok (.lload_n 1, 1) := by decide +kernel
theorem dX9_callOther_103 : decode cX9_callOther 103 = .ok (.l2i, 1) := by decide +kernel
theorem dX9_callOther_104 : decode cX9_callOther 104 = .ok (.invokestatic 144, 3) := by decide +kernel
theorem dX9_callOther_107 : decode cX9_callOther 107 = .ok (.if_icmp .eq 10, 3) := by decide +kernel
theorem dX9_callOther_110 : decode cX9_callOther 110 = .ok (.bipush 9, 2) := by decide +kernel
theorem dX9_callOther_112 : decode cX9_callOther 112 = .ok (.istore 6, 2) := by decide +kernel
theorem dX9_callOther_114 : decode cX9_callOther 114 = .ok (.goto 55, 3) := by decide +kernel
theorem dX9_callOther_117 : decode cX9_callOther 117 = .ok (.lload_n 1, 1) := by decide +kernel
theorem dX9_callOther_118 : decode cX9_callOther 118 = .ok (.lconst 0, 1) := by decide +kernel
theorem dX9_callOther_119 : decode cX9_callOther 119 = .ok (.lcmp, 1) := by decide +kernel
theorem dX9_callOther_120 : decode cX9_callOther 120 = .ok (.ifCond .ne 12, 3) := by decide +kernel
theorem dX9_callOther_123 : decode cX9_callOther 123 = .ok (.aload_n 0, 1) := by decide +kernel
theorem dX9_callOther_124 : decode cX9_callOther 124 = .ok (.invokevirtual 147, 3) := by decide +kernel
theorem dX9_callOther_127 : decode cX9_callOther 127 = .ok (.istore 6, 2) := by decide +kernel
theorem dX9_callOther_129 : decode cX9_callOther 129 = .ok (.goto 40, 3) := by decide +kernel
theorem dX9_callOther_132 : decode cX9_callOther 132 = .ok (.lload_n 1, 1) := by decide +kernel
theorem dX9_callOther_133 : decode cX9_callOther 133 = .ok (.lconst 1, 1) := by decide +kernel
theorem dX9_callOther_134 : decode cX9_callOther 134 = .ok (.lcmp, 1) := by decide +kernel
theorem dX9_callOther_135 : decode cX9_callOther 135 = .ok (.ifCond .ne 10, 3) := by decide +kernel
theorem dX9_callOther_138 : decode cX9_callOther 138 = .ok (.aload_n 0, 1) := by decide +kernel
theorem dX9_callOther_139 : decode cX9_callOther 139 = .ok (.invokevirtual 150, 3) := by decide +kernel
theorem dX9_callOther_142 : decode cX9_callOther 142 = .ok (.goto 27, 3) := by decide +kernel
theorem dX9_callOther_145 : decode cX9_callOther 145 = .ok (.lload_n 1, 1) := by decide +kernel
theorem dX9_callOther_146 : decode cX9_callOther 146 = .ok (.ldc2_w 153, 3) := by decide +kernel
theorem dX9_callOther_149 : decode cX9_callOther 149 = .ok (.lcmp, 1) := by decide +kernel
theorem dX9_callOther_150 : decode cX9_callOther 150 = .ok (.ifCond .ne 12, 3) := by decide +kernel
theorem dX9_callOther_153 : decode cX9_callOther 153 = .ok (.aload_n 0, 1) := by decide +kernel
theorem dX9_callOther_154 : decode cX9_callOther 154 = .ok (.invokevirtual 155, 3) := by decide +kernel
theorem dX9_callOther_157 : decode cX9_callOther 157 = .ok (.istore 6, 2) := by decide +kernel
theorem dX9_callOther_159 : decode cX9_callOther 159 = .ok (.goto 10, 3) := by decide +kernel
theorem dX9_callOther_162 : decode cX9_callOther 162 = .ok (.aload_n 0, 1) := by decide +kernel
theorem dX9_callOther_163 : decode cX9_callOther 163 = .ok (.ldc2_w 158, 3) := by decide +kernel
theorem dX9_callOther_166 : decode cX9_callOther 166 = .ok (.invokevirtual 160, 3) := by decide +kernel
theorem dX9_callOther_169 : decode cX9_callOther 169 = .ok (.aload_n 0, 1) := by decide +kernel
theorem dX9_callOther_170 : decode cX9_callOther 170 = .ok (.getfield 32, 3) := by decide +kernel
theorem dX9_callOther_173 : decode cX9_callOther 173 = .ok (.iload 5, 2) := by decide +kernel
theorem dX9_callOther_175 : decode cX9_callOther 175 = .ok (.invokevirtual 136, 3) := by decide +kernel
theorem dX9_callOther_178 : decode cX9_callOther 178 = .ok (.iload 6, 2) := by decide +kernel
theorem dX9_callOther_180 : decode cX9_callOther 180 = .ok (.ireturn, 1) := by decide +kernel
theorem dX9_endFlex_0 : decode cX9_endFlex 0 = .ok (.aload_n 0, 1) := by decide +kernel
theorem dX9_endFlex_1 : decode cX9_endFlex 1 = .ok (.getfield 9, 3) := by decide +kernel
theorem dX9_endFlex_4 : decode cX9_endFlex 4 = .ok (.ifCond .eq 12, 3) := by decide +kernel
theorem dX9_endFlex_7 : decode cX9_endFlex 7 = .ok (.aload_n 0, 1) := by decide +kernel
theorem dX9_endFlex_8 : decode cX9_endFlex 8 = .ok (.getfield 22, 3) := by decide +kernel
theorem dX9_endFlex_11 : decode cX9_endFlex 11 = .ok (.bipush 7, 2) := by decide +kernel
theorem dX9_endFlex_13 : decode cX9_endFlex 13 = .ok (.if_icmp .eq 6, 3) := by decide +kernel
theorem dX9_endFlex_16 : decode cX9_endFlex 16 = .ok (.bipush 9, 2) := by decide +kernel
theorem dX9_endFlex_18 : decode cX9_endFlex 18 = .ok (.ireturn, 1) := by decide +kernel
theorem dX9_endFlex_19 : decode cX9_endFlex 19 = .ok (.aload_n 0, 1) := by decide +kernel
theorem dX9_endFlex_20 : decode cX9_endFlex 20 = .ok (.iconst 0, 1) := by decide +kernel
theorem dX9_endFlex_21 : decode cX9_endFlex 21 = .ok (.putfield 9, 3) := by decide +kernel
theorem dX9_endFlex_24 : decode cX9_endFlex 24 = .ok (.aload_n 0, 1) := by decide +kernel
theorem dX9_endFlex_25 : decode cX9_endFlex 25 = .ok (.aload_n 0, 1) := by decide +kernel
theorem dX9_endFlex_26 : decode cX9_endFlex 26 = .ok (.getfield 32, 3) := by decide +kernel
theorem dX9_endFlex_29 : decode cX9_endFlex 29 = .ok (.iconst 0, 1) := by decide +kernel
theorem dX9_endFlex_30 : decode cX9_endFlex 30 = .ok (.invokevirtual 170, 3) := by decide +kernel
theorem dX9_endFlex_33 : decode cX9_endFlex 33 = .ok (.invokevirtual 160, 3) := by decide +kernel
theorem dX9_endFlex_36 : decode cX9_endFlex 36 = .ok (.aload_n 0, 1) := by decide +kernel
theorem dX9_endFlex_37 : decode cX9_endFlex 37 = .ok (.aload_n 0, 1) := by decide +kernel
theorem dX9_endFlex_38 : decode cX9_endFlex 38 = .ok (.getfield 32, 3) := by decide +kernel
theorem dX9_endFlex_41 : decode cX9_endFlex 41 = .ok (.iconst 1, 1) := by decide +kernel
theorem dX9_endFlex_42 : decode cX9_endFlex 42 = .ok (.invokevirtual 170, 3) := by decide +kernel
theorem dX9_endFlex_45 : decode cX9_endFlex 45 = .ok (.invokevirtual 160, 3) := by decide +kernel
theorem dX9_endFlex_48 : decode cX9_endFlex 48 = .ok (.iconst 0, 1) := by decide +kernel
theorem dX9_endFlex_49 : decode cX9_endFlex 49 = .ok (.istore_n 1, 1) := by decide +kernel
theorem dX9_endFlex_50 : decode cX9_endFlex 50 = .ok (.iconst 1, 1) := by decide +kernel
theorem dX9_endFlex_51 : decode cX9_endFlex 51 = .ok (.istore_n 2, 1) := by decide +kernel
theorem dX9_endFlex_52 : decode cX9_endFlex 52 = .ok (.iload_n 2, 1) := by decide +kernel
theorem dX9_endFlex_53 : decode cX9_endFlex 53 = .ok (.iconst 3, 1) := by decide +kernel
theorem dX9_endFlex_54 : decode cX9_endFlex 54 = .ok (.iadd, 1) := by decide +kernel
theorem dX9_endFlex_55 : decode cX9_endFlex 55 = .ok (.bipush 7, 2) := by decide +kernel
theorem dX9_endFlex_57 : decode cX9_endFlex 57 = .ok (.if_icmp .gt 113, 3) := by decide +kernel
theorem dX9_endFlex_60 : decode cX9_endFlex 60 = .ok (.iload_n 1, 1) := by decide +kernel
theorem dX9_endFlex_61 : decode cX9_endFlex 61 = .ok (.ifCond .ne 109, 3) := by decide +kernel
theorem dX9_endFlex_64 : decode cX9_endFlex 64 = .ok (.aload_n 0, 1) := by decide +kernel
theorem dX9_endFlex_65 : decode cX9_endFlex 65 = .ok (.getfield 93, 3) := by decide +kernel
theorem dX9_endFlex_68 : decode cX9_endFlex 68 = .ok (.aload_n 0, 1) := by decide +kernel
theorem dX9_endFlex_69 : decode cX9_endFlex 69 = .ok (.getfield 15, 3) := by decide +kernel
theorem dX9_endFlex_72 : decode cX9_endFlex 72 = .ok (.iload_n 2, 1) := by decide +kernel
theorem dX9_endFlex_73 : decode cX9_endFlex 73 = .ok (.laload, 1) := by decide +kernel
theorem dX9_endFlex_74 : decode cX9_endFlex 74 = .ok (.aload_n 0, 1) := by decide +kernel
theorem dX9_endFlex_75 : decode cX9_endFlex 75 = .ok (.getfield 93, 3) := by decide +kernel
theorem dX9_endFlex_78 : decode cX9_endFlex 78 = .ok (.getfield 164, 3) := by decide +kernel
theorem dX9_endFlex_81 : decode cX9_endFlex 81 = .ok (.lsub, 1) := by decide +kernel
theorem dX9_endFlex_82 : decode cX9_endFlex 82 = .ok (.aload_n 0, 1) := by decide +kernel
theorem dX9_endFlex_83 : decode cX9_endFlex 83 = .ok (.getfield 19, 3) := by decide +kernel
theorem dX9_endFlex_86 : decode cX9_endFlex 86 = .ok (.iload_n 2, 1) := by decide +kernel
theorem dX9_endFlex_87 : decode cX9_endFlex 87 = .ok (.laload, 1) := by decide +kernel
theorem dX9_endFlex_88 : decode cX9_endFlex 88 = .ok (.aload_n 0, 1) := by decide +kernel
theorem dX9_endFlex_89 : decode cX9_endFlex 89 = .ok (.getfield 93, 3) := by decide +kernel
theorem dX9_endFlex_92 : decode cX9_endFlex 92 = .ok (.getfield 167, 3) := by decide +kernel
theorem dX9_endFlex_95 : decode cX9_endFlex 95 = .ok (.lsub, 1) := by decide +kernel
theorem dX9_endFlex_96 : decode cX9_endFlex 96 = .ok (.aload_n 0, 1) := by decide +kernel
theorem dX9_endFlex_97 : decode cX9_endFlex 97 = .ok (.getfield 15, 3) := by decide +kernel
theorem dX9_endFlex_100 : decode cX9_endFlex 100 = .ok (.iload_n 2, 1) := by decide +kernel
theorem dX9_endFlex_101 : decode cX9_endFlex 101 = .ok (.iconst 1, 1) := by decide +kernel
theorem dX9_endFlex_102 : decode cX9_endFlex 102 = .ok (.iadd, 1) := by decide +kernel
theorem dX9_endFlex_103 : decode cX9_endFlex 103 = .ok (.laload, 1) := by decide +kernel
theorem dX9_endFlex_104 : decode cX9_endFlex 104 = .ok (.aload_n 0, 1) := by decide +kernel
theorem dX9_endFlex_105 : decode cX9_endFlex 105 = .ok (.getfield 15, 3) := by decide +kernel
theorem dX9_endFlex_108 : decode cX9_endFlex 108 = .ok (.iload_n 2, 1) := by decide +kernel
theorem dX9_endFlex_109 : decode cX9_endFlex 109 = .ok (.laload, 1) := by decide +kernel
theorem dX9_endFlex_110 : decode cX9_endFlex 110 = .ok (.lsub, 1) := by decide +kernel
theorem dX9_endFlex_111 : decode cX9_endFlex 111 = .ok (.aload_n 0, 1) := by decide +kernel
theorem dX9_endFlex_112 : decode cX9_endFlex 112 = .ok (.getfield 19, 3) := by decide +kernel
theorem dX9_endFlex_115 : decode cX9_endFlex 115 = .ok (.iload_n 2, 1) := by decide +kernel
theorem dX9_endFlex_116 : decode cX9_endFlex 116 = .ok (.iconst 1, 1) := by decide +kernel
theorem dX9_endFlex_117 : decode cX9_endFlex 117 = .ok (.iadd, 1) := by decide +kernel
theorem dX9_endFlex_118 : decode cX9_endFlex 118 = .ok (.laload, 1) := by decide +kernel
theorem dX9_endFlex_119 : decode cX9_endFlex 119 = .ok (.aload_n 0, 1) := by decide +kernel
theorem dX9_endFlex_120 : decode cX9_endFlex 120 = .ok (.getfield 19, 3) := by decide +kernel
theorem dX9_endFlex_123 : decode cX9_endFlex 123 = .ok (.iload_n 2, 1) := by decide +kernel
theorem dX9_endFlex_124 : decode cX9_endFlex 124 = .ok (.laload, 1) := by decide +kernel
theorem dX9_endFlex_125 : decode cX9_endFlex 125 = .ok (.lsub, 1) := by decide +kernel
theorem dX9_endFlex_126 : decode cX9_endFlex 126 = .ok (.aload_n 0, 1) := by decide +kernel
theorem dX9_endFlex_127 : decode cX9_endFlex 127 = .ok (.getfield 15, 3) := by decide +kernel
theorem dX9_endFlex_130 : decode cX9_endFlex 130 = .ok (.iload_n 2, 1) := by decide +kernel
theorem dX9_endFlex_131 : decode cX9_endFlex 131 = .ok (.iconst 2, 1) := by decide +kernel
theorem dX9_endFlex_132 : decode cX9_endFlex 132 = .ok (.iadd, 1) := by decide +kernel
theorem dX9_endFlex_133 : decode cX9_endFlex 133 = .ok (.laload, 1) := by decide +kernel
theorem dX9_endFlex_134 : decode cX9_endFlex 134 = .ok (.aload_n 0, 1) := by decide +kernel
theorem dX9_endFlex_135 : decode cX9_endFlex 135 = .ok (.getfield 15, 3) := by decide +kernel
theorem dX9_endFlex_138 : decode cX9_endFlex 138 = .ok (.iload_n 2, 1) := by decide +kernel
theorem dX9_endFlex_139 : decode cX9_endFlex 139 = .ok (.iconst 1, 1) := by decide +kernel
theorem dX9_endFlex_140 : decode cX9_endFlex 140 = .ok (.iadd, 1) := by decide +kernel
theorem dX9_endFlex_141 : decode cX9_endFlex 141 = .ok (.laload, 1) := by decide +kernel
theorem dX9_endFlex_142 : decode cX9_endFlex 142 = .ok (.lsub, 1) := by decide +kernel
theorem dX9_endFlex_143 : decode cX9_endFlex 143 = .ok (.aload_n 0, 1) := by decide +kernel
theorem dX9_endFlex_144 : decode cX9_endFlex 144 = .ok (.getfield 19, 3) := by decide +kernel
theorem dX9_endFlex_147 : decode cX9_endFlex 147 = .ok (.iload_n 2, 1) := by decide +kernel
theorem dX9_endFlex_148 : decode cX9_endFlex 148 = .ok (.iconst 2, 1) := by decide +kernel
theorem dX9_endFlex_149 : decode cX9_endFlex 149 = .ok (.iadd, 1) := by decide +kernel
theorem dX9_endFlex_150 : decode cX9_endFlex 150 = .ok (.laload, 1) := by decide +kernel
theorem dX9_endFlex_151 : decode cX9_endFlex 151 = .ok (.aload_n 0, 1) := by decide +kernel
theorem dX9_endFlex_152 : decode cX9_endFlex 152 = .ok (.getfield 19, 3) := by decide +kernel
theorem dX9_endFlex_155 : decode cX9_endFlex 155 = .ok (.iload_n 2, 1) := by decide +kernel
theorem dX9_endFlex_156 : decode cX9_endFlex 156 = .ok (.iconst 1, 1) := by decide +kernel
theorem dX9_endFlex_157 : decode cX9_endFlex 157 = .ok (.iadd, 1) := by decide +kernel
theorem dX9_endFlex_158 : decode cX9_endFlex 158 = .ok (.laload, 1) := by decide +kernel
theorem dX9_endFlex_159 : decode cX9_endFlex 159 = .ok (.lsub, 1) := by decide +kernel
theorem dX9_endFlex_160 : decode cX9_endFlex 160 = .ok (.invokevirtual 173, 3) := by decide +kernel
theorem dX9_endFlex_163 : decode cX9_endFlex 163 = .ok (.istore_n 1, 1) := by decide +kernel
theorem dX9_endFlex_164 : decode cX9_endFlex 164 = .ok (.iinc 2 3, 3) := by decide +kernel
theorem dX9_endFlex_167 : decode cX9_endFlex 167 = .ok (.goto (-115), 3) := by decide +kernel
theorem dX9_endFlex_170 : decode cX9_endFlex 170 = .ok (.iload_n 1, 1) := by decide +kernel
theorem dX9_endFlex_171 : decode cX9_endFlex 171 = .ok (.ireturn, 1) := by decide +kernel
theorem dX9_isNumber_0 : decode cX9_isNumber 0 = .ok (.iload_n 1, 1) := by decide +kernel
theorem dX9_isNumber_1 : decode cX9_isNumber 1 = .ok (.bipush 32, 2) := by decide +kernel
theorem dX9_isNumber_3 : decode cX9_isNumber 3 = .ok (.if_icmp .lt 7, 3) := by decide +kernel
theorem dX9_isNumber_6 : decode cX9_isNumber 6 = .ok (.iconst 1, 1) := by decide +kernel
theorem dX9_isNumber_7 : decode cX9_isNumber 7 = .ok (.goto 4, 3) := by decide +kernel
theorem dX9_isNumber_10 : decode cX9_isNumber 10 = .ok (.iconst 0, 1) := by decide +kernel
theorem dX9_isNumber_11 : decode cX9_isNumber 11 = .ok (.ireturn, 1) := by decide +kernel
theorem dX9_keepPoint_0 : decode cX9_keepPoint 0 = .ok (.aload_n 0, 1) := by decide +kernel
theorem dX9_keepPoint_1 : decode cX9_keepPoint 1 = .ok (.getfield 9, 3) := by decide +kernel
theorem dX9_keepPoint_4 : decode cX9_keepPoint 4 = .ok (.ifCond .eq 12, 3) := by decide +kernel
theorem dX9_keepPoint_7 : decode cX9_keepPoint 7 = .ok (.aload_n 0, 1) := by decide +kernel
theorem dX9_keepPoint_8 : decode cX9_keepPoint 8 = .ok (.getfield 22, 3) := by decide +kernel
theorem dX9_keepPoint_11 : decode cX9_keepPoint 11 = .ok (.bipush 7, 2) := by decide +kernel
theorem dX9_keepPoint_13 : decode cX9_keepPoint 13 = .ok (.if_icmp .lt 6, 3) := by decide +kernel
theorem dX9_keepPoint_16 : decode cX9_keepPoint 16 = .ok (.bipush 9, 2) := by decide +kernel
theorem dX9_keepPoint_18 : decode cX9_keepPoint 18 = .ok (.ireturn, 1) := by decide +kernel
theorem dX9_keepPoint_19 : decode cX9_keepPoint 19 = .ok (.aload_n 0, 1) := by decide +kernel
theorem dX9_keepPoint_20 : decode cX9_keepPoint 20 = .ok (.getfield 15, 3) := by decide +kernel
theorem dX9_keepPoint_23 : decode cX9_keepPoint 23 = .ok (.aload_n 0, 1) := by decide +kernel
theorem dX9_keepPoint_24 : decode cX9_keepPoint 24 = .ok (.getfield 22, 3) := by decide +kernel
theorem dX9_keepPoint_27 : decode cX9_keepPoint 27 = .ok (.aload_n 0, 1) := by decide +kernel
theorem dX9_keepPoint_28 : decode cX9_keepPoint 28 = .ok (.getfield 93, 3) := by decide +kernel
theorem dX9_keepPoint_31 : decode cX9_keepPoint 31 = .ok (.getfield 164, 3) := by decide +kernel
theorem dX9_keepPoint_34 : decode cX9_keepPoint 34 = .ok (.lastore, 1) := by decide +kernel
theorem dX9_keepPoint_35 : decode cX9_keepPoint 35 = .ok (.aload_n 0, 1) := by decide +kernel
theorem dX9_keepPoint_36 : decode cX9_keepPoint 36 = .ok (.getfield 19, 3) := by decide +kernel
theorem dX9_keepPoint_39 : decode cX9_keepPoint 39 = .ok (.aload_n 0, 1) := by decide +kernel
theorem dX9_keepPoint_40 : decode cX9_keepPoint 40 = .ok (.getfield 22, 3) := by decide +kernel
theorem dX9_keepPoint_43 : decode cX9_keepPoint 43 = .ok (.aload_n 0, 1) := by decide +kernel
theorem dX9_keepPoint_44 : decode cX9_keepPoint 44 = .ok (.getfield 93, 3) := by decide +kernel
theorem dX9_keepPoint_47 : decode cX9_keepPoint 47 = .ok (.getfield 167, 3) := by decide +kernel
theorem dX9_keepPoint_50 : decode cX9_keepPoint 50 = .ok (.lastore, 1) := by decide +kernel
theorem dX9_keepPoint_51 : decode cX9_keepPoint 51 = .ok (.aload_n 0, 1) := by decide +kernel
theorem dX9_keepPoint_52 : decode cX9_keepPoint 52 = .ok (.dup, 1) := by decide +kernel
theorem dX9_keepPoint_53 : decode cX9_keepPoint 53 = .ok (.getfield 22, 3) := by decide +kernel
theorem dX9_keepPoint_56 : decode cX9_keepPoint 56 = .ok (.iconst 1, 1) := by decide +kernel
theorem dX9_keepPoint_57 : decode cX9_keepPoint 57 = .ok (.iadd, 1) := by decide +kernel
theorem dX9_keepPoint_58 : decode cX9_keepPoint 58 = .ok (.putfield 22, 3) := by decide +kernel
theorem dX9_keepPoint_61 : decode cX9_keepPoint 61 = .ok (.iconst 0, 1) := by decide +kernel
theorem dX9_keepPoint_62 : decode cX9_keepPoint 62 = .ok (.ireturn, 1) := by decide +kernel
theorem dX9_longNumber_0 : decode cX9_longNumber 0 = .ok (.iload_n 1, 1) := by decide +kernel
theorem dX9_longNumber_1 : decode cX9_longNumber 1 = .ok (.i2l, 1) := by decide +kernel
theorem dX9_longNumber_2 : decode cX9_longNumber 2 = .ok (.ldc2_w 42, 3) := by decide +kernel
theorem dX9_longNumber_5 : decode cX9_longNumber 5 = .ok (.lmul, 1) := by decide +kernel
theorem dX9_longNumber_6 : decode cX9_longNumber 6 = .ok (.lreturn, 1) := by decide +kernel
theorem dX9_move_0 : decode cX9_move 0 = .ok (.aload_n 0, 1) := by decide +kernel
theorem dX9_move_1 : decode cX9_move 1 = .ok (.getfield 9, 3) := by decide +kernel
theorem dX9_move_4 : decode cX9_move 4 = .ok (.ifCond .eq 14, 3) := by decide +kernel
theorem dX9_move_7 : decode cX9_move 7 = .ok (.aload_n 0, 1) := by decide +kernel
theorem dX9_move_8 : decode cX9_move 8 = .ok (.getfield 93, 3) := by decide +kernel
theorem dX9_move_11 : decode cX9_move 11 = .ok (.lload_n 1, 1) := by decide +kernel
theorem dX9_move_12 : decode cX9_move 12 = .ok (.lload_n 3, 1) := by decide +kernel
theorem dX9_move_13 : decode cX9_move 13 = .ok (.invokevirtual 127, 3) := by decide +kernel
theorem dX9_move_16 : decode cX9_move 16 = .ok (.iconst 0, 1) := by decide +kernel
theorem dX9_move_17 : decode cX9_move 17 = .ok (.ireturn, 1) := by decide +kernel
theorem dX9_move_18 : decode cX9_move 18 = .ok (.aload_n 0, 1) := by decide +kernel
theorem dX9_move_19 : decode cX9_move 19 = .ok (.getfield 93, 3) := by decide +kernel
theorem dX9_move_22 : decode cX9_move 22 = .ok (.lload_n 1, 1) := by decide +kernel
theorem dX9_move_23 : decode cX9_move 23 = .ok (.lload_n 3, 1) := by decide +kernel
theorem dX9_move_24 : decode cX9_move 24 = .ok (.invokevirtual 130, 3) := by decide +kernel
theorem dX9_move_27 : decode cX9_move 27 = .ok (.ireturn, 1) := by decide +kernel
theorem dX9_operate_0 : decode cX9_operate 0 = .ok (.iload_n 1, 1) := by decide +kernel
theorem dX9_operate_1 : decode cX9_operate 1 = .ok (.lookupswitch 87 #[(10, 51), (11, 64), (268, 69), (272, 77), (273, 82)], 51) := by decide +kernel
theorem dX9_operate_52 : decode cX9_operate 52 = .ok (.aload_n 0, 1) := by decide +kernel
theorem dX9_operate_53 : decode cX9_operate 53 = .ok (.aload_n 0, 1) := by decide +kernel
theorem dX9_operate_54 : decode cX9_operate 54 = .ok (.getfield 44, 3) := by decide +kernel
theorem dX9_operate_57 : decode cX9_operate 57 = .ok (.getfield 48, 3) := by decide +kernel
theorem dX9_operate_60 : decode cX9_operate 60 = .ok (.iconst 0, 1) := by decide +kernel
theorem dX9_operate_61 : decode cX9_operate 61 = .ok (.invokevirtual 54, 3) := by decide +kernel
theorem dX9_operate_64 : decode cX9_operate 64 = .ok (.ireturn, 1) := by decide +kernel
theorem dX9_operate_65 : decode cX9_operate 65 = .ok (.aload_n 0, 1) := by decide +kernel
theorem dX9_operate_66 : decode cX9_operate 66 = .ok (.invokevirtual 58, 3) := by decide +kernel
theorem dX9_operate_69 : decode cX9_operate 69 = .ok (.ireturn, 1) := by decide +kernel
theorem dX9_operate_70 : decode cX9_operate 70 = .ok (.aload_n 0, 1) := by decide +kernel
theorem dX9_operate_71 : decode cX9_operate 71 = .ok (.getfield 32, 3) := by decide +kernel
theorem dX9_operate_74 : decode cX9_operate 74 = .ok (.invokevirtual 62, 3) := by decide +kernel
theorem dX9_operate_77 : decode cX9_operate 77 = .ok (.ireturn, 1) := by decide +kernel
theorem dX9_operate_78 : decode cX9_operate 78 = .ok (.aload_n 0, 1) := by decide +kernel
theorem dX9_operate_79 : decode cX9_operate 79 = .ok (.invokevirtual 65, 3) := by decide +kernel
theorem dX9_operate_82 : decode cX9_operate 82 = .ok (.ireturn, 1) := by decide +kernel
theorem dX9_operate_83 : decode cX9_operate 83 = .ok (.aload_n 0, 1) := by decide +kernel
theorem dX9_operate_84 : decode cX9_operate 84 = .ok (.invokevirtual 68, 3) := by decide +kernel
theorem dX9_operate_87 : decode cX9_operate 87 = .ok (.ireturn, 1) := by decide +kernel
theorem dX9_operate_88 : decode cX9_operate 88 = .ok (.iload_n 1, 1) := by decide +kernel
theorem dX9_operate_89 : decode cX9_operate 89 = .ok (.invokestatic 71, 3) := by decide +kernel
theorem dX9_operate_92 : decode cX9_operate 92 = .ok (.istore_n 2, 1) := by decide +kernel
theorem dX9_operate_93 : decode cX9_operate 93 = .ok (.iload_n 2, 1) := by decide +kernel
theorem dX9_operate_94 : decode cX9_operate 94 = .ok (.iconst (-1), 1) := by decide +kernel
theorem dX9_operate_95 : decode cX9_operate 95 = .ok (.if_icmp .ne 5, 3) := by decide +kernel
theorem dX9_operate_98 : decode cX9_operate 98 = .ok (.iconst 1, 1) := by decide +kernel
theorem dX9_operate_99 : decode cX9_operate 99 = .ok (.ireturn, 1) := by decide +kernel
theorem dX9_operate_100 : decode cX9_operate 100 = .ok (.aload_n 0, 1) := by decide +kernel
theorem dX9_operate_101 : decode cX9_operate 101 = .ok (.getfield 32, 3) := by decide +kernel
theorem dX9_operate_104 : decode cX9_operate 104 = .ok (.invokevirtual 75, 3) := by decide +kernel
theorem dX9_operate_107 : decode cX9_operate 107 = .ok (.iload_n 2, 1) := by decide +kernel
theorem dX9_operate_108 : decode cX9_operate 108 = .ok (.if_icmp .eq 5, 3) := by decide +kernel
theorem dX9_operate_111 : decode cX9_operate 111 = .ok (.iconst 2, 1) := by decide +kernel
theorem dX9_operate_112 : decode cX9_operate 112 = .ok (.ireturn, 1) := by decide +kernel
theorem dX9_operate_113 : decode cX9_operate 113 = .ok (.aload_n 0, 1) := by decide +kernel
theorem dX9_operate_114 : decode cX9_operate 114 = .ok (.iload_n 1, 1) := by decide +kernel
theorem dX9_operate_115 : decode cX9_operate 115 = .ok (.invokevirtual 78, 3) := by decide +kernel
theorem dX9_operate_118 : decode cX9_operate 118 = .ok (.istore_n 3, 1) := by decide +kernel
theorem dX9_operate_119 : decode cX9_operate 119 = .ok (.aload_n 0, 1) := by decide +kernel
theorem dX9_operate_120 : decode cX9_operate 120 = .ok (.getfield 32, 3) := by decide +kernel
theorem dX9_operate_123 : decode cX9_operate 123 = .ok (.invokevirtual 81, 3) := by decide +kernel
theorem dX9_operate_126 : decode cX9_operate 126 = .ok (.iload_n 3, 1) := by decide +kernel
theorem dX9_operate_127 : decode cX9_operate 127 = .ok (.ireturn, 1) := by decide +kernel
theorem dX9_paint_0 : decode cX9_paint 0 = .ok (.aload_n 0, 1) := by decide +kernel
theorem dX9_paint_1 : decode cX9_paint 1 = .ok (.getfield 32, 3) := by decide +kernel
theorem dX9_paint_4 : decode cX9_paint 4 = .ok (.iconst 0, 1) := by decide +kernel
theorem dX9_paint_5 : decode cX9_paint 5 = .ok (.invokevirtual 85, 3) := by decide +kernel
theorem dX9_paint_8 : decode cX9_paint 8 = .ok (.lstore_n 2, 1) := by decide +kernel
theorem dX9_paint_9 : decode cX9_paint 9 = .ok (.aload_n 0, 1) := by decide +kernel
theorem dX9_paint_10 : decode cX9_paint 10 = .ok (.getfield 32, 3) := by decide +kernel
theorem dX9_paint_13 : decode cX9_paint 13 = .ok (.iconst 1, 1) := by decide +kernel
theorem dX9_paint_14 : decode cX9_paint 14 = .ok (.invokevirtual 85, 3) := by decide +kernel
theorem dX9_paint_17 : decode cX9_paint 17 = .ok (.lstore 4, 2) := by decide +kernel
theorem dX9_paint_19 : decode cX9_paint 19 = .ok (.iload_n 1, 1) := by decide +kernel
theorem dX9_paint_20 : decode cX9_paint 20 = .ok (.tableswitch 209 4 31 #[128, 135, 146, 156, 166, 174, 209, 209, 209, 209, 209, 209, 209, 209, 209, 209, 209, 182, 190, 209, 209, 209, 209, 209, 209, 209, 197, 203], 128) := by decide +kernel
theorem dX9_paint_148 : decode cX9_paint 148 = .ok (.aload_n 0, 1) := by decide +kernel
theorem dX9_paint_149 : decode cX9_paint 149 = .ok (.lconst 0, 1) := by decide +kernel
theorem dX9_paint_150 : decode cX9_paint 150 = .ok (.lload_n 2, 1) := by decide +kernel
theorem dX9_paint_151 : decode cX9_paint 151 = .ok (.invokevirtual 89, 3) := by decide +kernel
theorem dX9_paint_154 : decode cX9_paint 154 = .ok (.ireturn, 1) := by decide +kernel
theorem dX9_paint_155 : decode cX9_paint 155 = .ok (.aload_n 0, 1) := by decide +kernel
theorem dX9_paint_156 : decode cX9_paint 156 = .ok (.getfield 93, 3) := by decide +kernel
theorem dX9_paint_159 : decode cX9_paint 159 = .ok (.lload_n 2, 1) := by decide +kernel
theorem dX9_paint_160 : decode cX9_paint 160 = .ok (.lload 4, 2) := by decide +kernel
theorem dX9_paint_162 : decode cX9_paint 162 = .ok (.invokevirtual 97, 3) := by decide +kernel
theorem dX9_paint_165 : decode cX9_paint 165 = .ok (.ireturn, 1) := by decide +kernel
theorem dX9_paint_166 : decode cX9_paint 166 = .ok (.aload_n 0, 1) := by decide +kernel
theorem dX9_paint_167 : decode cX9_paint 167 = .ok (.getfield 93, 3) := by decide +kernel
theorem dX9_paint_170 : decode cX9_paint 170 = .ok (.lload_n 2, 1) := by decide +kernel
theorem dX9_paint_171 : decode cX9_paint 171 = .ok (.lconst 0, 1) := by decide +kernel
theorem dX9_paint_172 : decode cX9_paint 172 = .ok (.invokevirtual 97, 3) := by decide +kernel
theorem dX9_paint_175 : decode cX9_paint 175 = .ok (.ireturn, 1) := by decide +kernel
theorem dX9_paint_176 : decode cX9_paint 176 = .ok (.aload_n 0, 1) := by decide +kernel
theorem dX9_paint_177 : decode cX9_paint 177 = .ok (.getfield 93, 3) := by decide +kernel
theorem dX9_paint_180 : decode cX9_paint 180 = .ok (.lconst 0, 1) := by decide +kernel
theorem dX9_paint_181 : decode cX9_paint 181 = .ok (.lload_n 2, 1) := by decide +kernel
theorem dX9_paint_182 : decode cX9_paint 182 = .ok (.invokevirtual 97, 3) := by decide +kernel
theorem dX9_paint_185 : decode cX9_paint 185 = .ok (.ireturn, 1) := by decide +kernel
theorem dX9_paint_186 : decode cX9_paint 186 = .ok (.aload_n 0, 1) := by decide +kernel
theorem dX9_paint_187 : decode cX9_paint 187 = .ok (.iconst 0, 1) := by decide +kernel
theorem dX9_paint_188 : decode cX9_paint 188 = .ok (.bipush 6, 2) := by decide +kernel
theorem dX9_paint_190 : decode cX9_paint 190 = .ok (.invokevirtual 102, 3) := by decide +kernel
theorem dX9_paint_193 : decode cX9_paint 193 = .ok (.ireturn, 1) := by decide +kernel
theorem dX9_paint_194 : decode cX9_paint 194 = .ok (.aload_n 0, 1) := by decide +kernel
theorem dX9_paint_195 : decode cX9_paint 195 = .ok (.getfield 93, 3) := by decide +kernel
theorem dX9_paint_198 : decode cX9_paint 198 = .ok (.invokevirtual 106, 3) := by decide +kernel
theorem dX9_paint_201 : decode cX9_paint 201 = .ok (.ireturn, 1) := by decide +kernel
theorem dX9_paint_202 : decode cX9_paint 202 = .ok (.aload_n 0, 1) := by decide +kernel
theorem dX9_paint_203 : decode cX9_paint 203 = .ok (.lload_n 2, 1) := by decide +kernel
theorem dX9_paint_204 : decode cX9_paint 204 = .ok (.lload 4, 2) := by decide +kernel
theorem dX9_paint_206 : decode cX9_paint 206 = .ok (.invokevirtual 89, 3) := by decide +kernel
theorem dX9_paint_209 : decode cX9_paint 209 = .ok (.ireturn, 1) := by decide +kernel
theorem dX9_paint_210 : decode cX9_paint 210 = .ok (.aload_n 0, 1) := by decide +kernel
theorem dX9_paint_211 : decode cX9_paint 211 = .ok (.lload_n 2, 1) := by decide +kernel
theorem dX9_paint_212 : decode cX9_paint 212 = .ok (.lconst 0, 1) := by decide +kernel
theorem dX9_paint_213 : decode cX9_paint 213 = .ok (.invokevirtual 89, 3) := by decide +kernel
theorem dX9_paint_216 : decode cX9_paint 216 = .ok (.ireturn, 1) := by decide +kernel
theorem dX9_paint_217 : decode cX9_paint 217 = .ok (.aload_n 0, 1) := by decide +kernel
theorem dX9_paint_218 : decode cX9_paint 218 = .ok (.iconst 0, 1) := by decide +kernel
theorem dX9_paint_219 : decode cX9_paint 219 = .ok (.invokevirtual 109, 3) := by decide +kernel
theorem dX9_paint_222 : decode cX9_paint 222 = .ok (.ireturn, 1) := by decide +kernel
theorem dX9_paint_223 : decode cX9_paint 223 = .ok (.aload_n 0, 1) := by decide +kernel
theorem dX9_paint_224 : decode cX9_paint 224 = .ok (.iconst 1, 1) := by decide +kernel
theorem dX9_paint_225 : decode cX9_paint 225 = .ok (.invokevirtual 109, 3) := by decide +kernel
theorem dX9_paint_228 : decode cX9_paint 228 = .ok (.ireturn, 1) := by decide +kernel
theorem dX9_paint_229 : decode cX9_paint 229 = .ok (.aload_n 0, 1) := by decide +kernel
theorem dX9_paint_230 : decode cX9_paint 230 = .ok (.iload_n 1, 1) := by decide +kernel
theorem dX9_paint_231 : decode cX9_paint 231 = .ok (.invokevirtual 113, 3) := by decide +kernel
theorem dX9_paint_234 : decode cX9_paint 234 = .ok (.ireturn, 1) := by decide +kernel
theorem dX9_paintNothing_0 : decode cX9_paintNothing 0 = .ok (.iload_n 1, 1) := by decide +kernel
theorem dX9_paintNothing_1 : decode cX9_paintNothing 1 = .ok (.lookupswitch 141 #[(13, 43), (14, 135), (263, 73), (289, 110)], 43) := by decide +kernel
theorem dX9_paintNothing_44 : decode cX9_paintNothing 44 = .ok (.aload_n 0, 1) := by decide +kernel
theorem dX9_paintNothing_45 : decode cX9_paintNothing 45 = .ok (.aload_n 0, 1) := by decide +kernel
theorem dX9_paintNothing_46 : decode cX9_paintNothing 46 = .ok (.getfield 32, 3) := by decide +kernel
theorem dX9_paintNothing_49 : decode cX9_paintNothing 49 = .ok (.iconst 1, 1) := by decide +kernel
theorem dX9_paintNothing_50 : decode cX9_paintNothing 50 = .ok (.invokevirtual 85, 3) := by decide +kernel
theorem dX9_paintNothing_53 : decode cX9_paintNothing 53 = .ok (.putfield 116, 3) := by decide +kernel
theorem dX9_paintNothing_56 : decode cX9_paintNothing 56 = .ok (.aload_n 0, 1) := by decide +kernel
theorem dX9_paintNothing_57 : decode cX9_paintNothing 57 = .ok (.getfield 93, 3) := by decide +kernel
theorem dX9_paintNothing_60 : decode cX9_paintNothing 60 = .ok (.aload_n 0, 1) := by decide +kernel
theorem dX9_paintNothing_61 : decode cX9_paintNothing 61 = .ok (.getfield 32, 3) := by decide +kernel
theorem dX9_paintNothing_64 : decode cX9_paintNothing 64 = .ok (.iconst 0, 1) := by decide +kernel
theorem dX9_paintNothing_65 : decode cX9_paintNothing 65 = .ok (.invokevirtual 85, 3) := by decide +kernel
theorem dX9_paintNothing_68 : decode cX9_paintNothing 68 = .ok (.lconst 0, 1) := by decide +kernel
theorem dX9_paintNothing_69 : decode cX9_paintNothing 69 = .ok (.invokevirtual 120, 3) := by decide +kernel
theorem dX9_paintNothing_72 : decode cX9_paintNothing 72 = .ok (.iconst 0, 1) := by decide +kernel
theorem dX9_paintNothing_73 : decode cX9_paintNothing 73 = .ok (.ireturn, 1) := by decide +kernel
theorem dX9_paintNothing_74 : decode cX9_paintNothing 74 = .ok (.aload_n 0, 1) := by decide +kernel
theorem dX9_paintNothing_75 : decode cX9_paintNothing 75 = .ok (.aload_n 0, 1) := by decide +kernel
theorem dX9_paintNothing_76 : decode cX9_paintNothing 76 = .ok (.getfield 32, 3) := by decide +kernel
theorem dX9_paintNothing_79 : decode cX9_paintNothing 79 = .ok (.iconst 2, 1) := by decide +kernel
theorem dX9_paintNothing_80 : decode cX9_paintNothing 80 = .ok (.invokevirtual 85, 3) := by decide +kernel
theorem dX9_paintNothing_83 : decode cX9_paintNothing 83 = .ok (.putfield 116, 3) := by decide +kernel
theorem dX9_paintNothing_86 : decode cX9_paintNothing 86 = .ok (.aload_n 0, 1) := by decide +kernel
theorem dX9_paintNothing_87 : decode cX9_paintNothing 87 = .ok (.getfield 93, 3) := by decide +kernel
theorem dX9_paintNothing_90 : decode cX9_paintNothing 90 = .ok (.aload_n 0, 1) := by decide +kernel
theorem dX9_paintNothing_91 : decode cX9_paintNothing 91 = .ok (.getfield 32, 3) := by decide +kernel
theorem dX9_paintNothing_94 : decode cX9_paintNothing 94 = .ok (.iconst 0, 1) := by decide +kernel
theorem dX9_paintNothing_95 : decode cX9_paintNothing 95 = .ok (.invokevirtual 85, 3) := by decide +kernel
theorem dX9_paintNothing_98 : decode cX9_paintNothing 98 = .ok (.aload_n 0, 1) := by decide +kernel
theorem dX9_paintNothing_99 : decode cX9_paintNothing 99 = .ok (.getfield 32, 3) := by decide +kernel
theorem dX9_paintNothing_102 : decode cX9_paintNothing 102 = .ok (.iconst 1, 1) := by decide +kernel
theorem dX9_paintNothing_103 : decode cX9_paintNothing 103 = .ok (.invokevirtual 85, 3) := by decide +kernel
theorem dX9_paintNothing_106 : decode cX9_paintNothing 106 = .ok (.invokevirtual 120, 3) := by decide +kernel
theorem dX9_paintNothing_109 : decode cX9_paintNothing 109 = .ok (.iconst 0, 1) := by decide +kernel
theorem dX9_paintNothing_110 : decode cX9_paintNothing 110 = .ok (.ireturn, 1) := by decide +kernel
theorem dX9_paintNothing_111 : decode cX9_paintNothing 111 = .ok (.aload_n 0, 1) := by decide +kernel
theorem dX9_paintNothing_112 : decode cX9_paintNothing 112 = .ok (.getfield 93, 3) := by decide +kernel
theorem dX9_paintNothing_115 : decode cX9_paintNothing 115 = .ok (.aload_n 0, 1) := by decide +kernel
theorem dX9_paintNothing_116 : decode cX9_paintNothing 116 = .ok (.getfield 32, 3) := by decide +kernel
theorem dX9_paintNothing_119 : decode cX9_paintNothing 119 = .ok (.iconst 0, 1) := by decide +kernel
theorem dX9_paintNothing_120 : decode cX9_paintNothing 120 = .ok (.invokevirtual 85, 3) := by decide +kernel
theorem dX9_paintNothing_123 : decode cX9_paintNothing 123 = .ok (.aload_n 0, 1) := by decide +kernel
theorem dX9_paintNothing_124 : decode cX9_paintNothing 124 = .ok (.getfield 32, 3) := by decide +kernel
theorem dX9_paintNothing_127 : decode cX9_paintNothing 127 = .ok (.iconst 1, 1) := by decide +kernel
theorem dX9_paintNothing_128 : decode cX9_paintNothing 128 = .ok (.invokevirtual 85, 3) := by decide +kernel
theorem dX9_paintNothing_131 : decode cX9_paintNothing 131 = .ok (.invokevirtual 120, 3) := by decide +kernel
theorem dX9_paintNothing_134 : decode cX9_paintNothing 134 = .ok (.iconst 0, 1) := by decide +kernel
theorem dX9_paintNothing_135 : decode cX9_paintNothing 135 = .ok (.ireturn, 1) := by decide +kernel
theorem dX9_paintNothing_136 : decode cX9_paintNothing 136 = .ok (.aload_n 0, 1) := by decide +kernel
theorem dX9_paintNothing_137 : decode cX9_paintNothing 137 = .ok (.invokevirtual 124, 3) := by decide +kernel
theorem dX9_paintNothing_140 : decode cX9_paintNothing 140 = .ok (.iconst 0, 1) := by decide +kernel
theorem dX9_paintNothing_141 : decode cX9_paintNothing 141 = .ok (.ireturn, 1) := by decide +kernel
theorem dX9_paintNothing_142 : decode cX9_paintNothing 142 = .ok (.iconst 0, 1) := by decide +kernel
theorem dX9_paintNothing_143 : decode cX9_paintNothing 143 = .ok (.ireturn, 1) := by decide +kernel
theorem dX9_popPutBy_0 : decode cX9_popPutBy 0 = .ok (.aload_n 0, 1) := by decide +kernel
theorem dX9_popPutBy_1 : decode cX9_popPutBy 1 = .ok (.getfield 29, 3) := by decide +kernel
theorem dX9_popPutBy_4 : decode cX9_popPutBy 4 = .ok (.iconst 1, 1) := by decide +kernel
theorem dX9_popPutBy_5 : decode cX9_popPutBy 5 = .ok (.if_icmp .ge 6, 3) := by decide +kernel
theorem dX9_popPutBy_8 : decode cX9_popPutBy 8 = .ok (.bipush 9, 2) := by decide +kernel
theorem dX9_popPutBy_10 : decode cX9_popPutBy 10 = .ok (.ireturn, 1) := by decide +kernel
theorem dX9_popPutBy_11 : decode cX9_popPutBy 11 = .ok (.aload_n 0, 1) := by decide +kernel
theorem dX9_popPutBy_12 : decode cX9_popPutBy 12 = .ok (.getfield 32, 3) := by decide +kernel
theorem dX9_popPutBy_15 : decode cX9_popPutBy 15 = .ok (.aload_n 0, 1) := by decide +kernel
theorem dX9_popPutBy_16 : decode cX9_popPutBy 16 = .ok (.getfield 26, 3) := by decide +kernel
theorem dX9_popPutBy_19 : decode cX9_popPutBy 19 = .ok (.aload_n 0, 1) := by decide +kernel
theorem dX9_popPutBy_20 : decode cX9_popPutBy 20 = .ok (.getfield 29, 3) := by decide +kernel
theorem dX9_popPutBy_23 : decode cX9_popPutBy 23 = .ok (.iconst 1, 1) := by decide +kernel
theorem dX9_popPutBy_24 : decode cX9_popPutBy 24 = .ok (.isub, 1) := by decide +kernel
theorem dX9_popPutBy_25 : decode cX9_popPutBy 25 = .ok (.laload, 1) := by decide +kernel
theorem dX9_popPutBy_26 : decode cX9_popPutBy 26 = .ok (.invokevirtual 177, 3) := by decide +kernel
theorem dX9_popPutBy_29 : decode cX9_popPutBy 29 = .ok (.istore_n 1, 1) := by decide +kernel
theorem dX9_popPutBy_30 : decode cX9_popPutBy 30 = .ok (.iload_n 1, 1) := by decide +kernel
theorem dX9_popPutBy_31 : decode cX9_popPutBy 31 = .ok (.ifCond .ne 13, 3) := by decide +kernel
theorem dX9_popPutBy_34 : decode cX9_popPutBy 34 = .ok (.aload_n 0, 1) := by decide +kernel
theorem dX9_popPutBy_35 : decode cX9_popPutBy 35 = .ok (.dup, 1) := by decide +kernel
theorem dX9_popPutBy_36 : decode cX9_popPutBy 36 = .ok (.getfield 29, 3) := by decide +kernel
theorem dX9_popPutBy_39 : decode cX9_popPutBy 39 = .ok (.iconst 1, 1) := by decide +kernel
theorem dX9_popPutBy_40 : decode cX9_popPutBy 40 = .ok (.isub, 1) := by decide +kernel
theorem dX9_popPutBy_41 : decode cX9_popPutBy 41 = .ok (.putfield 29, 3) := by decide +kernel
theorem dX9_popPutBy_44 : decode cX9_popPutBy 44 = .ok (.iload_n 1, 1) := by decide +kernel
theorem dX9_popPutBy_45 : decode cX9_popPutBy 45 = .ok (.ireturn, 1) := by decide +kernel
theorem dX9_prepare_0 : decode cX9_prepare 0 = .ok (.aload_n 0, 1) := by decide +kernel
theorem dX9_prepare_1 : decode cX9_prepare 1 = .ok (.getfield 32, 3) := by decide +kernel
theorem dX9_prepare_4 : decode cX9_prepare 4 = .ok (.bipush 24, 2) := by decide +kernel
theorem dX9_prepare_6 : decode cX9_prepare 6 = .ok (.invokevirtual 36, 3) := by decide +kernel
theorem dX9_prepare_9 : decode cX9_prepare 9 = .ok (.aload_n 0, 1) := by decide +kernel
theorem dX9_prepare_10 : decode cX9_prepare 10 = .ok (.iconst 0, 1) := by decide +kernel
theorem dX9_prepare_11 : decode cX9_prepare 11 = .ok (.putfield 9, 3) := by decide +kernel
theorem dX9_prepare_14 : decode cX9_prepare 14 = .ok (.aload_n 0, 1) := by decide +kernel
theorem dX9_prepare_15 : decode cX9_prepare 15 = .ok (.iconst 0, 1) := by decide +kernel
theorem dX9_prepare_16 : decode cX9_prepare 16 = .ok (.putfield 22, 3) := by decide +kernel
theorem dX9_prepare_19 : decode cX9_prepare 19 = .ok (.aload_n 0, 1) := by decide +kernel
theorem dX9_prepare_20 : decode cX9_prepare 20 = .ok (.iconst 0, 1) := by decide +kernel
theorem dX9_prepare_21 : decode cX9_prepare 21 = .ok (.putfield 29, 3) := by decide +kernel
theorem dX9_prepare_24 : decode cX9_prepare 24 = .ok (.return_, 1) := by decide +kernel
theorem dX9_putAllBy_0 : decode cX9_putAllBy 0 = .ok (.iload_n 1, 1) := by decide +kernel
theorem dX9_putAllBy_1 : decode cX9_putAllBy 1 = .ok (.iconst 1, 1) := by decide +kernel
theorem dX9_putAllBy_2 : decode cX9_putAllBy 2 = .ok (.isub, 1) := by decide +kernel
theorem dX9_putAllBy_3 : decode cX9_putAllBy 3 = .ok (.istore_n 2, 1) := by decide +kernel
theorem dX9_putAllBy_4 : decode cX9_putAllBy 4 = .ok (.iload_n 2, 1) := by decide +kernel
theorem dX9_putAllBy_5 : decode cX9_putAllBy 5 = .ok (.ifCond .lt 21, 3) := by decide +kernel
theorem dX9_putAllBy_8 : decode cX9_putAllBy 8 = .ok (.aload_n 0, 1) := by decide +kernel
theorem dX9_putAllBy_9 : decode cX9_putAllBy 9 = .ok (.aload_n 0, 1) := by decide +kernel
theorem dX9_putAllBy_10 : decode cX9_putAllBy 10 = .ok (.getfield 32, 3) := by decide +kernel
theorem dX9_putAllBy_13 : decode cX9_putAllBy 13 = .ok (.iload_n 2, 1) := by decide +kernel
theorem dX9_putAllBy_14 : decode cX9_putAllBy 14 = .ok (.invokevirtual 170, 3) := by decide +kernel
theorem dX9_putAllBy_17 : decode cX9_putAllBy 17 = .ok (.invokevirtual 160, 3) := by decide +kernel
theorem dX9_putAllBy_20 : decode cX9_putAllBy 20 = .ok (.iinc 2 (-1), 3) := by decide +kernel
theorem dX9_putAllBy_23 : decode cX9_putAllBy 23 = .ok (.goto (-19), 3) := by decide +kernel
theorem dX9_putAllBy_26 : decode cX9_putAllBy 26 = .ok (.return_, 1) := by decide +kernel
theorem dX9_putOneBy_0 : decode cX9_putOneBy 0 = .ok (.aload_n 0, 1) := by decide +kernel
theorem dX9_putOneBy_1 : decode cX9_putOneBy 1 = .ok (.getfield 29, 3) := by decide +kernel
theorem dX9_putOneBy_4 : decode cX9_putOneBy 4 = .ok (.aload_n 0, 1) := by decide +kernel
theorem dX9_putOneBy_5 : decode cX9_putOneBy 5 = .ok (.getfield 26, 3) := by decide +kernel
theorem dX9_putOneBy_8 : decode cX9_putOneBy 8 = .ok (.arraylength, 1) := by decide +kernel
theorem dX9_putOneBy_9 : decode cX9_putOneBy 9 = .ok (.if_icmp .ge 23, 3) := by decide +kernel
theorem dX9_putOneBy_12 : decode cX9_putOneBy 12 = .ok (.aload_n 0, 1) := by decide +kernel
theorem dX9_putOneBy_13 : decode cX9_putOneBy 13 = .ok (.getfield 26, 3) := by decide +kernel
theorem dX9_putOneBy_16 : decode cX9_putOneBy 16 = .ok (.aload_n 0, 1) := by decide +kernel
theorem dX9_putOneBy_17 : decode cX9_putOneBy 17 = .ok (.getfield 29, 3) := by decide +kernel
theorem dX9_putOneBy_20 : decode cX9_putOneBy 20 = .ok (.lload_n 1, 1) := by decide +kernel
theorem dX9_putOneBy_21 : decode cX9_putOneBy 21 = .ok (.lastore, 1) := by decide +kernel
theorem dX9_putOneBy_22 : decode cX9_putOneBy 22 = .ok (.aload_n 0, 1) := by decide +kernel
theorem dX9_putOneBy_23 : decode cX9_putOneBy 23 = .ok (.dup, 1) := by decide +kernel
theorem dX9_putOneBy_24 : decode cX9_putOneBy 24 = .ok (.getfield 29, 3) := by decide +kernel
theorem dX9_putOneBy_27 : decode cX9_putOneBy 27 = .ok (.iconst 1, 1) := by decide +kernel
theorem dX9_putOneBy_28 : decode cX9_putOneBy 28 = .ok (.iadd, 1) := by decide +kernel
theorem dX9_putOneBy_29 : decode cX9_putOneBy 29 = .ok (.putfield 29, 3) := by decide +kernel
theorem dX9_putOneBy_32 : decode cX9_putOneBy 32 = .ok (.return_, 1) := by decide +kernel
theorem dX9_takenBy_0 : decode cX9_takenBy 0 = .ok (.iload_n 0, 1) := by decide +kernel
theorem dX9_takenBy_1 : decode cX9_takenBy 1 = .ok (.lookupswitch 31 #[(0, 27), (3, 29)], 27) := by decide +kernel
theorem dX9_takenBy_28 : decode cX9_takenBy 28 = .ok (.iconst 3, 1) := by decide +kernel
theorem dX9_takenBy_29 : decode cX9_takenBy 29 = .ok (.ireturn, 1) := by decide +kernel
theorem dX9_takenBy_30 : decode cX9_takenBy 30 = .ok (.iconst 1, 1) := by decide +kernel
theorem dX9_takenBy_31 : decode cX9_takenBy 31 = .ok (.ireturn, 1) := by decide +kernel
theorem dX9_takenBy_32 : decode cX9_takenBy 32 = .ok (.iconst 0, 1) := by decide +kernel
theorem dX9_takenBy_33 : decode cX9_takenBy 33 = .ok (.ireturn, 1) := by decide +kernel
theorem dX9_wantedBy_0 : decode cX9_wantedBy 0 = .ok (.iload_n 0, 1) := by decide +kernel
theorem dX9_wantedBy_1 : decode cX9_wantedBy 1 = .ok (.lookupswitch 174 #[(1, 167), (3, 167), (4, 165), (5, 167), (6, 165), (7, 165), (8, 171), (9, 163), (13, 167), (14, 163), (21, 167), (22, 165), (30, 169), (31, 169), (256, 163), (257, 171), (258, 171), (263, 169), (289, 167)], 163) := by decide +kernel
theorem dX9_wantedBy_164 : decode cX9_wantedBy 164 = .ok (.iconst 0, 1) := by decide +kernel
theorem dX9_wantedBy_165 : decode cX9_wantedBy 165 = .ok (.ireturn, 1) := by decide +kernel
theorem dX9_wantedBy_166 : decode cX9_wantedBy 166 = .ok (.iconst 1, 1) := by decide +kernel
theorem dX9_wantedBy_167 : decode cX9_wantedBy 167 = .ok (.ireturn, 1) := by decide +kernel
theorem dX9_wantedBy_168 : decode cX9_wantedBy 168 = .ok (.iconst 2, 1) := by decide +kernel
theorem dX9_wantedBy_169 : decode cX9_wantedBy 169 = .ok (.ireturn, 1) := by decide +kernel
theorem dX9_wantedBy_170 : decode cX9_wantedBy 170 = .ok (.iconst 4, 1) := by decide +kernel
theorem dX9_wantedBy_171 : decode cX9_wantedBy 171 = .ok (.ireturn, 1) := by decide +kernel
theorem dX9_wantedBy_172 : decode cX9_wantedBy 172 = .ok (.bipush 6, 2) := by decide +kernel
theorem dX9_wantedBy_174 : decode cX9_wantedBy 174 = .ok (.ireturn, 1) := by decide +kernel
theorem dX9_wantedBy_175 : decode cX9_wantedBy 175 = .ok (.iconst (-1), 1) := by decide +kernel
theorem dX9_wantedBy_176 : decode cX9_wantedBy 176 = .ok (.ireturn, 1) := by decide +kernel
