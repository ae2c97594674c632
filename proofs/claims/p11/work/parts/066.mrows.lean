theorem dX12_adds_0 : decode cX12_adds 0 = .ok (.aload_n 0, 1) := by decide +kernel
theorem dX12_adds_1 : decode cX12_adds 1 = .ok (.getfield 298, 3) := by decide +kernel
theorem dX12_adds_4 : decode cX12_adds 4 = .ok (.aload_n 0, 1) := by decide +kernel
theorem dX12_adds_5 : decode cX12_adds 5 = .ok (.getfield 301, 3) := by decide +kernel
theorem dX12_adds_8 : decode cX12_adds 8 = .ok (.if_icmp .ne 10, 3) := by decide +kernel
theorem dX12_adds_11 : decode cX12_adds 11 = .ok (.aload_n 0, 1) := by decide +kernel
theorem dX12_adds_12 : decode cX12_adds 12 = .ok (.bipush 6, 2) := by decide +kernel
theorem dX12_adds_14 : decode cX12_adds 14 = .ok (.invokevirtual 346, 3) := by decide +kernel
theorem dX12_adds_17 : decode cX12_adds 17 = .ok (.ireturn, 1) := by decide +kernel
theorem dX12_adds_18 : decode cX12_adds 18 = .ok (.aload_n 0, 1) := by decide +kernel
theorem dX12_adds_19 : decode cX12_adds 19 = .ok (.getfield 95, 3) := by decide +kernel
theorem dX12_adds_22 : decode cX12_adds 22 = .ok (.aload_n 0, 1) := by decide +kernel
theorem dX12_adds_23 : decode cX12_adds 23 = .ok (.getfield 298, 3) := by decide +kernel
theorem dX12_adds_26 : decode cX12_adds 26 = .ok (.iload_n 1, 1) := by decide +kernel
theorem dX12_adds_27 : decode cX12_adds 27 = .ok (.iastore, 1) := by decide +kernel
theorem dX12_adds_28 : decode cX12_adds 28 = .ok (.aload_n 0, 1) := by decide +kernel
theorem dX12_adds_29 : decode cX12_adds 29 = .ok (.dup, 1) := by decide +kernel
theorem dX12_adds_30 : decode cX12_adds 30 = .ok (.getfield 298, 3) := by decide +kernel
theorem dX12_adds_33 : decode cX12_adds 33 = .ok (.iconst 1, 1) := by decide +kernel
theorem dX12_adds_34 : decode cX12_adds 34 = .ok (.iadd, 1) := by decide +kernel
theorem dX12_adds_35 : decode cX12_adds 35 = .ok (.putfield 298, 3) := by decide +kernel
theorem dX12_adds_38 : decode cX12_adds 38 = .ok (.iconst 1, 1) := by decide +kernel
theorem dX12_adds_39 : decode cX12_adds 39 = .ok (.ireturn, 1) := by decide +kernel
theorem dX12_at_0 : decode cX12_at 0 = .ok (.iload_n 1, 1) := by decide +kernel
theorem dX12_at_1 : decode cX12_at 1 = .ok (.ifCond .lt 24, 3) := by decide +kernel
theorem dX12_at_4 : decode cX12_at 4 = .ok (.iload_n 1, 1) := by decide +kernel
theorem dX12_at_5 : decode cX12_at 5 = .ok (.aload_n 0, 1) := by decide +kernel
theorem dX12_at_6 : decode cX12_at 6 = .ok (.getfield 298, 3) := by decide +kernel
theorem dX12_at_9 : decode cX12_at 9 = .ok (.if_icmp .ge 16, 3) := by decide +kernel
theorem dX12_at_12 : decode cX12_at 12 = .ok (.iload_n 3, 1) := by decide +kernel
theorem dX12_at_13 : decode cX12_at 13 = .ok (.ifCond .lt 12, 3) := by decide +kernel
theorem dX12_at_16 : decode cX12_at 16 = .ok (.iload_n 3, 1) := by decide +kernel
theorem dX12_at_17 : decode cX12_at 17 = .ok (.iconst 1, 1) := by decide +kernel
theorem dX12_at_18 : decode cX12_at 18 = .ok (.if_icmp .gt 7, 3) := by decide +kernel
theorem dX12_at_21 : decode cX12_at 21 = .ok (.iload_n 2, 1) := by decide +kernel
theorem dX12_at_22 : decode cX12_at 22 = .ok (.ifCond .ge 5, 3) := by decide +kernel
theorem dX12_at_25 : decode cX12_at 25 = .ok (.lconst 0, 1) := by decide +kernel
theorem dX12_at_26 : decode cX12_at 26 = .ok (.lreturn, 1) := by decide +kernel
theorem dX12_at_27 : decode cX12_at 27 = .ok (.aload_n 0, 1) := by decide +kernel
theorem dX12_at_28 : decode cX12_at 28 = .ok (.getfield 95, 3) := by decide +kernel
theorem dX12_at_31 : decode cX12_at 31 = .ok (.iload_n 1, 1) := by decide +kernel
theorem dX12_at_32 : decode cX12_at 32 = .ok (.iaload, 1) := by decide +kernel
theorem dX12_at_33 : decode cX12_at 33 = .ok (.iconst 2, 1) := by decide +kernel
theorem dX12_at_34 : decode cX12_at 34 = .ok (.if_icmp .ne 7, 3) := by decide +kernel
theorem dX12_at_37 : decode cX12_at 37 = .ok (.iconst 3, 1) := by decide +kernel
theorem dX12_at_38 : decode cX12_at 38 = .ok (.goto 18, 3) := by decide +kernel
theorem dX12_at_41 : decode cX12_at 41 = .ok (.aload_n 0, 1) := by decide +kernel
theorem dX12_at_42 : decode cX12_at 42 = .ok (.getfield 95, 3) := by decide +kernel
theorem dX12_at_45 : decode cX12_at 45 = .ok (.iload_n 1, 1) := by decide +kernel
theorem dX12_at_46 : decode cX12_at 46 = .ok (.iaload, 1) := by decide +kernel
theorem dX12_at_47 : decode cX12_at 47 = .ok (.iconst 3, 1) := by decide +kernel
theorem dX12_at_48 : decode cX12_at 48 = .ok (.if_icmp .ne 7, 3) := by decide +kernel
theorem dX12_at_51 : decode cX12_at 51 = .ok (.iconst 0, 1) := by decide +kernel
theorem dX12_at_52 : decode cX12_at 52 = .ok (.goto 4, 3) := by decide +kernel
theorem dX12_at_55 : decode cX12_at 55 = .ok (.iconst 1, 1) := by decide +kernel
theorem dX12_at_56 : decode cX12_at 56 = .ok (.istore 4, 2) := by decide +kernel
theorem dX12_at_58 : decode cX12_at 58 = .ok (.iload_n 2, 1) := by decide +kernel
theorem dX12_at_59 : decode cX12_at 59 = .ok (.iload 4, 2) := by decide +kernel
theorem dX12_at_61 : decode cX12_at 61 = .ok (.if_icmp .ge 21, 3) := by decide +kernel
theorem dX12_at_64 : decode cX12_at 64 = .ok (.aload_n 0, 1) := by decide +kernel
theorem dX12_at_65 : decode cX12_at 65 = .ok (.getfield 98, 3) := by decide +kernel
theorem dX12_at_68 : decode cX12_at 68 = .ok (.bipush 6, 2) := by decide +kernel
theorem dX12_at_70 : decode cX12_at 70 = .ok (.iload_n 1, 1) := by decide +kernel
theorem dX12_at_71 : decode cX12_at 71 = .ok (.imul, 1) := by decide +kernel
theorem dX12_at_72 : decode cX12_at 72 = .ok (.iconst 2, 1) := by decide +kernel
theorem dX12_at_73 : decode cX12_at 73 = .ok (.iload_n 2, 1) := by decide +kernel
theorem dX12_at_74 : decode cX12_at 74 = .ok (.imul, 1) := by decide +kernel
theorem dX12_at_75 : decode cX12_at 75 = .ok (.iadd, 1) := by decide +kernel
theorem dX12_at_76 : decode cX12_at 76 = .ok (.iload_n 3, 1) := by decide +kernel
theorem dX12_at_77 : decode cX12_at 77 = .ok (.iadd, 1) := by decide +kernel
theorem dX12_at_78 : decode cX12_at 78 = .ok (.laload, 1) := by decide +kernel
theorem dX12_at_79 : decode cX12_at 79 = .ok (.goto 4, 3) := by decide +kernel
theorem dX12_at_82 : decode cX12_at 82 = .ok (.lconst 0, 1) := by decide +kernel
theorem dX12_at_83 : decode cX12_at 83 = .ok (.lreturn, 1) := by decide +kernel
theorem dX12_back_0 : decode cX12_back 0 = .ok (.aload_n 0, 1) := by decide +kernel
theorem dX12_back_1 : decode cX12_back 1 = .ok (.getfield 125, 3) := by decide +kernel
theorem dX12_back_4 : decode cX12_back 4 = .ok (.aload_n 0, 1) := by decide +kernel
theorem dX12_back_5 : decode cX12_back 5 = .ok (.getfield 137, 3) := by decide +kernel
theorem dX12_back_8 : decode cX12_back 8 = .ok (.iadd, 1) := by decide +kernel
theorem dX12_back_9 : decode cX12_back 9 = .ok (.sipush 1500, 3) := by decide +kernel
theorem dX12_back_12 : decode cX12_back 12 = .ok (.if_icmp .le 5, 3) := by decide +kernel
theorem dX12_back_15 : decode cX12_back 15 = .ok (.iconst (-1), 1) := by decide +kernel
theorem dX12_back_16 : decode cX12_back 16 = .ok (.ireturn, 1) := by decide +kernel
theorem dX12_back_17 : decode cX12_back 17 = .ok (.iconst 0, 1) := by decide +kernel
theorem dX12_back_18 : decode cX12_back 18 = .ok (.istore_n 1, 1) := by decide +kernel
theorem dX12_back_19 : decode cX12_back 19 = .ok (.iload_n 1, 1) := by decide +kernel
theorem dX12_back_20 : decode cX12_back 20 = .ok (.aload_n 0, 1) := by decide +kernel
theorem dX12_back_21 : decode cX12_back 21 = .ok (.getfield 137, 3) := by decide +kernel
theorem dX12_back_24 : decode cX12_back 24 = .ok (.if_icmp .ge 26, 3) := by decide +kernel
theorem dX12_back_27 : decode cX12_back 27 = .ok (.aload_n 0, 1) := by decide +kernel
theorem dX12_back_28 : decode cX12_back 28 = .ok (.getfield 7, 3) := by decide +kernel
theorem dX12_back_31 : decode cX12_back 31 = .ok (.aload_n 0, 1) := by decide +kernel
theorem dX12_back_32 : decode cX12_back 32 = .ok (.getfield 125, 3) := by decide +kernel
theorem dX12_back_35 : decode cX12_back 35 = .ok (.iload_n 1, 1) := by decide +kernel
theorem dX12_back_36 : decode cX12_back 36 = .ok (.iadd, 1) := by decide +kernel
theorem dX12_back_37 : decode cX12_back 37 = .ok (.aload_n 0, 1) := by decide +kernel
theorem dX12_back_38 : decode cX12_back 38 = .ok (.getfield 13, 3) := by decide +kernel
theorem dX12_back_41 : decode cX12_back 41 = .ok (.iload_n 1, 1) := by decide +kernel
theorem dX12_back_42 : decode cX12_back 42 = .ok (.baload, 1) := by decide +kernel
theorem dX12_back_43 : decode cX12_back 43 = .ok (.bastore, 1) := by decide +kernel
theorem dX12_back_44 : decode cX12_back 44 = .ok (.iinc 1 1, 3) := by decide +kernel
theorem dX12_back_47 : decode cX12_back 47 = .ok (.goto (-28), 3) := by decide +kernel
theorem dX12_back_50 : decode cX12_back 50 = .ok (.aload_n 0, 1) := by decide +kernel
theorem dX12_back_51 : decode cX12_back 51 = .ok (.dup, 1) := by decide +kernel
theorem dX12_back_52 : decode cX12_back 52 = .ok (.getfield 125, 3) := by decide +kernel
theorem dX12_back_55 : decode cX12_back 55 = .ok (.aload_n 0, 1) := by decide +kernel
theorem dX12_back_56 : decode cX12_back 56 = .ok (.getfield 137, 3) := by decide +kernel
theorem dX12_back_59 : decode cX12_back 59 = .ok (.iadd, 1) := by decide +kernel
theorem dX12_back_60 : decode cX12_back 60 = .ok (.putfield 125, 3) := by decide +kernel
theorem dX12_back_63 : decode cX12_back 63 = .ok (.aload_n 0, 1) := by decide +kernel
theorem dX12_back_64 : decode cX12_back 64 = .ok (.iconst 0, 1) := by decide +kernel
theorem dX12_back_65 : decode cX12_back 65 = .ok (.putfield 137, 3) := by decide +kernel
theorem dX12_back_68 : decode cX12_back 68 = .ok (.aload_n 0, 1) := by decide +kernel
theorem dX12_back_69 : decode cX12_back 69 = .ok (.getfield 125, 3) := by decide +kernel
theorem dX12_back_72 : decode cX12_back 72 = .ok (.ireturn, 1) := by decide +kernel
theorem dX12_bears_0 : decode cX12_bears 0 = .ok (.aload_n 0, 1) := by decide +kernel
theorem dX12_bears_1 : decode cX12_bears 1 = .ok (.lload 5, 2) := by decide +kernel
theorem dX12_bears_3 : decode cX12_bears 3 = .ok (.putfield 310, 3) := by decide +kernel
theorem dX12_bears_6 : decode cX12_bears 6 = .ok (.aload_n 0, 1) := by decide +kernel
theorem dX12_bears_7 : decode cX12_bears 7 = .ok (.lload_n 1, 1) := by decide +kernel
theorem dX12_bears_8 : decode cX12_bears 8 = .ok (.putfield 316, 3) := by decide +kernel
theorem dX12_bears_11 : decode cX12_bears 11 = .ok (.aload_n 0, 1) := by decide +kernel
theorem dX12_bears_12 : decode cX12_bears 12 = .ok (.lload_n 3, 1) := by decide +kernel
theorem dX12_bears_13 : decode cX12_bears 13 = .ok (.putfield 319, 3) := by decide +kernel
theorem dX12_bears_16 : decode cX12_bears 16 = .ok (.iconst 1, 1) := by decide +kernel
theorem dX12_bears_17 : decode cX12_bears 17 = .ok (.ireturn, 1) := by decide +kernel
theorem dX12_byTurns_0 : decode cX12_byTurns 0 = .ok (.aload_n 0, 1) := by decide +kernel
theorem dX12_byTurns_1 : decode cX12_byTurns 1 = .ok (.getfield 325, 3) := by decide +kernel
theorem dX12_byTurns_4 : decode cX12_byTurns 4 = .ok (.iconst 4, 1) := by decide +kernel
theorem dX12_byTurns_5 : decode cX12_byTurns 5 = .ok (.if_icmp .lt 13, 3) := by decide +kernel
theorem dX12_byTurns_8 : decode cX12_byTurns 8 = .ok (.aload_n 0, 1) := by decide +kernel
theorem dX12_byTurns_9 : decode cX12_byTurns 9 = .ok (.getfield 325, 3) := by decide +kernel
theorem dX12_byTurns_12 : decode cX12_byTurns 12 = .ok (.iconst 4, 1) := by decide +kernel
theorem dX12_byTurns_13 : decode cX12_byTurns 13 = .ok (.irem, 1) := by decide +kernel
theorem dX12_byTurns_14 : decode cX12_byTurns 14 = .ok (.iconst 1, 1) := by decide +kernel
theorem dX12_byTurns_15 : decode cX12_byTurns 15 = .ok (.if_icmp .le 9, 3) := by decide +kernel
theorem dX12_byTurns_18 : decode cX12_byTurns 18 = .ok (.aload_n 0, 1) := by decide +kernel
theorem dX12_byTurns_19 : decode cX12_byTurns 19 = .ok (.iconst 2, 1) := by decide +kernel
theorem dX12_byTurns_20 : decode cX12_byTurns 20 = .ok (.invokevirtual 346, 3) := by decide +kernel
theorem dX12_byTurns_23 : decode cX12_byTurns 23 = .ok (.ireturn, 1) := by decide +kernel
theorem dX12_byTurns_24 : decode cX12_byTurns 24 = .ok (.iload_n 1, 1) := by decide +kernel
theorem dX12_byTurns_25 : decode cX12_byTurns 25 = .ok (.istore_n 2, 1) := by decide +kernel
theorem dX12_byTurns_26 : decode cX12_byTurns 26 = .ok (.iconst 0, 1) := by decide +kernel
theorem dX12_byTurns_27 : decode cX12_byTurns 27 = .ok (.istore_n 3, 1) := by decide +kernel
theorem dX12_byTurns_28 : decode cX12_byTurns 28 = .ok (.iload_n 3, 1) := by decide +kernel
theorem dX12_byTurns_29 : decode cX12_byTurns 29 = .ok (.iconst 4, 1) := by decide +kernel
theorem dX12_byTurns_30 : decode cX12_byTurns 30 = .ok (.iadd, 1) := by decide +kernel
theorem dX12_byTurns_31 : decode cX12_byTurns 31 = .ok (.aload_n 0, 1) := by decide +kernel
theorem dX12_byTurns_32 : decode cX12_byTurns 32 = .ok (.getfield 325, 3) := by decide +kernel
theorem dX12_byTurns_35 : decode cX12_byTurns 35 = .ok (.if_icmp .gt 132, 3) := by decide +kernel
theorem dX12_byTurns_38 : decode cX12_byTurns 38 = .ok (.iload_n 3, 1) := by decide +kernel
theorem dX12_byTurns_39 : decode cX12_byTurns 39 = .ok (.iconst 5, 1) := by decide +kernel
theorem dX12_byTurns_40 : decode cX12_byTurns 40 = .ok (.iadd, 1) := by decide +kernel
theorem dX12_byTurns_41 : decode cX12_byTurns 41 = .ok (.aload_n 0, 1) := by decide +kernel
theorem dX12_byTurns_42 : decode cX12_byTurns 42 = .ok (.getfield 325, 3) := by decide +kernel
theorem dX12_byTurns_45 : decode cX12_byTurns 45 = .ok (.if_icmp .ne 14, 3) := by decide +kernel
theorem dX12_byTurns_48 : decode cX12_byTurns 48 = .ok (.aload_n 0, 1) := by decide +kernel
theorem dX12_byTurns_49 : decode cX12_byTurns 49 = .ok (.getfield 101, 3) := by decide +kernel
theorem dX12_byTurns_52 : decode cX12_byTurns 52 = .ok (.iload_n 3, 1) := by decide +kernel
theorem dX12_byTurns_53 : decode cX12_byTurns 53 = .ok (.iconst 4, 1) := by decide +kernel
theorem dX12_byTurns_54 : decode cX12_byTurns 54 = .ok (.iadd, 1) := by decide +kernel
theorem dX12_byTurns_55 : decode cX12_byTurns 55 = .ok (.laload, 1) := by decide +kernel
theorem dX12_byTurns_56 : decode cX12_byTurns 56 = .ok (.goto 4, 3) := by decide +kernel
theorem dX12_byTurns_59 : decode cX12_byTurns 59 = .ok (.lconst 0, 1) := by decide +kernel
theorem dX12_byTurns_60 : decode cX12_byTurns 60 = .ok (.lstore 4, 2) := by decide +kernel
theorem dX12_byTurns_62 : decode cX12_byTurns 62 = .ok (.iload_n 2, 1) := by decide +kernel
theorem dX12_byTurns_63 : decode cX12_byTurns 63 = .ok (.ifCond .eq 46, 3) := by decide +kernel
theorem dX12_byTurns_66 : decode cX12_byTurns 66 = .ok (.aload_n 0, 1) := by decide +kernel
theorem dX12_byTurns_67 : decode cX12_byTurns 67 = .ok (.aload_n 0, 1) := by decide +kernel
theorem dX12_byTurns_68 : decode cX12_byTurns 68 = .ok (.getfield 101, 3) := by decide +kernel
theorem dX12_byTurns_71 : decode cX12_byTurns 71 = .ok (.iload_n 3, 1) := by decide +kernel
theorem dX12_byTurns_72 : decode cX12_byTurns 72 = .ok (.laload, 1) := by decide +kernel
theorem dX12_byTurns_73 : decode cX12_byTurns 73 = .ok (.lconst 0, 1) := by decide +kernel
theorem dX12_byTurns_74 : decode cX12_byTurns 74 = .ok (.aload_n 0, 1) := by decide +kernel
theorem dX12_byTurns_75 : decode cX12_byTurns 75 = .ok (.getfield 101, 3) := by decide +kernel
theorem dX12_byTurns_78 : decode cX12_byTurns 78 = .ok (.iload_n 3, 1) := by decide +kernel
theorem dX12_byTurns_79 : decode cX12_byTurns 79 = .ok (.iconst 1, 1) := by decide +kernel
theorem dX12_byTurns_80 : decode cX12_byTurns 80 = .ok (.iadd, 1) := by decide +kernel
theorem dX12_byTurns_81 : decode cX12_byTurns 81 = .ok (.laload, 1) := by decide +kernel
theorem dX12_byTurns_82 : decode cX12_byTurns 82 = .ok (.aload_n 0, 1) := by decide +kernel
theorem dX12_byTurns_83 : decode cX12_byTurns 83 = .ok (.getfield 101, 3) := by decide +kernel
theorem dX12_byTurns_86 : decode cX12_byTurns 86 = .ok (.iload_n 3, 1) := by decide +kernel
theorem dX12_byTurns_87 : decode cX12_byTurns 87 = .ok (.iconst 2, 1) := by decide +kernel
theorem dX12_byTurns_88 : decode cX12_byTurns 88 = .ok (.iadd, 1) := by decide +kernel
theorem dX12_byTurns_89 : decode cX12_byTurns 89 = .ok (.laload, 1) := by decide +kernel
theorem dX12_byTurns_90 : decode cX12_byTurns 90 = .ok (.lload 4, 2) := by decide +kernel
theorem dX12_byTurns_92 : decode cX12_byTurns 92 = .ok (.aload_n 0, 1) := by decide +kernel
theorem dX12_byTurns_93 : decode cX12_byTurns 93 = .ok (.getfield 101, 3) := by decide +kernel
theorem dX12_byTurns_96 : decode cX12_byTurns 96 = .ok (.iload_n 3, 1) := by decide +kernel
theorem dX12_byTurns_97 : decode cX12_byTurns 97 = .ok (.iconst 3, 1) := by decide +kernel
theorem dX12_byTurns_98 : decode cX12_byTurns 98 = .ok (.iadd, 1) := by decide +kernel
theorem dX12_byTurns_99 : decode cX12_byTurns 99 = .ok (.laload, 1) := by decide +kernel
theorem dX12_byTurns_100 : decode cX12_byTurns 100 = .ok (.invokevirtual 449, 3) := by decide +kernel
theorem dX12_byTurns_103 : decode cX12_byTurns 103 = .ok (.ifCond .ne 48, 3) := by decide +kernel
theorem dX12_byTurns_106 : decode cX12_byTurns 106 = .ok (.goto 43, 3) := by decide +kernel
theorem dX12_byTurns_109 : decode cX12_byTurns 109 = .ok (.aload_n 0, 1) := by decide +kernel
theorem dX12_byTurns_110 : decode cX12_byTurns 110 = .ok (.lconst 0, 1) := by decide +kernel
theorem dX12_byTurns_111 : decode cX12_byTurns 111 = .ok (.aload_n 0, 1) := by decide +kernel
theorem dX12_byTurns_112 : decode cX12_byTurns 112 = .ok (.getfield 101, 3) := by decide +kernel
theorem dX12_byTurns_115 : decode cX12_byTurns 115 = .ok (.iload_n 3, 1) := by decide +kernel
theorem dX12_byTurns_116 : decode cX12_byTurns 116 = .ok (.laload, 1) := by decide +kernel
theorem dX12_byTurns_117 : decode cX12_byTurns 117 = .ok (.aload_n 0, 1) := by decide +kernel
theorem dX12_byTurns_118 : decode cX12_byTurns 118 = .ok (.getfield 101, 3) := by decide +kernel
theorem dX12_byTurns_121 : decode cX12_byTurns 121 = .ok (.iload_n 3, 1) := by decide +kernel
theorem dX12_byTurns_122 : decode cX12_byTurns 122 = .ok (.iconst 1, 1) := by decide +kernel
theorem dX12_byTurns_123 : decode cX12_byTurns 123 = .ok (.iadd, 1) := by decide +kernel
theorem dX12_byTurns_124 : decode cX12_byTurns 124 = .ok (.laload, 1) := by decide +kernel
theorem dX12_byTurns_125 : decode cX12_byTurns 125 = .ok (.aload_n 0, 1) := by decide +kernel
theorem dX12_byTurns_126 : decode cX12_byTurns 126 = .ok (.getfield 101, 3) := by decide +kernel
theorem dX12_byTurns_129 : decode cX12_byTurns 129 = .ok (.iload_n 3, 1) := by decide +kernel
theorem dX12_byTurns_130 : decode cX12_byTurns 130 = .ok (.iconst 2, 1) := by decide +kernel
theorem dX12_byTurns_131 : decode cX12_byTurns 131 = .ok (.iadd, 1) := by decide +kernel
theorem dX12_byTurns_132 : decode cX12_byTurns 132 = .ok (.laload, 1) := by decide +kernel
theorem dX12_byTurns_133 : decode cX12_byTurns 133 = .ok (.aload_n 0, 1) := by decide +kernel
theorem dX12_byTurns_134 : decode cX12_byTurns 134 = .ok (.getfield 101, 3) := by decide +kernel
theorem dX12_byTurns_137 : decode cX12_byTurns 137 = .ok (.iload_n 3, 1) := by decide +kernel
theorem dX12_byTurns_138 : decode cX12_byTurns 138 = .ok (.iconst 3, 1) := by decide +kernel
theorem dX12_byTurns_139 : decode cX12_byTurns 139 = .ok (.iadd, 1) := by decide +kernel
theorem dX12_byTurns_140 : decode cX12_byTurns 140 = .ok (.laload, 1) := by decide +kernel
theorem dX12_byTurns_141 : decode cX12_byTurns 141 = .ok (.lload 4, 2) := by decide +kernel
theorem dX12_byTurns_143 : decode cX12_byTurns 143 = .ok (.invokevirtual 449, 3) := by decide +kernel
theorem dX12_byTurns_146 : decode cX12_byTurns 146 = .ok (.ifCond .ne 5, 3) := by decide +kernel
theorem dX12_byTurns_149 : decode cX12_byTurns 149 = .ok (.iconst 0, 1) := by decide +kernel
theorem dX12_byTurns_150 : decode cX12_byTurns 150 = .ok (.ireturn, 1) := by decide +kernel
theorem dX12_byTurns_151 : decode cX12_byTurns 151 = .ok (.iload_n 2, 1) := by decide +kernel
theorem dX12_byTurns_152 : decode cX12_byTurns 152 = .ok (.ifCond .ne 7, 3) := by decide +kernel
theorem dX12_byTurns_155 : decode cX12_byTurns 155 = .ok (.iconst 1, 1) := by decide +kernel
theorem dX12_byTurns_156 : decode cX12_byTurns 156 = .ok (.goto 4, 3) := by decide +kernel
theorem dX12_byTurns_159 : decode cX12_byTurns 159 = .ok (.iconst 0, 1) := by decide +kernel
theorem dX12_byTurns_160 : decode cX12_byTurns 160 = .ok (.istore_n 2, 1) := by decide +kernel
theorem dX12_byTurns_161 : decode cX12_byTurns 161 = .ok (.iinc 3 4, 3) := by decide +kernel
theorem dX12_byTurns_164 : decode cX12_byTurns 164 = .ok (.goto (-136), 3) := by decide +kernel
theorem dX12_byTurns_167 : decode cX12_byTurns 167 = .ok (.iconst 1, 1) := by decide +kernel
theorem dX12_byTurns_168 : decode cX12_byTurns 168 = .ok (.ireturn, 1) := by decide +kernel
theorem dX12_bytes_0 : decode cX12_bytes 0 = .ok (.aload_n 0, 1) := by decide +kernel
theorem dX12_bytes_1 : decode cX12_bytes 1 = .ok (.invokevirtual 262, 3) := by decide +kernel
theorem dX12_bytes_4 : decode cX12_bytes 4 = .ok (.ifCond .ne 5, 3) := by decide +kernel
theorem dX12_bytes_7 : decode cX12_bytes 7 = .ok (.iconst 0, 1) := by decide +kernel
theorem dX12_bytes_8 : decode cX12_bytes 8 = .ok (.ireturn, 1) := by decide +kernel
theorem dX12_bytes_9 : decode cX12_bytes 9 = .ok (.aload_n 0, 1) := by decide +kernel
theorem dX12_bytes_10 : decode cX12_bytes 10 = .ok (.aload_n 0, 1) := by decide +kernel
theorem dX12_bytes_11 : decode cX12_bytes 11 = .ok (.getfield 77, 3) := by decide +kernel
theorem dX12_bytes_14 : decode cX12_bytes 14 = .ok (.invokevirtual 269, 3) := by decide +kernel
theorem dX12_bytes_17 : decode cX12_bytes 17 = .ok (.ifCond .ne 20, 3) := by decide +kernel
theorem dX12_bytes_20 : decode cX12_bytes 20 = .ok (.aload_n 0, 1) := by decide +kernel
theorem dX12_bytes_21 : decode cX12_bytes 21 = .ok (.aload_n 0, 1) := by decide +kernel
theorem dX12_bytes_22 : decode cX12_bytes 22 = .ok (.getfield 80, 3) := by decide +kernel
theorem dX12_bytes_25 : decode cX12_bytes 25 = .ok (.invokevirtual 269, 3) := by decide +kernel
theorem dX12_bytes_28 : decode cX12_bytes 28 = .ok (.ifCond .ne 9, 3) := by decide +kernel
theorem dX12_bytes_31 : decode cX12_bytes 31 = .ok (.aload_n 0, 1) := by decide +kernel
theorem dX12_bytes_32 : decode cX12_bytes 32 = .ok (.iconst 2, 1) := by decide +kernel
theorem dX12_bytes_33 : decode cX12_bytes 33 = .ok (.invokevirtual 179, 3) := by decide +kernel
theorem dX12_bytes_36 : decode cX12_bytes 36 = .ok (.ireturn, 1) := by decide +kernel
theorem dX12_bytes_37 : decode cX12_bytes 37 = .ok (.aload_n 0, 1) := by decide +kernel
theorem dX12_bytes_38 : decode cX12_bytes 38 = .ok (.dup, 1) := by decide +kernel
theorem dX12_bytes_39 : decode cX12_bytes 39 = .ok (.getfield 253, 3) := by decide +kernel
theorem dX12_bytes_42 : decode cX12_bytes 42 = .ok (.iconst 1, 1) := by decide +kernel
theorem dX12_bytes_43 : decode cX12_bytes 43 = .ok (.iadd, 1) := by decide +kernel
theorem dX12_bytes_44 : decode cX12_bytes 44 = .ok (.putfield 253, 3) := by decide +kernel
theorem dX12_bytes_47 : decode cX12_bytes 47 = .ok (.aload_n 0, 1) := by decide +kernel
theorem dX12_bytes_48 : decode cX12_bytes 48 = .ok (.getfield 253, 3) := by decide +kernel
theorem dX12_bytes_51 : decode cX12_bytes 51 = .ok (.iload_n 3, 1) := by decide +kernel
theorem dX12_bytes_52 : decode cX12_bytes 52 = .ok (.iadd, 1) := by decide +kernel
theorem dX12_bytes_53 : decode cX12_bytes 53 = .ok (.aload_n 0, 1) := by decide +kernel
theorem dX12_bytes_54 : decode cX12_bytes 54 = .ok (.getfield 250, 3) := by decide +kernel
theorem dX12_bytes_57 : decode cX12_bytes 57 = .ok (.if_icmp .le 9, 3) := by decide +kernel
theorem dX12_bytes_60 : decode cX12_bytes 60 = .ok (.aload_n 0, 1) := by decide +kernel
theorem dX12_bytes_61 : decode cX12_bytes 61 = .ok (.iconst 1, 1) := by decide +kernel
theorem dX12_bytes_62 : decode cX12_bytes 62 = .ok (.invokevirtual 179, 3) := by decide +kernel
theorem dX12_bytes_65 : decode cX12_bytes 65 = .ok (.ireturn, 1) := by decide +kernel
theorem dX12_bytes_66 : decode cX12_bytes 66 = .ok (.sipush 1600, 3) := by decide +kernel
theorem dX12_bytes_69 : decode cX12_bytes 69 = .ok (.iload_n 1, 1) := by decide +kernel
theorem dX12_bytes_70 : decode cX12_bytes 70 = .ok (.imul, 1) := by decide +kernel
theorem dX12_bytes_71 : decode cX12_bytes 71 = .ok (.iload_n 2, 1) := by decide +kernel
theorem dX12_bytes_72 : decode cX12_bytes 72 = .ok (.iadd, 1) := by decide +kernel
theorem dX12_bytes_73 : decode cX12_bytes 73 = .ok (.istore 4, 2) := by decide +kernel
theorem dX12_bytes_75 : decode cX12_bytes 75 = .ok (.aload_n 0, 1) := by decide +kernel
theorem dX12_bytes_76 : decode cX12_bytes 76 = .ok (.getfield 36, 3) := by decide +kernel
theorem dX12_bytes_79 : decode cX12_bytes 79 = .ok (.iload 4, 2) := by decide +kernel
theorem dX12_bytes_81 : decode cX12_bytes 81 = .ok (.aload_n 0, 1) := by decide +kernel
theorem dX12_bytes_82 : decode cX12_bytes 82 = .ok (.getfield 150, 3) := by decide +kernel
theorem dX12_bytes_85 : decode cX12_bytes 85 = .ok (.iastore, 1) := by decide +kernel
theorem dX12_bytes_86 : decode cX12_bytes 86 = .ok (.aload_n 0, 1) := by decide +kernel
theorem dX12_bytes_87 : decode cX12_bytes 87 = .ok (.getfield 39, 3) := by decide +kernel
theorem dX12_bytes_90 : decode cX12_bytes 90 = .ok (.iload 4, 2) := by decide +kernel
theorem dX12_bytes_92 : decode cX12_bytes 92 = .ok (.iconst 0, 1) := by decide +kernel
theorem dX12_bytes_93 : decode cX12_bytes 93 = .ok (.iastore, 1) := by decide +kernel
theorem dX12_bytes_94 : decode cX12_bytes 94 = .ok (.aload_n 0, 1) := by decide +kernel
theorem dX12_bytes_95 : decode cX12_bytes 95 = .ok (.sipush 4330, 3) := by decide +kernel
theorem dX12_bytes_98 : decode cX12_bytes 98 = .ok (.putfield 132, 3) := by decide +kernel
theorem dX12_bytes_101 : decode cX12_bytes 101 = .ok (.iconst 0, 1) := by decide +kernel
theorem dX12_bytes_102 : decode cX12_bytes 102 = .ok (.istore 5, 2) := by decide +kernel
theorem dX12_bytes_104 : decode cX12_bytes 104 = .ok (.iload 5, 2) := by decide +kernel
theorem dX12_bytes_106 : decode cX12_bytes 106 = .ok (.iload_n 3, 1) := by decide +kernel
theorem dX12_bytes_107 : decode cX12_bytes 107 = .ok (.if_icmp .ge 76, 3) := by decide +kernel
theorem dX12_bytes_110 : decode cX12_bytes 110 = .ok (.aload_n 0, 1) := by decide +kernel
theorem dX12_bytes_111 : decode cX12_bytes 111 = .ok (.aload_n 0, 1) := by decide +kernel
theorem dX12_bytes_112 : decode cX12_bytes 112 = .ok (.getfield 59, 3) := by decide +kernel
theorem dX12_bytes_115 : decode cX12_bytes 115 = .ok (.aload_n 0, 1) := by decide +kernel
theorem dX12_bytes_116 : decode cX12_bytes 116 = .ok (.getfield 253, 3) := by decide +kernel
theorem dX12_bytes_119 : decode cX12_bytes 119 = .ok (.iload 5, 2) := by decide +kernel
theorem dX12_bytes_121 : decode cX12_bytes 121 = .ok (.iadd, 1) := by decide +kernel
theorem dX12_bytes_122 : decode cX12_bytes 122 = .ok (.baload, 1) := by decide +kernel
theorem dX12_bytes_123 : decode cX12_bytes 123 = .ok (.sipush 255, 3) := by decide +kernel
theorem dX12_bytes_126 : decode cX12_bytes 126 = .ok (.iand, 1) := by decide +kernel
theorem dX12_bytes_127 : decode cX12_bytes 127 = .ok (.invokevirtual 144, 3) := by decide +kernel
theorem dX12_bytes_130 : decode cX12_bytes 130 = .ok (.istore 6, 2) := by decide +kernel
theorem dX12_bytes_132 : decode cX12_bytes 132 = .ok (.iload 5, 2) := by decide +kernel
theorem dX12_bytes_134 : decode cX12_bytes 134 = .ok (.aload_n 0, 1) := by decide +kernel
theorem dX12_bytes_135 : decode cX12_bytes 135 = .ok (.getfield 273, 3) := by decide +kernel
theorem dX12_bytes_138 : decode cX12_bytes 138 = .ok (.if_icmp .ge 6, 3) := by decide +kernel
theorem dX12_bytes_141 : decode cX12_bytes 141 = .ok (.goto 36, 3) := by decide +kernel
theorem dX12_bytes_144 : decode cX12_bytes 144 = .ok (.aload_n 0, 1) := by decide +kernel
theorem dX12_bytes_145 : decode cX12_bytes 145 = .ok (.getfield 42, 3) := by decide +kernel
theorem dX12_bytes_148 : decode cX12_bytes 148 = .ok (.aload_n 0, 1) := by decide +kernel
theorem dX12_bytes_149 : decode cX12_bytes 149 = .ok (.getfield 150, 3) := by decide +kernel
theorem dX12_bytes_152 : decode cX12_bytes 152 = .ok (.iload 6, 2) := by decide +kernel
theorem dX12_bytes_154 : decode cX12_bytes 154 = .ok (.i2b, 1) := by decide +kernel
theorem dX12_bytes_155 : decode cX12_bytes 155 = .ok (.bastore, 1) := by decide +kernel
theorem dX12_bytes_156 : decode cX12_bytes 156 = .ok (.aload_n 0, 1) := by decide +kernel
theorem dX12_bytes_157 : decode cX12_bytes 157 = .ok (.dup, 1) := by decide +kernel
theorem dX12_bytes_158 : decode cX12_bytes 158 = .ok (.getfield 150, 3) := by decide +kernel
theorem dX12_bytes_161 : decode cX12_bytes 161 = .ok (.iconst 1, 1) := by decide +kernel
theorem dX12_bytes_162 : decode cX12_bytes 162 = .ok (.iadd, 1) := by decide +kernel
theorem dX12_bytes_163 : decode cX12_bytes 163 = .ok (.putfield 150, 3) := by decide +kernel
theorem dX12_bytes_166 : decode cX12_bytes 166 = .ok (.aload_n 0, 1) := by decide +kernel
theorem dX12_bytes_167 : decode cX12_bytes 167 = .ok (.getfield 39, 3) := by decide +kernel
theorem dX12_bytes_170 : decode cX12_bytes 170 = .ok (.iload 4, 2) := by decide +kernel
theorem dX12_bytes_172 : decode cX12_bytes 172 = .ok (.dup2, 1) := by decide +kernel
theorem dX12_bytes_173 : decode cX12_bytes 173 = .ok (.iaload, 1) := by decide +kernel
theorem dX12_bytes_174 : decode cX12_bytes 174 = .ok (.iconst 1, 1) := by decide +kernel
theorem dX12_bytes_175 : decode cX12_bytes 175 = .ok (.iadd, 1) := by decide +kernel
theorem dX12_bytes_176 : decode cX12_bytes 176 = .ok (.iastore, 1) := by decide +kernel
theorem dX12_bytes_177 : decode cX12_bytes 177 = .ok (.iinc 5 1, 3) := by decide +kernel
theorem dX12_bytes_180 : decode cX12_bytes 180 = .ok (.goto (-76), 3) := by decide +kernel
theorem dX12_bytes_183 : decode cX12_bytes 183 = .ok (.aload_n 0, 1) := by decide +kernel
theorem dX12_bytes_184 : decode cX12_bytes 184 = .ok (.dup, 1) := by decide +kernel
theorem dX12_bytes_185 : decode cX12_bytes 185 = .ok (.getfield 253, 3) := by decide +kernel
theorem dX12_bytes_188 : decode cX12_bytes 188 = .ok (.iload_n 3, 1) := by decide +kernel
theorem dX12_bytes_189 : decode cX12_bytes 189 = .ok (.iadd, 1) := by decide +kernel
theorem dX12_bytes_190 : decode cX12_bytes 190 = .ok (.putfield 253, 3) := by decide +kernel
theorem dX12_bytes_193 : decode cX12_bytes 193 = .ok (.iconst 1, 1) := by decide +kernel
theorem dX12_bytes_194 : decode cX12_bytes 194 = .ok (.ireturn, 1) := by decide +kernel
theorem dX12_calls_0 : decode cX12_calls 0 = .ok (.lload_n 2, 1) := by decide +kernel
theorem dX12_calls_1 : decode cX12_calls 1 = .ok (.lconst 0, 1) := by decide +kernel
theorem dX12_calls_2 : decode cX12_calls 2 = .ok (.lcmp, 1) := by decide +kernel
theorem dX12_calls_3 : decode cX12_calls 3 = .ok (.ifCond .lt 21, 3) := by decide +kernel
theorem dX12_calls_6 : decode cX12_calls 6 = .ok (.lload_n 2, 1) := by decide +kernel
theorem dX12_calls_7 : decode cX12_calls 7 = .ok (.ldc2_w 373, 3) := by decide +kernel
theorem dX12_calls_10 : decode cX12_calls 10 = .ok (.lcmp, 1) := by decide +kernel
theorem dX12_calls_11 : decode cX12_calls 11 = .ok (.ifCond .gt 13, 3) := by decide +kernel
theorem dX12_calls_14 : decode cX12_calls 14 = .ok (.aload_n 0, 1) := by decide +kernel
theorem dX12_calls_15 : decode cX12_calls 15 = .ok (.iload_n 1, 1) := by decide +kernel
theorem dX12_calls_16 : decode cX12_calls 16 = .ok (.lload_n 2, 1) := by decide +kernel
theorem dX12_calls_17 : decode cX12_calls 17 = .ok (.l2i, 1) := by decide +kernel
theorem dX12_calls_18 : decode cX12_calls 18 = .ok (.invokevirtual 171, 3) := by decide +kernel
theorem dX12_calls_21 : decode cX12_calls 21 = .ok (.ifCond .ne 9, 3) := by decide +kernel
theorem dX12_calls_24 : decode cX12_calls 24 = .ok (.aload_n 0, 1) := by decide +kernel
theorem dX12_calls_25 : decode cX12_calls 25 = .ok (.iconst 4, 1) := by decide +kernel
theorem dX12_calls_26 : decode cX12_calls 26 = .ok (.invokevirtual 346, 3) := by decide +kernel
theorem dX12_calls_29 : decode cX12_calls 29 = .ok (.ireturn, 1) := by decide +kernel
theorem dX12_calls_30 : decode cX12_calls 30 = .ok (.aload_n 0, 1) := by decide +kernel
theorem dX12_calls_31 : decode cX12_calls 31 = .ok (.getfield 328, 3) := by decide +kernel
theorem dX12_calls_34 : decode cX12_calls 34 = .ok (.bipush 10, 2) := by decide +kernel
theorem dX12_calls_36 : decode cX12_calls 36 = .ok (.if_icmp .ne 9, 3) := by decide +kernel
theorem dX12_calls_39 : decode cX12_calls 39 = .ok (.aload_n 0, 1) := by decide +kernel
theorem dX12_calls_40 : decode cX12_calls 40 = .ok (.iconst 5, 1) := by decide +kernel
theorem dX12_calls_41 : decode cX12_calls 41 = .ok (.invokevirtual 346, 3) := by decide +kernel
theorem dX12_calls_44 : decode cX12_calls 44 = .ok (.ireturn, 1) := by decide +kernel
theorem dX12_calls_45 : decode cX12_calls 45 = .ok (.aload_n 0, 1) := by decide +kernel
theorem dX12_calls_46 : decode cX12_calls 46 = .ok (.dup, 1) := by decide +kernel
theorem dX12_calls_47 : decode cX12_calls 47 = .ok (.getfield 328, 3) := by decide +kernel
theorem dX12_calls_50 : decode cX12_calls 50 = .ok (.iconst 1, 1) := by decide +kernel
theorem dX12_calls_51 : decode cX12_calls 51 = .ok (.iadd, 1) := by decide +kernel
theorem dX12_calls_52 : decode cX12_calls 52 = .ok (.putfield 328, 3) := by decide +kernel
theorem dX12_calls_55 : decode cX12_calls 55 = .ok (.aload_n 0, 1) := by decide +kernel
theorem dX12_calls_56 : decode cX12_calls 56 = .ok (.getfield 107, 3) := by decide +kernel
theorem dX12_calls_59 : decode cX12_calls 59 = .ok (.aload_n 0, 1) := by decide +kernel
theorem dX12_calls_60 : decode cX12_calls 60 = .ok (.getfield 328, 3) := by decide +kernel
theorem dX12_calls_63 : decode cX12_calls 63 = .ok (.iload_n 1, 1) := by decide +kernel
theorem dX12_calls_64 : decode cX12_calls 64 = .ok (.iastore, 1) := by decide +kernel
theorem dX12_calls_65 : decode cX12_calls 65 = .ok (.aload_n 0, 1) := by decide +kernel
theorem dX12_calls_66 : decode cX12_calls 66 = .ok (.getfield 110, 3) := by decide +kernel
theorem dX12_calls_69 : decode cX12_calls 69 = .ok (.aload_n 0, 1) := by decide +kernel
theorem dX12_calls_70 : decode cX12_calls 70 = .ok (.getfield 328, 3) := by decide +kernel
theorem dX12_calls_73 : decode cX12_calls 73 = .ok (.lload_n 2, 1) := by decide +kernel
theorem dX12_calls_74 : decode cX12_calls 74 = .ok (.l2i, 1) := by decide +kernel
theorem dX12_calls_75 : decode cX12_calls 75 = .ok (.iastore, 1) := by decide +kernel
theorem dX12_calls_76 : decode cX12_calls 76 = .ok (.aload_n 0, 1) := by decide +kernel
theorem dX12_calls_77 : decode cX12_calls 77 = .ok (.getfield 113, 3) := by decide +kernel
theorem dX12_calls_80 : decode cX12_calls 80 = .ok (.aload_n 0, 1) := by decide +kernel
theorem dX12_calls_81 : decode cX12_calls 81 = .ok (.getfield 328, 3) := by decide +kernel
theorem dX12_calls_84 : decode cX12_calls 84 = .ok (.iconst 0, 1) := by decide +kernel
theorem dX12_calls_85 : decode cX12_calls 85 = .ok (.iastore, 1) := by decide +kernel
theorem dX12_calls_86 : decode cX12_calls 86 = .ok (.iconst 1, 1) := by decide +kernel
theorem dX12_calls_87 : decode cX12_calls 87 = .ok (.ireturn, 1) := by decide +kernel
theorem dX12_cff_0 : decode cX12_cff 0 = .ok (.aload_n 0, 1) := by decide +kernel
theorem dX12_cff_1 : decode cX12_cff 1 = .ok (.lconst 0, 1) := by decide +kernel
theorem dX12_cff_2 : decode cX12_cff 2 = .ok (.putfield 175, 3) := by decide +kernel
theorem dX12_cff_5 : decode cX12_cff 5 = .ok (.aload_n 0, 1) := by decide +kernel
theorem dX12_cff_6 : decode cX12_cff 6 = .ok (.iconst 1, 1) := by decide +kernel
theorem dX12_cff_7 : decode cX12_cff 7 = .ok (.invokevirtual 191, 3) := by decide +kernel
theorem dX12_cff_10 : decode cX12_cff 10 = .ok (.lconst 1, 1) := by decide +kernel
theorem dX12_cff_11 : decode cX12_cff 11 = .ok (.lcmp, 1) := by decide +kernel
theorem dX12_cff_12 : decode cX12_cff 12 = .ok (.ifCond .ne 10, 3) := by decide +kernel
theorem dX12_cff_15 : decode cX12_cff 15 = .ok (.aload_n 0, 1) := by decide +kernel
theorem dX12_cff_16 : decode cX12_cff 16 = .ok (.getfield 147, 3) := by decide +kernel
theorem dX12_cff_19 : decode cX12_cff 19 = .ok (.ifCond .le 10, 3) := by decide +kernel
theorem dX12_cff_22 : decode cX12_cff 22 = .ok (.aload_n 0, 1) := by decide +kernel
theorem dX12_cff_23 : decode cX12_cff 23 = .ok (.iconst 2, 1) := by decide +kernel
theorem dX12_cff_24 : decode cX12_cff 24 = .ok (.invokevirtual 179, 3) := by decide +kernel
theorem dX12_cff_27 : decode cX12_cff 27 = .ok (.istore_n 1, 1) := by decide +kernel
theorem dX12_cff_28 : decode cX12_cff 28 = .ok (.return_, 1) := by decide +kernel
theorem dX12_cff_29 : decode cX12_cff 29 = .ok (.aload_n 0, 1) := by decide +kernel
theorem dX12_cff_30 : decode cX12_cff 30 = .ok (.iconst 1, 1) := by decide +kernel
theorem dX12_cff_31 : decode cX12_cff 31 = .ok (.invokevirtual 191, 3) := by decide +kernel
theorem dX12_cff_34 : decode cX12_cff 34 = .ok (.lstore_n 1, 1) := by decide +kernel
theorem dX12_cff_35 : decode cX12_cff 35 = .ok (.aload_n 0, 1) := by decide +kernel
theorem dX12_cff_36 : decode cX12_cff 36 = .ok (.iconst 1, 1) := by decide +kernel
theorem dX12_cff_37 : decode cX12_cff 37 = .ok (.invokevirtual 191, 3) := by decide +kernel
theorem dX12_cff_40 : decode cX12_cff 40 = .ok (.lstore_n 3, 1) := by decide +kernel
theorem dX12_cff_41 : decode cX12_cff 41 = .ok (.aload_n 0, 1) := by decide +kernel
theorem dX12_cff_42 : decode cX12_cff 42 = .ok (.getfield 147, 3) := by decide +kernel
theorem dX12_cff_45 : decode cX12_cff 45 = .ok (.ifCond .gt 19, 3) := by decide +kernel
theorem dX12_cff_48 : decode cX12_cff 48 = .ok (.lload_n 3, 1) := by decide +kernel
theorem dX12_cff_49 : decode cX12_cff 49 = .ok (.ldc2_w 218, 3) := by decide +kernel
theorem dX12_cff_52 : decode cX12_cff 52 = .ok (.lcmp, 1) := by decide +kernel
theorem dX12_cff_53 : decode cX12_cff 53 = .ok (.ifCond .ge 12, 3) := by decide +kernel
theorem dX12_cff_56 : decode cX12_cff 56 = .ok (.aload_n 0, 1) := by decide +kernel
theorem dX12_cff_57 : decode cX12_cff 57 = .ok (.iconst 2, 1) := by decide +kernel
theorem dX12_cff_58 : decode cX12_cff 58 = .ok (.invokevirtual 179, 3) := by decide +kernel
theorem dX12_cff_61 : decode cX12_cff 61 = .ok (.ifCond .ne 4, 3) := by decide +kernel
theorem dX12_cff_64 : decode cX12_cff 64 = .ok (.return_, 1) := by decide +kernel
theorem dX12_cff_65 : decode cX12_cff 65 = .ok (.aload_n 0, 1) := by decide +kernel
theorem dX12_cff_66 : decode cX12_cff 66 = .ok (.iconst 1, 1) := by decide +kernel
theorem dX12_cff_67 : decode cX12_cff 67 = .ok (.invokevirtual 191, 3) := by decide +kernel
theorem dX12_cff_70 : decode cX12_cff 70 = .ok (.lstore 5, 2) := by decide +kernel
theorem dX12_cff_72 : decode cX12_cff 72 = .ok (.aload_n 0, 1) := by decide +kernel
theorem dX12_cff_73 : decode cX12_cff 73 = .ok (.getfield 147, 3) := by decide +kernel
theorem dX12_cff_76 : decode cX12_cff 76 = .ok (.ifCond .gt 27, 3) := by decide +kernel
theorem dX12_cff_79 : decode cX12_cff 79 = .ok (.lload 5, 2) := by decide +kernel
theorem dX12_cff_81 : decode cX12_cff 81 = .ok (.lconst 1, 1) := by decide +kernel
theorem dX12_cff_82 : decode cX12_cff 82 = .ok (.lcmp, 1) := by decide +kernel
theorem dX12_cff_83 : decode cX12_cff 83 = .ok (.ifCond .lt 12, 3) := by decide +kernel
theorem dX12_cff_86 : decode cX12_cff 86 = .ok (.lload 5, 2) := by decide +kernel
theorem dX12_cff_88 : decode cX12_cff 88 = .ok (.ldc2_w 218, 3) := by decide +kernel
theorem dX12_cff_91 : decode cX12_cff 91 = .ok (.lcmp, 1) := by decide +kernel
theorem dX12_cff_92 : decode cX12_cff 92 = .ok (.ifCond .le 12, 3) := by decide +kernel
theorem dX12_cff_95 : decode cX12_cff 95 = .ok (.aload_n 0, 1) := by decide +kernel
theorem dX12_cff_96 : decode cX12_cff 96 = .ok (.iconst 2, 1) := by decide +kernel
theorem dX12_cff_97 : decode cX12_cff 97 = .ok (.invokevirtual 179, 3) := by decide +kernel
theorem dX12_cff_100 : decode cX12_cff 100 = .ok (.ifCond .ne 4, 3) := by decide +kernel
theorem dX12_cff_103 : decode cX12_cff 103 = .ok (.return_, 1) := by decide +kernel
theorem dX12_cff_104 : decode cX12_cff 104 = .ok (.aload_n 0, 1) := by decide +kernel
theorem dX12_cff_105 : decode cX12_cff 105 = .ok (.lload_n 3, 1) := by decide +kernel
theorem dX12_cff_106 : decode cX12_cff 106 = .ok (.putfield 175, 3) := by decide +kernel
theorem dX12_cff_109 : decode cX12_cff 109 = .ok (.aload_n 0, 1) := by decide +kernel
theorem dX12_cff_110 : decode cX12_cff 110 = .ok (.iconst 1, 1) := by decide +kernel
theorem dX12_cff_111 : decode cX12_cff 111 = .ok (.iconst 1, 1) := by decide +kernel
theorem dX12_cff_112 : decode cX12_cff 112 = .ok (.invokevirtual 220, 3) := by decide +kernel
theorem dX12_cff_115 : decode cX12_cff 115 = .ok (.ifCond .eq 12, 3) := by decide +kernel
theorem dX12_cff_118 : decode cX12_cff 118 = .ok (.aload_n 0, 1) := by decide +kernel
theorem dX12_cff_119 : decode cX12_cff 119 = .ok (.iconst 1, 1) := by decide +kernel
theorem dX12_cff_120 : decode cX12_cff 120 = .ok (.iconst 1, 1) := by decide +kernel
theorem dX12_cff_121 : decode cX12_cff 121 = .ok (.invokevirtual 220, 3) := by decide +kernel
theorem dX12_cff_124 : decode cX12_cff 124 = .ok (.ifCond .ne 4, 3) := by decide +kernel
theorem dX12_cff_127 : decode cX12_cff 127 = .ok (.return_, 1) := by decide +kernel
theorem dX12_cff_128 : decode cX12_cff 128 = .ok (.aload_n 0, 1) := by decide +kernel
theorem dX12_cff_129 : decode cX12_cff 129 = .ok (.getfield 198, 3) := by decide +kernel
theorem dX12_cff_132 : decode cX12_cff 132 = .ok (.aload_n 0, 1) := by decide +kernel
theorem dX12_cff_133 : decode cX12_cff 133 = .ok (.iconst 0, 1) := by decide +kernel
theorem dX12_cff_134 : decode cX12_cff 134 = .ok (.invokevirtual 201, 3) := by decide +kernel
theorem dX12_cff_137 : decode cX12_cff 137 = .ok (.ladd, 1) := by decide +kernel
theorem dX12_cff_138 : decode cX12_cff 138 = .ok (.lstore 7, 2) := by decide +kernel
theorem dX12_cff_140 : decode cX12_cff 140 = .ok (.aload_n 0, 1) := by decide +kernel
theorem dX12_cff_141 : decode cX12_cff 141 = .ok (.getfield 198, 3) := by decide +kernel
theorem dX12_cff_144 : decode cX12_cff 144 = .ok (.aload_n 0, 1) := by decide +kernel
theorem dX12_cff_145 : decode cX12_cff 145 = .ok (.iconst 1, 1) := by decide +kernel
theorem dX12_cff_146 : decode cX12_cff 146 = .ok (.invokevirtual 201, 3) := by decide +kernel
theorem dX12_cff_149 : decode cX12_cff 149 = .ok (.ladd, 1) := by decide +kernel
theorem dX12_cff_150 : decode cX12_cff 150 = .ok (.lstore 9, 2) := by decide +kernel
theorem dX12_cff_152 : decode cX12_cff 152 = .ok (.aload_n 0, 1) := by decide +kernel
theorem dX12_cff_153 : decode cX12_cff 153 = .ok (.iconst 0, 1) := by decide +kernel
theorem dX12_cff_154 : decode cX12_cff 154 = .ok (.ldc 136, 2) := by decide +kernel
theorem dX12_cff_156 : decode cX12_cff 156 = .ok (.invokevirtual 220, 3) := by decide +kernel
theorem dX12_cff_159 : decode cX12_cff 159 = .ok (.ifCond .eq 13, 3) := by decide +kernel
theorem dX12_cff_162 : decode cX12_cff 162 = .ok (.aload_n 0, 1) := by decide +kernel
theorem dX12_cff_163 : decode cX12_cff 163 = .ok (.iconst 0, 1) := by decide +kernel
theorem dX12_cff_164 : decode cX12_cff 164 = .ok (.ldc 136, 2) := by decide +kernel
theorem dX12_cff_166 : decode cX12_cff 166 = .ok (.invokevirtual 220, 3) := by decide +kernel
theorem dX12_cff_169 : decode cX12_cff 169 = .ok (.ifCond .ne 4, 3) := by decide +kernel
theorem dX12_cff_172 : decode cX12_cff 172 = .ok (.return_, 1) := by decide +kernel
theorem dX12_cff_173 : decode cX12_cff 173 = .ok (.aload_n 0, 1) := by decide +kernel
theorem dX12_cff_174 : decode cX12_cff 174 = .ok (.iconst 2, 1) := by decide +kernel
theorem dX12_cff_175 : decode cX12_cff 175 = .ok (.invokevirtual 223, 3) := by decide +kernel
theorem dX12_cff_178 : decode cX12_cff 178 = .ok (.aload_n 0, 1) := by decide +kernel
theorem dX12_cff_179 : decode cX12_cff 179 = .ok (.lload 7, 2) := by decide +kernel
theorem dX12_cff_181 : decode cX12_cff 181 = .ok (.lload 9, 2) := by decide +kernel
theorem dX12_cff_183 : decode cX12_cff 183 = .ok (.invokevirtual 226, 3) := by decide +kernel
theorem dX12_cff_186 : decode cX12_cff 186 = .ok (.ifCond .ne 4, 3) := by decide +kernel
theorem dX12_cff_189 : decode cX12_cff 189 = .ok (.return_, 1) := by decide +kernel
theorem dX12_cff_190 : decode cX12_cff 190 = .ok (.aload_n 0, 1) := by decide +kernel
theorem dX12_cff_191 : decode cX12_cff 191 = .ok (.getfield 45, 3) := by decide +kernel
theorem dX12_cff_194 : decode cX12_cff 194 = .ok (.bipush 17, 2) := by decide +kernel
theorem dX12_cff_196 : decode cX12_cff 196 = .ok (.iaload, 1) := by decide +kernel
theorem dX12_cff_197 : decode cX12_cff 197 = .ok (.iconst (-1), 1) := by decide +kernel
theorem dX12_cff_198 : decode cX12_cff 198 = .ok (.if_icmp .ne 11, 3) := by decide +kernel
theorem dX12_cff_201 : decode cX12_cff 201 = .ok (.aload_n 0, 1) := by decide +kernel
theorem dX12_cff_202 : decode cX12_cff 202 = .ok (.iconst 2, 1) := by decide +kernel
theorem dX12_cff_203 : decode cX12_cff 203 = .ok (.invokevirtual 179, 3) := by decide +kernel
theorem dX12_cff_206 : decode cX12_cff 206 = .ok (.ifCond .eq 69, 3) := by decide +kernel
theorem dX12_cff_209 : decode cX12_cff 209 = .ok (.aload_n 0, 1) := by decide +kernel
theorem dX12_cff_210 : decode cX12_cff 210 = .ok (.bipush 17, 2) := by decide +kernel
theorem dX12_cff_212 : decode cX12_cff 212 = .ok (.iconst 1, 1) := by decide +kernel
theorem dX12_cff_213 : decode cX12_cff 213 = .ok (.invokevirtual 230, 3) := by decide +kernel
theorem dX12_cff_216 : decode cX12_cff 216 = .ok (.ifCond .eq 59, 3) := by decide +kernel
theorem dX12_cff_219 : decode cX12_cff 219 = .ok (.aload_n 0, 1) := by decide +kernel
theorem dX12_cff_220 : decode cX12_cff 220 = .ok (.bipush 18, 2) := by decide +kernel
theorem dX12_cff_222 : decode cX12_cff 222 = .ok (.iconst 2, 1) := by decide +kernel
theorem dX12_cff_223 : decode cX12_cff 223 = .ok (.invokevirtual 230, 3) := by decide +kernel
theorem dX12_cff_226 : decode cX12_cff 226 = .ok (.ifCond .eq 49, 3) := by decide +kernel
theorem dX12_cff_229 : decode cX12_cff 229 = .ok (.aload_n 0, 1) := by decide +kernel
theorem dX12_cff_230 : decode cX12_cff 230 = .ok (.sipush 262, 3) := by decide +kernel
theorem dX12_cff_233 : decode cX12_cff 233 = .ok (.iconst 1, 1) := by decide +kernel
theorem dX12_cff_234 : decode cX12_cff 234 = .ok (.invokevirtual 230, 3) := by decide +kernel
theorem dX12_cff_237 : decode cX12_cff 237 = .ok (.ifCond .eq 38, 3) := by decide +kernel
theorem dX12_cff_240 : decode cX12_cff 240 = .ok (.aload_n 0, 1) := by decide +kernel
theorem dX12_cff_241 : decode cX12_cff 241 = .ok (.getfield 45, 3) := by decide +kernel
theorem dX12_cff_244 : decode cX12_cff 244 = .ok (.sipush 262, 3) := by decide +kernel
theorem dX12_cff_247 : decode cX12_cff 247 = .ok (.iaload, 1) := by decide +kernel
theorem dX12_cff_248 : decode cX12_cff 248 = .ok (.iconst 1, 1) := by decide +kernel
theorem dX12_cff_249 : decode cX12_cff 249 = .ok (.if_icmp .ne 27, 3) := by decide +kernel
theorem dX12_cff_252 : decode cX12_cff 252 = .ok (.aload_n 0, 1) := by decide +kernel
theorem dX12_cff_253 : decode cX12_cff 253 = .ok (.getfield 48, 3) := by decide +kernel
theorem dX12_cff_256 : decode cX12_cff 256 = .ok (.sipush 262, 3) := by decide +kernel
theorem dX12_cff_259 : decode cX12_cff 259 = .ok (.laload, 1) := by decide +kernel
theorem dX12_cff_260 : decode cX12_cff 260 = .ok (.ldc2_w 233, 3) := by decide +kernel
theorem dX12_cff_263 : decode cX12_cff 263 = .ok (.lcmp, 1) := by decide +kernel
theorem dX12_cff_264 : decode cX12_cff 264 = .ok (.ifCond .eq 12, 3) := by decide +kernel
theorem dX12_cff_267 : decode cX12_cff 267 = .ok (.aload_n 0, 1) := by decide +kernel
theorem dX12_cff_268 : decode cX12_cff 268 = .ok (.iconst 2, 1) := by decide +kernel
theorem dX12_cff_269 : decode cX12_cff 269 = .ok (.invokevirtual 179, 3) := by decide +kernel
theorem dX12_cff_272 : decode cX12_cff 272 = .ok (.ifCond .ne 4, 3) := by decide +kernel
theorem dX12_cff_275 : decode cX12_cff 275 = .ok (.return_, 1) := by decide +kernel
theorem dX12_cff_276 : decode cX12_cff 276 = .ok (.aload_n 0, 1) := by decide +kernel
theorem dX12_cff_277 : decode cX12_cff 277 = .ok (.getfield 45, 3) := by decide +kernel
theorem dX12_cff_280 : decode cX12_cff 280 = .ok (.bipush 18, 2) := by decide +kernel
theorem dX12_cff_282 : decode cX12_cff 282 = .ok (.iaload, 1) := by decide +kernel
theorem dX12_cff_283 : decode cX12_cff 283 = .ok (.iconst 2, 1) := by decide +kernel
theorem dX12_cff_284 : decode cX12_cff 284 = .ok (.if_icmp .ne 7, 3) := by decide +kernel
theorem dX12_cff_287 : decode cX12_cff 287 = .ok (.iconst 1, 1) := by decide +kernel
theorem dX12_cff_288 : decode cX12_cff 288 = .ok (.goto 4, 3) := by decide +kernel
theorem dX12_cff_291 : decode cX12_cff 291 = .ok (.iconst 0, 1) := by decide +kernel
theorem dX12_cff_292 : decode cX12_cff 292 = .ok (.istore 11, 2) := by decide +kernel
theorem dX12_cff_294 : decode cX12_cff 294 = .ok (.aload_n 0, 1) := by decide +kernel
theorem dX12_cff_295 : decode cX12_cff 295 = .ok (.getfield 48, 3) := by decide +kernel
theorem dX12_cff_298 : decode cX12_cff 298 = .ok (.bipush 18, 2) := by decide +kernel
theorem dX12_cff_300 : decode cX12_cff 300 = .ok (.laload, 1) := by decide +kernel
theorem dX12_cff_301 : decode cX12_cff 301 = .ok (.lstore 12, 2) := by decide +kernel
theorem dX12_cff_303 : decode cX12_cff 303 = .ok (.aload_n 0, 1) := by decide +kernel
theorem dX12_cff_304 : decode cX12_cff 304 = .ok (.getfield 52, 3) := by decide +kernel
theorem dX12_cff_307 : decode cX12_cff 307 = .ok (.bipush 18, 2) := by decide +kernel
theorem dX12_cff_309 : decode cX12_cff 309 = .ok (.laload, 1) := by decide +kernel
theorem dX12_cff_310 : decode cX12_cff 310 = .ok (.lstore 14, 2) := by decide +kernel
theorem dX12_cff_312 : decode cX12_cff 312 = .ok (.aload_n 0, 1) := by decide +kernel
theorem dX12_cff_313 : decode cX12_cff 313 = .ok (.aload_n 0, 1) := by decide +kernel
theorem dX12_cff_314 : decode cX12_cff 314 = .ok (.getfield 48, 3) := by decide +kernel
theorem dX12_cff_317 : decode cX12_cff 317 = .ok (.bipush 17, 2) := by decide +kernel
theorem dX12_cff_319 : decode cX12_cff 319 = .ok (.laload, 1) := by decide +kernel
theorem dX12_cff_320 : decode cX12_cff 320 = .ok (.putfield 175, 3) := by decide +kernel
theorem dX12_cff_323 : decode cX12_cff 323 = .ok (.aload_n 0, 1) := by decide +kernel
theorem dX12_cff_324 : decode cX12_cff 324 = .ok (.iconst 1, 1) := by decide +kernel
theorem dX12_cff_325 : decode cX12_cff 325 = .ok (.bipush 40, 2) := by decide +kernel
theorem dX12_cff_327 : decode cX12_cff 327 = .ok (.invokevirtual 220, 3) := by decide +kernel
theorem dX12_cff_330 : decode cX12_cff 330 = .ok (.ifCond .ne 4, 3) := by decide +kernel
theorem dX12_cff_333 : decode cX12_cff 333 = .ok (.return_, 1) := by decide +kernel
theorem dX12_cff_334 : decode cX12_cff 334 = .ok (.aload_n 0, 1) := by decide +kernel
theorem dX12_cff_335 : decode cX12_cff 335 = .ok (.iconst 0, 1) := by decide +kernel
theorem dX12_cff_336 : decode cX12_cff 336 = .ok (.invokevirtual 223, 3) := by decide +kernel
theorem dX12_cff_339 : decode cX12_cff 339 = .ok (.iload 11, 2) := by decide +kernel
theorem dX12_cff_341 : decode cX12_cff 341 = .ok (.ifCond .eq 11, 3) := by decide +kernel
theorem dX12_cff_344 : decode cX12_cff 344 = .ok (.aload_n 0, 1) := by decide +kernel
theorem dX12_cff_345 : decode cX12_cff 345 = .ok (.lload 14, 2) := by decide +kernel
theorem dX12_cff_347 : decode cX12_cff 347 = .ok (.lload 12, 2) := by decide +kernel
theorem dX12_cff_349 : decode cX12_cff 349 = .ok (.invokevirtual 235, 3) := by decide +kernel
theorem dX12_cff_352 : decode cX12_cff 352 = .ok (.return_, 1) := by decide +kernel
theorem dX12_cipher_0 : decode cX12_cipher 0 = .ok (.iload_n 1, 1) := by decide +kernel
theorem dX12_cipher_1 : decode cX12_cipher 1 = .ok (.ifCond .lt 19, 3) := by decide +kernel
theorem dX12_cipher_4 : decode cX12_cipher 4 = .ok (.iload_n 1, 1) := by decide +kernel
theorem dX12_cipher_5 : decode cX12_cipher 5 = .ok (.ldc 136, 2) := by decide +kernel
theorem dX12_cipher_7 : decode cX12_cipher 7 = .ok (.if_icmp .gt 13, 3) := by decide +kernel
theorem dX12_cipher_10 : decode cX12_cipher 10 = .ok (.iload_n 2, 1) := by decide +kernel
theorem dX12_cipher_11 : decode cX12_cipher 11 = .ok (.ifCond .lt 9, 3) := by decide +kernel
theorem dX12_cipher_14 : decode cX12_cipher 14 = .ok (.iload_n 2, 1) := by decide +kernel
theorem dX12_cipher_15 : decode cX12_cipher 15 = .ok (.bipush 8, 2) := by decide +kernel
theorem dX12_cipher_17 : decode cX12_cipher 17 = .ok (.if_icmp .le 5, 3) := by decide +kernel
theorem dX12_cipher_20 : decode cX12_cipher 20 = .ok (.iconst (-1), 1) := by decide +kernel
theorem dX12_cipher_21 : decode cX12_cipher 21 = .ok (.ireturn, 1) := by decide +kernel
theorem dX12_cipher_22 : decode cX12_cipher 22 = .ok (.aload_n 0, 1) := by decide +kernel
theorem dX12_cipher_23 : decode cX12_cipher 23 = .ok (.iload_n 1, 1) := by decide +kernel
theorem dX12_cipher_24 : decode cX12_cipher 24 = .ok (.putfield 132, 3) := by decide +kernel
theorem dX12_cipher_27 : decode cX12_cipher 27 = .ok (.aload_n 0, 1) := by decide +kernel
theorem dX12_cipher_28 : decode cX12_cipher 28 = .ok (.iconst 0, 1) := by decide +kernel
theorem dX12_cipher_29 : decode cX12_cipher 29 = .ok (.putfield 137, 3) := by decide +kernel
theorem dX12_cipher_32 : decode cX12_cipher 32 = .ok (.iconst 0, 1) := by decide +kernel
theorem dX12_cipher_33 : decode cX12_cipher 33 = .ok (.istore_n 3, 1) := by decide +kernel
theorem dX12_cipher_34 : decode cX12_cipher 34 = .ok (.iload_n 3, 1) := by decide +kernel
theorem dX12_cipher_35 : decode cX12_cipher 35 = .ok (.iload_n 2, 1) := by decide +kernel
theorem dX12_cipher_36 : decode cX12_cipher 36 = .ok (.aload_n 0, 1) := by decide +kernel
theorem dX12_cipher_37 : decode cX12_cipher 37 = .ok (.getfield 125, 3) := by decide +kernel
theorem dX12_cipher_40 : decode cX12_cipher 40 = .ok (.iadd, 1) := by decide +kernel
theorem dX12_cipher_41 : decode cX12_cipher 41 = .ok (.if_icmp .ge 54, 3) := by decide +kernel
theorem dX12_cipher_44 : decode cX12_cipher 44 = .ok (.aload_n 0, 1) := by decide +kernel
theorem dX12_cipher_45 : decode cX12_cipher 45 = .ok (.getfield 13, 3) := by decide +kernel
theorem dX12_cipher_48 : decode cX12_cipher 48 = .ok (.aload_n 0, 1) := by decide +kernel
theorem dX12_cipher_49 : decode cX12_cipher 49 = .ok (.getfield 137, 3) := by decide +kernel
theorem dX12_cipher_52 : decode cX12_cipher 52 = .ok (.aload_n 0, 1) := by decide +kernel
theorem dX12_cipher_53 : decode cX12_cipher 53 = .ok (.iload_n 3, 1) := by decide +kernel
theorem dX12_cipher_54 : decode cX12_cipher 54 = .ok (.iload_n 2, 1) := by decide +kernel
theorem dX12_cipher_55 : decode cX12_cipher 55 = .ok (.if_icmp .ge 7, 3) := by decide +kernel
theorem dX12_cipher_58 : decode cX12_cipher 58 = .ok (.iconst 0, 1) := by decide +kernel
theorem dX12_cipher_59 : decode cX12_cipher 59 = .ok (.goto 15, 3) := by decide +kernel
theorem dX12_cipher_62 : decode cX12_cipher 62 = .ok (.aload_n 0, 1) := by decide +kernel
theorem dX12_cipher_63 : decode cX12_cipher 63 = .ok (.getfield 7, 3) := by decide +kernel
theorem dX12_cipher_66 : decode cX12_cipher 66 = .ok (.iload_n 3, 1) := by decide +kernel
theorem dX12_cipher_67 : decode cX12_cipher 67 = .ok (.iload_n 2, 1) := by decide +kernel
theorem dX12_cipher_68 : decode cX12_cipher 68 = .ok (.isub, 1) := by decide +kernel
theorem dX12_cipher_69 : decode cX12_cipher 69 = .ok (.baload, 1) := by decide +kernel
theorem dX12_cipher_70 : decode cX12_cipher 70 = .ok (.sipush 255, 3) := by decide +kernel
theorem dX12_cipher_73 : decode cX12_cipher 73 = .ok (.iand, 1) := by decide +kernel
theorem dX12_cipher_74 : decode cX12_cipher 74 = .ok (.invokevirtual 140, 3) := by decide +kernel
theorem dX12_cipher_77 : decode cX12_cipher 77 = .ok (.i2b, 1) := by decide +kernel
theorem dX12_cipher_78 : decode cX12_cipher 78 = .ok (.bastore, 1) := by decide +kernel
theorem dX12_cipher_79 : decode cX12_cipher 79 = .ok (.aload_n 0, 1) := by decide +kernel
theorem dX12_cipher_80 : decode cX12_cipher 80 = .ok (.dup, 1) := by decide +kernel
theorem dX12_cipher_81 : decode cX12_cipher 81 = .ok (.getfield 137, 3) := by decide +kernel
theorem dX12_cipher_84 : decode cX12_cipher 84 = .ok (.iconst 1, 1) := by decide +kernel
theorem dX12_cipher_85 : decode cX12_cipher 85 = .ok (.iadd, 1) := by decide +kernel
theorem dX12_cipher_86 : decode cX12_cipher 86 = .ok (.putfield 137, 3) := by decide +kernel
theorem dX12_cipher_89 : decode cX12_cipher 89 = .ok (.iinc 3 1, 3) := by decide +kernel
theorem dX12_cipher_92 : decode cX12_cipher 92 = .ok (.goto (-58), 3) := by decide +kernel
theorem dX12_cipher_95 : decode cX12_cipher 95 = .ok (.aload_n 0, 1) := by decide +kernel
theorem dX12_cipher_96 : decode cX12_cipher 96 = .ok (.iconst 0, 1) := by decide +kernel
theorem dX12_cipher_97 : decode cX12_cipher 97 = .ok (.putfield 125, 3) := by decide +kernel
theorem dX12_cipher_100 : decode cX12_cipher 100 = .ok (.aload_n 0, 1) := by decide +kernel
theorem dX12_cipher_101 : decode cX12_cipher 101 = .ok (.getfield 137, 3) := by decide +kernel
theorem dX12_cipher_104 : decode cX12_cipher 104 = .ok (.ireturn, 1) := by decide +kernel
theorem dX12_ciphers_0 : decode cX12_ciphers 0 = .ok (.iload_n 1, 1) := by decide +kernel
theorem dX12_ciphers_1 : decode cX12_ciphers 1 = .ok (.aload_n 0, 1) := by decide +kernel
theorem dX12_ciphers_2 : decode cX12_ciphers 2 = .ok (.getfield 132, 3) := by decide +kernel
theorem dX12_ciphers_5 : decode cX12_ciphers 5 = .ok (.bipush 8, 2) := by decide +kernel
theorem dX12_ciphers_7 : decode cX12_ciphers 7 = .ok (.ishr, 1) := by decide +kernel
theorem dX12_ciphers_8 : decode cX12_ciphers 8 = .ok (.ixor, 1) := by decide +kernel
theorem dX12_ciphers_9 : decode cX12_ciphers 9 = .ok (.sipush 255, 3) := by decide +kernel
theorem dX12_ciphers_12 : decode cX12_ciphers 12 = .ok (.iand, 1) := by decide +kernel
theorem dX12_ciphers_13 : decode cX12_ciphers 13 = .ok (.istore_n 2, 1) := by decide +kernel
theorem dX12_ciphers_14 : decode cX12_ciphers 14 = .ok (.aload_n 0, 1) := by decide +kernel
theorem dX12_ciphers_15 : decode cX12_ciphers 15 = .ok (.iload_n 2, 1) := by decide +kernel
theorem dX12_ciphers_16 : decode cX12_ciphers 16 = .ok (.aload_n 0, 1) := by decide +kernel
theorem dX12_ciphers_17 : decode cX12_ciphers 17 = .ok (.getfield 132, 3) := by decide +kernel
theorem dX12_ciphers_20 : decode cX12_ciphers 20 = .ok (.iadd, 1) := by decide +kernel
theorem dX12_ciphers_21 : decode cX12_ciphers 21 = .ok (.ldc 135, 2) := by decide +kernel
theorem dX12_ciphers_23 : decode cX12_ciphers 23 = .ok (.imul, 1) := by decide +kernel
theorem dX12_ciphers_24 : decode cX12_ciphers 24 = .ok (.sipush 22719, 3) := by decide +kernel
theorem dX12_ciphers_27 : decode cX12_ciphers 27 = .ok (.iadd, 1) := by decide +kernel
theorem dX12_ciphers_28 : decode cX12_ciphers 28 = .ok (.ldc 136, 2) := by decide +kernel
theorem dX12_ciphers_30 : decode cX12_ciphers 30 = .ok (.iand, 1) := by decide +kernel
theorem dX12_ciphers_31 : decode cX12_ciphers 31 = .ok (.putfield 132, 3) := by decide +kernel
theorem dX12_ciphers_34 : decode cX12_ciphers 34 = .ok (.iload_n 2, 1) := by decide +kernel
theorem dX12_ciphers_35 : decode cX12_ciphers 35 = .ok (.ireturn, 1) := by decide +kernel
theorem dX12_code_0 : decode cX12_code 0 = .ok (.aload_n 0, 1) := by decide +kernel
theorem dX12_code_1 : decode cX12_code 1 = .ok (.iload_n 1, 1) := by decide +kernel
theorem dX12_code_2 : decode cX12_code 2 = .ok (.iload_n 2, 1) := by decide +kernel
theorem dX12_code_3 : decode cX12_code 3 = .ok (.invokevirtual 171, 3) := by decide +kernel
theorem dX12_code_6 : decode cX12_code 6 = .ok (.ifCond .eq 23, 3) := by decide +kernel
theorem dX12_code_9 : decode cX12_code 9 = .ok (.iload_n 3, 1) := by decide +kernel
theorem dX12_code_10 : decode cX12_code 10 = .ok (.ifCond .lt 19, 3) := by decide +kernel
theorem dX12_code_13 : decode cX12_code 13 = .ok (.iload_n 3, 1) := by decide +kernel
theorem dX12_code_14 : decode cX12_code 14 = .ok (.aload_n 0, 1) := by decide +kernel
theorem dX12_code_15 : decode cX12_code 15 = .ok (.getfield 27, 3) := by decide +kernel
theorem dX12_code_18 : decode cX12_code 18 = .ok (.sipush 1600, 3) := by decide +kernel
theorem dX12_code_21 : decode cX12_code 21 = .ok (.iload_n 1, 1) := by decide +kernel
theorem dX12_code_22 : decode cX12_code 22 = .ok (.imul, 1) := by decide +kernel
theorem dX12_code_23 : decode cX12_code 23 = .ok (.iload_n 2, 1) := by decide +kernel
theorem dX12_code_24 : decode cX12_code 24 = .ok (.iadd, 1) := by decide +kernel
theorem dX12_code_25 : decode cX12_code 25 = .ok (.iaload, 1) := by decide +kernel
theorem dX12_code_26 : decode cX12_code 26 = .ok (.if_icmp .lt 5, 3) := by decide +kernel
theorem dX12_code_29 : decode cX12_code 29 = .ok (.iconst (-1), 1) := by decide +kernel
theorem dX12_code_30 : decode cX12_code 30 = .ok (.ireturn, 1) := by decide +kernel
theorem dX12_code_31 : decode cX12_code 31 = .ok (.aload_n 0, 1) := by decide +kernel
theorem dX12_code_32 : decode cX12_code 32 = .ok (.getfield 30, 3) := by decide +kernel
theorem dX12_code_35 : decode cX12_code 35 = .ok (.aload_n 0, 1) := by decide +kernel
theorem dX12_code_36 : decode cX12_code 36 = .ok (.getfield 24, 3) := by decide +kernel
theorem dX12_code_39 : decode cX12_code 39 = .ok (.sipush 1600, 3) := by decide +kernel
theorem dX12_code_42 : decode cX12_code 42 = .ok (.iload_n 1, 1) := by decide +kernel
theorem dX12_code_43 : decode cX12_code 43 = .ok (.imul, 1) := by decide +kernel
theorem dX12_code_44 : decode cX12_code 44 = .ok (.iload_n 2, 1) := by decide +kernel
theorem dX12_code_45 : decode cX12_code 45 = .ok (.iadd, 1) := by decide +kernel
theorem dX12_code_46 : decode cX12_code 46 = .ok (.iaload, 1) := by decide +kernel
theorem dX12_code_47 : decode cX12_code 47 = .ok (.iload_n 3, 1) := by decide +kernel
theorem dX12_code_48 : decode cX12_code 48 = .ok (.iadd, 1) := by decide +kernel
theorem dX12_code_49 : decode cX12_code 49 = .ok (.baload, 1) := by decide +kernel
theorem dX12_code_50 : decode cX12_code 50 = .ok (.sipush 255, 3) := by decide +kernel
theorem dX12_code_53 : decode cX12_code 53 = .ok (.iand, 1) := by decide +kernel
theorem dX12_code_54 : decode cX12_code 54 = .ok (.ireturn, 1) := by decide +kernel
theorem dX12_codeSize_0 : decode cX12_codeSize 0 = .ok (.aload_n 0, 1) := by decide +kernel
theorem dX12_codeSize_1 : decode cX12_codeSize 1 = .ok (.getfield 27, 3) := by decide +kernel
theorem dX12_codeSize_4 : decode cX12_codeSize 4 = .ok (.sipush 1600, 3) := by decide +kernel
theorem dX12_codeSize_7 : decode cX12_codeSize 7 = .ok (.aload_n 0, 1) := by decide +kernel
theorem dX12_codeSize_8 : decode cX12_codeSize 8 = .ok (.getfield 107, 3) := by decide +kernel
theorem dX12_codeSize_11 : decode cX12_codeSize 11 = .ok (.aload_n 0, 1) := by decide +kernel
theorem dX12_codeSize_12 : decode cX12_codeSize 12 = .ok (.getfield 328, 3) := by decide +kernel
theorem dX12_codeSize_15 : decode cX12_codeSize 15 = .ok (.iaload, 1) := by decide +kernel
theorem dX12_codeSize_16 : decode cX12_codeSize 16 = .ok (.imul, 1) := by decide +kernel
theorem dX12_codeSize_17 : decode cX12_codeSize 17 = .ok (.aload_n 0, 1) := by decide +kernel
theorem dX12_codeSize_18 : decode cX12_codeSize 18 = .ok (.getfield 110, 3) := by decide +kernel
theorem dX12_codeSize_21 : decode cX12_codeSize 21 = .ok (.aload_n 0, 1) := by decide +kernel
theorem dX12_codeSize_22 : decode cX12_codeSize 22 = .ok (.getfield 328, 3) := by decide +kernel
theorem dX12_codeSize_25 : decode cX12_codeSize 25 = .ok (.iaload, 1) := by decide +kernel
theorem dX12_codeSize_26 : decode cX12_codeSize 26 = .ok (.iadd, 1) := by decide +kernel
theorem dX12_codeSize_27 : decode cX12_codeSize 27 = .ok (.iaload, 1) := by decide +kernel
theorem dX12_codeSize_28 : decode cX12_codeSize 28 = .ok (.ireturn, 1) := by decide +kernel
theorem dX12_comes_0 : decode cX12_comes 0 = .ok (.aload_n 0, 1) := by decide +kernel
theorem dX12_comes_1 : decode cX12_comes 1 = .ok (.getfield 325, 3) := by decide +kernel
theorem dX12_comes_4 : decode cX12_comes 4 = .ok (.aload_n 0, 1) := by decide +kernel
theorem dX12_comes_5 : decode cX12_comes 5 = .ok (.getfield 16, 3) := by decide +kernel
theorem dX12_comes_8 : decode cX12_comes 8 = .ok (.ifCond .ne 8, 3) := by decide +kernel
theorem dX12_comes_11 : decode cX12_comes 11 = .ok (.bipush 48, 2) := by decide +kernel
theorem dX12_comes_13 : decode cX12_comes 13 = .ok (.goto 5, 3) := by decide +kernel
theorem dX12_comes_16 : decode cX12_comes 16 = .ok (.bipush 24, 2) := by decide +kernel
theorem dX12_comes_18 : decode cX12_comes 18 = .ok (.if_icmp .ne 9, 3) := by decide +kernel
theorem dX12_comes_21 : decode cX12_comes 21 = .ok (.aload_n 0, 1) := by decide +kernel
theorem dX12_comes_22 : decode cX12_comes 22 = .ok (.iconst 3, 1) := by decide +kernel
theorem dX12_comes_23 : decode cX12_comes 23 = .ok (.invokevirtual 346, 3) := by decide +kernel
theorem dX12_comes_26 : decode cX12_comes 26 = .ok (.ireturn, 1) := by decide +kernel
theorem dX12_comes_27 : decode cX12_comes 27 = .ok (.aload_n 0, 1) := by decide +kernel
theorem dX12_comes_28 : decode cX12_comes 28 = .ok (.getfield 101, 3) := by decide +kernel
theorem dX12_comes_31 : decode cX12_comes 31 = .ok (.aload_n 0, 1) := by decide +kernel
theorem dX12_comes_32 : decode cX12_comes 32 = .ok (.getfield 325, 3) := by decide +kernel
theorem dX12_comes_35 : decode cX12_comes 35 = .ok (.lload_n 1, 1) := by decide +kernel
theorem dX12_comes_36 : decode cX12_comes 36 = .ok (.lastore, 1) := by decide +kernel
theorem dX12_comes_37 : decode cX12_comes 37 = .ok (.aload_n 0, 1) := by decide +kernel
theorem dX12_comes_38 : decode cX12_comes 38 = .ok (.dup, 1) := by decide +kernel
theorem dX12_comes_39 : decode cX12_comes 39 = .ok (.getfield 325, 3) := by decide +kernel
theorem dX12_comes_42 : decode cX12_comes 42 = .ok (.iconst 1, 1) := by decide +kernel
theorem dX12_comes_43 : decode cX12_comes 43 = .ok (.iadd, 1) := by decide +kernel
theorem dX12_comes_44 : decode cX12_comes 44 = .ok (.putfield 325, 3) := by decide +kernel
theorem dX12_comes_47 : decode cX12_comes 47 = .ok (.iconst 1, 1) := by decide +kernel
theorem dX12_comes_48 : decode cX12_comes 48 = .ok (.ireturn, 1) := by decide +kernel
theorem dX12_count_0 : decode cX12_count 0 = .ok (.iload_n 1, 1) := by decide +kernel
theorem dX12_count_1 : decode cX12_count 1 = .ok (.ifCond .ne 10, 3) := by decide +kernel
theorem dX12_count_4 : decode cX12_count 4 = .ok (.aload_n 0, 1) := by decide +kernel
theorem dX12_count_5 : decode cX12_count 5 = .ok (.getfield 125, 3) := by decide +kernel
theorem dX12_count_8 : decode cX12_count 8 = .ok (.goto 16, 3) := by decide +kernel
theorem dX12_count_11 : decode cX12_count 11 = .ok (.iload_n 1, 1) := by decide +kernel
theorem dX12_count_12 : decode cX12_count 12 = .ok (.iconst 1, 1) := by decide +kernel
theorem dX12_count_13 : decode cX12_count 13 = .ok (.if_icmp .ne 10, 3) := by decide +kernel
theorem dX12_count_16 : decode cX12_count 16 = .ok (.aload_n 0, 1) := by decide +kernel
theorem dX12_count_17 : decode cX12_count 17 = .ok (.getfield 137, 3) := by decide +kernel
theorem dX12_count_20 : decode cX12_count 20 = .ok (.goto 4, 3) := by decide +kernel
theorem dX12_count_23 : decode cX12_count 23 = .ok (.iconst (-1), 1) := by decide +kernel
theorem dX12_count_24 : decode cX12_count 24 = .ok (.ireturn, 1) := by decide +kernel
theorem dX12_countOf_0 : decode cX12_countOf 0 = .ok (.iconst 0, 1) := by decide +kernel
theorem dX12_countOf_1 : decode cX12_countOf 1 = .ok (.istore_n 1, 1) := by decide +kernel
theorem dX12_countOf_2 : decode cX12_countOf 2 = .ok (.aload_n 0, 1) := by decide +kernel
theorem dX12_countOf_3 : decode cX12_countOf 3 = .ok (.getfield 256, 3) := by decide +kernel
theorem dX12_countOf_6 : decode cX12_countOf 6 = .ok (.istore_n 2, 1) := by decide +kernel
theorem dX12_countOf_7 : decode cX12_countOf 7 = .ok (.iload_n 2, 1) := by decide +kernel
theorem dX12_countOf_8 : decode cX12_countOf 8 = .ok (.aload_n 0, 1) := by decide +kernel
theorem dX12_countOf_9 : decode cX12_countOf 9 = .ok (.getfield 259, 3) := by decide +kernel
theorem dX12_countOf_12 : decode cX12_countOf 12 = .ok (.if_icmp .ge 57, 3) := by decide +kernel
theorem dX12_countOf_15 : decode cX12_countOf 15 = .ok (.aload_n 0, 1) := by decide +kernel
theorem dX12_countOf_16 : decode cX12_countOf 16 = .ok (.getfield 59, 3) := by decide +kernel
theorem dX12_countOf_19 : decode cX12_countOf 19 = .ok (.iload_n 2, 1) := by decide +kernel
theorem dX12_countOf_20 : decode cX12_countOf 20 = .ok (.baload, 1) := by decide +kernel
theorem dX12_countOf_21 : decode cX12_countOf 21 = .ok (.bipush 48, 2) := by decide +kernel
theorem dX12_countOf_23 : decode cX12_countOf 23 = .ok (.if_icmp .lt 14, 3) := by decide +kernel
theorem dX12_countOf_26 : decode cX12_countOf 26 = .ok (.aload_n 0, 1) := by decide +kernel
theorem dX12_countOf_27 : decode cX12_countOf 27 = .ok (.getfield 59, 3) := by decide +kernel
theorem dX12_countOf_30 : decode cX12_countOf 30 = .ok (.iload_n 2, 1) := by decide +kernel
theorem dX12_countOf_31 : decode cX12_countOf 31 = .ok (.baload, 1) := by decide +kernel
theorem dX12_countOf_32 : decode cX12_countOf 32 = .ok (.bipush 57, 2) := by decide +kernel
theorem dX12_countOf_34 : decode cX12_countOf 34 = .ok (.if_icmp .le 5, 3) := by decide +kernel
theorem dX12_countOf_37 : decode cX12_countOf 37 = .ok (.iconst (-1), 1) := by decide +kernel
theorem dX12_countOf_38 : decode cX12_countOf 38 = .ok (.ireturn, 1) := by decide +kernel
theorem dX12_countOf_39 : decode cX12_countOf 39 = .ok (.bipush 10, 2) := by decide +kernel
theorem dX12_countOf_41 : decode cX12_countOf 41 = .ok (.iload_n 1, 1) := by decide +kernel
theorem dX12_countOf_42 : decode cX12_countOf 42 = .ok (.imul, 1) := by decide +kernel
theorem dX12_countOf_43 : decode cX12_countOf 43 = .ok (.aload_n 0, 1) := by decide +kernel
theorem dX12_countOf_44 : decode cX12_countOf 44 = .ok (.getfield 59, 3) := by decide +kernel
theorem dX12_countOf_47 : decode cX12_countOf 47 = .ok (.iload_n 2, 1) := by decide +kernel
theorem dX12_countOf_48 : decode cX12_countOf 48 = .ok (.baload, 1) := by decide +kernel
theorem dX12_countOf_49 : decode cX12_countOf 49 = .ok (.iadd, 1) := by decide +kernel
theorem dX12_countOf_50 : decode cX12_countOf 50 = .ok (.bipush 48, 2) := by decide +kernel
theorem dX12_countOf_52 : decode cX12_countOf 52 = .ok (.isub, 1) := by decide +kernel
theorem dX12_countOf_53 : decode cX12_countOf 53 = .ok (.istore_n 1, 1) := by decide +kernel
theorem dX12_countOf_54 : decode cX12_countOf 54 = .ok (.iload_n 1, 1) := by decide +kernel
theorem dX12_countOf_55 : decode cX12_countOf 55 = .ok (.sipush 10000, 3) := by decide +kernel
theorem dX12_countOf_58 : decode cX12_countOf 58 = .ok (.if_icmp .lt 5, 3) := by decide +kernel
theorem dX12_countOf_61 : decode cX12_countOf 61 = .ok (.iconst (-1), 1) := by decide +kernel
theorem dX12_countOf_62 : decode cX12_countOf 62 = .ok (.ireturn, 1) := by decide +kernel
theorem dX12_countOf_63 : decode cX12_countOf 63 = .ok (.iinc 2 1, 3) := by decide +kernel
theorem dX12_countOf_66 : decode cX12_countOf 66 = .ok (.goto (-59), 3) := by decide +kernel
theorem dX12_countOf_69 : decode cX12_countOf 69 = .ok (.iload_n 1, 1) := by decide +kernel
theorem dX12_countOf_70 : decode cX12_countOf 70 = .ok (.ireturn, 1) := by decide +kernel
theorem dX12_curve_0 : decode cX12_curve 0 = .ok (.aload_n 0, 1) := by decide +kernel
theorem dX12_curve_1 : decode cX12_curve 1 = .ok (.iconst 2, 1) := by decide +kernel
theorem dX12_curve_2 : decode cX12_curve 2 = .ok (.invokevirtual 367, 3) := by decide +kernel
theorem dX12_curve_5 : decode cX12_curve 5 = .ok (.ifCond .ne 5, 3) := by decide +kernel
theorem dX12_curve_8 : decode cX12_curve 8 = .ok (.iconst 0, 1) := by decide +kernel
theorem dX12_curve_9 : decode cX12_curve 9 = .ok (.ireturn, 1) := by decide +kernel
theorem dX12_curve_10 : decode cX12_curve 10 = .ok (.aload_n 0, 1) := by decide +kernel
theorem dX12_curve_11 : decode cX12_curve 11 = .ok (.iconst 1, 1) := by decide +kernel
theorem dX12_curve_12 : decode cX12_curve 12 = .ok (.putfield 322, 3) := by decide +kernel
theorem dX12_curve_15 : decode cX12_curve 15 = .ok (.aload_n 0, 1) := by decide +kernel
theorem dX12_curve_16 : decode cX12_curve 16 = .ok (.dup, 1) := by decide +kernel
theorem dX12_curve_17 : decode cX12_curve 17 = .ok (.getfield 316, 3) := by decide +kernel
theorem dX12_curve_20 : decode cX12_curve 20 = .ok (.lload_n 1, 1) := by decide +kernel
theorem dX12_curve_21 : decode cX12_curve 21 = .ok (.ladd, 1) := by decide +kernel
theorem dX12_curve_22 : decode cX12_curve 22 = .ok (.putfield 316, 3) := by decide +kernel
theorem dX12_curve_25 : decode cX12_curve 25 = .ok (.aload_n 0, 1) := by decide +kernel
theorem dX12_curve_26 : decode cX12_curve 26 = .ok (.dup, 1) := by decide +kernel
theorem dX12_curve_27 : decode cX12_curve 27 = .ok (.getfield 319, 3) := by decide +kernel
theorem dX12_curve_30 : decode cX12_curve 30 = .ok (.lload_n 3, 1) := by decide +kernel
theorem dX12_curve_31 : decode cX12_curve 31 = .ok (.ladd, 1) := by decide +kernel
theorem dX12_curve_32 : decode cX12_curve 32 = .ok (.putfield 319, 3) := by decide +kernel
theorem dX12_curve_35 : decode cX12_curve 35 = .ok (.aload_n 0, 1) := by decide +kernel
theorem dX12_curve_36 : decode cX12_curve 36 = .ok (.iconst 0, 1) := by decide +kernel
theorem dX12_curve_37 : decode cX12_curve 37 = .ok (.invokevirtual 370, 3) := by decide +kernel
theorem dX12_curve_40 : decode cX12_curve 40 = .ok (.aload_n 0, 1) := by decide +kernel
theorem dX12_curve_41 : decode cX12_curve 41 = .ok (.dup, 1) := by decide +kernel
theorem dX12_curve_42 : decode cX12_curve 42 = .ok (.getfield 316, 3) := by decide +kernel
theorem dX12_curve_45 : decode cX12_curve 45 = .ok (.lload 5, 2) := by decide +kernel
theorem dX12_curve_47 : decode cX12_curve 47 = .ok (.ladd, 1) := by decide +kernel
theorem dX12_curve_48 : decode cX12_curve 48 = .ok (.putfield 316, 3) := by decide +kernel
theorem dX12_curve_51 : decode cX12_curve 51 = .ok (.aload_n 0, 1) := by decide +kernel
theorem dX12_curve_52 : decode cX12_curve 52 = .ok (.dup, 1) := by decide +kernel
theorem dX12_curve_53 : decode cX12_curve 53 = .ok (.getfield 319, 3) := by decide +kernel
theorem dX12_curve_56 : decode cX12_curve 56 = .ok (.lload 7, 2) := by decide +kernel
theorem dX12_curve_58 : decode cX12_curve 58 = .ok (.ladd, 1) := by decide +kernel
theorem dX12_curve_59 : decode cX12_curve 59 = .ok (.putfield 319, 3) := by decide +kernel
theorem dX12_curve_62 : decode cX12_curve 62 = .ok (.aload_n 0, 1) := by decide +kernel
theorem dX12_curve_63 : decode cX12_curve 63 = .ok (.iconst 1, 1) := by decide +kernel
theorem dX12_curve_64 : decode cX12_curve 64 = .ok (.invokevirtual 370, 3) := by decide +kernel
theorem dX12_curve_67 : decode cX12_curve 67 = .ok (.aload_n 0, 1) := by decide +kernel
theorem dX12_curve_68 : decode cX12_curve 68 = .ok (.dup, 1) := by decide +kernel
theorem dX12_curve_69 : decode cX12_curve 69 = .ok (.getfield 316, 3) := by decide +kernel
theorem dX12_curve_72 : decode cX12_curve 72 = .ok (.lload 9, 2) := by decide +kernel
theorem dX12_curve_74 : decode cX12_curve 74 = .ok (.ladd, 1) := by decide +kernel
theorem dX12_curve_75 : decode cX12_curve 75 = .ok (.putfield 316, 3) := by decide +kernel
theorem dX12_curve_78 : decode cX12_curve 78 = .ok (.aload_n 0, 1) := by decide +kernel
theorem dX12_curve_79 : decode cX12_curve 79 = .ok (.dup, 1) := by decide +kernel
theorem dX12_curve_80 : decode cX12_curve 80 = .ok (.getfield 319, 3) := by decide +kernel
theorem dX12_curve_83 : decode cX12_curve 83 = .ok (.lload 11, 2) := by decide +kernel
theorem dX12_curve_85 : decode cX12_curve 85 = .ok (.ladd, 1) := by decide +kernel
theorem dX12_curve_86 : decode cX12_curve 86 = .ok (.putfield 319, 3) := by decide +kernel
theorem dX12_curve_89 : decode cX12_curve 89 = .ok (.aload_n 0, 1) := by decide +kernel
theorem dX12_curve_90 : decode cX12_curve 90 = .ok (.iconst 2, 1) := by decide +kernel
theorem dX12_curve_91 : decode cX12_curve 91 = .ok (.invokevirtual 370, 3) := by decide +kernel
theorem dX12_curve_94 : decode cX12_curve 94 = .ok (.iconst 1, 1) := by decide +kernel
theorem dX12_curve_95 : decode cX12_curve 95 = .ok (.ireturn, 1) := by decide +kernel
theorem dX12_dict_0 : decode cX12_dict 0 = .ok (.iconst 0, 1) := by decide +kernel
theorem dX12_dict_1 : decode cX12_dict 1 = .ok (.istore 5, 2) := by decide +kernel
theorem dX12_dict_3 : decode cX12_dict 3 = .ok (.iload 5, 2) := by decide +kernel
theorem dX12_dict_5 : decode cX12_dict 5 = .ok (.sipush 300, 3) := by decide +kernel
theorem dX12_dict_8 : decode cX12_dict 8 = .ok (.if_icmp .ge 17, 3) := by decide +kernel
theorem dX12_dict_11 : decode cX12_dict 11 = .ok (.aload_n 0, 1) := by decide +kernel
theorem dX12_dict_12 : decode cX12_dict 12 = .ok (.getfield 45, 3) := by decide +kernel
theorem dX12_dict_15 : decode cX12_dict 15 = .ok (.iload 5, 2) := by decide +kernel
theorem dX12_dict_17 : decode cX12_dict 17 = .ok (.iconst (-1), 1) := by decide +kernel
theorem dX12_dict_18 : decode cX12_dict 18 = .ok (.iastore, 1) := by decide +kernel
theorem dX12_dict_19 : decode cX12_dict 19 = .ok (.iinc 5 1, 3) := by decide +kernel
theorem dX12_dict_22 : decode cX12_dict 22 = .ok (.goto (-19), 3) := by decide +kernel
theorem dX12_dict_25 : decode cX12_dict 25 = .ok (.aload_n 0, 1) := by decide +kernel
theorem dX12_dict_26 : decode cX12_dict 26 = .ok (.lload_n 1, 1) := by decide +kernel
theorem dX12_dict_27 : decode cX12_dict 27 = .ok (.putfield 175, 3) := by decide +kernel
theorem dX12_dict_30 : decode cX12_dict 30 = .ok (.aload_n 0, 1) := by decide +kernel
theorem dX12_dict_31 : decode cX12_dict 31 = .ok (.lload_n 3, 1) := by decide +kernel
theorem dX12_dict_32 : decode cX12_dict 32 = .ok (.putfield 204, 3) := by decide +kernel
theorem dX12_dict_35 : decode cX12_dict 35 = .ok (.iconst 0, 1) := by decide +kernel
theorem dX12_dict_36 : decode cX12_dict 36 = .ok (.istore 5, 2) := by decide +kernel
theorem dX12_dict_38 : decode cX12_dict 38 = .ok (.lconst 0, 1) := by decide +kernel
theorem dX12_dict_39 : decode cX12_dict 39 = .ok (.lstore 6, 2) := by decide +kernel
theorem dX12_dict_41 : decode cX12_dict 41 = .ok (.lconst 0, 1) := by decide +kernel
theorem dX12_dict_42 : decode cX12_dict 42 = .ok (.lstore 8, 2) := by decide +kernel
theorem dX12_dict_44 : decode cX12_dict 44 = .ok (.iconst 1, 1) := by decide +kernel
theorem dX12_dict_45 : decode cX12_dict 45 = .ok (.istore 10, 2) := by decide +kernel
theorem dX12_dict_47 : decode cX12_dict 47 = .ok (.aload_n 0, 1) := by decide +kernel
theorem dX12_dict_48 : decode cX12_dict 48 = .ok (.getfield 175, 3) := by decide +kernel
theorem dX12_dict_51 : decode cX12_dict 51 = .ok (.aload_n 0, 1) := by decide +kernel
theorem dX12_dict_52 : decode cX12_dict 52 = .ok (.getfield 204, 3) := by decide +kernel
theorem dX12_dict_55 : decode cX12_dict 55 = .ok (.lcmp, 1) := by decide +kernel
theorem dX12_dict_56 : decode cX12_dict 56 = .ok (.ifCond .ge 198, 3) := by decide +kernel
theorem dX12_dict_59 : decode cX12_dict 59 = .ok (.aload_n 0, 1) := by decide +kernel
theorem dX12_dict_60 : decode cX12_dict 60 = .ok (.getfield 147, 3) := by decide +kernel
theorem dX12_dict_63 : decode cX12_dict 63 = .ok (.ifCond .ne 191, 3) := by decide +kernel
theorem dX12_dict_66 : decode cX12_dict 66 = .ok (.aload_n 0, 1) := by decide +kernel
theorem dX12_dict_67 : decode cX12_dict 67 = .ok (.invokevirtual 211, 3) := by decide +kernel
theorem dX12_dict_70 : decode cX12_dict 70 = .ok (.istore 11, 2) := by decide +kernel
theorem dX12_dict_72 : decode cX12_dict 72 = .ok (.iload 11, 2) := by decide +kernel
theorem dX12_dict_74 : decode cX12_dict 74 = .ok (.bipush 21, 2) := by decide +kernel
theorem dX12_dict_76 : decode cX12_dict 76 = .ok (.if_icmp .gt 82, 3) := by decide +kernel
theorem dX12_dict_79 : decode cX12_dict 79 = .ok (.iload 11, 2) := by decide +kernel
theorem dX12_dict_81 : decode cX12_dict 81 = .ok (.bipush 12, 2) := by decide +kernel
theorem dX12_dict_83 : decode cX12_dict 83 = .ok (.if_icmp .ne 13, 3) := by decide +kernel
theorem dX12_dict_86 : decode cX12_dict 86 = .ok (.sipush 256, 3) := by decide +kernel
theorem dX12_dict_89 : decode cX12_dict 89 = .ok (.aload_n 0, 1) := by decide +kernel
theorem dX12_dict_90 : decode cX12_dict 90 = .ok (.invokevirtual 211, 3) := by decide +kernel
theorem dX12_dict_93 : decode cX12_dict 93 = .ok (.iadd, 1) := by decide +kernel
theorem dX12_dict_94 : decode cX12_dict 94 = .ok (.istore 11, 2) := by decide +kernel
theorem dX12_dict_96 : decode cX12_dict 96 = .ok (.aload_n 0, 1) := by decide +kernel
theorem dX12_dict_97 : decode cX12_dict 97 = .ok (.getfield 147, 3) := by decide +kernel
theorem dX12_dict_100 : decode cX12_dict 100 = .ok (.ifCond .le 5, 3) := by decide +kernel
theorem dX12_dict_103 : decode cX12_dict 103 = .ok (.iconst 0, 1) := by decide +kernel
theorem dX12_dict_104 : decode cX12_dict 104 = .ok (.ireturn, 1) := by decide +kernel
theorem dX12_dict_105 : decode cX12_dict 105 = .ok (.iload 11, 2) := by decide +kernel
theorem dX12_dict_107 : decode cX12_dict 107 = .ok (.sipush 300, 3) := by decide +kernel
theorem dX12_dict_110 : decode cX12_dict 110 = .ok (.if_icmp .ge 39, 3) := by decide +kernel
theorem dX12_dict_113 : decode cX12_dict 113 = .ok (.aload_n 0, 1) := by decide +kernel
theorem dX12_dict_114 : decode cX12_dict 114 = .ok (.getfield 45, 3) := by decide +kernel
theorem dX12_dict_117 : decode cX12_dict 117 = .ok (.iload 11, 2) := by decide +kernel
theorem dX12_dict_119 : decode cX12_dict 119 = .ok (.iload 5, 2) := by decide +kernel
theorem dX12_dict_121 : decode cX12_dict 121 = .ok (.iastore, 1) := by decide +kernel
theorem dX12_dict_122 : decode cX12_dict 122 = .ok (.aload_n 0, 1) := by decide +kernel
theorem dX12_dict_123 : decode cX12_dict 123 = .ok (.getfield 48, 3) := by decide +kernel
theorem dX12_dict_126 : decode cX12_dict 126 = .ok (.iload 11, 2) := by decide +kernel
theorem dX12_dict_128 : decode cX12_dict 128 = .ok (.lload 6, 2) := by decide +kernel
theorem dX12_dict_130 : decode cX12_dict 130 = .ok (.lastore, 1) := by decide +kernel
theorem dX12_dict_131 : decode cX12_dict 131 = .ok (.aload_n 0, 1) := by decide +kernel
theorem dX12_dict_132 : decode cX12_dict 132 = .ok (.getfield 52, 3) := by decide +kernel
theorem dX12_dict_135 : decode cX12_dict 135 = .ok (.iload 11, 2) := by decide +kernel
theorem dX12_dict_137 : decode cX12_dict 137 = .ok (.lload 8, 2) := by decide +kernel
theorem dX12_dict_139 : decode cX12_dict 139 = .ok (.lastore, 1) := by decide +kernel
theorem dX12_dict_140 : decode cX12_dict 140 = .ok (.aload_n 0, 1) := by decide +kernel
theorem dX12_dict_141 : decode cX12_dict 141 = .ok (.getfield 55, 3) := by decide +kernel
theorem dX12_dict_144 : decode cX12_dict 144 = .ok (.iload 11, 2) := by decide +kernel
theorem dX12_dict_146 : decode cX12_dict 146 = .ok (.iload 10, 2) := by decide +kernel
theorem dX12_dict_148 : decode cX12_dict 148 = .ok (.bastore, 1) := by decide +kernel
theorem dX12_dict_149 : decode cX12_dict 149 = .ok (.iconst 0, 1) := by decide +kernel
theorem dX12_dict_150 : decode cX12_dict 150 = .ok (.istore 5, 2) := by decide +kernel
theorem dX12_dict_152 : decode cX12_dict 152 = .ok (.iconst 1, 1) := by decide +kernel
theorem dX12_dict_153 : decode cX12_dict 153 = .ok (.istore 10, 2) := by decide +kernel
theorem dX12_dict_155 : decode cX12_dict 155 = .ok (.goto (-108), 3) := by decide +kernel
theorem dX12_dict_158 : decode cX12_dict 158 = .ok (.iload 5, 2) := by decide +kernel
theorem dX12_dict_160 : decode cX12_dict 160 = .ok (.bipush 48, 2) := by decide +kernel
theorem dX12_dict_162 : decode cX12_dict 162 = .ok (.if_icmp .ne 31, 3) := by decide +kernel
theorem dX12_dict_165 : decode cX12_dict 165 = .ok (.iload 11, 2) := by decide +kernel
theorem dX12_dict_167 : decode cX12_dict 167 = .ok (.bipush 28, 2) := by decide +kernel
theorem dX12_dict_169 : decode cX12_dict 169 = .ok (.if_icmp .lt 24, 3) := by decide +kernel
theorem dX12_dict_172 : decode cX12_dict 172 = .ok (.iload 11, 2) := by decide +kernel
theorem dX12_dict_174 : decode cX12_dict 174 = .ok (.bipush 31, 2) := by decide +kernel
theorem dX12_dict_176 : decode cX12_dict 176 = .ok (.if_icmp .eq 17, 3) := by decide +kernel
theorem dX12_dict_179 : decode cX12_dict 179 = .ok (.iload 11, 2) := by decide +kernel
theorem dX12_dict_181 : decode cX12_dict 181 = .ok (.sipush 255, 3) := by decide +kernel
theorem dX12_dict_184 : decode cX12_dict 184 = .ok (.if_icmp .eq 9, 3) := by decide +kernel
theorem dX12_dict_187 : decode cX12_dict 187 = .ok (.aload_n 0, 1) := by decide +kernel
theorem dX12_dict_188 : decode cX12_dict 188 = .ok (.iconst 2, 1) := by decide +kernel
theorem dX12_dict_189 : decode cX12_dict 189 = .ok (.invokevirtual 179, 3) := by decide +kernel
theorem dX12_dict_192 : decode cX12_dict 192 = .ok (.ireturn, 1) := by decide +kernel
theorem dX12_dict_193 : decode cX12_dict 193 = .ok (.aload_n 0, 1) := by decide +kernel
theorem dX12_dict_194 : decode cX12_dict 194 = .ok (.iload 11, 2) := by decide +kernel
theorem dX12_dict_196 : decode cX12_dict 196 = .ok (.invokevirtual 215, 3) := by decide +kernel
theorem dX12_dict_199 : decode cX12_dict 199 = .ok (.lstore 12, 2) := by decide +kernel
theorem dX12_dict_201 : decode cX12_dict 201 = .ok (.aload_n 0, 1) := by decide +kernel
theorem dX12_dict_202 : decode cX12_dict 202 = .ok (.getfield 147, 3) := by decide +kernel
theorem dX12_dict_205 : decode cX12_dict 205 = .ok (.ifCond .le 5, 3) := by decide +kernel
theorem dX12_dict_208 : decode cX12_dict 208 = .ok (.iconst 0, 1) := by decide +kernel
theorem dX12_dict_209 : decode cX12_dict 209 = .ok (.ireturn, 1) := by decide +kernel
theorem dX12_dict_210 : decode cX12_dict 210 = .ok (.iload 5, 2) := by decide +kernel
theorem dX12_dict_212 : decode cX12_dict 212 = .ok (.ifCond .ne 7, 3) := by decide +kernel
theorem dX12_dict_215 : decode cX12_dict 215 = .ok (.lload 12, 2) := by decide +kernel
theorem dX12_dict_217 : decode cX12_dict 217 = .ok (.lstore 6, 2) := by decide +kernel
theorem dX12_dict_219 : decode cX12_dict 219 = .ok (.iload 5, 2) := by decide +kernel
theorem dX12_dict_221 : decode cX12_dict 221 = .ok (.iconst 1, 1) := by decide +kernel
theorem dX12_dict_222 : decode cX12_dict 222 = .ok (.if_icmp .ne 7, 3) := by decide +kernel
theorem dX12_dict_225 : decode cX12_dict 225 = .ok (.lload 12, 2) := by decide +kernel
theorem dX12_dict_227 : decode cX12_dict 227 = .ok (.lstore 8, 2) := by decide +kernel
theorem dX12_dict_229 : decode cX12_dict 229 = .ok (.iload 10, 2) := by decide +kernel
theorem dX12_dict_231 : decode cX12_dict 231 = .ok (.ifCond .eq 14, 3) := by decide +kernel
theorem dX12_dict_234 : decode cX12_dict 234 = .ok (.aload_n 0, 1) := by decide +kernel
theorem dX12_dict_235 : decode cX12_dict 235 = .ok (.getfield 207, 3) := by decide +kernel
theorem dX12_dict_238 : decode cX12_dict 238 = .ok (.ifCond .ne 7, 3) := by decide +kernel
theorem dX12_dict_241 : decode cX12_dict 241 = .ok (.iconst 1, 1) := by decide +kernel
theorem dX12_dict_242 : decode cX12_dict 242 = .ok (.goto 4, 3) := by decide +kernel
theorem dX12_dict_245 : decode cX12_dict 245 = .ok (.iconst 0, 1) := by decide +kernel
theorem dX12_dict_246 : decode cX12_dict 246 = .ok (.istore 10, 2) := by decide +kernel
theorem dX12_dict_248 : decode cX12_dict 248 = .ok (.iinc 5 1, 3) := by decide +kernel
theorem dX12_dict_251 : decode cX12_dict 251 = .ok (.goto (-204), 3) := by decide +kernel
theorem dX12_dict_254 : decode cX12_dict 254 = .ok (.aload_n 0, 1) := by decide +kernel
theorem dX12_dict_255 : decode cX12_dict 255 = .ok (.getfield 147, 3) := by decide +kernel
theorem dX12_dict_258 : decode cX12_dict 258 = .ok (.ifCond .ne 20, 3) := by decide +kernel
theorem dX12_dict_261 : decode cX12_dict 261 = .ok (.iload 5, 2) := by decide +kernel
theorem dX12_dict_263 : decode cX12_dict 263 = .ok (.ifCond .eq 11, 3) := by decide +kernel
theorem dX12_dict_266 : decode cX12_dict 266 = .ok (.aload_n 0, 1) := by decide +kernel
theorem dX12_dict_267 : decode cX12_dict 267 = .ok (.iconst 2, 1) := by decide +kernel
theorem dX12_dict_268 : decode cX12_dict 268 = .ok (.invokevirtual 179, 3) := by decide +kernel
theorem dX12_dict_271 : decode cX12_dict 271 = .ok (.ifCond .eq 7, 3) := by decide +kernel
theorem dX12_dict_274 : decode cX12_dict 274 = .ok (.iconst 1, 1) := by decide +kernel
theorem dX12_dict_275 : decode cX12_dict 275 = .ok (.goto 4, 3) := by decide +kernel
theorem dX12_dict_278 : decode cX12_dict 278 = .ok (.iconst 0, 1) := by decide +kernel
theorem dX12_dict_279 : decode cX12_dict 279 = .ok (.ireturn, 1) := by decide +kernel
theorem dX12_dictByte_0 : decode cX12_dictByte 0 = .ok (.aload_n 0, 1) := by decide +kernel
theorem dX12_dictByte_1 : decode cX12_dictByte 1 = .ok (.getfield 147, 3) := by decide +kernel
theorem dX12_dictByte_4 : decode cX12_dictByte 4 = .ok (.ifCond .le 5, 3) := by decide +kernel
theorem dX12_dictByte_7 : decode cX12_dictByte 7 = .ok (.iconst 0, 1) := by decide +kernel
theorem dX12_dictByte_8 : decode cX12_dictByte 8 = .ok (.ireturn, 1) := by decide +kernel
theorem dX12_dictByte_9 : decode cX12_dictByte 9 = .ok (.aload_n 0, 1) := by decide +kernel
theorem dX12_dictByte_10 : decode cX12_dictByte 10 = .ok (.getfield 175, 3) := by decide +kernel
theorem dX12_dictByte_13 : decode cX12_dictByte 13 = .ok (.aload_n 0, 1) := by decide +kernel
theorem dX12_dictByte_14 : decode cX12_dictByte 14 = .ok (.getfield 204, 3) := by decide +kernel
theorem dX12_dictByte_17 : decode cX12_dictByte 17 = .ok (.lcmp, 1) := by decide +kernel
theorem dX12_dictByte_18 : decode cX12_dictByte 18 = .ok (.ifCond .lt 11, 3) := by decide +kernel
theorem dX12_dictByte_21 : decode cX12_dictByte 21 = .ok (.aload_n 0, 1) := by decide +kernel
theorem dX12_dictByte_22 : decode cX12_dictByte 22 = .ok (.iconst 2, 1) := by decide +kernel
theorem dX12_dictByte_23 : decode cX12_dictByte 23 = .ok (.invokevirtual 179, 3) := by decide +kernel
theorem dX12_dictByte_26 : decode cX12_dictByte 26 = .ok (.istore_n 1, 1) := by decide +kernel
theorem dX12_dictByte_27 : decode cX12_dictByte 27 = .ok (.iconst 0, 1) := by decide +kernel
theorem dX12_dictByte_28 : decode cX12_dictByte 28 = .ok (.ireturn, 1) := by decide +kernel
theorem dX12_dictByte_29 : decode cX12_dictByte 29 = .ok (.aload_n 0, 1) := by decide +kernel
theorem dX12_dictByte_30 : decode cX12_dictByte 30 = .ok (.dup, 1) := by decide +kernel
theorem dX12_dictByte_31 : decode cX12_dictByte 31 = .ok (.getfield 175, 3) := by decide +kernel
theorem dX12_dictByte_34 : decode cX12_dictByte 34 = .ok (.lconst 1, 1) := by decide +kernel
theorem dX12_dictByte_35 : decode cX12_dictByte 35 = .ok (.ladd, 1) := by decide +kernel
theorem dX12_dictByte_36 : decode cX12_dictByte 36 = .ok (.putfield 175, 3) := by decide +kernel
theorem dX12_dictByte_39 : decode cX12_dictByte 39 = .ok (.aload_n 0, 1) := by decide +kernel
theorem dX12_dictByte_40 : decode cX12_dictByte 40 = .ok (.getfield 7, 3) := by decide +kernel
theorem dX12_dictByte_43 : decode cX12_dictByte 43 = .ok (.aload_n 0, 1) := by decide +kernel
theorem dX12_dictByte_44 : decode cX12_dictByte 44 = .ok (.getfield 175, 3) := by decide +kernel
theorem dX12_dictByte_47 : decode cX12_dictByte 47 = .ok (.l2i, 1) := by decide +kernel
theorem dX12_dictByte_48 : decode cX12_dictByte 48 = .ok (.iconst 1, 1) := by decide +kernel
theorem dX12_dictByte_49 : decode cX12_dictByte 49 = .ok (.isub, 1) := by decide +kernel
theorem dX12_dictByte_50 : decode cX12_dictByte 50 = .ok (.baload, 1) := by decide +kernel
theorem dX12_dictByte_51 : decode cX12_dictByte 51 = .ok (.sipush 255, 3) := by decide +kernel
theorem dX12_dictByte_54 : decode cX12_dictByte 54 = .ok (.iand, 1) := by decide +kernel
theorem dX12_dictByte_55 : decode cX12_dictByte 55 = .ok (.ireturn, 1) := by decide +kernel
theorem dX12_digit_0 : decode cX12_digit 0 = .ok (.iload_n 0, 1) := by decide +kernel
theorem dX12_digit_1 : decode cX12_digit 1 = .ok (.bipush 48, 2) := by decide +kernel
theorem dX12_digit_3 : decode cX12_digit 3 = .ok (.if_icmp .lt 16, 3) := by decide +kernel
theorem dX12_digit_6 : decode cX12_digit 6 = .ok (.iload_n 0, 1) := by decide +kernel
theorem dX12_digit_7 : decode cX12_digit 7 = .ok (.bipush 57, 2) := by decide +kernel
theorem dX12_digit_9 : decode cX12_digit 9 = .ok (.if_icmp .gt 10, 3) := by decide +kernel
theorem dX12_digit_12 : decode cX12_digit 12 = .ok (.iload_n 0, 1) := by decide +kernel
theorem dX12_digit_13 : decode cX12_digit 13 = .ok (.bipush 48, 2) := by decide +kernel
theorem dX12_digit_15 : decode cX12_digit 15 = .ok (.isub, 1) := by decide +kernel
theorem dX12_digit_16 : decode cX12_digit 16 = .ok (.goto 48, 3) := by decide +kernel
theorem dX12_digit_19 : decode cX12_digit 19 = .ok (.iload_n 0, 1) := by decide +kernel
theorem dX12_digit_20 : decode cX12_digit 20 = .ok (.bipush 97, 2) := by decide +kernel
theorem dX12_digit_22 : decode cX12_digit 22 = .ok (.if_icmp .lt 19, 3) := by decide +kernel
theorem dX12_digit_25 : decode cX12_digit 25 = .ok (.iload_n 0, 1) := by decide +kernel
theorem dX12_digit_26 : decode cX12_digit 26 = .ok (.bipush 102, 2) := by decide +kernel
theorem dX12_digit_28 : decode cX12_digit 28 = .ok (.if_icmp .gt 13, 3) := by decide +kernel
theorem dX12_digit_31 : decode cX12_digit 31 = .ok (.iload_n 0, 1) := by decide +kernel
theorem dX12_digit_32 : decode cX12_digit 32 = .ok (.bipush 97, 2) := by decide +kernel
theorem dX12_digit_34 : decode cX12_digit 34 = .ok (.isub, 1) := by decide +kernel
theorem dX12_digit_35 : decode cX12_digit 35 = .ok (.bipush 10, 2) := by decide +kernel
theorem dX12_digit_37 : decode cX12_digit 37 = .ok (.iadd, 1) := by decide +kernel
theorem dX12_digit_38 : decode cX12_digit 38 = .ok (.goto 26, 3) := by decide +kernel
theorem dX12_digit_41 : decode cX12_digit 41 = .ok (.iload_n 0, 1) := by decide +kernel
theorem dX12_digit_42 : decode cX12_digit 42 = .ok (.bipush 65, 2) := by decide +kernel
theorem dX12_digit_44 : decode cX12_digit 44 = .ok (.if_icmp .lt 19, 3) := by decide +kernel
theorem dX12_digit_47 : decode cX12_digit 47 = .ok (.iload_n 0, 1) := by decide +kernel
theorem dX12_digit_48 : decode cX12_digit 48 = .ok (.bipush 70, 2) := by decide +kernel
theorem dX12_digit_50 : decode cX12_digit 50 = .ok (.if_icmp .gt 13, 3) := by decide +kernel
theorem dX12_digit_53 : decode cX12_digit 53 = .ok (.iload_n 0, 1) := by decide +kernel
theorem dX12_digit_54 : decode cX12_digit 54 = .ok (.bipush 65, 2) := by decide +kernel
theorem dX12_digit_56 : decode cX12_digit 56 = .ok (.isub, 1) := by decide +kernel
theorem dX12_digit_57 : decode cX12_digit 57 = .ok (.bipush 10, 2) := by decide +kernel
theorem dX12_digit_59 : decode cX12_digit 59 = .ok (.iadd, 1) := by decide +kernel
theorem dX12_digit_60 : decode cX12_digit 60 = .ok (.goto 4, 3) := by decide +kernel
theorem dX12_digit_63 : decode cX12_digit 63 = .ok (.iconst (-1), 1) := by decide +kernel
theorem dX12_digit_64 : decode cX12_digit 64 = .ok (.ireturn, 1) := by decide +kernel
theorem dX12_down_0 : decode cX12_down 0 = .ok (.lload_n 0, 1) := by decide +kernel
theorem dX12_down_1 : decode cX12_down 1 = .ok (.bipush 16, 2) := by decide +kernel
theorem dX12_down_3 : decode cX12_down 3 = .ok (.lshr, 1) := by decide +kernel
theorem dX12_down_4 : decode cX12_down 4 = .ok (.lreturn, 1) := by decide +kernel
theorem dX12_draw_0 : decode cX12_draw 0 = .ok (.aload_n 0, 1) := by decide +kernel
theorem dX12_draw_1 : decode cX12_draw 1 = .ok (.iconst 0, 1) := by decide +kernel
theorem dX12_draw_2 : decode cX12_draw 2 = .ok (.iload_n 1, 1) := by decide +kernel
theorem dX12_draw_3 : decode cX12_draw 3 = .ok (.invokevirtual 171, 3) := by decide +kernel
theorem dX12_draw_6 : decode cX12_draw 6 = .ok (.ifCond .eq 14, 3) := by decide +kernel
theorem dX12_draw_9 : decode cX12_draw 9 = .ok (.iload_n 2, 1) := by decide +kernel
theorem dX12_draw_10 : decode cX12_draw 10 = .ok (.ifCond .lt 10, 3) := by decide +kernel
theorem dX12_draw_13 : decode cX12_draw 13 = .ok (.iload_n 2, 1) := by decide +kernel
theorem dX12_draw_14 : decode cX12_draw 14 = .ok (.sipush 400, 3) := by decide +kernel
theorem dX12_draw_17 : decode cX12_draw 17 = .ok (.if_icmp .le 5, 3) := by decide +kernel
theorem dX12_draw_20 : decode cX12_draw 20 = .ok (.iconst (-1), 1) := by decide +kernel
theorem dX12_draw_21 : decode cX12_draw 21 = .ok (.ireturn, 1) := by decide +kernel
theorem dX12_draw_22 : decode cX12_draw 22 = .ok (.aload_n 0, 1) := by decide +kernel
theorem dX12_draw_23 : decode cX12_draw 23 = .ok (.iconst 1, 1) := by decide +kernel
theorem dX12_draw_24 : decode cX12_draw 24 = .ok (.putfield 292, 3) := by decide +kernel
theorem dX12_draw_27 : decode cX12_draw 27 = .ok (.aload_n 0, 1) := by decide +kernel
theorem dX12_draw_28 : decode cX12_draw 28 = .ok (.iconst 0, 1) := by decide +kernel
theorem dX12_draw_29 : decode cX12_draw 29 = .ok (.putfield 295, 3) := by decide +kernel
theorem dX12_draw_32 : decode cX12_draw 32 = .ok (.aload_n 0, 1) := by decide +kernel
theorem dX12_draw_33 : decode cX12_draw 33 = .ok (.iconst 0, 1) := by decide +kernel
theorem dX12_draw_34 : decode cX12_draw 34 = .ok (.putfield 298, 3) := by decide +kernel
theorem dX12_draw_37 : decode cX12_draw 37 = .ok (.aload_n 0, 1) := by decide +kernel
theorem dX12_draw_38 : decode cX12_draw 38 = .ok (.iload_n 2, 1) := by decide +kernel
theorem dX12_draw_39 : decode cX12_draw 39 = .ok (.putfield 301, 3) := by decide +kernel
theorem dX12_draw_42 : decode cX12_draw 42 = .ok (.aload_n 0, 1) := by decide +kernel
theorem dX12_draw_43 : decode cX12_draw 43 = .ok (.iconst 0, 1) := by decide +kernel
theorem dX12_draw_44 : decode cX12_draw 44 = .ok (.putfield 304, 3) := by decide +kernel
theorem dX12_draw_47 : decode cX12_draw 47 = .ok (.aload_n 0, 1) := by decide +kernel
theorem dX12_draw_48 : decode cX12_draw 48 = .ok (.iconst 0, 1) := by decide +kernel
theorem dX12_draw_49 : decode cX12_draw 49 = .ok (.putfield 307, 3) := by decide +kernel
theorem dX12_draw_52 : decode cX12_draw 52 = .ok (.aload_n 0, 1) := by decide +kernel
theorem dX12_draw_53 : decode cX12_draw 53 = .ok (.lconst 0, 1) := by decide +kernel
theorem dX12_draw_54 : decode cX12_draw 54 = .ok (.putfield 310, 3) := by decide +kernel
theorem dX12_draw_57 : decode cX12_draw 57 = .ok (.aload_n 0, 1) := by decide +kernel
theorem dX12_draw_58 : decode cX12_draw 58 = .ok (.iconst 0, 1) := by decide +kernel
theorem dX12_draw_59 : decode cX12_draw 59 = .ok (.putfield 313, 3) := by decide +kernel
theorem dX12_draw_62 : decode cX12_draw 62 = .ok (.aload_n 0, 1) := by decide +kernel
theorem dX12_draw_63 : decode cX12_draw 63 = .ok (.lconst 0, 1) := by decide +kernel
theorem dX12_draw_64 : decode cX12_draw 64 = .ok (.putfield 316, 3) := by decide +kernel
theorem dX12_draw_67 : decode cX12_draw 67 = .ok (.aload_n 0, 1) := by decide +kernel
theorem dX12_draw_68 : decode cX12_draw 68 = .ok (.lconst 0, 1) := by decide +kernel
theorem dX12_draw_69 : decode cX12_draw 69 = .ok (.putfield 319, 3) := by decide +kernel
theorem dX12_draw_72 : decode cX12_draw 72 = .ok (.aload_n 0, 1) := by decide +kernel
theorem dX12_draw_73 : decode cX12_draw 73 = .ok (.iconst 0, 1) := by decide +kernel
theorem dX12_draw_74 : decode cX12_draw 74 = .ok (.putfield 322, 3) := by decide +kernel
theorem dX12_draw_77 : decode cX12_draw 77 = .ok (.aload_n 0, 1) := by decide +kernel
theorem dX12_draw_78 : decode cX12_draw 78 = .ok (.iconst 0, 1) := by decide +kernel
theorem dX12_draw_79 : decode cX12_draw 79 = .ok (.putfield 325, 3) := by decide +kernel
theorem dX12_draw_82 : decode cX12_draw 82 = .ok (.iconst 0, 1) := by decide +kernel
theorem dX12_draw_83 : decode cX12_draw 83 = .ok (.istore_n 3, 1) := by decide +kernel
theorem dX12_draw_84 : decode cX12_draw 84 = .ok (.iload_n 3, 1) := by decide +kernel
theorem dX12_draw_85 : decode cX12_draw 85 = .ok (.bipush 32, 2) := by decide +kernel
theorem dX12_draw_87 : decode cX12_draw 87 = .ok (.if_icmp .ge 16, 3) := by decide +kernel
theorem dX12_draw_90 : decode cX12_draw 90 = .ok (.aload_n 0, 1) := by decide +kernel
theorem dX12_draw_91 : decode cX12_draw 91 = .ok (.getfield 104, 3) := by decide +kernel
theorem dX12_draw_94 : decode cX12_draw 94 = .ok (.iload_n 3, 1) := by decide +kernel
theorem dX12_draw_95 : decode cX12_draw 95 = .ok (.lconst 0, 1) := by decide +kernel
theorem dX12_draw_96 : decode cX12_draw 96 = .ok (.lastore, 1) := by decide +kernel
theorem dX12_draw_97 : decode cX12_draw 97 = .ok (.iinc 3 1, 3) := by decide +kernel
theorem dX12_draw_100 : decode cX12_draw 100 = .ok (.goto (-16), 3) := by decide +kernel
theorem dX12_draw_103 : decode cX12_draw 103 = .ok (.aload_n 0, 1) := by decide +kernel
theorem dX12_draw_104 : decode cX12_draw 104 = .ok (.getfield 107, 3) := by decide +kernel
theorem dX12_draw_107 : decode cX12_draw 107 = .ok (.iconst 0, 1) := by decide +kernel
theorem dX12_draw_108 : decode cX12_draw 108 = .ok (.iconst 0, 1) := by decide +kernel
theorem dX12_draw_109 : decode cX12_draw 109 = .ok (.iastore, 1) := by decide +kernel
theorem dX12_draw_110 : decode cX12_draw 110 = .ok (.aload_n 0, 1) := by decide +kernel
theorem dX12_draw_111 : decode cX12_draw 111 = .ok (.getfield 110, 3) := by decide +kernel
theorem dX12_draw_114 : decode cX12_draw 114 = .ok (.iconst 0, 1) := by decide +kernel
theorem dX12_draw_115 : decode cX12_draw 115 = .ok (.iload_n 1, 1) := by decide +kernel
theorem dX12_draw_116 : decode cX12_draw 116 = .ok (.iastore, 1) := by decide +kernel
theorem dX12_draw_117 : decode cX12_draw 117 = .ok (.aload_n 0, 1) := by decide +kernel
theorem dX12_draw_118 : decode cX12_draw 118 = .ok (.getfield 113, 3) := by decide +kernel
theorem dX12_draw_121 : decode cX12_draw 121 = .ok (.iconst 0, 1) := by decide +kernel
theorem dX12_draw_122 : decode cX12_draw 122 = .ok (.iconst 0, 1) := by decide +kernel
theorem dX12_draw_123 : decode cX12_draw 123 = .ok (.iastore, 1) := by decide +kernel
theorem dX12_draw_124 : decode cX12_draw 124 = .ok (.aload_n 0, 1) := by decide +kernel
theorem dX12_draw_125 : decode cX12_draw 125 = .ok (.iconst 0, 1) := by decide +kernel
theorem dX12_draw_126 : decode cX12_draw 126 = .ok (.putfield 328, 3) := by decide +kernel
theorem dX12_draw_129 : decode cX12_draw 129 = .ok (.aload_n 0, 1) := by decide +kernel
theorem dX12_draw_130 : decode cX12_draw 130 = .ok (.iconst 0, 1) := by decide +kernel
theorem dX12_draw_131 : decode cX12_draw 131 = .ok (.putfield 331, 3) := by decide +kernel
theorem dX12_draw_134 : decode cX12_draw 134 = .ok (.aload_n 0, 1) := by decide +kernel
theorem dX12_draw_135 : decode cX12_draw 135 = .ok (.iconst 0, 1) := by decide +kernel
theorem dX12_draw_136 : decode cX12_draw 136 = .ok (.putfield 334, 3) := by decide +kernel
theorem dX12_draw_139 : decode cX12_draw 139 = .ok (.aload_n 0, 1) := by decide +kernel
theorem dX12_draw_140 : decode cX12_draw 140 = .ok (.iconst 0, 1) := by decide +kernel
theorem dX12_draw_141 : decode cX12_draw 141 = .ok (.putfield 337, 3) := by decide +kernel
theorem dX12_draw_144 : decode cX12_draw 144 = .ok (.aload_n 0, 1) := by decide +kernel
theorem dX12_draw_145 : decode cX12_draw 145 = .ok (.getfield 331, 3) := by decide +kernel
theorem dX12_draw_148 : decode cX12_draw 148 = .ok (.ifCond .ne 17, 3) := by decide +kernel
theorem dX12_draw_151 : decode cX12_draw 151 = .ok (.aload_n 0, 1) := by decide +kernel
theorem dX12_draw_152 : decode cX12_draw 152 = .ok (.getfield 295, 3) := by decide +kernel
theorem dX12_draw_155 : decode cX12_draw 155 = .ok (.ifCond .ne 10, 3) := by decide +kernel
theorem dX12_draw_158 : decode cX12_draw 158 = .ok (.aload_n 0, 1) := by decide +kernel
theorem dX12_draw_159 : decode cX12_draw 159 = .ok (.invokevirtual 340, 3) := by decide +kernel
theorem dX12_draw_162 : decode cX12_draw 162 = .ok (.goto (-18), 3) := by decide +kernel
theorem dX12_draw_165 : decode cX12_draw 165 = .ok (.aload_n 0, 1) := by decide +kernel
theorem dX12_draw_166 : decode cX12_draw 166 = .ok (.getfield 295, 3) := by decide +kernel
theorem dX12_draw_169 : decode cX12_draw 169 = .ok (.ireturn, 1) := by decide +kernel
theorem dX12_drawn_0 : decode cX12_drawn 0 = .ok (.aload_n 0, 1) := by decide +kernel
theorem dX12_drawn_1 : decode cX12_drawn 1 = .ok (.getfield 292, 3) := by decide +kernel
theorem dX12_drawn_4 : decode cX12_drawn 4 = .ok (.ifCond .ne 5, 3) := by decide +kernel
theorem dX12_drawn_7 : decode cX12_drawn 7 = .ok (.iconst (-1), 1) := by decide +kernel
theorem dX12_drawn_8 : decode cX12_drawn 8 = .ok (.ireturn, 1) := by decide +kernel
theorem dX12_drawn_9 : decode cX12_drawn 9 = .ok (.iload_n 1, 1) := by decide +kernel
theorem dX12_drawn_10 : decode cX12_drawn 10 = .ok (.tableswitch 55 0 3 #[30, 35, 40, 45], 30) := by decide +kernel
theorem dX12_drawn_40 : decode cX12_drawn 40 = .ok (.aload_n 0, 1) := by decide +kernel
theorem dX12_drawn_41 : decode cX12_drawn 41 = .ok (.getfield 298, 3) := by decide +kernel
theorem dX12_drawn_44 : decode cX12_drawn 44 = .ok (.ireturn, 1) := by decide +kernel
theorem dX12_drawn_45 : decode cX12_drawn 45 = .ok (.aload_n 0, 1) := by decide +kernel
theorem dX12_drawn_46 : decode cX12_drawn 46 = .ok (.getfield 304, 3) := by decide +kernel
theorem dX12_drawn_49 : decode cX12_drawn 49 = .ok (.ireturn, 1) := by decide +kernel
theorem dX12_drawn_50 : decode cX12_drawn 50 = .ok (.aload_n 0, 1) := by decide +kernel
theorem dX12_drawn_51 : decode cX12_drawn 51 = .ok (.getfield 307, 3) := by decide +kernel
theorem dX12_drawn_54 : decode cX12_drawn 54 = .ok (.ireturn, 1) := by decide +kernel
theorem dX12_drawn_55 : decode cX12_drawn 55 = .ok (.aload_n 0, 1) := by decide +kernel
theorem dX12_drawn_56 : decode cX12_drawn 56 = .ok (.getfield 113, 3) := by decide +kernel
theorem dX12_drawn_59 : decode cX12_drawn 59 = .ok (.aload_n 0, 1) := by decide +kernel
theorem dX12_drawn_60 : decode cX12_drawn 60 = .ok (.getfield 328, 3) := by decide +kernel
theorem dX12_drawn_63 : decode cX12_drawn 63 = .ok (.iaload, 1) := by decide +kernel
theorem dX12_drawn_64 : decode cX12_drawn 64 = .ok (.ireturn, 1) := by decide +kernel
theorem dX12_drawn_65 : decode cX12_drawn 65 = .ok (.iconst (-1), 1) := by decide +kernel
theorem dX12_drawn_66 : decode cX12_drawn 66 = .ok (.ireturn, 1) := by decide +kernel
theorem dX12_draws_0 : decode cX12_draws 0 = .ok (.iload_n 1, 1) := by decide +kernel
theorem dX12_draws_1 : decode cX12_draws 1 = .ok (.lookupswitch 419 #[(5, 123), (6, 134), (7, 134), (8, 150), (24, 161), (25, 228), (26, 295), (27, 295), (30, 311), (31, 311), (290, 327), (291, 349), (292, 375), (293, 397)], 123) := by decide +kernel
theorem dX12_draws_124 : decode cX12_draws 124 = .ok (.aload_n 0, 1) := by decide +kernel
theorem dX12_draws_125 : decode cX12_draws 125 = .ok (.iconst 0, 1) := by decide +kernel
theorem dX12_draws_126 : decode cX12_draws 126 = .ok (.aload_n 0, 1) := by decide +kernel
theorem dX12_draws_127 : decode cX12_draws 127 = .ok (.getfield 325, 3) := by decide +kernel
theorem dX12_draws_130 : decode cX12_draws 130 = .ok (.iconst 1, 1) := by decide +kernel
theorem dX12_draws_131 : decode cX12_draws 131 = .ok (.invokevirtual 418, 3) := by decide +kernel
theorem dX12_draws_134 : decode cX12_draws 134 = .ok (.ireturn, 1) := by decide +kernel
theorem dX12_draws_135 : decode cX12_draws 135 = .ok (.aload_n 0, 1) := by decide +kernel
theorem dX12_draws_136 : decode cX12_draws 136 = .ok (.iload_n 1, 1) := by decide +kernel
theorem dX12_draws_137 : decode cX12_draws 137 = .ok (.bipush 6, 2) := by decide +kernel
theorem dX12_draws_139 : decode cX12_draws 139 = .ok (.if_icmp .ne 7, 3) := by decide +kernel
theorem dX12_draws_142 : decode cX12_draws 142 = .ok (.iconst 1, 1) := by decide +kernel
theorem dX12_draws_143 : decode cX12_draws 143 = .ok (.goto 4, 3) := by decide +kernel
theorem dX12_draws_146 : decode cX12_draws 146 = .ok (.iconst 0, 1) := by decide +kernel
theorem dX12_draws_147 : decode cX12_draws 147 = .ok (.invokevirtual 421, 3) := by decide +kernel
theorem dX12_draws_150 : decode cX12_draws 150 = .ok (.ireturn, 1) := by decide +kernel
theorem dX12_draws_151 : decode cX12_draws 151 = .ok (.aload_n 0, 1) := by decide +kernel
theorem dX12_draws_152 : decode cX12_draws 152 = .ok (.iconst 0, 1) := by decide +kernel
theorem dX12_draws_153 : decode cX12_draws 153 = .ok (.aload_n 0, 1) := by decide +kernel
theorem dX12_draws_154 : decode cX12_draws 154 = .ok (.getfield 325, 3) := by decide +kernel
theorem dX12_draws_157 : decode cX12_draws 157 = .ok (.iconst 1, 1) := by decide +kernel
theorem dX12_draws_158 : decode cX12_draws 158 = .ok (.invokevirtual 425, 3) := by decide +kernel
theorem dX12_draws_161 : decode cX12_draws 161 = .ok (.ireturn, 1) := by decide +kernel
theorem dX12_draws_162 : decode cX12_draws 162 = .ok (.aload_n 0, 1) := by decide +kernel
theorem dX12_draws_163 : decode cX12_draws 163 = .ok (.getfield 325, 3) := by decide +kernel
theorem dX12_draws_166 : decode cX12_draws 166 = .ok (.bipush 8, 2) := by decide +kernel
theorem dX12_draws_168 : decode cX12_draws 168 = .ok (.if_icmp .lt 14, 3) := by decide +kernel
theorem dX12_draws_171 : decode cX12_draws 171 = .ok (.aload_n 0, 1) := by decide +kernel
theorem dX12_draws_172 : decode cX12_draws 172 = .ok (.getfield 325, 3) := by decide +kernel
theorem dX12_draws_175 : decode cX12_draws 175 = .ok (.bipush 6, 2) := by decide +kernel
theorem dX12_draws_177 : decode cX12_draws 177 = .ok (.irem, 1) := by decide +kernel
theorem dX12_draws_178 : decode cX12_draws 178 = .ok (.iconst 2, 1) := by decide +kernel
theorem dX12_draws_179 : decode cX12_draws 179 = .ok (.if_icmp .eq 11, 3) := by decide +kernel
theorem dX12_draws_182 : decode cX12_draws 182 = .ok (.aload_n 0, 1) := by decide +kernel
theorem dX12_draws_183 : decode cX12_draws 183 = .ok (.iconst 2, 1) := by decide +kernel
theorem dX12_draws_184 : decode cX12_draws 184 = .ok (.invokevirtual 346, 3) := by decide +kernel
theorem dX12_draws_187 : decode cX12_draws 187 = .ok (.ifCond .eq 40, 3) := by decide +kernel
theorem dX12_draws_190 : decode cX12_draws 190 = .ok (.aload_n 0, 1) := by decide +kernel
theorem dX12_draws_191 : decode cX12_draws 191 = .ok (.iconst 0, 1) := by decide +kernel
theorem dX12_draws_192 : decode cX12_draws 192 = .ok (.aload_n 0, 1) := by decide +kernel
theorem dX12_draws_193 : decode cX12_draws 193 = .ok (.getfield 325, 3) := by decide +kernel
theorem dX12_draws_196 : decode cX12_draws 196 = .ok (.iconst 2, 1) := by decide +kernel
theorem dX12_draws_197 : decode cX12_draws 197 = .ok (.isub, 1) := by decide +kernel
theorem dX12_draws_198 : decode cX12_draws 198 = .ok (.iconst 1, 1) := by decide +kernel
theorem dX12_draws_199 : decode cX12_draws 199 = .ok (.invokevirtual 425, 3) := by decide +kernel
theorem dX12_draws_202 : decode cX12_draws 202 = .ok (.ifCond .eq 25, 3) := by decide +kernel
theorem dX12_draws_205 : decode cX12_draws 205 = .ok (.aload_n 0, 1) := by decide +kernel
theorem dX12_draws_206 : decode cX12_draws 206 = .ok (.aload_n 0, 1) := by decide +kernel
theorem dX12_draws_207 : decode cX12_draws 207 = .ok (.getfield 325, 3) := by decide +kernel
theorem dX12_draws_210 : decode cX12_draws 210 = .ok (.iconst 2, 1) := by decide +kernel
theorem dX12_draws_211 : decode cX12_draws 211 = .ok (.isub, 1) := by decide +kernel
theorem dX12_draws_212 : decode cX12_draws 212 = .ok (.aload_n 0, 1) := by decide +kernel
theorem dX12_draws_213 : decode cX12_draws 213 = .ok (.getfield 325, 3) := by decide +kernel
theorem dX12_draws_216 : decode cX12_draws 216 = .ok (.iconst 1, 1) := by decide +kernel
theorem dX12_draws_217 : decode cX12_draws 217 = .ok (.invokevirtual 418, 3) := by decide +kernel
theorem dX12_draws_220 : decode cX12_draws 220 = .ok (.ifCond .eq 7, 3) := by decide +kernel
theorem dX12_draws_223 : decode cX12_draws 223 = .ok (.iconst 1, 1) := by decide +kernel
theorem dX12_draws_224 : decode cX12_draws 224 = .ok (.goto 4, 3) := by decide +kernel
theorem dX12_draws_227 : decode cX12_draws 227 = .ok (.iconst 0, 1) := by decide +kernel
theorem dX12_draws_228 : decode cX12_draws 228 = .ok (.ireturn, 1) := by decide +kernel
theorem dX12_draws_229 : decode cX12_draws 229 = .ok (.aload_n 0, 1) := by decide +kernel
theorem dX12_draws_230 : decode cX12_draws 230 = .ok (.getfield 325, 3) := by decide +kernel
theorem dX12_draws_233 : decode cX12_draws 233 = .ok (.bipush 8, 2) := by decide +kernel
theorem dX12_draws_235 : decode cX12_draws 235 = .ok (.if_icmp .lt 12, 3) := by decide +kernel
theorem dX12_draws_238 : decode cX12_draws 238 = .ok (.aload_n 0, 1) := by decide +kernel
theorem dX12_draws_239 : decode cX12_draws 239 = .ok (.getfield 325, 3) := by decide +kernel
theorem dX12_draws_242 : decode cX12_draws 242 = .ok (.iconst 2, 1) := by decide +kernel
theorem dX12_draws_243 : decode cX12_draws 243 = .ok (.irem, 1) := by decide +kernel
theorem dX12_draws_244 : decode cX12_draws 244 = .ok (.ifCond .eq 11, 3) := by decide +kernel
theorem dX12_draws_247 : decode cX12_draws 247 = .ok (.aload_n 0, 1) := by decide +kernel
theorem dX12_draws_248 : decode cX12_draws 248 = .ok (.iconst 2, 1) := by decide +kernel
theorem dX12_draws_249 : decode cX12_draws 249 = .ok (.invokevirtual 346, 3) := by decide +kernel
theorem dX12_draws_252 : decode cX12_draws 252 = .ok (.ifCond .eq 42, 3) := by decide +kernel
theorem dX12_draws_255 : decode cX12_draws 255 = .ok (.aload_n 0, 1) := by decide +kernel
theorem dX12_draws_256 : decode cX12_draws 256 = .ok (.iconst 0, 1) := by decide +kernel
theorem dX12_draws_257 : decode cX12_draws 257 = .ok (.aload_n 0, 1) := by decide +kernel
theorem dX12_draws_258 : decode cX12_draws 258 = .ok (.getfield 325, 3) := by decide +kernel
theorem dX12_draws_261 : decode cX12_draws 261 = .ok (.bipush 6, 2) := by decide +kernel
theorem dX12_draws_263 : decode cX12_draws 263 = .ok (.isub, 1) := by decide +kernel
theorem dX12_draws_264 : decode cX12_draws 264 = .ok (.iconst 1, 1) := by decide +kernel
theorem dX12_draws_265 : decode cX12_draws 265 = .ok (.invokevirtual 418, 3) := by decide +kernel
theorem dX12_draws_268 : decode cX12_draws 268 = .ok (.ifCond .eq 26, 3) := by decide +kernel
theorem dX12_draws_271 : decode cX12_draws 271 = .ok (.aload_n 0, 1) := by decide +kernel
theorem dX12_draws_272 : decode cX12_draws 272 = .ok (.aload_n 0, 1) := by decide +kernel
theorem dX12_draws_273 : decode cX12_draws 273 = .ok (.getfield 325, 3) := by decide +kernel
theorem dX12_draws_276 : decode cX12_draws 276 = .ok (.bipush 6, 2) := by decide +kernel
theorem dX12_draws_278 : decode cX12_draws 278 = .ok (.isub, 1) := by decide +kernel
theorem dX12_draws_279 : decode cX12_draws 279 = .ok (.aload_n 0, 1) := by decide +kernel
theorem dX12_draws_280 : decode cX12_draws 280 = .ok (.getfield 325, 3) := by decide +kernel
theorem dX12_draws_283 : decode cX12_draws 283 = .ok (.iconst 1, 1) := by decide +kernel
theorem dX12_draws_284 : decode cX12_draws 284 = .ok (.invokevirtual 425, 3) := by decide +kernel
theorem dX12_draws_287 : decode cX12_draws 287 = .ok (.ifCond .eq 7, 3) := by decide +kernel
theorem dX12_draws_290 : decode cX12_draws 290 = .ok (.iconst 1, 1) := by decide +kernel
theorem dX12_draws_291 : decode cX12_draws 291 = .ok (.goto 4, 3) := by decide +kernel
theorem dX12_draws_294 : decode cX12_draws 294 = .ok (.iconst 0, 1) := by decide +kernel
theorem dX12_draws_295 : decode cX12_draws 295 = .ok (.ireturn, 1) := by decide +kernel
theorem dX12_draws_296 : decode cX12_draws 296 = .ok (.aload_n 0, 1) := by decide +kernel
theorem dX12_draws_297 : decode cX12_draws 297 = .ok (.iload_n 1, 1) := by decide +kernel
theorem dX12_draws_298 : decode cX12_draws 298 = .ok (.bipush 26, 2) := by decide +kernel
theorem dX12_draws_300 : decode cX12_draws 300 = .ok (.if_icmp .ne 7, 3) := by decide +kernel
theorem dX12_draws_303 : decode cX12_draws 303 = .ok (.iconst 1, 1) := by decide +kernel
theorem dX12_draws_304 : decode cX12_draws 304 = .ok (.goto 4, 3) := by decide +kernel
theorem dX12_draws_307 : decode cX12_draws 307 = .ok (.iconst 0, 1) := by decide +kernel
theorem dX12_draws_308 : decode cX12_draws 308 = .ok (.invokevirtual 428, 3) := by decide +kernel
theorem dX12_draws_311 : decode cX12_draws 311 = .ok (.ireturn, 1) := by decide +kernel
theorem dX12_draws_312 : decode cX12_draws 312 = .ok (.aload_n 0, 1) := by decide +kernel
theorem dX12_draws_313 : decode cX12_draws 313 = .ok (.iload_n 1, 1) := by decide +kernel
theorem dX12_draws_314 : decode cX12_draws 314 = .ok (.bipush 31, 2) := by decide +kernel
theorem dX12_draws_316 : decode cX12_draws 316 = .ok (.if_icmp .ne 7, 3) := by decide +kernel
theorem dX12_draws_319 : decode cX12_draws 319 = .ok (.iconst 1, 1) := by decide +kernel
theorem dX12_draws_320 : decode cX12_draws 320 = .ok (.goto 4, 3) := by decide +kernel
theorem dX12_draws_323 : decode cX12_draws 323 = .ok (.iconst 0, 1) := by decide +kernel
theorem dX12_draws_324 : decode cX12_draws 324 = .ok (.invokevirtual 431, 3) := by decide +kernel
theorem dX12_draws_327 : decode cX12_draws 327 = .ok (.ireturn, 1) := by decide +kernel
theorem dX12_draws_328 : decode cX12_draws 328 = .ok (.aload_n 0, 1) := by decide +kernel
theorem dX12_draws_329 : decode cX12_draws 329 = .ok (.bipush 7, 2) := by decide +kernel
theorem dX12_draws_331 : decode cX12_draws 331 = .ok (.invokevirtual 434, 3) := by decide +kernel
theorem dX12_draws_334 : decode cX12_draws 334 = .ok (.ifCond .eq 14, 3) := by decide +kernel
theorem dX12_draws_337 : decode cX12_draws 337 = .ok (.aload_n 0, 1) := by decide +kernel
theorem dX12_draws_338 : decode cX12_draws 338 = .ok (.invokevirtual 437, 3) := by decide +kernel
theorem dX12_draws_341 : decode cX12_draws 341 = .ok (.ifCond .eq 7, 3) := by decide +kernel
theorem dX12_draws_344 : decode cX12_draws 344 = .ok (.iconst 1, 1) := by decide +kernel
theorem dX12_draws_345 : decode cX12_draws 345 = .ok (.goto 4, 3) := by decide +kernel
theorem dX12_draws_348 : decode cX12_draws 348 = .ok (.iconst 0, 1) := by decide +kernel
theorem dX12_draws_349 : decode cX12_draws 349 = .ok (.ireturn, 1) := by decide +kernel
theorem dX12_draws_350 : decode cX12_draws 350 = .ok (.aload_n 0, 1) := by decide +kernel
theorem dX12_draws_351 : decode cX12_draws 351 = .ok (.bipush 13, 2) := by decide +kernel
theorem dX12_draws_353 : decode cX12_draws 353 = .ok (.invokevirtual 434, 3) := by decide +kernel
theorem dX12_draws_356 : decode cX12_draws 356 = .ok (.ifCond .eq 18, 3) := by decide +kernel
theorem dX12_draws_359 : decode cX12_draws 359 = .ok (.aload_n 0, 1) := by decide +kernel
theorem dX12_draws_360 : decode cX12_draws 360 = .ok (.iconst 0, 1) := by decide +kernel
theorem dX12_draws_361 : decode cX12_draws 361 = .ok (.bipush 12, 2) := by decide +kernel
theorem dX12_draws_363 : decode cX12_draws 363 = .ok (.iconst 1, 1) := by decide +kernel
theorem dX12_draws_364 : decode cX12_draws 364 = .ok (.invokevirtual 425, 3) := by decide +kernel
theorem dX12_draws_367 : decode cX12_draws 367 = .ok (.ifCond .eq 7, 3) := by decide +kernel
theorem dX12_draws_370 : decode cX12_draws 370 = .ok (.iconst 1, 1) := by decide +kernel
theorem dX12_draws_371 : decode cX12_draws 371 = .ok (.goto 4, 3) := by decide +kernel
theorem dX12_draws_374 : decode cX12_draws 374 = .ok (.iconst 0, 1) := by decide +kernel
theorem dX12_draws_375 : decode cX12_draws 375 = .ok (.ireturn, 1) := by decide +kernel
theorem dX12_draws_376 : decode cX12_draws 376 = .ok (.aload_n 0, 1) := by decide +kernel
theorem dX12_draws_377 : decode cX12_draws 377 = .ok (.bipush 9, 2) := by decide +kernel
theorem dX12_draws_379 : decode cX12_draws 379 = .ok (.invokevirtual 434, 3) := by decide +kernel
theorem dX12_draws_382 : decode cX12_draws 382 = .ok (.ifCond .eq 14, 3) := by decide +kernel
theorem dX12_draws_385 : decode cX12_draws 385 = .ok (.aload_n 0, 1) := by decide +kernel
theorem dX12_draws_386 : decode cX12_draws 386 = .ok (.invokevirtual 440, 3) := by decide +kernel
theorem dX12_draws_389 : decode cX12_draws 389 = .ok (.ifCond .eq 7, 3) := by decide +kernel
theorem dX12_draws_392 : decode cX12_draws 392 = .ok (.iconst 1, 1) := by decide +kernel
theorem dX12_draws_393 : decode cX12_draws 393 = .ok (.goto 4, 3) := by decide +kernel
theorem dX12_draws_396 : decode cX12_draws 396 = .ok (.iconst 0, 1) := by decide +kernel
theorem dX12_draws_397 : decode cX12_draws 397 = .ok (.ireturn, 1) := by decide +kernel
theorem dX12_draws_398 : decode cX12_draws 398 = .ok (.aload_n 0, 1) := by decide +kernel
theorem dX12_draws_399 : decode cX12_draws 399 = .ok (.bipush 11, 2) := by decide +kernel
theorem dX12_draws_401 : decode cX12_draws 401 = .ok (.invokevirtual 434, 3) := by decide +kernel
theorem dX12_draws_404 : decode cX12_draws 404 = .ok (.ifCond .eq 14, 3) := by decide +kernel
theorem dX12_draws_407 : decode cX12_draws 407 = .ok (.aload_n 0, 1) := by decide +kernel
theorem dX12_draws_408 : decode cX12_draws 408 = .ok (.invokevirtual 443, 3) := by decide +kernel
theorem dX12_draws_411 : decode cX12_draws 411 = .ok (.ifCond .eq 7, 3) := by decide +kernel
theorem dX12_draws_414 : decode cX12_draws 414 = .ok (.iconst 1, 1) := by decide +kernel
theorem dX12_draws_415 : decode cX12_draws 415 = .ok (.goto 4, 3) := by decide +kernel
theorem dX12_draws_418 : decode cX12_draws 418 = .ok (.iconst 0, 1) := by decide +kernel
theorem dX12_draws_419 : decode cX12_draws 419 = .ok (.ireturn, 1) := by decide +kernel
theorem dX12_draws_420 : decode cX12_draws 420 = .ok (.aload_n 0, 1) := by decide +kernel
theorem dX12_draws_421 : decode cX12_draws 421 = .ok (.iconst 1, 1) := by decide +kernel
theorem dX12_draws_422 : decode cX12_draws 422 = .ok (.invokevirtual 346, 3) := by decide +kernel
theorem dX12_draws_425 : decode cX12_draws 425 = .ok (.ireturn, 1) := by decide +kernel
theorem dX12_end_0 : decode cX12_end 0 = .ok (.iload_n 1, 1) := by decide +kernel
theorem dX12_end_1 : decode cX12_end 1 = .ok (.ifCond .lt 11, 3) := by decide +kernel
theorem dX12_end_4 : decode cX12_end 4 = .ok (.iload_n 1, 1) := by decide +kernel
theorem dX12_end_5 : decode cX12_end 5 = .ok (.aload_n 0, 1) := by decide +kernel
theorem dX12_end_6 : decode cX12_end 6 = .ok (.getfield 125, 3) := by decide +kernel
theorem dX12_end_9 : decode cX12_end 9 = .ok (.if_icmp .le 5, 3) := by decide +kernel
theorem dX12_end_12 : decode cX12_end 12 = .ok (.iconst (-1), 1) := by decide +kernel
theorem dX12_end_13 : decode cX12_end 13 = .ok (.ireturn, 1) := by decide +kernel
theorem dX12_end_14 : decode cX12_end 14 = .ok (.aload_n 0, 1) := by decide +kernel
theorem dX12_end_15 : decode cX12_end 15 = .ok (.iload_n 1, 1) := by decide +kernel
theorem dX12_end_16 : decode cX12_end 16 = .ok (.putfield 125, 3) := by decide +kernel
theorem dX12_end_19 : decode cX12_end 19 = .ok (.iload_n 1, 1) := by decide +kernel
theorem dX12_end_20 : decode cX12_end 20 = .ok (.ireturn, 1) := by decide +kernel
theorem dX12_ends_0 : decode cX12_ends 0 = .ok (.aload_n 0, 1) := by decide +kernel
theorem dX12_ends_1 : decode cX12_ends 1 = .ok (.getfield 325, 3) := by decide +kernel
theorem dX12_ends_4 : decode cX12_ends 4 = .ok (.ifCond .eq 24, 3) := by decide +kernel
theorem dX12_ends_7 : decode cX12_ends 7 = .ok (.aload_n 0, 1) := by decide +kernel
theorem dX12_ends_8 : decode cX12_ends 8 = .ok (.getfield 313, 3) := by decide +kernel
theorem dX12_ends_11 : decode cX12_ends 11 = .ok (.ifCond .ne 11, 3) := by decide +kernel
theorem dX12_ends_14 : decode cX12_ends 14 = .ok (.aload_n 0, 1) := by decide +kernel
theorem dX12_ends_15 : decode cX12_ends 15 = .ok (.getfield 325, 3) := by decide +kernel
theorem dX12_ends_18 : decode cX12_ends 18 = .ok (.iconst 1, 1) := by decide +kernel
theorem dX12_ends_19 : decode cX12_ends 19 = .ok (.if_icmp .eq 9, 3) := by decide +kernel
theorem dX12_ends_22 : decode cX12_ends 22 = .ok (.aload_n 0, 1) := by decide +kernel
theorem dX12_ends_23 : decode cX12_ends 23 = .ok (.iconst 2, 1) := by decide +kernel
theorem dX12_ends_24 : decode cX12_ends 24 = .ok (.invokevirtual 346, 3) := by decide +kernel
theorem dX12_ends_27 : decode cX12_ends 27 = .ok (.ireturn, 1) := by decide +kernel
theorem dX12_ends_28 : decode cX12_ends 28 = .ok (.aload_n 0, 1) := by decide +kernel
theorem dX12_ends_29 : decode cX12_ends 29 = .ok (.aload_n 0, 1) := by decide +kernel
theorem dX12_ends_30 : decode cX12_ends 30 = .ok (.getfield 325, 3) := by decide +kernel
theorem dX12_ends_33 : decode cX12_ends 33 = .ok (.ifCond .le 7, 3) := by decide +kernel
theorem dX12_ends_36 : decode cX12_ends 36 = .ok (.iconst 1, 1) := by decide +kernel
theorem dX12_ends_37 : decode cX12_ends 37 = .ok (.goto 4, 3) := by decide +kernel
theorem dX12_ends_40 : decode cX12_ends 40 = .ok (.iconst 0, 1) := by decide +kernel
theorem dX12_ends_41 : decode cX12_ends 41 = .ok (.invokevirtual 401, 3) := by decide +kernel
theorem dX12_ends_44 : decode cX12_ends 44 = .ok (.aload_n 0, 1) := by decide +kernel
theorem dX12_ends_45 : decode cX12_ends 45 = .ok (.getfield 322, 3) := by decide +kernel
theorem dX12_ends_48 : decode cX12_ends 48 = .ok (.ifCond .eq 13, 3) := by decide +kernel
theorem dX12_ends_51 : decode cX12_ends 51 = .ok (.aload_n 0, 1) := by decide +kernel
theorem dX12_ends_52 : decode cX12_ends 52 = .ok (.iconst 3, 1) := by decide +kernel
theorem dX12_ends_53 : decode cX12_ends 53 = .ok (.invokevirtual 367, 3) := by decide +kernel
theorem dX12_ends_56 : decode cX12_ends 56 = .ok (.ifCond .ne 5, 3) := by decide +kernel
theorem dX12_ends_59 : decode cX12_ends 59 = .ok (.iconst 0, 1) := by decide +kernel
theorem dX12_ends_60 : decode cX12_ends 60 = .ok (.ireturn, 1) := by decide +kernel
theorem dX12_ends_61 : decode cX12_ends 61 = .ok (.aload_n 0, 1) := by decide +kernel
theorem dX12_ends_62 : decode cX12_ends 62 = .ok (.iconst 0, 1) := by decide +kernel
theorem dX12_ends_63 : decode cX12_ends 63 = .ok (.putfield 325, 3) := by decide +kernel
theorem dX12_ends_66 : decode cX12_ends 66 = .ok (.aload_n 0, 1) := by decide +kernel
theorem dX12_ends_67 : decode cX12_ends 67 = .ok (.iconst 1, 1) := by decide +kernel
theorem dX12_ends_68 : decode cX12_ends 68 = .ok (.putfield 331, 3) := by decide +kernel
theorem dX12_ends_71 : decode cX12_ends 71 = .ok (.iconst 1, 1) := by decide +kernel
theorem dX12_ends_72 : decode cX12_ends 72 = .ok (.ireturn, 1) := by decide +kernel
theorem dX12_expects_0 : decode cX12_expects 0 = .ok (.aload_n 0, 1) := by decide +kernel
theorem dX12_expects_1 : decode cX12_expects 1 = .ok (.invokevirtual 262, 3) := by decide +kernel
theorem dX12_expects_4 : decode cX12_expects 4 = .ok (.ifCond .eq 23, 3) := by decide +kernel
theorem dX12_expects_7 : decode cX12_expects 7 = .ok (.aload_n 0, 1) := by decide +kernel
theorem dX12_expects_8 : decode cX12_expects 8 = .ok (.aload_n 1, 1) := by decide +kernel
theorem dX12_expects_9 : decode cX12_expects 9 = .ok (.invokevirtual 269, 3) := by decide +kernel
theorem dX12_expects_12 : decode cX12_expects 12 = .ok (.ifCond .ne 11, 3) := by decide +kernel
theorem dX12_expects_15 : decode cX12_expects 15 = .ok (.aload_n 0, 1) := by decide +kernel
theorem dX12_expects_16 : decode cX12_expects 16 = .ok (.iconst 2, 1) := by decide +kernel
theorem dX12_expects_17 : decode cX12_expects 17 = .ok (.invokevirtual 179, 3) := by decide +kernel
theorem dX12_expects_20 : decode cX12_expects 20 = .ok (.ifCond .eq 7, 3) := by decide +kernel
theorem dX12_expects_23 : decode cX12_expects 23 = .ok (.iconst 1, 1) := by decide +kernel
theorem dX12_expects_24 : decode cX12_expects 24 = .ok (.goto 4, 3) := by decide +kernel
theorem dX12_expects_27 : decode cX12_expects 27 = .ok (.iconst 0, 1) := by decide +kernel
theorem dX12_expects_28 : decode cX12_expects 28 = .ok (.ireturn, 1) := by decide +kernel
theorem dX12_fails_0 : decode cX12_fails 0 = .ok (.aload_n 0, 1) := by decide +kernel
theorem dX12_fails_1 : decode cX12_fails 1 = .ok (.getfield 147, 3) := by decide +kernel
theorem dX12_fails_4 : decode cX12_fails 4 = .ok (.ifCond .ne 8, 3) := by decide +kernel
theorem dX12_fails_7 : decode cX12_fails 7 = .ok (.aload_n 0, 1) := by decide +kernel
theorem dX12_fails_8 : decode cX12_fails 8 = .ok (.iload_n 1, 1) := by decide +kernel
theorem dX12_fails_9 : decode cX12_fails 9 = .ok (.putfield 147, 3) := by decide +kernel
theorem dX12_fails_12 : decode cX12_fails 12 = .ok (.iconst 0, 1) := by decide +kernel
theorem dX12_fails_13 : decode cX12_fails 13 = .ok (.ireturn, 1) := by decide +kernel
theorem dX12_feed_0 : decode cX12_feed 0 = .ok (.aload_n 0, 1) := by decide +kernel
theorem dX12_feed_1 : decode cX12_feed 1 = .ok (.getfield 125, 3) := by decide +kernel
theorem dX12_feed_4 : decode cX12_feed 4 = .ok (.bipush 20, 2) := by decide +kernel
theorem dX12_feed_6 : decode cX12_feed 6 = .ok (.iadd, 1) := by decide +kernel
theorem dX12_feed_7 : decode cX12_feed 7 = .ok (.sipush 1500, 3) := by decide +kernel
theorem dX12_feed_10 : decode cX12_feed 10 = .ok (.if_icmp .le 5, 3) := by decide +kernel
theorem dX12_feed_13 : decode cX12_feed 13 = .ok (.iconst (-1), 1) := by decide +kernel
theorem dX12_feed_14 : decode cX12_feed 14 = .ok (.ireturn, 1) := by decide +kernel
theorem dX12_feed_15 : decode cX12_feed 15 = .ok (.aload_n 0, 1) := by decide +kernel
theorem dX12_feed_16 : decode cX12_feed 16 = .ok (.iload_n 1, 1) := by decide +kernel
theorem dX12_feed_17 : decode cX12_feed 17 = .ok (.invokevirtual 128, 3) := by decide +kernel
theorem dX12_feed_20 : decode cX12_feed 20 = .ok (.aload_n 0, 1) := by decide +kernel
theorem dX12_feed_21 : decode cX12_feed 21 = .ok (.iload_n 2, 1) := by decide +kernel
theorem dX12_feed_22 : decode cX12_feed 22 = .ok (.invokevirtual 128, 3) := by decide +kernel
theorem dX12_feed_25 : decode cX12_feed 25 = .ok (.aload_n 0, 1) := by decide +kernel
theorem dX12_feed_26 : decode cX12_feed 26 = .ok (.iload_n 3, 1) := by decide +kernel
theorem dX12_feed_27 : decode cX12_feed 27 = .ok (.invokevirtual 128, 3) := by decide +kernel
theorem dX12_feed_30 : decode cX12_feed 30 = .ok (.aload_n 0, 1) := by decide +kernel
theorem dX12_feed_31 : decode cX12_feed 31 = .ok (.iload 4, 2) := by decide +kernel
theorem dX12_feed_33 : decode cX12_feed 33 = .ok (.invokevirtual 128, 3) := by decide +kernel
theorem dX12_feed_36 : decode cX12_feed 36 = .ok (.aload_n 0, 1) := by decide +kernel
theorem dX12_feed_37 : decode cX12_feed 37 = .ok (.iload 5, 2) := by decide +kernel
theorem dX12_feed_39 : decode cX12_feed 39 = .ok (.invokevirtual 128, 3) := by decide +kernel
theorem dX12_feed_42 : decode cX12_feed 42 = .ok (.aload_n 0, 1) := by decide +kernel
theorem dX12_feed_43 : decode cX12_feed 43 = .ok (.getfield 125, 3) := by decide +kernel
theorem dX12_feed_46 : decode cX12_feed 46 = .ok (.ireturn, 1) := by decide +kernel
theorem dX12_first_0 : decode cX12_first 0 = .ok (.aload_n 0, 1) := by decide +kernel
theorem dX12_first_1 : decode cX12_first 1 = .ok (.invokevirtual 276, 3) := by decide +kernel
theorem dX12_first_4 : decode cX12_first 4 = .ok (.ifCond .ne 4, 3) := by decide +kernel
theorem dX12_first_7 : decode cX12_first 7 = .ok (.return_, 1) := by decide +kernel
theorem dX12_first_8 : decode cX12_first 8 = .ok (.aload_n 0, 1) := by decide +kernel
theorem dX12_first_9 : decode cX12_first 9 = .ok (.iconst 0, 1) := by decide +kernel
theorem dX12_first_10 : decode cX12_first 10 = .ok (.putfield 253, 3) := by decide +kernel
theorem dX12_first_13 : decode cX12_first 13 = .ok (.aload_n 0, 1) := by decide +kernel
theorem dX12_first_14 : decode cX12_first 14 = .ok (.iconst 4, 1) := by decide +kernel
theorem dX12_first_15 : decode cX12_first 15 = .ok (.putfield 273, 3) := by decide +kernel
theorem dX12_first_18 : decode cX12_first 18 = .ok (.iconst 0, 1) := by decide +kernel
theorem dX12_first_19 : decode cX12_first 19 = .ok (.istore_n 1, 1) := by decide +kernel
theorem dX12_first_20 : decode cX12_first 20 = .ok (.iconst 0, 1) := by decide +kernel
theorem dX12_first_21 : decode cX12_first 21 = .ok (.istore_n 2, 1) := by decide +kernel
theorem dX12_first_22 : decode cX12_first 22 = .ok (.iload_n 2, 1) := by decide +kernel
theorem dX12_first_23 : decode cX12_first 23 = .ok (.ifCond .ne 11, 3) := by decide +kernel
theorem dX12_first_26 : decode cX12_first 26 = .ok (.aload_n 0, 1) := by decide +kernel
theorem dX12_first_27 : decode cX12_first 27 = .ok (.invokevirtual 262, 3) := by decide +kernel
theorem dX12_first_30 : decode cX12_first 30 = .ok (.ifCond .ne 4, 3) := by decide +kernel
theorem dX12_first_33 : decode cX12_first 33 = .ok (.return_, 1) := by decide +kernel
theorem dX12_first_34 : decode cX12_first 34 = .ok (.iconst 0, 1) := by decide +kernel
theorem dX12_first_35 : decode cX12_first 35 = .ok (.istore_n 2, 1) := by decide +kernel
theorem dX12_first_36 : decode cX12_first 36 = .ok (.aload_n 0, 1) := by decide +kernel
theorem dX12_first_37 : decode cX12_first 37 = .ok (.aload_n 0, 1) := by decide +kernel
theorem dX12_first_38 : decode cX12_first 38 = .ok (.getfield 65, 3) := by decide +kernel
theorem dX12_first_41 : decode cX12_first 41 = .ok (.invokevirtual 269, 3) := by decide +kernel
theorem dX12_first_44 : decode cX12_first 44 = .ok (.ifCond .eq 24, 3) := by decide +kernel
theorem dX12_first_47 : decode cX12_first 47 = .ok (.aload_n 0, 1) := by decide +kernel
theorem dX12_first_48 : decode cX12_first 48 = .ok (.invokevirtual 279, 3) := by decide +kernel
theorem dX12_first_51 : decode cX12_first 51 = .ok (.istore_n 3, 1) := by decide +kernel
theorem dX12_first_52 : decode cX12_first 52 = .ok (.aload_n 0, 1) := by decide +kernel
theorem dX12_first_53 : decode cX12_first 53 = .ok (.getfield 147, 3) := by decide +kernel
theorem dX12_first_56 : decode cX12_first 56 = .ok (.ifCond .le 4, 3) := by decide +kernel
theorem dX12_first_59 : decode cX12_first 59 = .ok (.return_, 1) := by decide +kernel
theorem dX12_first_60 : decode cX12_first 60 = .ok (.aload_n 0, 1) := by decide +kernel
theorem dX12_first_61 : decode cX12_first 61 = .ok (.iload_n 3, 1) := by decide +kernel
theorem dX12_first_62 : decode cX12_first 62 = .ok (.putfield 273, 3) := by decide +kernel
theorem dX12_first_65 : decode cX12_first 65 = .ok (.goto (-43), 3) := by decide +kernel
theorem dX12_first_68 : decode cX12_first 68 = .ok (.aload_n 0, 1) := by decide +kernel
theorem dX12_first_69 : decode cX12_first 69 = .ok (.aload_n 0, 1) := by decide +kernel
theorem dX12_first_70 : decode cX12_first 70 = .ok (.getfield 68, 3) := by decide +kernel
theorem dX12_first_73 : decode cX12_first 73 = .ok (.invokevirtual 269, 3) := by decide +kernel
theorem dX12_first_76 : decode cX12_first 76 = .ok (.ifCond .eq 81, 3) := by decide +kernel
theorem dX12_first_79 : decode cX12_first 79 = .ok (.aload_n 0, 1) := by decide +kernel
theorem dX12_first_80 : decode cX12_first 80 = .ok (.invokevirtual 279, 3) := by decide +kernel
theorem dX12_first_83 : decode cX12_first 83 = .ok (.istore_n 3, 1) := by decide +kernel
theorem dX12_first_84 : decode cX12_first 84 = .ok (.aload_n 0, 1) := by decide +kernel
theorem dX12_first_85 : decode cX12_first 85 = .ok (.getfield 147, 3) := by decide +kernel
theorem dX12_first_88 : decode cX12_first 88 = .ok (.ifCond .gt 29, 3) := by decide +kernel
theorem dX12_first_91 : decode cX12_first 91 = .ok (.iload_n 3, 1) := by decide +kernel
theorem dX12_first_92 : decode cX12_first 92 = .ok (.sipush 200, 3) := by decide +kernel
theorem dX12_first_95 : decode cX12_first 95 = .ok (.if_icmp .le 11, 3) := by decide +kernel
theorem dX12_first_98 : decode cX12_first 98 = .ok (.aload_n 0, 1) := by decide +kernel
theorem dX12_first_99 : decode cX12_first 99 = .ok (.iconst 2, 1) := by decide +kernel
theorem dX12_first_100 : decode cX12_first 100 = .ok (.invokevirtual 179, 3) := by decide +kernel
theorem dX12_first_103 : decode cX12_first 103 = .ok (.ifCond .eq 14, 3) := by decide +kernel
theorem dX12_first_106 : decode cX12_first 106 = .ok (.aload_n 0, 1) := by decide +kernel
theorem dX12_first_107 : decode cX12_first 107 = .ok (.aload_n 0, 1) := by decide +kernel
theorem dX12_first_108 : decode cX12_first 108 = .ok (.getfield 71, 3) := by decide +kernel
theorem dX12_first_111 : decode cX12_first 111 = .ok (.invokevirtual 282, 3) := by decide +kernel
theorem dX12_first_114 : decode cX12_first 114 = .ok (.ifCond .ne 4, 3) := by decide +kernel
theorem dX12_first_117 : decode cX12_first 117 = .ok (.return_, 1) := by decide +kernel
theorem dX12_first_118 : decode cX12_first 118 = .ok (.iconst 1, 1) := by decide +kernel
theorem dX12_first_119 : decode cX12_first 119 = .ok (.istore_n 1, 1) := by decide +kernel
theorem dX12_first_120 : decode cX12_first 120 = .ok (.aload_n 0, 1) := by decide +kernel
theorem dX12_first_121 : decode cX12_first 121 = .ok (.getfield 33, 3) := by decide +kernel
theorem dX12_first_124 : decode cX12_first 124 = .ok (.iconst 1, 1) := by decide +kernel
theorem dX12_first_125 : decode cX12_first 125 = .ok (.iload_n 3, 1) := by decide +kernel
theorem dX12_first_126 : decode cX12_first 126 = .ok (.iastore, 1) := by decide +kernel
theorem dX12_first_127 : decode cX12_first 127 = .ok (.iconst 0, 1) := by decide +kernel
theorem dX12_first_128 : decode cX12_first 128 = .ok (.istore 4, 2) := by decide +kernel
theorem dX12_first_130 : decode cX12_first 130 = .ok (.iload 4, 2) := by decide +kernel
theorem dX12_first_132 : decode cX12_first 132 = .ok (.iload_n 3, 1) := by decide +kernel
theorem dX12_first_133 : decode cX12_first 133 = .ok (.if_icmp .ge 21, 3) := by decide +kernel
theorem dX12_first_136 : decode cX12_first 136 = .ok (.aload_n 0, 1) := by decide +kernel
theorem dX12_first_137 : decode cX12_first 137 = .ok (.getfield 39, 3) := by decide +kernel
theorem dX12_first_140 : decode cX12_first 140 = .ok (.sipush 1600, 3) := by decide +kernel
theorem dX12_first_143 : decode cX12_first 143 = .ok (.iload 4, 2) := by decide +kernel
theorem dX12_first_145 : decode cX12_first 145 = .ok (.iadd, 1) := by decide +kernel
theorem dX12_first_146 : decode cX12_first 146 = .ok (.iconst (-1), 1) := by decide +kernel
theorem dX12_first_147 : decode cX12_first 147 = .ok (.iastore, 1) := by decide +kernel
theorem dX12_first_148 : decode cX12_first 148 = .ok (.iinc 4 1, 3) := by decide +kernel
theorem dX12_first_151 : decode cX12_first 151 = .ok (.goto (-21), 3) := by decide +kernel
theorem dX12_first_154 : decode cX12_first 154 = .ok (.goto (-132), 3) := by decide +kernel
theorem dX12_first_157 : decode cX12_first 157 = .ok (.aload_n 0, 1) := by decide +kernel
theorem dX12_first_158 : decode cX12_first 158 = .ok (.aload_n 0, 1) := by decide +kernel
theorem dX12_first_159 : decode cX12_first 159 = .ok (.getfield 74, 3) := by decide +kernel
theorem dX12_first_162 : decode cX12_first 162 = .ok (.invokevirtual 269, 3) := by decide +kernel
theorem dX12_first_165 : decode cX12_first 165 = .ok (.ifCond .eq 76, 3) := by decide +kernel
theorem dX12_first_168 : decode cX12_first 168 = .ok (.iload_n 1, 1) := by decide +kernel
theorem dX12_first_169 : decode cX12_first 169 = .ok (.ifCond .eq 72, 3) := by decide +kernel
theorem dX12_first_172 : decode cX12_first 172 = .ok (.aload_n 0, 1) := by decide +kernel
theorem dX12_first_173 : decode cX12_first 173 = .ok (.invokevirtual 262, 3) := by decide +kernel
theorem dX12_first_176 : decode cX12_first 176 = .ok (.ifCond .ne 4, 3) := by decide +kernel
theorem dX12_first_179 : decode cX12_first 179 = .ok (.return_, 1) := by decide +kernel
theorem dX12_first_180 : decode cX12_first 180 = .ok (.aload_n 0, 1) := by decide +kernel
theorem dX12_first_181 : decode cX12_first 181 = .ok (.invokevirtual 266, 3) := by decide +kernel
theorem dX12_first_184 : decode cX12_first 184 = .ok (.istore_n 3, 1) := by decide +kernel
theorem dX12_first_185 : decode cX12_first 185 = .ok (.iload_n 3, 1) := by decide +kernel
theorem dX12_first_186 : decode cX12_first 186 = .ok (.ifCond .ge 8, 3) := by decide +kernel
theorem dX12_first_189 : decode cX12_first 189 = .ok (.iconst 1, 1) := by decide +kernel
theorem dX12_first_190 : decode cX12_first 190 = .ok (.istore_n 2, 1) := by decide +kernel
theorem dX12_first_191 : decode cX12_first 191 = .ok (.goto (-169), 3) := by decide +kernel
theorem dX12_first_194 : decode cX12_first 194 = .ok (.iload_n 3, 1) := by decide +kernel
theorem dX12_first_195 : decode cX12_first 195 = .ok (.aload_n 0, 1) := by decide +kernel
theorem dX12_first_196 : decode cX12_first 196 = .ok (.getfield 33, 3) := by decide +kernel
theorem dX12_first_199 : decode cX12_first 199 = .ok (.iconst 1, 1) := by decide +kernel
theorem dX12_first_200 : decode cX12_first 200 = .ok (.iaload, 1) := by decide +kernel
theorem dX12_first_201 : decode cX12_first 201 = .ok (.if_icmp .lt 12, 3) := by decide +kernel
theorem dX12_first_204 : decode cX12_first 204 = .ok (.aload_n 0, 1) := by decide +kernel
theorem dX12_first_205 : decode cX12_first 205 = .ok (.iconst 2, 1) := by decide +kernel
theorem dX12_first_206 : decode cX12_first 206 = .ok (.invokevirtual 179, 3) := by decide +kernel
theorem dX12_first_209 : decode cX12_first 209 = .ok (.ifCond .ne 4, 3) := by decide +kernel
theorem dX12_first_212 : decode cX12_first 212 = .ok (.return_, 1) := by decide +kernel
theorem dX12_first_213 : decode cX12_first 213 = .ok (.aload_n 0, 1) := by decide +kernel
theorem dX12_first_214 : decode cX12_first 214 = .ok (.invokevirtual 279, 3) := by decide +kernel
theorem dX12_first_217 : decode cX12_first 217 = .ok (.istore 4, 2) := by decide +kernel
theorem dX12_first_219 : decode cX12_first 219 = .ok (.aload_n 0, 1) := by decide +kernel
theorem dX12_first_220 : decode cX12_first 220 = .ok (.getfield 147, 3) := by decide +kernel
theorem dX12_first_223 : decode cX12_first 223 = .ok (.ifCond .gt 14, 3) := by decide +kernel
theorem dX12_first_226 : decode cX12_first 226 = .ok (.aload_n 0, 1) := by decide +kernel
theorem dX12_first_227 : decode cX12_first 227 = .ok (.iconst 1, 1) := by decide +kernel
theorem dX12_first_228 : decode cX12_first 228 = .ok (.iload_n 3, 1) := by decide +kernel
theorem dX12_first_229 : decode cX12_first 229 = .ok (.iload 4, 2) := by decide +kernel
theorem dX12_first_231 : decode cX12_first 231 = .ok (.invokevirtual 285, 3) := by decide +kernel
theorem dX12_first_234 : decode cX12_first 234 = .ok (.ifCond .ne 4, 3) := by decide +kernel
theorem dX12_first_237 : decode cX12_first 237 = .ok (.return_, 1) := by decide +kernel
theorem dX12_first_238 : decode cX12_first 238 = .ok (.goto (-216), 3) := by decide +kernel
theorem dX12_first_241 : decode cX12_first 241 = .ok (.aload_n 0, 1) := by decide +kernel
theorem dX12_first_242 : decode cX12_first 242 = .ok (.aload_n 0, 1) := by decide +kernel
theorem dX12_first_243 : decode cX12_first 243 = .ok (.getfield 83, 3) := by decide +kernel
theorem dX12_first_246 : decode cX12_first 246 = .ok (.invokevirtual 269, 3) := by decide +kernel
theorem dX12_first_249 : decode cX12_first 249 = .ok (.ifCond .eq (-227), 3) := by decide +kernel
theorem dX12_first_252 : decode cX12_first 252 = .ok (.aload_n 0, 1) := by decide +kernel
theorem dX12_first_253 : decode cX12_first 253 = .ok (.invokevirtual 279, 3) := by decide +kernel
theorem dX12_first_256 : decode cX12_first 256 = .ok (.istore_n 3, 1) := by decide +kernel
theorem dX12_first_257 : decode cX12_first 257 = .ok (.aload_n 0, 1) := by decide +kernel
theorem dX12_first_258 : decode cX12_first 258 = .ok (.getfield 147, 3) := by decide +kernel
theorem dX12_first_261 : decode cX12_first 261 = .ok (.ifCond .gt 36, 3) := by decide +kernel
theorem dX12_first_264 : decode cX12_first 264 = .ok (.aload_n 0, 1) := by decide +kernel
theorem dX12_first_265 : decode cX12_first 265 = .ok (.aload_n 0, 1) := by decide +kernel
theorem dX12_first_266 : decode cX12_first 266 = .ok (.getfield 86, 3) := by decide +kernel
theorem dX12_first_269 : decode cX12_first 269 = .ok (.invokevirtual 282, 3) := by decide +kernel
theorem dX12_first_272 : decode cX12_first 272 = .ok (.ifCond .eq 25, 3) := by decide +kernel
theorem dX12_first_275 : decode cX12_first 275 = .ok (.aload_n 0, 1) := by decide +kernel
theorem dX12_first_276 : decode cX12_first 276 = .ok (.aload_n 0, 1) := by decide +kernel
theorem dX12_first_277 : decode cX12_first 277 = .ok (.getfield 74, 3) := by decide +kernel
theorem dX12_first_280 : decode cX12_first 280 = .ok (.invokevirtual 282, 3) := by decide +kernel
theorem dX12_first_283 : decode cX12_first 283 = .ok (.ifCond .eq 14, 3) := by decide +kernel
theorem dX12_first_286 : decode cX12_first 286 = .ok (.aload_n 0, 1) := by decide +kernel
theorem dX12_first_287 : decode cX12_first 287 = .ok (.aload_n 0, 1) := by decide +kernel
theorem dX12_first_288 : decode cX12_first 288 = .ok (.getfield 89, 3) := by decide +kernel
theorem dX12_first_291 : decode cX12_first 291 = .ok (.invokevirtual 282, 3) := by decide +kernel
theorem dX12_first_294 : decode cX12_first 294 = .ok (.ifCond .ne 4, 3) := by decide +kernel
theorem dX12_first_297 : decode cX12_first 297 = .ok (.return_, 1) := by decide +kernel
theorem dX12_first_298 : decode cX12_first 298 = .ok (.aload_n 0, 1) := by decide +kernel
theorem dX12_first_299 : decode cX12_first 299 = .ok (.invokevirtual 289, 3) := by decide +kernel
theorem dX12_first_302 : decode cX12_first 302 = .ok (.istore 4, 2) := by decide +kernel
theorem dX12_first_304 : decode cX12_first 304 = .ok (.return_, 1) := by decide +kernel
theorem dX12_firstKind_0 : decode cX12_firstKind 0 = .ok (.iload_n 1, 1) := by decide +kernel
theorem dX12_firstKind_1 : decode cX12_firstKind 1 = .ok (.lookupswitch 237 #[(10, 51), (11, 93), (268, 98), (272, 179), (273, 184)], 51) := by decide +kernel
theorem dX12_firstKind_52 : decode cX12_firstKind 52 = .ok (.aload_n 0, 1) := by decide +kernel
theorem dX12_firstKind_53 : decode cX12_firstKind 53 = .ok (.getfield 325, 3) := by decide +kernel
theorem dX12_firstKind_56 : decode cX12_firstKind 56 = .ok (.iconst 1, 1) := by decide +kernel
theorem dX12_firstKind_57 : decode cX12_firstKind 57 = .ok (.if_icmp .ge 9, 3) := by decide +kernel
theorem dX12_firstKind_60 : decode cX12_firstKind 60 = .ok (.aload_n 0, 1) := by decide +kernel
theorem dX12_firstKind_61 : decode cX12_firstKind 61 = .ok (.iconst 2, 1) := by decide +kernel
theorem dX12_firstKind_62 : decode cX12_firstKind 62 = .ok (.invokevirtual 346, 3) := by decide +kernel
theorem dX12_firstKind_65 : decode cX12_firstKind 65 = .ok (.ireturn, 1) := by decide +kernel
theorem dX12_firstKind_66 : decode cX12_firstKind 66 = .ok (.aload_n 0, 1) := by decide +kernel
theorem dX12_firstKind_67 : decode cX12_firstKind 67 = .ok (.dup, 1) := by decide +kernel
theorem dX12_firstKind_68 : decode cX12_firstKind 68 = .ok (.getfield 325, 3) := by decide +kernel
theorem dX12_firstKind_71 : decode cX12_firstKind 71 = .ok (.iconst 1, 1) := by decide +kernel
theorem dX12_firstKind_72 : decode cX12_firstKind 72 = .ok (.isub, 1) := by decide +kernel
theorem dX12_firstKind_73 : decode cX12_firstKind 73 = .ok (.putfield 325, 3) := by decide +kernel
theorem dX12_firstKind_76 : decode cX12_firstKind 76 = .ok (.aload_n 0, 1) := by decide +kernel
theorem dX12_firstKind_77 : decode cX12_firstKind 77 = .ok (.iconst 1, 1) := by decide +kernel
theorem dX12_firstKind_78 : decode cX12_firstKind 78 = .ok (.aload_n 0, 1) := by decide +kernel
theorem dX12_firstKind_79 : decode cX12_firstKind 79 = .ok (.getfield 101, 3) := by decide +kernel
theorem dX12_firstKind_82 : decode cX12_firstKind 82 = .ok (.aload_n 0, 1) := by decide +kernel
theorem dX12_firstKind_83 : decode cX12_firstKind 83 = .ok (.getfield 325, 3) := by decide +kernel
theorem dX12_firstKind_86 : decode cX12_firstKind 86 = .ok (.laload, 1) := by decide +kernel
theorem dX12_firstKind_87 : decode cX12_firstKind 87 = .ok (.invokestatic 408, 3) := by decide +kernel
theorem dX12_firstKind_90 : decode cX12_firstKind 90 = .ok (.invokevirtual 414, 3) := by decide +kernel
theorem dX12_firstKind_93 : decode cX12_firstKind 93 = .ok (.ireturn, 1) := by decide +kernel
theorem dX12_firstKind_94 : decode cX12_firstKind 94 = .ok (.aload_n 0, 1) := by decide +kernel
theorem dX12_firstKind_95 : decode cX12_firstKind 95 = .ok (.invokevirtual 392, 3) := by decide +kernel
theorem dX12_firstKind_98 : decode cX12_firstKind 98 = .ok (.ireturn, 1) := by decide +kernel
theorem dX12_firstKind_99 : decode cX12_firstKind 99 = .ok (.aload_n 0, 1) := by decide +kernel
theorem dX12_firstKind_100 : decode cX12_firstKind 100 = .ok (.iconst 2, 1) := by decide +kernel
theorem dX12_firstKind_101 : decode cX12_firstKind 101 = .ok (.invokevirtual 455, 3) := by decide +kernel
theorem dX12_firstKind_104 : decode cX12_firstKind 104 = .ok (.ifCond .ne 5, 3) := by decide +kernel
theorem dX12_firstKind_107 : decode cX12_firstKind 107 = .ok (.iconst 0, 1) := by decide +kernel
theorem dX12_firstKind_108 : decode cX12_firstKind 108 = .ok (.ireturn, 1) := by decide +kernel
theorem dX12_firstKind_109 : decode cX12_firstKind 109 = .ok (.aload_n 0, 1) := by decide +kernel
theorem dX12_firstKind_110 : decode cX12_firstKind 110 = .ok (.getfield 101, 3) := by decide +kernel
theorem dX12_firstKind_113 : decode cX12_firstKind 113 = .ok (.aload_n 0, 1) := by decide +kernel
theorem dX12_firstKind_114 : decode cX12_firstKind 114 = .ok (.getfield 325, 3) := by decide +kernel
theorem dX12_firstKind_117 : decode cX12_firstKind 117 = .ok (.iconst 1, 1) := by decide +kernel
theorem dX12_firstKind_118 : decode cX12_firstKind 118 = .ok (.isub, 1) := by decide +kernel
theorem dX12_firstKind_119 : decode cX12_firstKind 119 = .ok (.laload, 1) := by decide +kernel
theorem dX12_firstKind_120 : decode cX12_firstKind 120 = .ok (.lconst 0, 1) := by decide +kernel
theorem dX12_firstKind_121 : decode cX12_firstKind 121 = .ok (.lcmp, 1) := by decide +kernel
theorem dX12_firstKind_122 : decode cX12_firstKind 122 = .ok (.ifCond .ne 10, 3) := by decide +kernel
theorem dX12_firstKind_125 : decode cX12_firstKind 125 = .ok (.aload_n 0, 1) := by decide +kernel
theorem dX12_firstKind_126 : decode cX12_firstKind 126 = .ok (.bipush 9, 2) := by decide +kernel
theorem dX12_firstKind_128 : decode cX12_firstKind 128 = .ok (.invokevirtual 346, 3) := by decide +kernel
theorem dX12_firstKind_131 : decode cX12_firstKind 131 = .ok (.ireturn, 1) := by decide +kernel
theorem dX12_firstKind_132 : decode cX12_firstKind 132 = .ok (.aload_n 0, 1) := by decide +kernel
theorem dX12_firstKind_133 : decode cX12_firstKind 133 = .ok (.dup, 1) := by decide +kernel
theorem dX12_firstKind_134 : decode cX12_firstKind 134 = .ok (.getfield 325, 3) := by decide +kernel
theorem dX12_firstKind_137 : decode cX12_firstKind 137 = .ok (.iconst 1, 1) := by decide +kernel
theorem dX12_firstKind_138 : decode cX12_firstKind 138 = .ok (.isub, 1) := by decide +kernel
theorem dX12_firstKind_139 : decode cX12_firstKind 139 = .ok (.putfield 325, 3) := by decide +kernel
theorem dX12_firstKind_142 : decode cX12_firstKind 142 = .ok (.aload_n 0, 1) := by decide +kernel
theorem dX12_firstKind_143 : decode cX12_firstKind 143 = .ok (.getfield 101, 3) := by decide +kernel
theorem dX12_firstKind_146 : decode cX12_firstKind 146 = .ok (.aload_n 0, 1) := by decide +kernel
theorem dX12_firstKind_147 : decode cX12_firstKind 147 = .ok (.getfield 325, 3) := by decide +kernel
theorem dX12_firstKind_150 : decode cX12_firstKind 150 = .ok (.iconst 1, 1) := by decide +kernel
theorem dX12_firstKind_151 : decode cX12_firstKind 151 = .ok (.isub, 1) := by decide +kernel
theorem dX12_firstKind_152 : decode cX12_firstKind 152 = .ok (.aload_n 0, 1) := by decide +kernel
theorem dX12_firstKind_153 : decode cX12_firstKind 153 = .ok (.getfield 101, 3) := by decide +kernel
theorem dX12_firstKind_156 : decode cX12_firstKind 156 = .ok (.aload_n 0, 1) := by decide +kernel
theorem dX12_firstKind_157 : decode cX12_firstKind 157 = .ok (.getfield 325, 3) := by decide +kernel
theorem dX12_firstKind_160 : decode cX12_firstKind 160 = .ok (.iconst 1, 1) := by decide +kernel
theorem dX12_firstKind_161 : decode cX12_firstKind 161 = .ok (.isub, 1) := by decide +kernel
theorem dX12_firstKind_162 : decode cX12_firstKind 162 = .ok (.laload, 1) := by decide +kernel
theorem dX12_firstKind_163 : decode cX12_firstKind 163 = .ok (.ldc2_w 361, 3) := by decide +kernel
theorem dX12_firstKind_166 : decode cX12_firstKind 166 = .ok (.lmul, 1) := by decide +kernel
theorem dX12_firstKind_167 : decode cX12_firstKind 167 = .ok (.aload_n 0, 1) := by decide +kernel
theorem dX12_firstKind_168 : decode cX12_firstKind 168 = .ok (.getfield 101, 3) := by decide +kernel
theorem dX12_firstKind_171 : decode cX12_firstKind 171 = .ok (.aload_n 0, 1) := by decide +kernel
theorem dX12_firstKind_172 : decode cX12_firstKind 172 = .ok (.getfield 325, 3) := by decide +kernel
theorem dX12_firstKind_175 : decode cX12_firstKind 175 = .ok (.laload, 1) := by decide +kernel
theorem dX12_firstKind_176 : decode cX12_firstKind 176 = .ok (.ldiv, 1) := by decide +kernel
theorem dX12_firstKind_177 : decode cX12_firstKind 177 = .ok (.lastore, 1) := by decide +kernel
theorem dX12_firstKind_178 : decode cX12_firstKind 178 = .ok (.iconst 1, 1) := by decide +kernel
theorem dX12_firstKind_179 : decode cX12_firstKind 179 = .ok (.ireturn, 1) := by decide +kernel
theorem dX12_firstKind_180 : decode cX12_firstKind 180 = .ok (.aload_n 0, 1) := by decide +kernel
theorem dX12_firstKind_181 : decode cX12_firstKind 181 = .ok (.invokevirtual 473, 3) := by decide +kernel
theorem dX12_firstKind_184 : decode cX12_firstKind 184 = .ok (.ireturn, 1) := by decide +kernel
theorem dX12_firstKind_185 : decode cX12_firstKind 185 = .ok (.aload_n 0, 1) := by decide +kernel
theorem dX12_firstKind_186 : decode cX12_firstKind 186 = .ok (.getfield 325, 3) := by decide +kernel
theorem dX12_firstKind_189 : decode cX12_firstKind 189 = .ok (.bipush 24, 2) := by decide +kernel
theorem dX12_firstKind_191 : decode cX12_firstKind 191 = .ok (.if_icmp .ne 9, 3) := by decide +kernel
theorem dX12_firstKind_194 : decode cX12_firstKind 194 = .ok (.aload_n 0, 1) := by decide +kernel
theorem dX12_firstKind_195 : decode cX12_firstKind 195 = .ok (.iconst 3, 1) := by decide +kernel
theorem dX12_firstKind_196 : decode cX12_firstKind 196 = .ok (.invokevirtual 346, 3) := by decide +kernel
theorem dX12_firstKind_199 : decode cX12_firstKind 199 = .ok (.ireturn, 1) := by decide +kernel
theorem dX12_firstKind_200 : decode cX12_firstKind 200 = .ok (.aload_n 0, 1) := by decide +kernel
theorem dX12_firstKind_201 : decode cX12_firstKind 201 = .ok (.getfield 337, 3) := by decide +kernel
theorem dX12_firstKind_204 : decode cX12_firstKind 204 = .ok (.ifCond .ne 10, 3) := by decide +kernel
theorem dX12_firstKind_207 : decode cX12_firstKind 207 = .ok (.aload_n 0, 1) := by decide +kernel
theorem dX12_firstKind_208 : decode cX12_firstKind 208 = .ok (.bipush 9, 2) := by decide +kernel
theorem dX12_firstKind_210 : decode cX12_firstKind 210 = .ok (.invokevirtual 346, 3) := by decide +kernel
theorem dX12_firstKind_213 : decode cX12_firstKind 213 = .ok (.ireturn, 1) := by decide +kernel
theorem dX12_firstKind_214 : decode cX12_firstKind 214 = .ok (.aload_n 0, 1) := by decide +kernel
theorem dX12_firstKind_215 : decode cX12_firstKind 215 = .ok (.dup, 1) := by decide +kernel
theorem dX12_firstKind_216 : decode cX12_firstKind 216 = .ok (.getfield 337, 3) := by decide +kernel
theorem dX12_firstKind_219 : decode cX12_firstKind 219 = .ok (.iconst 1, 1) := by decide +kernel
theorem dX12_firstKind_220 : decode cX12_firstKind 220 = .ok (.isub, 1) := by decide +kernel
theorem dX12_firstKind_221 : decode cX12_firstKind 221 = .ok (.putfield 337, 3) := by decide +kernel
theorem dX12_firstKind_224 : decode cX12_firstKind 224 = .ok (.aload_n 0, 1) := by decide +kernel
theorem dX12_firstKind_225 : decode cX12_firstKind 225 = .ok (.aload_n 0, 1) := by decide +kernel
theorem dX12_firstKind_226 : decode cX12_firstKind 226 = .ok (.getfield 119, 3) := by decide +kernel
theorem dX12_firstKind_229 : decode cX12_firstKind 229 = .ok (.aload_n 0, 1) := by decide +kernel
theorem dX12_firstKind_230 : decode cX12_firstKind 230 = .ok (.getfield 337, 3) := by decide +kernel
theorem dX12_firstKind_233 : decode cX12_firstKind 233 = .ok (.laload, 1) := by decide +kernel
theorem dX12_firstKind_234 : decode cX12_firstKind 234 = .ok (.invokevirtual 363, 3) := by decide +kernel
theorem dX12_firstKind_237 : decode cX12_firstKind 237 = .ok (.ireturn, 1) := by decide +kernel
theorem dX12_firstKind_238 : decode cX12_firstKind 238 = .ok (.aload_n 0, 1) := by decide +kernel
theorem dX12_firstKind_239 : decode cX12_firstKind 239 = .ok (.iload_n 1, 1) := by decide +kernel
theorem dX12_firstKind_240 : decode cX12_firstKind 240 = .ok (.invokevirtual 476, 3) := by decide +kernel
theorem dX12_firstKind_243 : decode cX12_firstKind 243 = .ok (.istore_n 2, 1) := by decide +kernel
theorem dX12_firstKind_244 : decode cX12_firstKind 244 = .ok (.aload_n 0, 1) := by decide +kernel
theorem dX12_firstKind_245 : decode cX12_firstKind 245 = .ok (.getfield 295, 3) := by decide +kernel
theorem dX12_firstKind_248 : decode cX12_firstKind 248 = .ok (.ifCond .ne 8, 3) := by decide +kernel
theorem dX12_firstKind_251 : decode cX12_firstKind 251 = .ok (.aload_n 0, 1) := by decide +kernel
theorem dX12_firstKind_252 : decode cX12_firstKind 252 = .ok (.iconst 0, 1) := by decide +kernel
theorem dX12_firstKind_253 : decode cX12_firstKind 253 = .ok (.putfield 325, 3) := by decide +kernel
theorem dX12_firstKind_256 : decode cX12_firstKind 256 = .ok (.iload_n 2, 1) := by decide +kernel
theorem dX12_firstKind_257 : decode cX12_firstKind 257 = .ok (.ireturn, 1) := by decide +kernel
theorem dX12_flex1_0 : decode cX12_flex1 0 = .ok (.aload_n 0, 1) := by decide +kernel
theorem dX12_flex1_1 : decode cX12_flex1 1 = .ok (.getfield 316, 3) := by decide +kernel
theorem dX12_flex1_4 : decode cX12_flex1 4 = .ok (.lstore_n 1, 1) := by decide +kernel
theorem dX12_flex1_5 : decode cX12_flex1 5 = .ok (.aload_n 0, 1) := by decide +kernel
theorem dX12_flex1_6 : decode cX12_flex1 6 = .ok (.getfield 319, 3) := by decide +kernel
theorem dX12_flex1_9 : decode cX12_flex1 9 = .ok (.lstore_n 3, 1) := by decide +kernel
theorem dX12_flex1_10 : decode cX12_flex1 10 = .ok (.lconst 0, 1) := by decide +kernel
theorem dX12_flex1_11 : decode cX12_flex1 11 = .ok (.lstore 5, 2) := by decide +kernel
theorem dX12_flex1_13 : decode cX12_flex1 13 = .ok (.lconst 0, 1) := by decide +kernel
theorem dX12_flex1_14 : decode cX12_flex1 14 = .ok (.lstore 7, 2) := by decide +kernel
theorem dX12_flex1_16 : decode cX12_flex1 16 = .ok (.iconst 0, 1) := by decide +kernel
theorem dX12_flex1_17 : decode cX12_flex1 17 = .ok (.istore 9, 2) := by decide +kernel
theorem dX12_flex1_19 : decode cX12_flex1 19 = .ok (.iload 9, 2) := by decide +kernel
theorem dX12_flex1_21 : decode cX12_flex1 21 = .ok (.bipush 10, 2) := by decide +kernel
theorem dX12_flex1_23 : decode cX12_flex1 23 = .ok (.if_icmp .ge 35, 3) := by decide +kernel
theorem dX12_flex1_26 : decode cX12_flex1 26 = .ok (.lload 5, 2) := by decide +kernel
theorem dX12_flex1_28 : decode cX12_flex1 28 = .ok (.aload_n 0, 1) := by decide +kernel
theorem dX12_flex1_29 : decode cX12_flex1 29 = .ok (.getfield 101, 3) := by decide +kernel
theorem dX12_flex1_32 : decode cX12_flex1 32 = .ok (.iload 9, 2) := by decide +kernel
theorem dX12_flex1_34 : decode cX12_flex1 34 = .ok (.laload, 1) := by decide +kernel
theorem dX12_flex1_35 : decode cX12_flex1 35 = .ok (.ladd, 1) := by decide +kernel
theorem dX12_flex1_36 : decode cX12_flex1 36 = .ok (.lstore 5, 2) := by decide +kernel
theorem dX12_flex1_38 : decode cX12_flex1 38 = .ok (.lload 7, 2) := by decide +kernel
theorem dX12_flex1_40 : decode cX12_flex1 40 = .ok (.aload_n 0, 1) := by decide +kernel
theorem dX12_flex1_41 : decode cX12_flex1 41 = .ok (.getfield 101, 3) := by decide +kernel
theorem dX12_flex1_44 : decode cX12_flex1 44 = .ok (.iload 9, 2) := by decide +kernel
theorem dX12_flex1_46 : decode cX12_flex1 46 = .ok (.iconst 1, 1) := by decide +kernel
theorem dX12_flex1_47 : decode cX12_flex1 47 = .ok (.iadd, 1) := by decide +kernel
theorem dX12_flex1_48 : decode cX12_flex1 48 = .ok (.laload, 1) := by decide +kernel
theorem dX12_flex1_49 : decode cX12_flex1 49 = .ok (.ladd, 1) := by decide +kernel
theorem dX12_flex1_50 : decode cX12_flex1 50 = .ok (.lstore 7, 2) := by decide +kernel
theorem dX12_flex1_52 : decode cX12_flex1 52 = .ok (.iinc 9 2, 3) := by decide +kernel
theorem dX12_flex1_55 : decode cX12_flex1 55 = .ok (.goto (-36), 3) := by decide +kernel
theorem dX12_flex1_58 : decode cX12_flex1 58 = .ok (.aload_n 0, 1) := by decide +kernel
theorem dX12_flex1_59 : decode cX12_flex1 59 = .ok (.aload_n 0, 1) := by decide +kernel
theorem dX12_flex1_60 : decode cX12_flex1 60 = .ok (.getfield 101, 3) := by decide +kernel
theorem dX12_flex1_63 : decode cX12_flex1 63 = .ok (.iconst 0, 1) := by decide +kernel
theorem dX12_flex1_64 : decode cX12_flex1 64 = .ok (.laload, 1) := by decide +kernel
theorem dX12_flex1_65 : decode cX12_flex1 65 = .ok (.aload_n 0, 1) := by decide +kernel
theorem dX12_flex1_66 : decode cX12_flex1 66 = .ok (.getfield 101, 3) := by decide +kernel
theorem dX12_flex1_69 : decode cX12_flex1 69 = .ok (.iconst 1, 1) := by decide +kernel
theorem dX12_flex1_70 : decode cX12_flex1 70 = .ok (.laload, 1) := by decide +kernel
theorem dX12_flex1_71 : decode cX12_flex1 71 = .ok (.aload_n 0, 1) := by decide +kernel
theorem dX12_flex1_72 : decode cX12_flex1 72 = .ok (.getfield 101, 3) := by decide +kernel
theorem dX12_flex1_75 : decode cX12_flex1 75 = .ok (.iconst 2, 1) := by decide +kernel
theorem dX12_flex1_76 : decode cX12_flex1 76 = .ok (.laload, 1) := by decide +kernel
theorem dX12_flex1_77 : decode cX12_flex1 77 = .ok (.aload_n 0, 1) := by decide +kernel
theorem dX12_flex1_78 : decode cX12_flex1 78 = .ok (.getfield 101, 3) := by decide +kernel
theorem dX12_flex1_81 : decode cX12_flex1 81 = .ok (.iconst 3, 1) := by decide +kernel
theorem dX12_flex1_82 : decode cX12_flex1 82 = .ok (.laload, 1) := by decide +kernel
theorem dX12_flex1_83 : decode cX12_flex1 83 = .ok (.aload_n 0, 1) := by decide +kernel
theorem dX12_flex1_84 : decode cX12_flex1 84 = .ok (.getfield 101, 3) := by decide +kernel
theorem dX12_flex1_87 : decode cX12_flex1 87 = .ok (.iconst 4, 1) := by decide +kernel
theorem dX12_flex1_88 : decode cX12_flex1 88 = .ok (.laload, 1) := by decide +kernel
theorem dX12_flex1_89 : decode cX12_flex1 89 = .ok (.aload_n 0, 1) := by decide +kernel
theorem dX12_flex1_90 : decode cX12_flex1 90 = .ok (.getfield 101, 3) := by decide +kernel
theorem dX12_flex1_93 : decode cX12_flex1 93 = .ok (.iconst 5, 1) := by decide +kernel
theorem dX12_flex1_94 : decode cX12_flex1 94 = .ok (.laload, 1) := by decide +kernel
theorem dX12_flex1_95 : decode cX12_flex1 95 = .ok (.invokevirtual 449, 3) := by decide +kernel
theorem dX12_flex1_98 : decode cX12_flex1 98 = .ok (.ifCond .ne 5, 3) := by decide +kernel
theorem dX12_flex1_101 : decode cX12_flex1 101 = .ok (.iconst 0, 1) := by decide +kernel
theorem dX12_flex1_102 : decode cX12_flex1 102 = .ok (.ireturn, 1) := by decide +kernel
theorem dX12_flex1_103 : decode cX12_flex1 103 = .ok (.lload 5, 2) := by decide +kernel
theorem dX12_flex1_105 : decode cX12_flex1 105 = .ok (.lconst 0, 1) := by decide +kernel
theorem dX12_flex1_106 : decode cX12_flex1 106 = .ok (.lcmp, 1) := by decide +kernel
theorem dX12_flex1_107 : decode cX12_flex1 107 = .ok (.ifCond .ge 9, 3) := by decide +kernel
theorem dX12_flex1_110 : decode cX12_flex1 110 = .ok (.lload 5, 2) := by decide +kernel
theorem dX12_flex1_112 : decode cX12_flex1 112 = .ok (.lneg, 1) := by decide +kernel
theorem dX12_flex1_113 : decode cX12_flex1 113 = .ok (.goto 5, 3) := by decide +kernel
theorem dX12_flex1_116 : decode cX12_flex1 116 = .ok (.lload 5, 2) := by decide +kernel
theorem dX12_flex1_118 : decode cX12_flex1 118 = .ok (.lload 7, 2) := by decide +kernel
theorem dX12_flex1_120 : decode cX12_flex1 120 = .ok (.lconst 0, 1) := by decide +kernel
theorem dX12_flex1_121 : decode cX12_flex1 121 = .ok (.lcmp, 1) := by decide +kernel
theorem dX12_flex1_122 : decode cX12_flex1 122 = .ok (.ifCond .ge 9, 3) := by decide +kernel
theorem dX12_flex1_125 : decode cX12_flex1 125 = .ok (.lload 7, 2) := by decide +kernel
theorem dX12_flex1_127 : decode cX12_flex1 127 = .ok (.lneg, 1) := by decide +kernel
theorem dX12_flex1_128 : decode cX12_flex1 128 = .ok (.goto 5, 3) := by decide +kernel
theorem dX12_flex1_131 : decode cX12_flex1 131 = .ok (.lload 7, 2) := by decide +kernel
theorem dX12_flex1_133 : decode cX12_flex1 133 = .ok (.lcmp, 1) := by decide +kernel
theorem dX12_flex1_134 : decode cX12_flex1 134 = .ok (.ifCond .le 7, 3) := by decide +kernel
theorem dX12_flex1_137 : decode cX12_flex1 137 = .ok (.iconst 1, 1) := by decide +kernel
theorem dX12_flex1_138 : decode cX12_flex1 138 = .ok (.goto 4, 3) := by decide +kernel
theorem dX12_flex1_141 : decode cX12_flex1 141 = .ok (.iconst 0, 1) := by decide +kernel
theorem dX12_flex1_142 : decode cX12_flex1 142 = .ok (.istore 9, 2) := by decide +kernel
theorem dX12_flex1_144 : decode cX12_flex1 144 = .ok (.aload_n 0, 1) := by decide +kernel
theorem dX12_flex1_145 : decode cX12_flex1 145 = .ok (.getfield 316, 3) := by decide +kernel
theorem dX12_flex1_148 : decode cX12_flex1 148 = .ok (.aload_n 0, 1) := by decide +kernel
theorem dX12_flex1_149 : decode cX12_flex1 149 = .ok (.getfield 101, 3) := by decide +kernel
theorem dX12_flex1_152 : decode cX12_flex1 152 = .ok (.bipush 6, 2) := by decide +kernel
theorem dX12_flex1_154 : decode cX12_flex1 154 = .ok (.laload, 1) := by decide +kernel
theorem dX12_flex1_155 : decode cX12_flex1 155 = .ok (.ladd, 1) := by decide +kernel
theorem dX12_flex1_156 : decode cX12_flex1 156 = .ok (.aload_n 0, 1) := by decide +kernel
theorem dX12_flex1_157 : decode cX12_flex1 157 = .ok (.getfield 101, 3) := by decide +kernel
theorem dX12_flex1_160 : decode cX12_flex1 160 = .ok (.bipush 8, 2) := by decide +kernel
theorem dX12_flex1_162 : decode cX12_flex1 162 = .ok (.laload, 1) := by decide +kernel
theorem dX12_flex1_163 : decode cX12_flex1 163 = .ok (.ladd, 1) := by decide +kernel
theorem dX12_flex1_164 : decode cX12_flex1 164 = .ok (.lstore 10, 2) := by decide +kernel
theorem dX12_flex1_166 : decode cX12_flex1 166 = .ok (.aload_n 0, 1) := by decide +kernel
theorem dX12_flex1_167 : decode cX12_flex1 167 = .ok (.getfield 319, 3) := by decide +kernel
theorem dX12_flex1_170 : decode cX12_flex1 170 = .ok (.aload_n 0, 1) := by decide +kernel
theorem dX12_flex1_171 : decode cX12_flex1 171 = .ok (.getfield 101, 3) := by decide +kernel
theorem dX12_flex1_174 : decode cX12_flex1 174 = .ok (.bipush 7, 2) := by decide +kernel
theorem dX12_flex1_176 : decode cX12_flex1 176 = .ok (.laload, 1) := by decide +kernel
theorem dX12_flex1_177 : decode cX12_flex1 177 = .ok (.ladd, 1) := by decide +kernel
theorem dX12_flex1_178 : decode cX12_flex1 178 = .ok (.aload_n 0, 1) := by decide +kernel
theorem dX12_flex1_179 : decode cX12_flex1 179 = .ok (.getfield 101, 3) := by decide +kernel
theorem dX12_flex1_182 : decode cX12_flex1 182 = .ok (.bipush 9, 2) := by decide +kernel
theorem dX12_flex1_184 : decode cX12_flex1 184 = .ok (.laload, 1) := by decide +kernel
theorem dX12_flex1_185 : decode cX12_flex1 185 = .ok (.ladd, 1) := by decide +kernel
theorem dX12_flex1_186 : decode cX12_flex1 186 = .ok (.lstore 12, 2) := by decide +kernel
theorem dX12_flex1_188 : decode cX12_flex1 188 = .ok (.aload_n 0, 1) := by decide +kernel
theorem dX12_flex1_189 : decode cX12_flex1 189 = .ok (.aload_n 0, 1) := by decide +kernel
theorem dX12_flex1_190 : decode cX12_flex1 190 = .ok (.getfield 101, 3) := by decide +kernel
theorem dX12_flex1_193 : decode cX12_flex1 193 = .ok (.bipush 6, 2) := by decide +kernel
theorem dX12_flex1_195 : decode cX12_flex1 195 = .ok (.laload, 1) := by decide +kernel
theorem dX12_flex1_196 : decode cX12_flex1 196 = .ok (.aload_n 0, 1) := by decide +kernel
theorem dX12_flex1_197 : decode cX12_flex1 197 = .ok (.getfield 101, 3) := by decide +kernel
theorem dX12_flex1_200 : decode cX12_flex1 200 = .ok (.bipush 7, 2) := by decide +kernel
theorem dX12_flex1_202 : decode cX12_flex1 202 = .ok (.laload, 1) := by decide +kernel
theorem dX12_flex1_203 : decode cX12_flex1 203 = .ok (.aload_n 0, 1) := by decide +kernel
theorem dX12_flex1_204 : decode cX12_flex1 204 = .ok (.getfield 101, 3) := by decide +kernel
theorem dX12_flex1_207 : decode cX12_flex1 207 = .ok (.bipush 8, 2) := by decide +kernel
theorem dX12_flex1_209 : decode cX12_flex1 209 = .ok (.laload, 1) := by decide +kernel
theorem dX12_flex1_210 : decode cX12_flex1 210 = .ok (.aload_n 0, 1) := by decide +kernel
theorem dX12_flex1_211 : decode cX12_flex1 211 = .ok (.getfield 101, 3) := by decide +kernel
theorem dX12_flex1_214 : decode cX12_flex1 214 = .ok (.bipush 9, 2) := by decide +kernel
theorem dX12_flex1_216 : decode cX12_flex1 216 = .ok (.laload, 1) := by decide +kernel
theorem dX12_flex1_217 : decode cX12_flex1 217 = .ok (.iload 9, 2) := by decide +kernel
theorem dX12_flex1_219 : decode cX12_flex1 219 = .ok (.ifCond .eq 13, 3) := by decide +kernel
theorem dX12_flex1_222 : decode cX12_flex1 222 = .ok (.aload_n 0, 1) := by decide +kernel
theorem dX12_flex1_223 : decode cX12_flex1 223 = .ok (.getfield 101, 3) := by decide +kernel
theorem dX12_flex1_226 : decode cX12_flex1 226 = .ok (.bipush 10, 2) := by decide +kernel
theorem dX12_flex1_228 : decode cX12_flex1 228 = .ok (.laload, 1) := by decide +kernel
theorem dX12_flex1_229 : decode cX12_flex1 229 = .ok (.goto 7, 3) := by decide +kernel
theorem dX12_flex1_232 : decode cX12_flex1 232 = .ok (.lload_n 1, 1) := by decide +kernel
theorem dX12_flex1_233 : decode cX12_flex1 233 = .ok (.lload 10, 2) := by decide +kernel
theorem dX12_flex1_235 : decode cX12_flex1 235 = .ok (.lsub, 1) := by decide +kernel
theorem dX12_flex1_236 : decode cX12_flex1 236 = .ok (.iload 9, 2) := by decide +kernel
theorem dX12_flex1_238 : decode cX12_flex1 238 = .ok (.ifCond .eq 10, 3) := by decide +kernel
theorem dX12_flex1_241 : decode cX12_flex1 241 = .ok (.lload_n 3, 1) := by decide +kernel
theorem dX12_flex1_242 : decode cX12_flex1 242 = .ok (.lload 12, 2) := by decide +kernel
theorem dX12_flex1_244 : decode cX12_flex1 244 = .ok (.lsub, 1) := by decide +kernel
theorem dX12_flex1_245 : decode cX12_flex1 245 = .ok (.goto 10, 3) := by decide +kernel
theorem dX12_flex1_248 : decode cX12_flex1 248 = .ok (.aload_n 0, 1) := by decide +kernel
theorem dX12_flex1_249 : decode cX12_flex1 249 = .ok (.getfield 101, 3) := by decide +kernel
theorem dX12_flex1_252 : decode cX12_flex1 252 = .ok (.bipush 10, 2) := by decide +kernel
theorem dX12_flex1_254 : decode cX12_flex1 254 = .ok (.laload, 1) := by decide +kernel
theorem dX12_flex1_255 : decode cX12_flex1 255 = .ok (.invokevirtual 449, 3) := by decide +kernel
theorem dX12_flex1_258 : decode cX12_flex1 258 = .ok (.ireturn, 1) := by decide +kernel
theorem dX12_flexed_0 : decode cX12_flexed 0 = .ok (.aload_n 0, 1) := by decide +kernel
theorem dX12_flexed_1 : decode cX12_flexed 1 = .ok (.getfield 334, 3) := by decide +kernel
theorem dX12_flexed_4 : decode cX12_flexed 4 = .ok (.ifCond .eq 12, 3) := by decide +kernel
theorem dX12_flexed_7 : decode cX12_flexed 7 = .ok (.aload_n 0, 1) := by decide +kernel
theorem dX12_flexed_8 : decode cX12_flexed 8 = .ok (.getfield 486, 3) := by decide +kernel
theorem dX12_flexed_11 : decode cX12_flexed 11 = .ok (.bipush 7, 2) := by decide +kernel
theorem dX12_flexed_13 : decode cX12_flexed 13 = .ok (.if_icmp .eq 10, 3) := by decide +kernel
theorem dX12_flexed_16 : decode cX12_flexed 16 = .ok (.aload_n 0, 1) := by decide +kernel
theorem dX12_flexed_17 : decode cX12_flexed 17 = .ok (.bipush 9, 2) := by decide +kernel
theorem dX12_flexed_19 : decode cX12_flexed 19 = .ok (.invokevirtual 346, 3) := by decide +kernel
theorem dX12_flexed_22 : decode cX12_flexed 22 = .ok (.ireturn, 1) := by decide +kernel
theorem dX12_flexed_23 : decode cX12_flexed 23 = .ok (.aload_n 0, 1) := by decide +kernel
theorem dX12_flexed_24 : decode cX12_flexed 24 = .ok (.iconst 0, 1) := by decide +kernel
theorem dX12_flexed_25 : decode cX12_flexed 25 = .ok (.putfield 334, 3) := by decide +kernel
theorem dX12_flexed_28 : decode cX12_flexed 28 = .ok (.aload_n 0, 1) := by decide +kernel
theorem dX12_flexed_29 : decode cX12_flexed 29 = .ok (.getfield 101, 3) := by decide +kernel
theorem dX12_flexed_32 : decode cX12_flexed 32 = .ok (.aload_n 0, 1) := by decide +kernel
theorem dX12_flexed_33 : decode cX12_flexed 33 = .ok (.getfield 325, 3) := by decide +kernel
theorem dX12_flexed_36 : decode cX12_flexed 36 = .ok (.iconst 1, 1) := by decide +kernel
theorem dX12_flexed_37 : decode cX12_flexed 37 = .ok (.iadd, 1) := by decide +kernel
theorem dX12_flexed_38 : decode cX12_flexed 38 = .ok (.laload, 1) := by decide +kernel
theorem dX12_flexed_39 : decode cX12_flexed 39 = .ok (.lstore_n 1, 1) := by decide +kernel
theorem dX12_flexed_40 : decode cX12_flexed 40 = .ok (.aload_n 0, 1) := by decide +kernel
theorem dX12_flexed_41 : decode cX12_flexed 41 = .ok (.getfield 101, 3) := by decide +kernel
theorem dX12_flexed_44 : decode cX12_flexed 44 = .ok (.aload_n 0, 1) := by decide +kernel
theorem dX12_flexed_45 : decode cX12_flexed 45 = .ok (.getfield 325, 3) := by decide +kernel
theorem dX12_flexed_48 : decode cX12_flexed 48 = .ok (.iconst 2, 1) := by decide +kernel
theorem dX12_flexed_49 : decode cX12_flexed 49 = .ok (.iadd, 1) := by decide +kernel
theorem dX12_flexed_50 : decode cX12_flexed 50 = .ok (.laload, 1) := by decide +kernel
theorem dX12_flexed_51 : decode cX12_flexed 51 = .ok (.lstore_n 3, 1) := by decide +kernel
theorem dX12_flexed_52 : decode cX12_flexed 52 = .ok (.iconst 0, 1) := by decide +kernel
theorem dX12_flexed_53 : decode cX12_flexed 53 = .ok (.istore 5, 2) := by decide +kernel
theorem dX12_flexed_55 : decode cX12_flexed 55 = .ok (.iload 5, 2) := by decide +kernel
theorem dX12_flexed_57 : decode cX12_flexed 57 = .ok (.iconst 2, 1) := by decide +kernel
theorem dX12_flexed_58 : decode cX12_flexed 58 = .ok (.if_icmp .ge 87, 3) := by decide +kernel
theorem dX12_flexed_61 : decode cX12_flexed 61 = .ok (.aload_n 0, 1) := by decide +kernel
theorem dX12_flexed_62 : decode cX12_flexed 62 = .ok (.iconst 2, 1) := by decide +kernel
theorem dX12_flexed_63 : decode cX12_flexed 63 = .ok (.invokevirtual 367, 3) := by decide +kernel
theorem dX12_flexed_66 : decode cX12_flexed 66 = .ok (.ifCond .ne 5, 3) := by decide +kernel
theorem dX12_flexed_69 : decode cX12_flexed 69 = .ok (.iconst 0, 1) := by decide +kernel
theorem dX12_flexed_70 : decode cX12_flexed 70 = .ok (.ireturn, 1) := by decide +kernel
theorem dX12_flexed_71 : decode cX12_flexed 71 = .ok (.aload_n 0, 1) := by decide +kernel
theorem dX12_flexed_72 : decode cX12_flexed 72 = .ok (.iconst 1, 1) := by decide +kernel
theorem dX12_flexed_73 : decode cX12_flexed 73 = .ok (.putfield 322, 3) := by decide +kernel
theorem dX12_flexed_76 : decode cX12_flexed 76 = .ok (.iconst 0, 1) := by decide +kernel
theorem dX12_flexed_77 : decode cX12_flexed 77 = .ok (.istore 6, 2) := by decide +kernel
theorem dX12_flexed_79 : decode cX12_flexed 79 = .ok (.iload 6, 2) := by decide +kernel
theorem dX12_flexed_81 : decode cX12_flexed 81 = .ok (.iconst 3, 1) := by decide +kernel
theorem dX12_flexed_82 : decode cX12_flexed 82 = .ok (.if_icmp .ge 57, 3) := by decide +kernel
theorem dX12_flexed_85 : decode cX12_flexed 85 = .ok (.aload_n 0, 1) := by decide +kernel
theorem dX12_flexed_86 : decode cX12_flexed 86 = .ok (.aload_n 0, 1) := by decide +kernel
theorem dX12_flexed_87 : decode cX12_flexed 87 = .ok (.getfield 116, 3) := by decide +kernel
theorem dX12_flexed_90 : decode cX12_flexed 90 = .ok (.iconst 2, 1) := by decide +kernel
theorem dX12_flexed_91 : decode cX12_flexed 91 = .ok (.iconst 1, 1) := by decide +kernel
theorem dX12_flexed_92 : decode cX12_flexed 92 = .ok (.iconst 3, 1) := by decide +kernel
theorem dX12_flexed_93 : decode cX12_flexed 93 = .ok (.iload 5, 2) := by decide +kernel
theorem dX12_flexed_95 : decode cX12_flexed 95 = .ok (.imul, 1) := by decide +kernel
theorem dX12_flexed_96 : decode cX12_flexed 96 = .ok (.iadd, 1) := by decide +kernel
theorem dX12_flexed_97 : decode cX12_flexed 97 = .ok (.iload 6, 2) := by decide +kernel
theorem dX12_flexed_99 : decode cX12_flexed 99 = .ok (.iadd, 1) := by decide +kernel
theorem dX12_flexed_100 : decode cX12_flexed 100 = .ok (.imul, 1) := by decide +kernel
theorem dX12_flexed_101 : decode cX12_flexed 101 = .ok (.laload, 1) := by decide +kernel
theorem dX12_flexed_102 : decode cX12_flexed 102 = .ok (.putfield 316, 3) := by decide +kernel
theorem dX12_flexed_105 : decode cX12_flexed 105 = .ok (.aload_n 0, 1) := by decide +kernel
theorem dX12_flexed_106 : decode cX12_flexed 106 = .ok (.aload_n 0, 1) := by decide +kernel
theorem dX12_flexed_107 : decode cX12_flexed 107 = .ok (.getfield 116, 3) := by decide +kernel
theorem dX12_flexed_110 : decode cX12_flexed 110 = .ok (.iconst 2, 1) := by decide +kernel
theorem dX12_flexed_111 : decode cX12_flexed 111 = .ok (.iconst 1, 1) := by decide +kernel
theorem dX12_flexed_112 : decode cX12_flexed 112 = .ok (.iconst 3, 1) := by decide +kernel
theorem dX12_flexed_113 : decode cX12_flexed 113 = .ok (.iload 5, 2) := by decide +kernel
theorem dX12_flexed_115 : decode cX12_flexed 115 = .ok (.imul, 1) := by decide +kernel
theorem dX12_flexed_116 : decode cX12_flexed 116 = .ok (.iadd, 1) := by decide +kernel
theorem dX12_flexed_117 : decode cX12_flexed 117 = .ok (.iload 6, 2) := by decide +kernel
theorem dX12_flexed_119 : decode cX12_flexed 119 = .ok (.iadd, 1) := by decide +kernel
theorem dX12_flexed_120 : decode cX12_flexed 120 = .ok (.imul, 1) := by decide +kernel
theorem dX12_flexed_121 : decode cX12_flexed 121 = .ok (.iconst 1, 1) := by decide +kernel
theorem dX12_flexed_122 : decode cX12_flexed 122 = .ok (.iadd, 1) := by decide +kernel
theorem dX12_flexed_123 : decode cX12_flexed 123 = .ok (.laload, 1) := by decide +kernel
theorem dX12_flexed_124 : decode cX12_flexed 124 = .ok (.putfield 319, 3) := by decide +kernel
theorem dX12_flexed_127 : decode cX12_flexed 127 = .ok (.aload_n 0, 1) := by decide +kernel
theorem dX12_flexed_128 : decode cX12_flexed 128 = .ok (.iload 6, 2) := by decide +kernel
theorem dX12_flexed_130 : decode cX12_flexed 130 = .ok (.invokevirtual 370, 3) := by decide +kernel
theorem dX12_flexed_133 : decode cX12_flexed 133 = .ok (.iinc 6 1, 3) := by decide +kernel
theorem dX12_flexed_136 : decode cX12_flexed 136 = .ok (.goto (-57), 3) := by decide +kernel
theorem dX12_flexed_139 : decode cX12_flexed 139 = .ok (.iinc 5 1, 3) := by decide +kernel
theorem dX12_flexed_142 : decode cX12_flexed 142 = .ok (.goto (-87), 3) := by decide +kernel
theorem dX12_flexed_145 : decode cX12_flexed 145 = .ok (.aload_n 0, 1) := by decide +kernel
theorem dX12_flexed_146 : decode cX12_flexed 146 = .ok (.getfield 119, 3) := by decide +kernel
theorem dX12_flexed_149 : decode cX12_flexed 149 = .ok (.iconst 0, 1) := by decide +kernel
theorem dX12_flexed_150 : decode cX12_flexed 150 = .ok (.lload_n 3, 1) := by decide +kernel
theorem dX12_flexed_151 : decode cX12_flexed 151 = .ok (.lastore, 1) := by decide +kernel
theorem dX12_flexed_152 : decode cX12_flexed 152 = .ok (.aload_n 0, 1) := by decide +kernel
theorem dX12_flexed_153 : decode cX12_flexed 153 = .ok (.getfield 119, 3) := by decide +kernel
theorem dX12_flexed_156 : decode cX12_flexed 156 = .ok (.iconst 1, 1) := by decide +kernel
theorem dX12_flexed_157 : decode cX12_flexed 157 = .ok (.lload_n 1, 1) := by decide +kernel
theorem dX12_flexed_158 : decode cX12_flexed 158 = .ok (.lastore, 1) := by decide +kernel
theorem dX12_flexed_159 : decode cX12_flexed 159 = .ok (.aload_n 0, 1) := by decide +kernel
theorem dX12_flexed_160 : decode cX12_flexed 160 = .ok (.iconst 2, 1) := by decide +kernel
theorem dX12_flexed_161 : decode cX12_flexed 161 = .ok (.putfield 337, 3) := by decide +kernel
theorem dX12_flexed_164 : decode cX12_flexed 164 = .ok (.iconst 1, 1) := by decide +kernel
theorem dX12_flexed_165 : decode cX12_flexed 165 = .ok (.ireturn, 1) := by decide +kernel
theorem dX12_font_0 : decode cX12_font 0 = .ok (.aload_n 0, 1) := by decide +kernel
theorem dX12_font_1 : decode cX12_font 1 = .ok (.getfield 16, 3) := by decide +kernel
theorem dX12_font_4 : decode cX12_font 4 = .ok (.ifCond .ge 5, 3) := by decide +kernel
theorem dX12_font_7 : decode cX12_font 7 = .ok (.iconst (-1), 1) := by decide +kernel
theorem dX12_font_8 : decode cX12_font 8 = .ok (.ireturn, 1) := by decide +kernel
theorem dX12_font_9 : decode cX12_font 9 = .ok (.iload_n 1, 1) := by decide +kernel
theorem dX12_font_10 : decode cX12_font 10 = .ok (.tableswitch 74 0 5 #[38, 43, 50, 57, 64, 69], 38) := by decide +kernel
theorem dX12_font_48 : decode cX12_font 48 = .ok (.aload_n 0, 1) := by decide +kernel
theorem dX12_font_49 : decode cX12_font 49 = .ok (.getfield 16, 3) := by decide +kernel
theorem dX12_font_52 : decode cX12_font 52 = .ok (.ireturn, 1) := by decide +kernel
theorem dX12_font_53 : decode cX12_font 53 = .ok (.aload_n 0, 1) := by decide +kernel
theorem dX12_font_54 : decode cX12_font 54 = .ok (.getfield 20, 3) := by decide +kernel
theorem dX12_font_57 : decode cX12_font 57 = .ok (.iconst 0, 1) := by decide +kernel
theorem dX12_font_58 : decode cX12_font 58 = .ok (.iaload, 1) := by decide +kernel
theorem dX12_font_59 : decode cX12_font 59 = .ok (.ireturn, 1) := by decide +kernel
theorem dX12_font_60 : decode cX12_font 60 = .ok (.aload_n 0, 1) := by decide +kernel
theorem dX12_font_61 : decode cX12_font 61 = .ok (.getfield 20, 3) := by decide +kernel
theorem dX12_font_64 : decode cX12_font 64 = .ok (.iconst 1, 1) := by decide +kernel
theorem dX12_font_65 : decode cX12_font 65 = .ok (.iaload, 1) := by decide +kernel
theorem dX12_font_66 : decode cX12_font 66 = .ok (.ireturn, 1) := by decide +kernel
theorem dX12_font_67 : decode cX12_font 67 = .ok (.aload_n 0, 1) := by decide +kernel
theorem dX12_font_68 : decode cX12_font 68 = .ok (.getfield 20, 3) := by decide +kernel
theorem dX12_font_71 : decode cX12_font 71 = .ok (.iconst 2, 1) := by decide +kernel
theorem dX12_font_72 : decode cX12_font 72 = .ok (.iaload, 1) := by decide +kernel
theorem dX12_font_73 : decode cX12_font 73 = .ok (.ireturn, 1) := by decide +kernel
theorem dX12_font_74 : decode cX12_font 74 = .ok (.aload_n 0, 1) := by decide +kernel
theorem dX12_font_75 : decode cX12_font 75 = .ok (.getfield 165, 3) := by decide +kernel
theorem dX12_font_78 : decode cX12_font 78 = .ok (.ireturn, 1) := by decide +kernel
theorem dX12_font_79 : decode cX12_font 79 = .ok (.aload_n 0, 1) := by decide +kernel
theorem dX12_font_80 : decode cX12_font 80 = .ok (.getfield 168, 3) := by decide +kernel
theorem dX12_font_83 : decode cX12_font 83 = .ok (.ireturn, 1) := by decide +kernel
theorem dX12_font_84 : decode cX12_font 84 = .ok (.iconst (-1), 1) := by decide +kernel
theorem dX12_font_85 : decode cX12_font 85 = .ok (.ireturn, 1) := by decide +kernel
theorem dX12_four_0 : decode cX12_four 0 = .ok (.bipush 24, 2) := by decide +kernel
theorem dX12_four_2 : decode cX12_four 2 = .ok (.istore_n 2, 1) := by decide +kernel
theorem dX12_four_3 : decode cX12_four 3 = .ok (.iload_n 2, 1) := by decide +kernel
theorem dX12_four_4 : decode cX12_four 4 = .ok (.ifCond .lt 32, 3) := by decide +kernel
theorem dX12_four_7 : decode cX12_four 7 = .ok (.aload_n 0, 1) := by decide +kernel
theorem dX12_four_8 : decode cX12_four 8 = .ok (.getfield 7, 3) := by decide +kernel
theorem dX12_four_11 : decode cX12_four 11 = .ok (.aload_n 0, 1) := by decide +kernel
theorem dX12_four_12 : decode cX12_four 12 = .ok (.getfield 125, 3) := by decide +kernel
theorem dX12_four_15 : decode cX12_four 15 = .ok (.iload_n 1, 1) := by decide +kernel
theorem dX12_four_16 : decode cX12_four 16 = .ok (.iload_n 2, 1) := by decide +kernel
theorem dX12_four_17 : decode cX12_four 17 = .ok (.ishr, 1) := by decide +kernel
theorem dX12_four_18 : decode cX12_four 18 = .ok (.i2b, 1) := by decide +kernel
theorem dX12_four_19 : decode cX12_four 19 = .ok (.bastore, 1) := by decide +kernel
theorem dX12_four_20 : decode cX12_four 20 = .ok (.aload_n 0, 1) := by decide +kernel
theorem dX12_four_21 : decode cX12_four 21 = .ok (.dup, 1) := by decide +kernel
theorem dX12_four_22 : decode cX12_four 22 = .ok (.getfield 125, 3) := by decide +kernel
theorem dX12_four_25 : decode cX12_four 25 = .ok (.iconst 1, 1) := by decide +kernel
theorem dX12_four_26 : decode cX12_four 26 = .ok (.iadd, 1) := by decide +kernel
theorem dX12_four_27 : decode cX12_four 27 = .ok (.putfield 125, 3) := by decide +kernel
theorem dX12_four_30 : decode cX12_four 30 = .ok (.iinc 2 (-8), 3) := by decide +kernel
theorem dX12_four_33 : decode cX12_four 33 = .ok (.goto (-30), 3) := by decide +kernel
theorem dX12_four_36 : decode cX12_four 36 = .ok (.return_, 1) := by decide +kernel
theorem dX12_goes_0 : decode cX12_goes 0 = .ok (.aload_n 0, 1) := by decide +kernel
theorem dX12_goes_1 : decode cX12_goes 1 = .ok (.getfield 334, 3) := by decide +kernel
theorem dX12_goes_4 : decode cX12_goes 4 = .ok (.ifCond .ne 10, 3) := by decide +kernel
theorem dX12_goes_7 : decode cX12_goes 7 = .ok (.aload_n 0, 1) := by decide +kernel
theorem dX12_goes_8 : decode cX12_goes 8 = .ok (.lload_n 1, 1) := by decide +kernel
theorem dX12_goes_9 : decode cX12_goes 9 = .ok (.lload_n 3, 1) := by decide +kernel
theorem dX12_goes_10 : decode cX12_goes 10 = .ok (.invokevirtual 405, 3) := by decide +kernel
theorem dX12_goes_13 : decode cX12_goes 13 = .ok (.ireturn, 1) := by decide +kernel
theorem dX12_goes_14 : decode cX12_goes 14 = .ok (.aload_n 0, 1) := by decide +kernel
theorem dX12_goes_15 : decode cX12_goes 15 = .ok (.dup, 1) := by decide +kernel
theorem dX12_goes_16 : decode cX12_goes 16 = .ok (.getfield 316, 3) := by decide +kernel
theorem dX12_goes_19 : decode cX12_goes 19 = .ok (.lload_n 1, 1) := by decide +kernel
theorem dX12_goes_20 : decode cX12_goes 20 = .ok (.ladd, 1) := by decide +kernel
theorem dX12_goes_21 : decode cX12_goes 21 = .ok (.putfield 316, 3) := by decide +kernel
theorem dX12_goes_24 : decode cX12_goes 24 = .ok (.aload_n 0, 1) := by decide +kernel
theorem dX12_goes_25 : decode cX12_goes 25 = .ok (.dup, 1) := by decide +kernel
theorem dX12_goes_26 : decode cX12_goes 26 = .ok (.getfield 319, 3) := by decide +kernel
theorem dX12_goes_29 : decode cX12_goes 29 = .ok (.lload_n 3, 1) := by decide +kernel
theorem dX12_goes_30 : decode cX12_goes 30 = .ok (.ladd, 1) := by decide +kernel
theorem dX12_goes_31 : decode cX12_goes 31 = .ok (.putfield 319, 3) := by decide +kernel
theorem dX12_goes_34 : decode cX12_goes 34 = .ok (.iconst 1, 1) := by decide +kernel
theorem dX12_goes_35 : decode cX12_goes 35 = .ok (.ireturn, 1) := by decide +kernel
theorem dX12_has_0 : decode cX12_has 0 = .ok (.aload_n 0, 1) := by decide +kernel
theorem dX12_has_1 : decode cX12_has 1 = .ok (.getfield 325, 3) := by decide +kernel
theorem dX12_has_4 : decode cX12_has 4 = .ok (.iload_n 1, 1) := by decide +kernel
theorem dX12_has_5 : decode cX12_has 5 = .ok (.if_icmp .ge 11, 3) := by decide +kernel
theorem dX12_has_8 : decode cX12_has 8 = .ok (.aload_n 0, 1) := by decide +kernel
theorem dX12_has_9 : decode cX12_has 9 = .ok (.iconst 2, 1) := by decide +kernel
theorem dX12_has_10 : decode cX12_has 10 = .ok (.invokevirtual 346, 3) := by decide +kernel
theorem dX12_has_13 : decode cX12_has 13 = .ok (.ifCond .eq 7, 3) := by decide +kernel
theorem dX12_has_16 : decode cX12_has 16 = .ok (.iconst 1, 1) := by decide +kernel
theorem dX12_has_17 : decode cX12_has 17 = .ok (.goto 4, 3) := by decide +kernel
theorem dX12_has_20 : decode cX12_has 20 = .ok (.iconst 0, 1) := by decide +kernel
theorem dX12_has_21 : decode cX12_has 21 = .ok (.ireturn, 1) := by decide +kernel
theorem dX12_hflex_0 : decode cX12_hflex 0 = .ok (.aload_n 0, 1) := by decide +kernel
theorem dX12_hflex_1 : decode cX12_hflex 1 = .ok (.aload_n 0, 1) := by decide +kernel
theorem dX12_hflex_2 : decode cX12_hflex 2 = .ok (.getfield 101, 3) := by decide +kernel
theorem dX12_hflex_5 : decode cX12_hflex 5 = .ok (.iconst 0, 1) := by decide +kernel
theorem dX12_hflex_6 : decode cX12_hflex 6 = .ok (.laload, 1) := by decide +kernel
theorem dX12_hflex_7 : decode cX12_hflex 7 = .ok (.lconst 0, 1) := by decide +kernel
theorem dX12_hflex_8 : decode cX12_hflex 8 = .ok (.aload_n 0, 1) := by decide +kernel
theorem dX12_hflex_9 : decode cX12_hflex 9 = .ok (.getfield 101, 3) := by decide +kernel
theorem dX12_hflex_12 : decode cX12_hflex 12 = .ok (.iconst 1, 1) := by decide +kernel
theorem dX12_hflex_13 : decode cX12_hflex 13 = .ok (.laload, 1) := by decide +kernel
theorem dX12_hflex_14 : decode cX12_hflex 14 = .ok (.aload_n 0, 1) := by decide +kernel
theorem dX12_hflex_15 : decode cX12_hflex 15 = .ok (.getfield 101, 3) := by decide +kernel
theorem dX12_hflex_18 : decode cX12_hflex 18 = .ok (.iconst 2, 1) := by decide +kernel
theorem dX12_hflex_19 : decode cX12_hflex 19 = .ok (.laload, 1) := by decide +kernel
theorem dX12_hflex_20 : decode cX12_hflex 20 = .ok (.aload_n 0, 1) := by decide +kernel
theorem dX12_hflex_21 : decode cX12_hflex 21 = .ok (.getfield 101, 3) := by decide +kernel
theorem dX12_hflex_24 : decode cX12_hflex 24 = .ok (.iconst 3, 1) := by decide +kernel
theorem dX12_hflex_25 : decode cX12_hflex 25 = .ok (.laload, 1) := by decide +kernel
theorem dX12_hflex_26 : decode cX12_hflex 26 = .ok (.lconst 0, 1) := by decide +kernel
theorem dX12_hflex_27 : decode cX12_hflex 27 = .ok (.invokevirtual 449, 3) := by decide +kernel
theorem dX12_hflex_30 : decode cX12_hflex 30 = .ok (.ifCond .eq 42, 3) := by decide +kernel
theorem dX12_hflex_33 : decode cX12_hflex 33 = .ok (.aload_n 0, 1) := by decide +kernel
theorem dX12_hflex_34 : decode cX12_hflex 34 = .ok (.aload_n 0, 1) := by decide +kernel
theorem dX12_hflex_35 : decode cX12_hflex 35 = .ok (.getfield 101, 3) := by decide +kernel
theorem dX12_hflex_38 : decode cX12_hflex 38 = .ok (.iconst 4, 1) := by decide +kernel
theorem dX12_hflex_39 : decode cX12_hflex 39 = .ok (.laload, 1) := by decide +kernel
theorem dX12_hflex_40 : decode cX12_hflex 40 = .ok (.lconst 0, 1) := by decide +kernel
theorem dX12_hflex_41 : decode cX12_hflex 41 = .ok (.aload_n 0, 1) := by decide +kernel
theorem dX12_hflex_42 : decode cX12_hflex 42 = .ok (.getfield 101, 3) := by decide +kernel
theorem dX12_hflex_45 : decode cX12_hflex 45 = .ok (.iconst 5, 1) := by decide +kernel
theorem dX12_hflex_46 : decode cX12_hflex 46 = .ok (.laload, 1) := by decide +kernel
theorem dX12_hflex_47 : decode cX12_hflex 47 = .ok (.aload_n 0, 1) := by decide +kernel
theorem dX12_hflex_48 : decode cX12_hflex 48 = .ok (.getfield 101, 3) := by decide +kernel
theorem dX12_hflex_51 : decode cX12_hflex 51 = .ok (.iconst 2, 1) := by decide +kernel
theorem dX12_hflex_52 : decode cX12_hflex 52 = .ok (.laload, 1) := by decide +kernel
theorem dX12_hflex_53 : decode cX12_hflex 53 = .ok (.lneg, 1) := by decide +kernel
theorem dX12_hflex_54 : decode cX12_hflex 54 = .ok (.aload_n 0, 1) := by decide +kernel
theorem dX12_hflex_55 : decode cX12_hflex 55 = .ok (.getfield 101, 3) := by decide +kernel
theorem dX12_hflex_58 : decode cX12_hflex 58 = .ok (.bipush 6, 2) := by decide +kernel
theorem dX12_hflex_60 : decode cX12_hflex 60 = .ok (.laload, 1) := by decide +kernel
theorem dX12_hflex_61 : decode cX12_hflex 61 = .ok (.lconst 0, 1) := by decide +kernel
theorem dX12_hflex_62 : decode cX12_hflex 62 = .ok (.invokevirtual 449, 3) := by decide +kernel
theorem dX12_hflex_65 : decode cX12_hflex 65 = .ok (.ifCond .eq 7, 3) := by decide +kernel
theorem dX12_hflex_68 : decode cX12_hflex 68 = .ok (.iconst 1, 1) := by decide +kernel
theorem dX12_hflex_69 : decode cX12_hflex 69 = .ok (.goto 4, 3) := by decide +kernel
theorem dX12_hflex_72 : decode cX12_hflex 72 = .ok (.iconst 0, 1) := by decide +kernel
theorem dX12_hflex_73 : decode cX12_hflex 73 = .ok (.ireturn, 1) := by decide +kernel
theorem dX12_hflex1_0 : decode cX12_hflex1 0 = .ok (.aload_n 0, 1) := by decide +kernel
theorem dX12_hflex1_1 : decode cX12_hflex1 1 = .ok (.getfield 319, 3) := by decide +kernel
theorem dX12_hflex1_4 : decode cX12_hflex1 4 = .ok (.lstore_n 1, 1) := by decide +kernel
theorem dX12_hflex1_5 : decode cX12_hflex1 5 = .ok (.aload_n 0, 1) := by decide +kernel
theorem dX12_hflex1_6 : decode cX12_hflex1 6 = .ok (.aload_n 0, 1) := by decide +kernel
theorem dX12_hflex1_7 : decode cX12_hflex1 7 = .ok (.getfield 101, 3) := by decide +kernel
theorem dX12_hflex1_10 : decode cX12_hflex1 10 = .ok (.iconst 0, 1) := by decide +kernel
theorem dX12_hflex1_11 : decode cX12_hflex1 11 = .ok (.laload, 1) := by decide +kernel
theorem dX12_hflex1_12 : decode cX12_hflex1 12 = .ok (.aload_n 0, 1) := by decide +kernel
theorem dX12_hflex1_13 : decode cX12_hflex1 13 = .ok (.getfield 101, 3) := by decide +kernel
theorem dX12_hflex1_16 : decode cX12_hflex1 16 = .ok (.iconst 1, 1) := by decide +kernel
theorem dX12_hflex1_17 : decode cX12_hflex1 17 = .ok (.laload, 1) := by decide +kernel
theorem dX12_hflex1_18 : decode cX12_hflex1 18 = .ok (.aload_n 0, 1) := by decide +kernel
theorem dX12_hflex1_19 : decode cX12_hflex1 19 = .ok (.getfield 101, 3) := by decide +kernel
theorem dX12_hflex1_22 : decode cX12_hflex1 22 = .ok (.iconst 2, 1) := by decide +kernel
theorem dX12_hflex1_23 : decode cX12_hflex1 23 = .ok (.laload, 1) := by decide +kernel
theorem dX12_hflex1_24 : decode cX12_hflex1 24 = .ok (.aload_n 0, 1) := by decide +kernel
theorem dX12_hflex1_25 : decode cX12_hflex1 25 = .ok (.getfield 101, 3) := by decide +kernel
theorem dX12_hflex1_28 : decode cX12_hflex1 28 = .ok (.iconst 3, 1) := by decide +kernel
theorem dX12_hflex1_29 : decode cX12_hflex1 29 = .ok (.laload, 1) := by decide +kernel
theorem dX12_hflex1_30 : decode cX12_hflex1 30 = .ok (.aload_n 0, 1) := by decide +kernel
theorem dX12_hflex1_31 : decode cX12_hflex1 31 = .ok (.getfield 101, 3) := by decide +kernel
theorem dX12_hflex1_34 : decode cX12_hflex1 34 = .ok (.iconst 4, 1) := by decide +kernel
theorem dX12_hflex1_35 : decode cX12_hflex1 35 = .ok (.laload, 1) := by decide +kernel
theorem dX12_hflex1_36 : decode cX12_hflex1 36 = .ok (.lconst 0, 1) := by decide +kernel
theorem dX12_hflex1_37 : decode cX12_hflex1 37 = .ok (.invokevirtual 449, 3) := by decide +kernel
theorem dX12_hflex1_40 : decode cX12_hflex1 40 = .ok (.ifCond .ne 5, 3) := by decide +kernel
theorem dX12_hflex1_43 : decode cX12_hflex1 43 = .ok (.iconst 0, 1) := by decide +kernel
theorem dX12_hflex1_44 : decode cX12_hflex1 44 = .ok (.ireturn, 1) := by decide +kernel
theorem dX12_hflex1_45 : decode cX12_hflex1 45 = .ok (.aload_n 0, 1) := by decide +kernel
theorem dX12_hflex1_46 : decode cX12_hflex1 46 = .ok (.aload_n 0, 1) := by decide +kernel
theorem dX12_hflex1_47 : decode cX12_hflex1 47 = .ok (.getfield 101, 3) := by decide +kernel
theorem dX12_hflex1_50 : decode cX12_hflex1 50 = .ok (.iconst 5, 1) := by decide +kernel
theorem dX12_hflex1_51 : decode cX12_hflex1 51 = .ok (.laload, 1) := by decide +kernel
theorem dX12_hflex1_52 : decode cX12_hflex1 52 = .ok (.lconst 0, 1) := by decide +kernel
theorem dX12_hflex1_53 : decode cX12_hflex1 53 = .ok (.aload_n 0, 1) := by decide +kernel
theorem dX12_hflex1_54 : decode cX12_hflex1 54 = .ok (.getfield 101, 3) := by decide +kernel
theorem dX12_hflex1_57 : decode cX12_hflex1 57 = .ok (.bipush 6, 2) := by decide +kernel
theorem dX12_hflex1_59 : decode cX12_hflex1 59 = .ok (.laload, 1) := by decide +kernel
theorem dX12_hflex1_60 : decode cX12_hflex1 60 = .ok (.aload_n 0, 1) := by decide +kernel
theorem dX12_hflex1_61 : decode cX12_hflex1 61 = .ok (.getfield 101, 3) := by decide +kernel
theorem dX12_hflex1_64 : decode cX12_hflex1 64 = .ok (.bipush 7, 2) := by decide +kernel
theorem dX12_hflex1_66 : decode cX12_hflex1 66 = .ok (.laload, 1) := by decide +kernel
theorem dX12_hflex1_67 : decode cX12_hflex1 67 = .ok (.aload_n 0, 1) := by decide +kernel
theorem dX12_hflex1_68 : decode cX12_hflex1 68 = .ok (.getfield 101, 3) := by decide +kernel
theorem dX12_hflex1_71 : decode cX12_hflex1 71 = .ok (.bipush 8, 2) := by decide +kernel
theorem dX12_hflex1_73 : decode cX12_hflex1 73 = .ok (.laload, 1) := by decide +kernel
theorem dX12_hflex1_74 : decode cX12_hflex1 74 = .ok (.lload_n 1, 1) := by decide +kernel
theorem dX12_hflex1_75 : decode cX12_hflex1 75 = .ok (.aload_n 0, 1) := by decide +kernel
theorem dX12_hflex1_76 : decode cX12_hflex1 76 = .ok (.getfield 319, 3) := by decide +kernel
theorem dX12_hflex1_79 : decode cX12_hflex1 79 = .ok (.aload_n 0, 1) := by decide +kernel
theorem dX12_hflex1_80 : decode cX12_hflex1 80 = .ok (.getfield 101, 3) := by decide +kernel
theorem dX12_hflex1_83 : decode cX12_hflex1 83 = .ok (.bipush 7, 2) := by decide +kernel
theorem dX12_hflex1_85 : decode cX12_hflex1 85 = .ok (.laload, 1) := by decide +kernel
theorem dX12_hflex1_86 : decode cX12_hflex1 86 = .ok (.ladd, 1) := by decide +kernel
theorem dX12_hflex1_87 : decode cX12_hflex1 87 = .ok (.lsub, 1) := by decide +kernel
theorem dX12_hflex1_88 : decode cX12_hflex1 88 = .ok (.invokevirtual 449, 3) := by decide +kernel
theorem dX12_hflex1_91 : decode cX12_hflex1 91 = .ok (.ireturn, 1) := by decide +kernel
theorem dX12_index_0 : decode cX12_index 0 = .ok (.aload_n 0, 1) := by decide +kernel
theorem dX12_index_1 : decode cX12_index 1 = .ok (.aload_n 0, 1) := by decide +kernel
theorem dX12_index_2 : decode cX12_index 2 = .ok (.iconst 2, 1) := by decide +kernel
theorem dX12_index_3 : decode cX12_index 3 = .ok (.invokevirtual 191, 3) := by decide +kernel
theorem dX12_index_6 : decode cX12_index 6 = .ok (.l2i, 1) := by decide +kernel
theorem dX12_index_7 : decode cX12_index 7 = .ok (.putfield 195, 3) := by decide +kernel
theorem dX12_index_10 : decode cX12_index 10 = .ok (.aload_n 0, 1) := by decide +kernel
theorem dX12_index_11 : decode cX12_index 11 = .ok (.getfield 147, 3) := by decide +kernel
theorem dX12_index_14 : decode cX12_index 14 = .ok (.ifCond .le 5, 3) := by decide +kernel
theorem dX12_index_17 : decode cX12_index 17 = .ok (.iconst 0, 1) := by decide +kernel
theorem dX12_index_18 : decode cX12_index 18 = .ok (.ireturn, 1) := by decide +kernel
theorem dX12_index_19 : decode cX12_index 19 = .ok (.aload_n 0, 1) := by decide +kernel
theorem dX12_index_20 : decode cX12_index 20 = .ok (.getfield 195, 3) := by decide +kernel
theorem dX12_index_23 : decode cX12_index 23 = .ok (.iload_n 1, 1) := by decide +kernel
theorem dX12_index_24 : decode cX12_index 24 = .ok (.if_icmp .lt 11, 3) := by decide +kernel
theorem dX12_index_27 : decode cX12_index 27 = .ok (.aload_n 0, 1) := by decide +kernel
theorem dX12_index_28 : decode cX12_index 28 = .ok (.getfield 195, 3) := by decide +kernel
theorem dX12_index_31 : decode cX12_index 31 = .ok (.iload_n 2, 1) := by decide +kernel
theorem dX12_index_32 : decode cX12_index 32 = .ok (.if_icmp .le 9, 3) := by decide +kernel
theorem dX12_index_35 : decode cX12_index 35 = .ok (.aload_n 0, 1) := by decide +kernel
theorem dX12_index_36 : decode cX12_index 36 = .ok (.iconst 2, 1) := by decide +kernel
theorem dX12_index_37 : decode cX12_index 37 = .ok (.invokevirtual 179, 3) := by decide +kernel
theorem dX12_index_40 : decode cX12_index 40 = .ok (.ireturn, 1) := by decide +kernel
theorem dX12_index_41 : decode cX12_index 41 = .ok (.aload_n 0, 1) := by decide +kernel
theorem dX12_index_42 : decode cX12_index 42 = .ok (.getfield 195, 3) := by decide +kernel
theorem dX12_index_45 : decode cX12_index 45 = .ok (.ifCond .ne 5, 3) := by decide +kernel
theorem dX12_index_48 : decode cX12_index 48 = .ok (.iconst 1, 1) := by decide +kernel
theorem dX12_index_49 : decode cX12_index 49 = .ok (.ireturn, 1) := by decide +kernel
theorem dX12_index_50 : decode cX12_index 50 = .ok (.aload_n 0, 1) := by decide +kernel
theorem dX12_index_51 : decode cX12_index 51 = .ok (.aload_n 0, 1) := by decide +kernel
theorem dX12_index_52 : decode cX12_index 52 = .ok (.iconst 1, 1) := by decide +kernel
theorem dX12_index_53 : decode cX12_index 53 = .ok (.invokevirtual 191, 3) := by decide +kernel
theorem dX12_index_56 : decode cX12_index 56 = .ok (.l2i, 1) := by decide +kernel
theorem dX12_index_57 : decode cX12_index 57 = .ok (.putfield 185, 3) := by decide +kernel
theorem dX12_index_60 : decode cX12_index 60 = .ok (.aload_n 0, 1) := by decide +kernel
theorem dX12_index_61 : decode cX12_index 61 = .ok (.getfield 147, 3) := by decide +kernel
theorem dX12_index_64 : decode cX12_index 64 = .ok (.ifCond .le 5, 3) := by decide +kernel
theorem dX12_index_67 : decode cX12_index 67 = .ok (.iconst 0, 1) := by decide +kernel
theorem dX12_index_68 : decode cX12_index 68 = .ok (.ireturn, 1) := by decide +kernel
theorem dX12_index_69 : decode cX12_index 69 = .ok (.aload_n 0, 1) := by decide +kernel
theorem dX12_index_70 : decode cX12_index 70 = .ok (.getfield 185, 3) := by decide +kernel
theorem dX12_index_73 : decode cX12_index 73 = .ok (.iconst 1, 1) := by decide +kernel
theorem dX12_index_74 : decode cX12_index 74 = .ok (.if_icmp .lt 11, 3) := by decide +kernel
theorem dX12_index_77 : decode cX12_index 77 = .ok (.aload_n 0, 1) := by decide +kernel
theorem dX12_index_78 : decode cX12_index 78 = .ok (.getfield 185, 3) := by decide +kernel
theorem dX12_index_81 : decode cX12_index 81 = .ok (.iconst 4, 1) := by decide +kernel
theorem dX12_index_82 : decode cX12_index 82 = .ok (.if_icmp .le 9, 3) := by decide +kernel
theorem dX12_index_85 : decode cX12_index 85 = .ok (.aload_n 0, 1) := by decide +kernel
theorem dX12_index_86 : decode cX12_index 86 = .ok (.iconst 2, 1) := by decide +kernel
theorem dX12_index_87 : decode cX12_index 87 = .ok (.invokevirtual 179, 3) := by decide +kernel
theorem dX12_index_90 : decode cX12_index 90 = .ok (.ireturn, 1) := by decide +kernel
theorem dX12_index_91 : decode cX12_index 91 = .ok (.aload_n 0, 1) := by decide +kernel
theorem dX12_index_92 : decode cX12_index 92 = .ok (.aload_n 0, 1) := by decide +kernel
theorem dX12_index_93 : decode cX12_index 93 = .ok (.getfield 175, 3) := by decide +kernel
theorem dX12_index_96 : decode cX12_index 96 = .ok (.putfield 188, 3) := by decide +kernel
theorem dX12_index_99 : decode cX12_index 99 = .ok (.lconst 1, 1) := by decide +kernel
theorem dX12_index_100 : decode cX12_index 100 = .ok (.lstore_n 3, 1) := by decide +kernel
theorem dX12_index_101 : decode cX12_index 101 = .ok (.iconst 0, 1) := by decide +kernel
theorem dX12_index_102 : decode cX12_index 102 = .ok (.istore 5, 2) := by decide +kernel
theorem dX12_index_104 : decode cX12_index 104 = .ok (.iload 5, 2) := by decide +kernel
theorem dX12_index_106 : decode cX12_index 106 = .ok (.aload_n 0, 1) := by decide +kernel
theorem dX12_index_107 : decode cX12_index 107 = .ok (.getfield 195, 3) := by decide +kernel
theorem dX12_index_110 : decode cX12_index 110 = .ok (.if_icmp .gt 59, 3) := by decide +kernel
theorem dX12_index_113 : decode cX12_index 113 = .ok (.aload_n 0, 1) := by decide +kernel
theorem dX12_index_114 : decode cX12_index 114 = .ok (.aload_n 0, 1) := by decide +kernel
theorem dX12_index_115 : decode cX12_index 115 = .ok (.getfield 185, 3) := by decide +kernel
theorem dX12_index_118 : decode cX12_index 118 = .ok (.invokevirtual 191, 3) := by decide +kernel
theorem dX12_index_121 : decode cX12_index 121 = .ok (.lstore 6, 2) := by decide +kernel
theorem dX12_index_123 : decode cX12_index 123 = .ok (.aload_n 0, 1) := by decide +kernel
theorem dX12_index_124 : decode cX12_index 124 = .ok (.getfield 147, 3) := by decide +kernel
theorem dX12_index_127 : decode cX12_index 127 = .ok (.ifCond .le 5, 3) := by decide +kernel
theorem dX12_index_130 : decode cX12_index 130 = .ok (.iconst 0, 1) := by decide +kernel
theorem dX12_index_131 : decode cX12_index 131 = .ok (.ireturn, 1) := by decide +kernel
theorem dX12_index_132 : decode cX12_index 132 = .ok (.iload 5, 2) := by decide +kernel
theorem dX12_index_134 : decode cX12_index 134 = .ok (.ifCond .ne 13, 3) := by decide +kernel
theorem dX12_index_137 : decode cX12_index 137 = .ok (.lload 6, 2) := by decide +kernel
theorem dX12_index_139 : decode cX12_index 139 = .ok (.lconst 1, 1) := by decide +kernel
theorem dX12_index_140 : decode cX12_index 140 = .ok (.lcmp, 1) := by decide +kernel
theorem dX12_index_141 : decode cX12_index 141 = .ok (.ifCond .eq 19, 3) := by decide +kernel
theorem dX12_index_144 : decode cX12_index 144 = .ok (.goto 10, 3) := by decide +kernel
theorem dX12_index_147 : decode cX12_index 147 = .ok (.lload 6, 2) := by decide +kernel
theorem dX12_index_149 : decode cX12_index 149 = .ok (.lload_n 3, 1) := by decide +kernel
theorem dX12_index_150 : decode cX12_index 150 = .ok (.lcmp, 1) := by decide +kernel
theorem dX12_index_151 : decode cX12_index 151 = .ok (.ifCond .ge 9, 3) := by decide +kernel
theorem dX12_index_154 : decode cX12_index 154 = .ok (.aload_n 0, 1) := by decide +kernel
theorem dX12_index_155 : decode cX12_index 155 = .ok (.iconst 2, 1) := by decide +kernel
theorem dX12_index_156 : decode cX12_index 156 = .ok (.invokevirtual 179, 3) := by decide +kernel
theorem dX12_index_159 : decode cX12_index 159 = .ok (.ireturn, 1) := by decide +kernel
theorem dX12_index_160 : decode cX12_index 160 = .ok (.lload 6, 2) := by decide +kernel
theorem dX12_index_162 : decode cX12_index 162 = .ok (.lstore_n 3, 1) := by decide +kernel
theorem dX12_index_163 : decode cX12_index 163 = .ok (.iinc 5 1, 3) := by decide +kernel
theorem dX12_index_166 : decode cX12_index 166 = .ok (.goto (-62), 3) := by decide +kernel
theorem dX12_index_169 : decode cX12_index 169 = .ok (.aload_n 0, 1) := by decide +kernel
theorem dX12_index_170 : decode cX12_index 170 = .ok (.aload_n 0, 1) := by decide +kernel
theorem dX12_index_171 : decode cX12_index 171 = .ok (.getfield 175, 3) := by decide +kernel
theorem dX12_index_174 : decode cX12_index 174 = .ok (.lconst 1, 1) := by decide +kernel
theorem dX12_index_175 : decode cX12_index 175 = .ok (.lsub, 1) := by decide +kernel
theorem dX12_index_176 : decode cX12_index 176 = .ok (.putfield 198, 3) := by decide +kernel
theorem dX12_index_179 : decode cX12_index 179 = .ok (.aload_n 0, 1) := by decide +kernel
theorem dX12_index_180 : decode cX12_index 180 = .ok (.aload_n 0, 1) := by decide +kernel
theorem dX12_index_181 : decode cX12_index 181 = .ok (.getfield 198, 3) := by decide +kernel
theorem dX12_index_184 : decode cX12_index 184 = .ok (.lload_n 3, 1) := by decide +kernel
theorem dX12_index_185 : decode cX12_index 185 = .ok (.ladd, 1) := by decide +kernel
theorem dX12_index_186 : decode cX12_index 186 = .ok (.putfield 175, 3) := by decide +kernel
theorem dX12_index_189 : decode cX12_index 189 = .ok (.aload_n 0, 1) := by decide +kernel
theorem dX12_index_190 : decode cX12_index 190 = .ok (.getfield 175, 3) := by decide +kernel
theorem dX12_index_193 : decode cX12_index 193 = .ok (.aload_n 0, 1) := by decide +kernel
theorem dX12_index_194 : decode cX12_index 194 = .ok (.getfield 125, 3) := by decide +kernel
theorem dX12_index_197 : decode cX12_index 197 = .ok (.i2l, 1) := by decide +kernel
theorem dX12_index_198 : decode cX12_index 198 = .ok (.lcmp, 1) := by decide +kernel
theorem dX12_index_199 : decode cX12_index 199 = .ok (.ifCond .le 11, 3) := by decide +kernel
theorem dX12_index_202 : decode cX12_index 202 = .ok (.aload_n 0, 1) := by decide +kernel
theorem dX12_index_203 : decode cX12_index 203 = .ok (.iconst 1, 1) := by decide +kernel
theorem dX12_index_204 : decode cX12_index 204 = .ok (.invokevirtual 179, 3) := by decide +kernel
theorem dX12_index_207 : decode cX12_index 207 = .ok (.ifCond .eq 7, 3) := by decide +kernel
theorem dX12_index_210 : decode cX12_index 210 = .ok (.iconst 1, 1) := by decide +kernel
theorem dX12_index_211 : decode cX12_index 211 = .ok (.goto 4, 3) := by decide +kernel
theorem dX12_index_214 : decode cX12_index 214 = .ok (.iconst 0, 1) := by decide +kernel
theorem dX12_index_215 : decode cX12_index 215 = .ok (.ireturn, 1) := by decide +kernel
theorem dX12_isBlank_0 : decode cX12_isBlank 0 = .ok (.iload_n 0, 1) := by decide +kernel
theorem dX12_isBlank_1 : decode cX12_isBlank 1 = .ok (.bipush 9, 2) := by decide +kernel
theorem dX12_isBlank_3 : decode cX12_isBlank 3 = .ok (.if_icmp .eq 21, 3) := by decide +kernel
theorem dX12_isBlank_6 : decode cX12_isBlank 6 = .ok (.iload_n 0, 1) := by decide +kernel
theorem dX12_isBlank_7 : decode cX12_isBlank 7 = .ok (.bipush 10, 2) := by decide +kernel
theorem dX12_isBlank_9 : decode cX12_isBlank 9 = .ok (.if_icmp .eq 15, 3) := by decide +kernel
theorem dX12_isBlank_12 : decode cX12_isBlank 12 = .ok (.iload_n 0, 1) := by decide +kernel
theorem dX12_isBlank_13 : decode cX12_isBlank 13 = .ok (.bipush 13, 2) := by decide +kernel
theorem dX12_isBlank_15 : decode cX12_isBlank 15 = .ok (.if_icmp .eq 9, 3) := by decide +kernel
theorem dX12_isBlank_18 : decode cX12_isBlank 18 = .ok (.iload_n 0, 1) := by decide +kernel
theorem dX12_isBlank_19 : decode cX12_isBlank 19 = .ok (.bipush 32, 2) := by decide +kernel
theorem dX12_isBlank_21 : decode cX12_isBlank 21 = .ok (.if_icmp .ne 7, 3) := by decide +kernel
theorem dX12_isBlank_24 : decode cX12_isBlank 24 = .ok (.iconst 1, 1) := by decide +kernel
theorem dX12_isBlank_25 : decode cX12_isBlank 25 = .ok (.goto 4, 3) := by decide +kernel
theorem dX12_isBlank_28 : decode cX12_isBlank 28 = .ok (.iconst 0, 1) := by decide +kernel
theorem dX12_isBlank_29 : decode cX12_isBlank 29 = .ok (.ireturn, 1) := by decide +kernel
theorem dX12_isTape_0 : decode cX12_isTape 0 = .ok (.iconst 0, 1) := by decide +kernel
theorem dX12_isTape_1 : decode cX12_isTape 1 = .ok (.istore_n 3, 1) := by decide +kernel
theorem dX12_isTape_2 : decode cX12_isTape 2 = .ok (.iload_n 3, 1) := by decide +kernel
theorem dX12_isTape_3 : decode cX12_isTape 3 = .ok (.aload_n 2, 1) := by decide +kernel
theorem dX12_isTape_4 : decode cX12_isTape 4 = .ok (.arraylength, 1) := by decide +kernel
theorem dX12_isTape_5 : decode cX12_isTape 5 = .ok (.if_icmp .ge 25, 3) := by decide +kernel
theorem dX12_isTape_8 : decode cX12_isTape 8 = .ok (.aload_n 0, 1) := by decide +kernel
theorem dX12_isTape_9 : decode cX12_isTape 9 = .ok (.getfield 7, 3) := by decide +kernel
theorem dX12_isTape_12 : decode cX12_isTape 12 = .ok (.iload_n 1, 1) := by decide +kernel
theorem dX12_isTape_13 : decode cX12_isTape 13 = .ok (.iload_n 3, 1) := by decide +kernel
theorem dX12_isTape_14 : decode cX12_isTape 14 = .ok (.iadd, 1) := by decide +kernel
theorem dX12_isTape_15 : decode cX12_isTape 15 = .ok (.baload, 1) := by decide +kernel
theorem dX12_isTape_16 : decode cX12_isTape 16 = .ok (.aload_n 2, 1) := by decide +kernel
theorem dX12_isTape_17 : decode cX12_isTape 17 = .ok (.iload_n 3, 1) := by decide +kernel
theorem dX12_isTape_18 : decode cX12_isTape 18 = .ok (.baload, 1) := by decide +kernel
theorem dX12_isTape_19 : decode cX12_isTape 19 = .ok (.if_icmp .eq 5, 3) := by decide +kernel
theorem dX12_isTape_22 : decode cX12_isTape 22 = .ok (.iconst 0, 1) := by decide +kernel
theorem dX12_isTape_23 : decode cX12_isTape 23 = .ok (.ireturn, 1) := by decide +kernel
theorem dX12_isTape_24 : decode cX12_isTape 24 = .ok (.iinc 3 1, 3) := by decide +kernel
theorem dX12_isTape_27 : decode cX12_isTape 27 = .ok (.goto (-25), 3) := by decide +kernel
theorem dX12_isTape_30 : decode cX12_isTape 30 = .ok (.iconst 1, 1) := by decide +kernel
theorem dX12_isTape_31 : decode cX12_isTape 31 = .ok (.ireturn, 1) := by decide +kernel
theorem dX12_isThere_0 : decode cX12_isThere 0 = .ok (.aload_n 0, 1) := by decide +kernel
theorem dX12_isThere_1 : decode cX12_isThere 1 = .ok (.getfield 16, 3) := by decide +kernel
theorem dX12_isThere_4 : decode cX12_isThere 4 = .ok (.ifCond .lt 45, 3) := by decide +kernel
theorem dX12_isThere_7 : decode cX12_isThere 7 = .ok (.iload_n 1, 1) := by decide +kernel
theorem dX12_isThere_8 : decode cX12_isThere 8 = .ok (.ifCond .lt 41, 3) := by decide +kernel
theorem dX12_isThere_11 : decode cX12_isThere 11 = .ok (.iload_n 1, 1) := by decide +kernel
theorem dX12_isThere_12 : decode cX12_isThere 12 = .ok (.iconst 3, 1) := by decide +kernel
theorem dX12_isThere_13 : decode cX12_isThere 13 = .ok (.if_icmp .ge 36, 3) := by decide +kernel
theorem dX12_isThere_16 : decode cX12_isThere 16 = .ok (.iload_n 2, 1) := by decide +kernel
theorem dX12_isThere_17 : decode cX12_isThere 17 = .ok (.ifCond .lt 32, 3) := by decide +kernel
theorem dX12_isThere_20 : decode cX12_isThere 20 = .ok (.iload_n 2, 1) := by decide +kernel
theorem dX12_isThere_21 : decode cX12_isThere 21 = .ok (.aload_n 0, 1) := by decide +kernel
theorem dX12_isThere_22 : decode cX12_isThere 22 = .ok (.getfield 20, 3) := by decide +kernel
theorem dX12_isThere_25 : decode cX12_isThere 25 = .ok (.iload_n 1, 1) := by decide +kernel
theorem dX12_isThere_26 : decode cX12_isThere 26 = .ok (.iaload, 1) := by decide +kernel
theorem dX12_isThere_27 : decode cX12_isThere 27 = .ok (.if_icmp .ge 22, 3) := by decide +kernel
theorem dX12_isThere_30 : decode cX12_isThere 30 = .ok (.aload_n 0, 1) := by decide +kernel
theorem dX12_isThere_31 : decode cX12_isThere 31 = .ok (.getfield 27, 3) := by decide +kernel
theorem dX12_isThere_34 : decode cX12_isThere 34 = .ok (.sipush 1600, 3) := by decide +kernel
theorem dX12_isThere_37 : decode cX12_isThere 37 = .ok (.iload_n 1, 1) := by decide +kernel
theorem dX12_isThere_38 : decode cX12_isThere 38 = .ok (.imul, 1) := by decide +kernel
theorem dX12_isThere_39 : decode cX12_isThere 39 = .ok (.iload_n 2, 1) := by decide +kernel
theorem dX12_isThere_40 : decode cX12_isThere 40 = .ok (.iadd, 1) := by decide +kernel
theorem dX12_isThere_41 : decode cX12_isThere 41 = .ok (.iaload, 1) := by decide +kernel
theorem dX12_isThere_42 : decode cX12_isThere 42 = .ok (.ifCond .lt 7, 3) := by decide +kernel
theorem dX12_isThere_45 : decode cX12_isThere 45 = .ok (.iconst 1, 1) := by decide +kernel
theorem dX12_isThere_46 : decode cX12_isThere 46 = .ok (.goto 4, 3) := by decide +kernel
theorem dX12_isThere_49 : decode cX12_isThere 49 = .ok (.iconst 0, 1) := by decide +kernel
theorem dX12_isThere_50 : decode cX12_isThere 50 = .ok (.ireturn, 1) := by decide +kernel
theorem dX12_isTold_0 : decode cX12_isTold 0 = .ok (.aload_n 0, 1) := by decide +kernel
theorem dX12_isTold_1 : decode cX12_isTold 1 = .ok (.getfield 45, 3) := by decide +kernel
theorem dX12_isTold_4 : decode cX12_isTold 4 = .ok (.iload_n 1, 1) := by decide +kernel
theorem dX12_isTold_5 : decode cX12_isTold 5 = .ok (.iaload, 1) := by decide +kernel
theorem dX12_isTold_6 : decode cX12_isTold 6 = .ok (.iconst (-1), 1) := by decide +kernel
theorem dX12_isTold_7 : decode cX12_isTold 7 = .ok (.if_icmp .eq 30, 3) := by decide +kernel
theorem dX12_isTold_10 : decode cX12_isTold 10 = .ok (.aload_n 0, 1) := by decide +kernel
theorem dX12_isTold_11 : decode cX12_isTold 11 = .ok (.getfield 45, 3) := by decide +kernel
theorem dX12_isTold_14 : decode cX12_isTold 14 = .ok (.iload_n 1, 1) := by decide +kernel
theorem dX12_isTold_15 : decode cX12_isTold 15 = .ok (.iaload, 1) := by decide +kernel
theorem dX12_isTold_16 : decode cX12_isTold 16 = .ok (.iload_n 2, 1) := by decide +kernel
theorem dX12_isTold_17 : decode cX12_isTold 17 = .ok (.if_icmp .ne 12, 3) := by decide +kernel
theorem dX12_isTold_20 : decode cX12_isTold 20 = .ok (.aload_n 0, 1) := by decide +kernel
theorem dX12_isTold_21 : decode cX12_isTold 21 = .ok (.getfield 55, 3) := by decide +kernel
theorem dX12_isTold_24 : decode cX12_isTold 24 = .ok (.iload_n 1, 1) := by decide +kernel
theorem dX12_isTold_25 : decode cX12_isTold 25 = .ok (.baload, 1) := by decide +kernel
theorem dX12_isTold_26 : decode cX12_isTold 26 = .ok (.ifCond .ne 11, 3) := by decide +kernel
theorem dX12_isTold_29 : decode cX12_isTold 29 = .ok (.aload_n 0, 1) := by decide +kernel
theorem dX12_isTold_30 : decode cX12_isTold 30 = .ok (.iconst 2, 1) := by decide +kernel
theorem dX12_isTold_31 : decode cX12_isTold 31 = .ok (.invokevirtual 179, 3) := by decide +kernel
theorem dX12_isTold_34 : decode cX12_isTold 34 = .ok (.ifCond .eq 7, 3) := by decide +kernel
theorem dX12_isTold_37 : decode cX12_isTold 37 = .ok (.iconst 1, 1) := by decide +kernel
theorem dX12_isTold_38 : decode cX12_isTold 38 = .ok (.goto 4, 3) := by decide +kernel
theorem dX12_isTold_41 : decode cX12_isTold 41 = .ok (.iconst 0, 1) := by decide +kernel
theorem dX12_isTold_42 : decode cX12_isTold 42 = .ok (.ireturn, 1) := by decide +kernel
theorem dX12_isWord_0 : decode cX12_isWord 0 = .ok (.aload_n 0, 1) := by decide +kernel
theorem dX12_isWord_1 : decode cX12_isWord 1 = .ok (.getfield 259, 3) := by decide +kernel
theorem dX12_isWord_4 : decode cX12_isWord 4 = .ok (.aload_n 0, 1) := by decide +kernel
theorem dX12_isWord_5 : decode cX12_isWord 5 = .ok (.getfield 256, 3) := by decide +kernel
theorem dX12_isWord_8 : decode cX12_isWord 8 = .ok (.isub, 1) := by decide +kernel
theorem dX12_isWord_9 : decode cX12_isWord 9 = .ok (.aload_n 1, 1) := by decide +kernel
theorem dX12_isWord_10 : decode cX12_isWord 10 = .ok (.arraylength, 1) := by decide +kernel
theorem dX12_isWord_11 : decode cX12_isWord 11 = .ok (.if_icmp .ne 7, 3) := by decide +kernel
theorem dX12_isWord_14 : decode cX12_isWord 14 = .ok (.iconst 1, 1) := by decide +kernel
theorem dX12_isWord_15 : decode cX12_isWord 15 = .ok (.goto 4, 3) := by decide +kernel
theorem dX12_isWord_18 : decode cX12_isWord 18 = .ok (.iconst 0, 1) := by decide +kernel
theorem dX12_isWord_19 : decode cX12_isWord 19 = .ok (.istore_n 2, 1) := by decide +kernel
theorem dX12_isWord_20 : decode cX12_isWord 20 = .ok (.iconst 0, 1) := by decide +kernel
theorem dX12_isWord_21 : decode cX12_isWord 21 = .ok (.istore_n 3, 1) := by decide +kernel
theorem dX12_isWord_22 : decode cX12_isWord 22 = .ok (.iload_n 2, 1) := by decide +kernel
theorem dX12_isWord_23 : decode cX12_isWord 23 = .ok (.ifCond .eq 38, 3) := by decide +kernel
theorem dX12_isWord_26 : decode cX12_isWord 26 = .ok (.iload_n 3, 1) := by decide +kernel
theorem dX12_isWord_27 : decode cX12_isWord 27 = .ok (.aload_n 1, 1) := by decide +kernel
theorem dX12_isWord_28 : decode cX12_isWord 28 = .ok (.arraylength, 1) := by decide +kernel
theorem dX12_isWord_29 : decode cX12_isWord 29 = .ok (.if_icmp .ge 32, 3) := by decide +kernel
theorem dX12_isWord_32 : decode cX12_isWord 32 = .ok (.aload_n 0, 1) := by decide +kernel
theorem dX12_isWord_33 : decode cX12_isWord 33 = .ok (.getfield 59, 3) := by decide +kernel
theorem dX12_isWord_36 : decode cX12_isWord 36 = .ok (.aload_n 0, 1) := by decide +kernel
theorem dX12_isWord_37 : decode cX12_isWord 37 = .ok (.getfield 256, 3) := by decide +kernel
theorem dX12_isWord_40 : decode cX12_isWord 40 = .ok (.iload_n 3, 1) := by decide +kernel
theorem dX12_isWord_41 : decode cX12_isWord 41 = .ok (.iadd, 1) := by decide +kernel
theorem dX12_isWord_42 : decode cX12_isWord 42 = .ok (.baload, 1) := by decide +kernel
theorem dX12_isWord_43 : decode cX12_isWord 43 = .ok (.aload_n 1, 1) := by decide +kernel
theorem dX12_isWord_44 : decode cX12_isWord 44 = .ok (.iload_n 3, 1) := by decide +kernel
theorem dX12_isWord_45 : decode cX12_isWord 45 = .ok (.baload, 1) := by decide +kernel
theorem dX12_isWord_46 : decode cX12_isWord 46 = .ok (.if_icmp .ne 7, 3) := by decide +kernel
theorem dX12_isWord_49 : decode cX12_isWord 49 = .ok (.iconst 1, 1) := by decide +kernel
theorem dX12_isWord_50 : decode cX12_isWord 50 = .ok (.goto 4, 3) := by decide +kernel
theorem dX12_isWord_53 : decode cX12_isWord 53 = .ok (.iconst 0, 1) := by decide +kernel
theorem dX12_isWord_54 : decode cX12_isWord 54 = .ok (.istore_n 2, 1) := by decide +kernel
theorem dX12_isWord_55 : decode cX12_isWord 55 = .ok (.iinc 3 1, 3) := by decide +kernel
theorem dX12_isWord_58 : decode cX12_isWord 58 = .ok (.goto (-36), 3) := by decide +kernel
theorem dX12_isWord_61 : decode cX12_isWord 61 = .ok (.iload_n 2, 1) := by decide +kernel
theorem dX12_isWord_62 : decode cX12_isWord 62 = .ok (.ireturn, 1) := by decide +kernel
theorem dX12_letters_0 : decode cX12_letters 0 = .ok (.aload_n 0, 1) := by decide +kernel
theorem dX12_letters_1 : decode cX12_letters 1 = .ok (.invokevirtual 262, 3) := by decide +kernel
theorem dX12_letters_4 : decode cX12_letters 4 = .ok (.ifCond .eq 132, 3) := by decide +kernel
theorem dX12_letters_7 : decode cX12_letters 7 = .ok (.aload_n 0, 1) := by decide +kernel
theorem dX12_letters_8 : decode cX12_letters 8 = .ok (.aload_n 0, 1) := by decide +kernel
theorem dX12_letters_9 : decode cX12_letters 9 = .ok (.getfield 92, 3) := by decide +kernel
theorem dX12_letters_12 : decode cX12_letters 12 = .ok (.invokevirtual 269, 3) := by decide +kernel
theorem dX12_letters_15 : decode cX12_letters 15 = .ok (.ifCond .eq 26, 3) := by decide +kernel
theorem dX12_letters_18 : decode cX12_letters 18 = .ok (.aload_n 0, 1) := by decide +kernel
theorem dX12_letters_19 : decode cX12_letters 19 = .ok (.getfield 33, 3) := by decide +kernel
theorem dX12_letters_22 : decode cX12_letters 22 = .ok (.iconst 0, 1) := by decide +kernel
theorem dX12_letters_23 : decode cX12_letters 23 = .ok (.iaload, 1) := by decide +kernel
theorem dX12_letters_24 : decode cX12_letters 24 = .ok (.ifCond .gt 11, 3) := by decide +kernel
theorem dX12_letters_27 : decode cX12_letters 27 = .ok (.aload_n 0, 1) := by decide +kernel
theorem dX12_letters_28 : decode cX12_letters 28 = .ok (.iconst 3, 1) := by decide +kernel
theorem dX12_letters_29 : decode cX12_letters 29 = .ok (.invokevirtual 179, 3) := by decide +kernel
theorem dX12_letters_32 : decode cX12_letters 32 = .ok (.ifCond .eq 7, 3) := by decide +kernel
theorem dX12_letters_35 : decode cX12_letters 35 = .ok (.iconst 1, 1) := by decide +kernel
theorem dX12_letters_36 : decode cX12_letters 36 = .ok (.goto 4, 3) := by decide +kernel
theorem dX12_letters_39 : decode cX12_letters 39 = .ok (.iconst 0, 1) := by decide +kernel
theorem dX12_letters_40 : decode cX12_letters 40 = .ok (.ireturn, 1) := by decide +kernel
theorem dX12_letters_41 : decode cX12_letters 41 = .ok (.aload_n 0, 1) := by decide +kernel
theorem dX12_letters_42 : decode cX12_letters 42 = .ok (.getfield 59, 3) := by decide +kernel
theorem dX12_letters_45 : decode cX12_letters 45 = .ok (.aload_n 0, 1) := by decide +kernel
theorem dX12_letters_46 : decode cX12_letters 46 = .ok (.getfield 256, 3) := by decide +kernel
theorem dX12_letters_49 : decode cX12_letters 49 = .ok (.baload, 1) := by decide +kernel
theorem dX12_letters_50 : decode cX12_letters 50 = .ok (.bipush 47, 2) := by decide +kernel
theorem dX12_letters_52 : decode cX12_letters 52 = .ok (.if_icmp .ne 27, 3) := by decide +kernel
theorem dX12_letters_55 : decode cX12_letters 55 = .ok (.aload_n 0, 1) := by decide +kernel
theorem dX12_letters_56 : decode cX12_letters 56 = .ok (.getfield 259, 3) := by decide +kernel
theorem dX12_letters_59 : decode cX12_letters 59 = .ok (.aload_n 0, 1) := by decide +kernel
theorem dX12_letters_60 : decode cX12_letters 60 = .ok (.getfield 256, 3) := by decide +kernel
theorem dX12_letters_63 : decode cX12_letters 63 = .ok (.isub, 1) := by decide +kernel
theorem dX12_letters_64 : decode cX12_letters 64 = .ok (.iconst 2, 1) := by decide +kernel
theorem dX12_letters_65 : decode cX12_letters 65 = .ok (.if_icmp .lt 14, 3) := by decide +kernel
theorem dX12_letters_68 : decode cX12_letters 68 = .ok (.aload_n 0, 1) := by decide +kernel
theorem dX12_letters_69 : decode cX12_letters 69 = .ok (.getfield 33, 3) := by decide +kernel
theorem dX12_letters_72 : decode cX12_letters 72 = .ok (.iconst 0, 1) := by decide +kernel
theorem dX12_letters_73 : decode cX12_letters 73 = .ok (.iaload, 1) := by decide +kernel
theorem dX12_letters_74 : decode cX12_letters 74 = .ok (.bipush 40, 2) := by decide +kernel
theorem dX12_letters_76 : decode cX12_letters 76 = .ok (.if_icmp .ne 9, 3) := by decide +kernel
theorem dX12_letters_79 : decode cX12_letters 79 = .ok (.aload_n 0, 1) := by decide +kernel
theorem dX12_letters_80 : decode cX12_letters 80 = .ok (.iconst 2, 1) := by decide +kernel
theorem dX12_letters_81 : decode cX12_letters 81 = .ok (.invokevirtual 179, 3) := by decide +kernel
theorem dX12_letters_84 : decode cX12_letters 84 = .ok (.ireturn, 1) := by decide +kernel
theorem dX12_letters_85 : decode cX12_letters 85 = .ok (.aload_n 0, 1) := by decide +kernel
theorem dX12_letters_86 : decode cX12_letters 86 = .ok (.invokevirtual 279, 3) := by decide +kernel
theorem dX12_letters_89 : decode cX12_letters 89 = .ok (.istore_n 1, 1) := by decide +kernel
theorem dX12_letters_90 : decode cX12_letters 90 = .ok (.aload_n 0, 1) := by decide +kernel
theorem dX12_letters_91 : decode cX12_letters 91 = .ok (.getfield 147, 3) := by decide +kernel
theorem dX12_letters_94 : decode cX12_letters 94 = .ok (.ifCond .gt 18, 3) := by decide +kernel
theorem dX12_letters_97 : decode cX12_letters 97 = .ok (.aload_n 0, 1) := by decide +kernel
theorem dX12_letters_98 : decode cX12_letters 98 = .ok (.iconst 0, 1) := by decide +kernel
theorem dX12_letters_99 : decode cX12_letters 99 = .ok (.aload_n 0, 1) := by decide +kernel
theorem dX12_letters_100 : decode cX12_letters 100 = .ok (.getfield 33, 3) := by decide +kernel
theorem dX12_letters_103 : decode cX12_letters 103 = .ok (.iconst 0, 1) := by decide +kernel
theorem dX12_letters_104 : decode cX12_letters 104 = .ok (.iaload, 1) := by decide +kernel
theorem dX12_letters_105 : decode cX12_letters 105 = .ok (.iload_n 1, 1) := by decide +kernel
theorem dX12_letters_106 : decode cX12_letters 106 = .ok (.invokevirtual 285, 3) := by decide +kernel
theorem dX12_letters_109 : decode cX12_letters 109 = .ok (.ifCond .ne 5, 3) := by decide +kernel
theorem dX12_letters_112 : decode cX12_letters 112 = .ok (.iconst 0, 1) := by decide +kernel
theorem dX12_letters_113 : decode cX12_letters 113 = .ok (.ireturn, 1) := by decide +kernel
theorem dX12_letters_114 : decode cX12_letters 114 = .ok (.aload_n 0, 1) := by decide +kernel
theorem dX12_letters_115 : decode cX12_letters 115 = .ok (.getfield 33, 3) := by decide +kernel
theorem dX12_letters_118 : decode cX12_letters 118 = .ok (.iconst 0, 1) := by decide +kernel
theorem dX12_letters_119 : decode cX12_letters 119 = .ok (.dup2, 1) := by decide +kernel
theorem dX12_letters_120 : decode cX12_letters 120 = .ok (.iaload, 1) := by decide +kernel
theorem dX12_letters_121 : decode cX12_letters 121 = .ok (.iconst 1, 1) := by decide +kernel
theorem dX12_letters_122 : decode cX12_letters 122 = .ok (.iadd, 1) := by decide +kernel
theorem dX12_letters_123 : decode cX12_letters 123 = .ok (.iastore, 1) := by decide +kernel
theorem dX12_letters_124 : decode cX12_letters 124 = .ok (.aload_n 0, 1) := by decide +kernel
theorem dX12_letters_125 : decode cX12_letters 125 = .ok (.invokevirtual 262, 3) := by decide +kernel
theorem dX12_letters_128 : decode cX12_letters 128 = .ok (.ifCond .ne 5, 3) := by decide +kernel
theorem dX12_letters_131 : decode cX12_letters 131 = .ok (.iconst 0, 1) := by decide +kernel
theorem dX12_letters_132 : decode cX12_letters 132 = .ok (.ireturn, 1) := by decide +kernel
theorem dX12_letters_133 : decode cX12_letters 133 = .ok (.goto (-133), 3) := by decide +kernel
theorem dX12_letters_136 : decode cX12_letters 136 = .ok (.iconst 0, 1) := by decide +kernel
theorem dX12_letters_137 : decode cX12_letters 137 = .ok (.ireturn, 1) := by decide +kernel
theorem dX12_line_0 : decode cX12_line 0 = .ok (.aload_n 0, 1) := by decide +kernel
theorem dX12_line_1 : decode cX12_line 1 = .ok (.iconst 1, 1) := by decide +kernel
theorem dX12_line_2 : decode cX12_line 2 = .ok (.invokevirtual 367, 3) := by decide +kernel
theorem dX12_line_5 : decode cX12_line 5 = .ok (.ifCond .ne 5, 3) := by decide +kernel
theorem dX12_line_8 : decode cX12_line 8 = .ok (.iconst 0, 1) := by decide +kernel
theorem dX12_line_9 : decode cX12_line 9 = .ok (.ireturn, 1) := by decide +kernel
theorem dX12_line_10 : decode cX12_line 10 = .ok (.aload_n 0, 1) := by decide +kernel
theorem dX12_line_11 : decode cX12_line 11 = .ok (.iconst 1, 1) := by decide +kernel
theorem dX12_line_12 : decode cX12_line 12 = .ok (.putfield 322, 3) := by decide +kernel
theorem dX12_line_15 : decode cX12_line 15 = .ok (.aload_n 0, 1) := by decide +kernel
theorem dX12_line_16 : decode cX12_line 16 = .ok (.dup, 1) := by decide +kernel
theorem dX12_line_17 : decode cX12_line 17 = .ok (.getfield 316, 3) := by decide +kernel
theorem dX12_line_20 : decode cX12_line 20 = .ok (.lload_n 1, 1) := by decide +kernel
theorem dX12_line_21 : decode cX12_line 21 = .ok (.ladd, 1) := by decide +kernel
theorem dX12_line_22 : decode cX12_line 22 = .ok (.putfield 316, 3) := by decide +kernel
theorem dX12_line_25 : decode cX12_line 25 = .ok (.aload_n 0, 1) := by decide +kernel
theorem dX12_line_26 : decode cX12_line 26 = .ok (.dup, 1) := by decide +kernel
theorem dX12_line_27 : decode cX12_line 27 = .ok (.getfield 319, 3) := by decide +kernel
theorem dX12_line_30 : decode cX12_line 30 = .ok (.lload_n 3, 1) := by decide +kernel
theorem dX12_line_31 : decode cX12_line 31 = .ok (.ladd, 1) := by decide +kernel
theorem dX12_line_32 : decode cX12_line 32 = .ok (.putfield 319, 3) := by decide +kernel
theorem dX12_line_35 : decode cX12_line 35 = .ok (.aload_n 0, 1) := by decide +kernel
theorem dX12_line_36 : decode cX12_line 36 = .ok (.iconst 0, 1) := by decide +kernel
theorem dX12_line_37 : decode cX12_line 37 = .ok (.invokevirtual 370, 3) := by decide +kernel
theorem dX12_line_40 : decode cX12_line 40 = .ok (.iconst 1, 1) := by decide +kernel
theorem dX12_line_41 : decode cX12_line 41 = .ok (.ireturn, 1) := by decide +kernel
theorem dX12_low_0 : decode cX12_low 0 = .ok (.lload_n 0, 1) := by decide +kernel
theorem dX12_low_1 : decode cX12_low 1 = .ok (.l2i, 1) := by decide +kernel
theorem dX12_low_2 : decode cX12_low 2 = .ok (.i2l, 1) := by decide +kernel
theorem dX12_low_3 : decode cX12_low 3 = .ok (.lreturn, 1) := by decide +kernel
theorem dX12_masks_0 : decode cX12_masks 0 = .ok (.aload_n 0, 1) := by decide +kernel
theorem dX12_masks_1 : decode cX12_masks 1 = .ok (.getfield 325, 3) := by decide +kernel
theorem dX12_masks_4 : decode cX12_masks 4 = .ok (.iconst 2, 1) := by decide +kernel
theorem dX12_masks_5 : decode cX12_masks 5 = .ok (.irem, 1) := by decide +kernel
theorem dX12_masks_6 : decode cX12_masks 6 = .ok (.istore_n 1, 1) := by decide +kernel
theorem dX12_masks_7 : decode cX12_masks 7 = .ok (.iload_n 1, 1) := by decide +kernel
theorem dX12_masks_8 : decode cX12_masks 8 = .ok (.iconst 1, 1) := by decide +kernel
theorem dX12_masks_9 : decode cX12_masks 9 = .ok (.if_icmp .ne 16, 3) := by decide +kernel
theorem dX12_masks_12 : decode cX12_masks 12 = .ok (.aload_n 0, 1) := by decide +kernel
theorem dX12_masks_13 : decode cX12_masks 13 = .ok (.getfield 313, 3) := by decide +kernel
theorem dX12_masks_16 : decode cX12_masks 16 = .ok (.ifCond .eq 9, 3) := by decide +kernel
theorem dX12_masks_19 : decode cX12_masks 19 = .ok (.aload_n 0, 1) := by decide +kernel
theorem dX12_masks_20 : decode cX12_masks 20 = .ok (.iconst 2, 1) := by decide +kernel
theorem dX12_masks_21 : decode cX12_masks 21 = .ok (.invokevirtual 346, 3) := by decide +kernel
theorem dX12_masks_24 : decode cX12_masks 24 = .ok (.ireturn, 1) := by decide +kernel
theorem dX12_masks_25 : decode cX12_masks 25 = .ok (.aload_n 0, 1) := by decide +kernel
theorem dX12_masks_26 : decode cX12_masks 26 = .ok (.iload_n 1, 1) := by decide +kernel
theorem dX12_masks_27 : decode cX12_masks 27 = .ok (.iconst 1, 1) := by decide +kernel
theorem dX12_masks_28 : decode cX12_masks 28 = .ok (.if_icmp .ne 7, 3) := by decide +kernel
theorem dX12_masks_31 : decode cX12_masks 31 = .ok (.iconst 1, 1) := by decide +kernel
theorem dX12_masks_32 : decode cX12_masks 32 = .ok (.goto 4, 3) := by decide +kernel
theorem dX12_masks_35 : decode cX12_masks 35 = .ok (.iconst 0, 1) := by decide +kernel
theorem dX12_masks_36 : decode cX12_masks 36 = .ok (.invokevirtual 401, 3) := by decide +kernel
theorem dX12_masks_39 : decode cX12_masks 39 = .ok (.aload_n 0, 1) := by decide +kernel
theorem dX12_masks_40 : decode cX12_masks 40 = .ok (.dup, 1) := by decide +kernel
theorem dX12_masks_41 : decode cX12_masks 41 = .ok (.getfield 307, 3) := by decide +kernel
theorem dX12_masks_44 : decode cX12_masks 44 = .ok (.aload_n 0, 1) := by decide +kernel
theorem dX12_masks_45 : decode cX12_masks 45 = .ok (.getfield 325, 3) := by decide +kernel
theorem dX12_masks_48 : decode cX12_masks 48 = .ok (.iconst 2, 1) := by decide +kernel
theorem dX12_masks_49 : decode cX12_masks 49 = .ok (.idiv, 1) := by decide +kernel
theorem dX12_masks_50 : decode cX12_masks 50 = .ok (.iadd, 1) := by decide +kernel
theorem dX12_masks_51 : decode cX12_masks 51 = .ok (.putfield 307, 3) := by decide +kernel
theorem dX12_masks_54 : decode cX12_masks 54 = .ok (.aload_n 0, 1) := by decide +kernel
theorem dX12_masks_55 : decode cX12_masks 55 = .ok (.iconst 0, 1) := by decide +kernel
theorem dX12_masks_56 : decode cX12_masks 56 = .ok (.putfield 325, 3) := by decide +kernel
theorem dX12_masks_59 : decode cX12_masks 59 = .ok (.iconst 0, 1) := by decide +kernel
theorem dX12_masks_60 : decode cX12_masks 60 = .ok (.istore_n 2, 1) := by decide +kernel
theorem dX12_masks_61 : decode cX12_masks 61 = .ok (.iload_n 2, 1) := by decide +kernel
theorem dX12_masks_62 : decode cX12_masks 62 = .ok (.aload_n 0, 1) := by decide +kernel
theorem dX12_masks_63 : decode cX12_masks 63 = .ok (.getfield 307, 3) := by decide +kernel
theorem dX12_masks_66 : decode cX12_masks 66 = .ok (.bipush 7, 2) := by decide +kernel
theorem dX12_masks_68 : decode cX12_masks 68 = .ok (.iadd, 1) := by decide +kernel
theorem dX12_masks_69 : decode cX12_masks 69 = .ok (.bipush 8, 2) := by decide +kernel
theorem dX12_masks_71 : decode cX12_masks 71 = .ok (.idiv, 1) := by decide +kernel
theorem dX12_masks_72 : decode cX12_masks 72 = .ok (.if_icmp .ge 18, 3) := by decide +kernel
theorem dX12_masks_75 : decode cX12_masks 75 = .ok (.aload_n 0, 1) := by decide +kernel
theorem dX12_masks_76 : decode cX12_masks 76 = .ok (.invokevirtual 349, 3) := by decide +kernel
theorem dX12_masks_79 : decode cX12_masks 79 = .ok (.ifCond .ge 5, 3) := by decide +kernel
theorem dX12_masks_82 : decode cX12_masks 82 = .ok (.iconst 0, 1) := by decide +kernel
theorem dX12_masks_83 : decode cX12_masks 83 = .ok (.ireturn, 1) := by decide +kernel
theorem dX12_masks_84 : decode cX12_masks 84 = .ok (.iinc 2 1, 3) := by decide +kernel
theorem dX12_masks_87 : decode cX12_masks 87 = .ok (.goto (-26), 3) := by decide +kernel
theorem dX12_masks_90 : decode cX12_masks 90 = .ok (.iconst 1, 1) := by decide +kernel
theorem dX12_masks_91 : decode cX12_masks 91 = .ok (.ireturn, 1) := by decide +kernel
theorem dX12_move_0 : decode cX12_move 0 = .ok (.iload_n 1, 1) := by decide +kernel
theorem dX12_move_1 : decode cX12_move 1 = .ok (.iconst 2, 1) := by decide +kernel
theorem dX12_move_2 : decode cX12_move 2 = .ok (.if_icmp .ne 7, 3) := by decide +kernel
theorem dX12_move_5 : decode cX12_move 5 = .ok (.iconst 2, 1) := by decide +kernel
theorem dX12_move_6 : decode cX12_move 6 = .ok (.goto 4, 3) := by decide +kernel
theorem dX12_move_9 : decode cX12_move 9 = .ok (.iconst 1, 1) := by decide +kernel
theorem dX12_move_10 : decode cX12_move 10 = .ok (.istore_n 2, 1) := by decide +kernel
theorem dX12_move_11 : decode cX12_move 11 = .ok (.aload_n 0, 1) := by decide +kernel
theorem dX12_move_12 : decode cX12_move 12 = .ok (.getfield 325, 3) := by decide +kernel
theorem dX12_move_15 : decode cX12_move 15 = .ok (.iload_n 2, 1) := by decide +kernel
theorem dX12_move_16 : decode cX12_move 16 = .ok (.if_icmp .eq 26, 3) := by decide +kernel
theorem dX12_move_19 : decode cX12_move 19 = .ok (.aload_n 0, 1) := by decide +kernel
theorem dX12_move_20 : decode cX12_move 20 = .ok (.getfield 313, 3) := by decide +kernel
theorem dX12_move_23 : decode cX12_move 23 = .ok (.ifCond .ne 13, 3) := by decide +kernel
theorem dX12_move_26 : decode cX12_move 26 = .ok (.aload_n 0, 1) := by decide +kernel
theorem dX12_move_27 : decode cX12_move 27 = .ok (.getfield 325, 3) := by decide +kernel
theorem dX12_move_30 : decode cX12_move 30 = .ok (.iload_n 2, 1) := by decide +kernel
theorem dX12_move_31 : decode cX12_move 31 = .ok (.iconst 1, 1) := by decide +kernel
theorem dX12_move_32 : decode cX12_move 32 = .ok (.iadd, 1) := by decide +kernel
theorem dX12_move_33 : decode cX12_move 33 = .ok (.if_icmp .eq 9, 3) := by decide +kernel
theorem dX12_move_36 : decode cX12_move 36 = .ok (.aload_n 0, 1) := by decide +kernel
theorem dX12_move_37 : decode cX12_move 37 = .ok (.iconst 2, 1) := by decide +kernel
theorem dX12_move_38 : decode cX12_move 38 = .ok (.invokevirtual 346, 3) := by decide +kernel
theorem dX12_move_41 : decode cX12_move 41 = .ok (.ireturn, 1) := by decide +kernel
theorem dX12_move_42 : decode cX12_move 42 = .ok (.aload_n 0, 1) := by decide +kernel
theorem dX12_move_43 : decode cX12_move 43 = .ok (.aload_n 0, 1) := by decide +kernel
theorem dX12_move_44 : decode cX12_move 44 = .ok (.getfield 325, 3) := by decide +kernel
theorem dX12_move_47 : decode cX12_move 47 = .ok (.iload_n 2, 1) := by decide +kernel
theorem dX12_move_48 : decode cX12_move 48 = .ok (.if_icmp .le 7, 3) := by decide +kernel
theorem dX12_move_51 : decode cX12_move 51 = .ok (.iconst 1, 1) := by decide +kernel
theorem dX12_move_52 : decode cX12_move 52 = .ok (.goto 4, 3) := by decide +kernel
theorem dX12_move_55 : decode cX12_move 55 = .ok (.iconst 0, 1) := by decide +kernel
theorem dX12_move_56 : decode cX12_move 56 = .ok (.invokevirtual 401, 3) := by decide +kernel
theorem dX12_move_59 : decode cX12_move 59 = .ok (.aload_n 0, 1) := by decide +kernel
theorem dX12_move_60 : decode cX12_move 60 = .ok (.getfield 101, 3) := by decide +kernel
theorem dX12_move_63 : decode cX12_move 63 = .ok (.aload_n 0, 1) := by decide +kernel
theorem dX12_move_64 : decode cX12_move 64 = .ok (.getfield 375, 3) := by decide +kernel
theorem dX12_move_67 : decode cX12_move 67 = .ok (.laload, 1) := by decide +kernel
theorem dX12_move_68 : decode cX12_move 68 = .ok (.lstore_n 3, 1) := by decide +kernel
theorem dX12_move_69 : decode cX12_move 69 = .ok (.aload_n 0, 1) := by decide +kernel
theorem dX12_move_70 : decode cX12_move 70 = .ok (.iload_n 1, 1) := by decide +kernel
theorem dX12_move_71 : decode cX12_move 71 = .ok (.iconst 4, 1) := by decide +kernel
theorem dX12_move_72 : decode cX12_move 72 = .ok (.if_icmp .ne 7, 3) := by decide +kernel
theorem dX12_move_75 : decode cX12_move 75 = .ok (.lconst 0, 1) := by decide +kernel
theorem dX12_move_76 : decode cX12_move 76 = .ok (.goto 4, 3) := by decide +kernel
theorem dX12_move_79 : decode cX12_move 79 = .ok (.lload_n 3, 1) := by decide +kernel
theorem dX12_move_80 : decode cX12_move 80 = .ok (.iload_n 1, 1) := by decide +kernel
theorem dX12_move_81 : decode cX12_move 81 = .ok (.iconst 2, 1) := by decide +kernel
theorem dX12_move_82 : decode cX12_move 82 = .ok (.if_icmp .ne 17, 3) := by decide +kernel
theorem dX12_move_85 : decode cX12_move 85 = .ok (.aload_n 0, 1) := by decide +kernel
theorem dX12_move_86 : decode cX12_move 86 = .ok (.getfield 101, 3) := by decide +kernel
theorem dX12_move_89 : decode cX12_move 89 = .ok (.aload_n 0, 1) := by decide +kernel
theorem dX12_move_90 : decode cX12_move 90 = .ok (.getfield 375, 3) := by decide +kernel
theorem dX12_move_93 : decode cX12_move 93 = .ok (.iconst 1, 1) := by decide +kernel
theorem dX12_move_94 : decode cX12_move 94 = .ok (.iadd, 1) := by decide +kernel
theorem dX12_move_95 : decode cX12_move 95 = .ok (.laload, 1) := by decide +kernel
theorem dX12_move_96 : decode cX12_move 96 = .ok (.goto 13, 3) := by decide +kernel
theorem dX12_move_99 : decode cX12_move 99 = .ok (.iload_n 1, 1) := by decide +kernel
theorem dX12_move_100 : decode cX12_move 100 = .ok (.iconst 4, 1) := by decide +kernel
theorem dX12_move_101 : decode cX12_move 101 = .ok (.if_icmp .ne 7, 3) := by decide +kernel
theorem dX12_move_104 : decode cX12_move 104 = .ok (.lload_n 3, 1) := by decide +kernel
theorem dX12_move_105 : decode cX12_move 105 = .ok (.goto 4, 3) := by decide +kernel
theorem dX12_move_108 : decode cX12_move 108 = .ok (.lconst 0, 1) := by decide +kernel
theorem dX12_move_109 : decode cX12_move 109 = .ok (.invokevirtual 405, 3) := by decide +kernel
theorem dX12_move_112 : decode cX12_move 112 = .ok (.ifCond .ne 5, 3) := by decide +kernel
theorem dX12_move_115 : decode cX12_move 115 = .ok (.iconst 0, 1) := by decide +kernel
theorem dX12_move_116 : decode cX12_move 116 = .ok (.ireturn, 1) := by decide +kernel
theorem dX12_move_117 : decode cX12_move 117 = .ok (.aload_n 0, 1) := by decide +kernel
theorem dX12_move_118 : decode cX12_move 118 = .ok (.iconst 0, 1) := by decide +kernel
theorem dX12_move_119 : decode cX12_move 119 = .ok (.putfield 325, 3) := by decide +kernel
theorem dX12_move_122 : decode cX12_move 122 = .ok (.iconst 1, 1) := by decide +kernel
theorem dX12_move_123 : decode cX12_move 123 = .ok (.ireturn, 1) := by decide +kernel
theorem dX12_moves_0 : decode cX12_moves 0 = .ok (.aload_n 0, 1) := by decide +kernel
theorem dX12_moves_1 : decode cX12_moves 1 = .ok (.getfield 322, 3) := by decide +kernel
theorem dX12_moves_4 : decode cX12_moves 4 = .ok (.ifCond .eq 20, 3) := by decide +kernel
theorem dX12_moves_7 : decode cX12_moves 7 = .ok (.aload_n 0, 1) := by decide +kernel
theorem dX12_moves_8 : decode cX12_moves 8 = .ok (.getfield 16, 3) := by decide +kernel
theorem dX12_moves_11 : decode cX12_moves 11 = .ok (.ifCond .ne 13, 3) := by decide +kernel
theorem dX12_moves_14 : decode cX12_moves 14 = .ok (.aload_n 0, 1) := by decide +kernel
theorem dX12_moves_15 : decode cX12_moves 15 = .ok (.iconst 3, 1) := by decide +kernel
theorem dX12_moves_16 : decode cX12_moves 16 = .ok (.invokevirtual 367, 3) := by decide +kernel
theorem dX12_moves_19 : decode cX12_moves 19 = .ok (.ifCond .ne 5, 3) := by decide +kernel
theorem dX12_moves_22 : decode cX12_moves 22 = .ok (.iconst 0, 1) := by decide +kernel
theorem dX12_moves_23 : decode cX12_moves 23 = .ok (.ireturn, 1) := by decide +kernel
theorem dX12_moves_24 : decode cX12_moves 24 = .ok (.aload_n 0, 1) := by decide +kernel
theorem dX12_moves_25 : decode cX12_moves 25 = .ok (.iconst 0, 1) := by decide +kernel
theorem dX12_moves_26 : decode cX12_moves 26 = .ok (.putfield 322, 3) := by decide +kernel
theorem dX12_moves_29 : decode cX12_moves 29 = .ok (.aload_n 0, 1) := by decide +kernel
theorem dX12_moves_30 : decode cX12_moves 30 = .ok (.iconst 0, 1) := by decide +kernel
theorem dX12_moves_31 : decode cX12_moves 31 = .ok (.invokevirtual 367, 3) := by decide +kernel
theorem dX12_moves_34 : decode cX12_moves 34 = .ok (.ifCond .ne 5, 3) := by decide +kernel
theorem dX12_moves_37 : decode cX12_moves 37 = .ok (.iconst 0, 1) := by decide +kernel
theorem dX12_moves_38 : decode cX12_moves 38 = .ok (.ireturn, 1) := by decide +kernel
theorem dX12_moves_39 : decode cX12_moves 39 = .ok (.aload_n 0, 1) := by decide +kernel
theorem dX12_moves_40 : decode cX12_moves 40 = .ok (.dup, 1) := by decide +kernel
theorem dX12_moves_41 : decode cX12_moves 41 = .ok (.getfield 316, 3) := by decide +kernel
theorem dX12_moves_44 : decode cX12_moves 44 = .ok (.lload_n 1, 1) := by decide +kernel
theorem dX12_moves_45 : decode cX12_moves 45 = .ok (.ladd, 1) := by decide +kernel
theorem dX12_moves_46 : decode cX12_moves 46 = .ok (.putfield 316, 3) := by decide +kernel
theorem dX12_moves_49 : decode cX12_moves 49 = .ok (.aload_n 0, 1) := by decide +kernel
theorem dX12_moves_50 : decode cX12_moves 50 = .ok (.dup, 1) := by decide +kernel
theorem dX12_moves_51 : decode cX12_moves 51 = .ok (.getfield 319, 3) := by decide +kernel
theorem dX12_moves_54 : decode cX12_moves 54 = .ok (.lload_n 3, 1) := by decide +kernel
theorem dX12_moves_55 : decode cX12_moves 55 = .ok (.ladd, 1) := by decide +kernel
theorem dX12_moves_56 : decode cX12_moves 56 = .ok (.putfield 319, 3) := by decide +kernel
theorem dX12_moves_59 : decode cX12_moves 59 = .ok (.aload_n 0, 1) := by decide +kernel
theorem dX12_moves_60 : decode cX12_moves 60 = .ok (.iconst 0, 1) := by decide +kernel
theorem dX12_moves_61 : decode cX12_moves 61 = .ok (.invokevirtual 370, 3) := by decide +kernel
theorem dX12_moves_64 : decode cX12_moves 64 = .ok (.iconst 1, 1) := by decide +kernel
theorem dX12_moves_65 : decode cX12_moves 65 = .ok (.ireturn, 1) := by decide +kernel
theorem dX12_number_0 : decode cX12_number 0 = .ok (.lconst 0, 1) := by decide +kernel
theorem dX12_number_1 : decode cX12_number 1 = .ok (.lstore_n 2, 1) := by decide +kernel
theorem dX12_number_2 : decode cX12_number 2 = .ok (.iconst 0, 1) := by decide +kernel
theorem dX12_number_3 : decode cX12_number 3 = .ok (.istore 4, 2) := by decide +kernel
theorem dX12_number_5 : decode cX12_number 5 = .ok (.iload 4, 2) := by decide +kernel
theorem dX12_number_7 : decode cX12_number 7 = .ok (.iload_n 1, 1) := by decide +kernel
theorem dX12_number_8 : decode cX12_number 8 = .ok (.if_icmp .ge 78, 3) := by decide +kernel
theorem dX12_number_11 : decode cX12_number 11 = .ok (.aload_n 0, 1) := by decide +kernel
theorem dX12_number_12 : decode cX12_number 12 = .ok (.getfield 147, 3) := by decide +kernel
theorem dX12_number_15 : decode cX12_number 15 = .ok (.ifCond .ne 71, 3) := by decide +kernel
theorem dX12_number_18 : decode cX12_number 18 = .ok (.aload_n 0, 1) := by decide +kernel
theorem dX12_number_19 : decode cX12_number 19 = .ok (.getfield 175, 3) := by decide +kernel
theorem dX12_number_22 : decode cX12_number 22 = .ok (.lconst 0, 1) := by decide +kernel
theorem dX12_number_23 : decode cX12_number 23 = .ok (.lcmp, 1) := by decide +kernel
theorem dX12_number_24 : decode cX12_number 24 = .ok (.ifCond .lt 16, 3) := by decide +kernel
theorem dX12_number_27 : decode cX12_number 27 = .ok (.aload_n 0, 1) := by decide +kernel
theorem dX12_number_28 : decode cX12_number 28 = .ok (.getfield 175, 3) := by decide +kernel
theorem dX12_number_31 : decode cX12_number 31 = .ok (.aload_n 0, 1) := by decide +kernel
theorem dX12_number_32 : decode cX12_number 32 = .ok (.getfield 125, 3) := by decide +kernel
theorem dX12_number_35 : decode cX12_number 35 = .ok (.i2l, 1) := by decide +kernel
theorem dX12_number_36 : decode cX12_number 36 = .ok (.lcmp, 1) := by decide +kernel
theorem dX12_number_37 : decode cX12_number 37 = .ok (.ifCond .lt 12, 3) := by decide +kernel
theorem dX12_number_40 : decode cX12_number 40 = .ok (.aload_n 0, 1) := by decide +kernel
theorem dX12_number_41 : decode cX12_number 41 = .ok (.iconst 1, 1) := by decide +kernel
theorem dX12_number_42 : decode cX12_number 42 = .ok (.invokevirtual 179, 3) := by decide +kernel
theorem dX12_number_45 : decode cX12_number 45 = .ok (.istore 5, 2) := by decide +kernel
theorem dX12_number_47 : decode cX12_number 47 = .ok (.lconst 0, 1) := by decide +kernel
theorem dX12_number_48 : decode cX12_number 48 = .ok (.lreturn, 1) := by decide +kernel
theorem dX12_number_49 : decode cX12_number 49 = .ok (.lload_n 2, 1) := by decide +kernel
theorem dX12_number_50 : decode cX12_number 50 = .ok (.bipush 8, 2) := by decide +kernel
theorem dX12_number_52 : decode cX12_number 52 = .ok (.lshl, 1) := by decide +kernel
theorem dX12_number_53 : decode cX12_number 53 = .ok (.aload_n 0, 1) := by decide +kernel
theorem dX12_number_54 : decode cX12_number 54 = .ok (.getfield 7, 3) := by decide +kernel
theorem dX12_number_57 : decode cX12_number 57 = .ok (.aload_n 0, 1) := by decide +kernel
theorem dX12_number_58 : decode cX12_number 58 = .ok (.getfield 175, 3) := by decide +kernel
theorem dX12_number_61 : decode cX12_number 61 = .ok (.l2i, 1) := by decide +kernel
theorem dX12_number_62 : decode cX12_number 62 = .ok (.baload, 1) := by decide +kernel
theorem dX12_number_63 : decode cX12_number 63 = .ok (.i2l, 1) := by decide +kernel
theorem dX12_number_64 : decode cX12_number 64 = .ok (.ldc2_w 183, 3) := by decide +kernel
theorem dX12_number_67 : decode cX12_number 67 = .ok (.land, 1) := by decide +kernel
theorem dX12_number_68 : decode cX12_number 68 = .ok (.lor, 1) := by decide +kernel
theorem dX12_number_69 : decode cX12_number 69 = .ok (.lstore_n 2, 1) := by decide +kernel
theorem dX12_number_70 : decode cX12_number 70 = .ok (.aload_n 0, 1) := by decide +kernel
theorem dX12_number_71 : decode cX12_number 71 = .ok (.dup, 1) := by decide +kernel
theorem dX12_number_72 : decode cX12_number 72 = .ok (.getfield 175, 3) := by decide +kernel
theorem dX12_number_75 : decode cX12_number 75 = .ok (.lconst 1, 1) := by decide +kernel
theorem dX12_number_76 : decode cX12_number 76 = .ok (.ladd, 1) := by decide +kernel
theorem dX12_number_77 : decode cX12_number 77 = .ok (.putfield 175, 3) := by decide +kernel
theorem dX12_number_80 : decode cX12_number 80 = .ok (.iinc 4 1, 3) := by decide +kernel
theorem dX12_number_83 : decode cX12_number 83 = .ok (.goto (-78), 3) := by decide +kernel
theorem dX12_number_86 : decode cX12_number 86 = .ok (.lload_n 2, 1) := by decide +kernel
theorem dX12_number_87 : decode cX12_number 87 = .ok (.lreturn, 1) := by decide +kernel
theorem dX12_numberFrom_0 : decode cX12_numberFrom 0 = .ok (.lconst 0, 1) := by decide +kernel
theorem dX12_numberFrom_1 : decode cX12_numberFrom 1 = .ok (.lstore_n 2, 1) := by decide +kernel
theorem dX12_numberFrom_2 : decode cX12_numberFrom 2 = .ok (.iload_n 1, 1) := by decide +kernel
theorem dX12_numberFrom_3 : decode cX12_numberFrom 3 = .ok (.sipush 255, 3) := by decide +kernel
theorem dX12_numberFrom_6 : decode cX12_numberFrom 6 = .ok (.if_icmp .ne 7, 3) := by decide +kernel
theorem dX12_numberFrom_9 : decode cX12_numberFrom 9 = .ok (.iconst 4, 1) := by decide +kernel
theorem dX12_numberFrom_10 : decode cX12_numberFrom 10 = .ok (.goto 25, 3) := by decide +kernel
theorem dX12_numberFrom_13 : decode cX12_numberFrom 13 = .ok (.iload_n 1, 1) := by decide +kernel
theorem dX12_numberFrom_14 : decode cX12_numberFrom 14 = .ok (.bipush 28, 2) := by decide +kernel
theorem dX12_numberFrom_16 : decode cX12_numberFrom 16 = .ok (.if_icmp .ne 7, 3) := by decide +kernel
theorem dX12_numberFrom_19 : decode cX12_numberFrom 19 = .ok (.iconst 2, 1) := by decide +kernel
theorem dX12_numberFrom_20 : decode cX12_numberFrom 20 = .ok (.goto 15, 3) := by decide +kernel
theorem dX12_numberFrom_23 : decode cX12_numberFrom 23 = .ok (.iload_n 1, 1) := by decide +kernel
theorem dX12_numberFrom_24 : decode cX12_numberFrom 24 = .ok (.sipush 247, 3) := by decide +kernel
theorem dX12_numberFrom_27 : decode cX12_numberFrom 27 = .ok (.if_icmp .lt 7, 3) := by decide +kernel
theorem dX12_numberFrom_30 : decode cX12_numberFrom 30 = .ok (.iconst 1, 1) := by decide +kernel
theorem dX12_numberFrom_31 : decode cX12_numberFrom 31 = .ok (.goto 4, 3) := by decide +kernel
theorem dX12_numberFrom_34 : decode cX12_numberFrom 34 = .ok (.iconst 0, 1) := by decide +kernel
theorem dX12_numberFrom_35 : decode cX12_numberFrom 35 = .ok (.istore 4, 2) := by decide +kernel
theorem dX12_numberFrom_37 : decode cX12_numberFrom 37 = .ok (.iconst 0, 1) := by decide +kernel
theorem dX12_numberFrom_38 : decode cX12_numberFrom 38 = .ok (.istore 5, 2) := by decide +kernel
theorem dX12_numberFrom_40 : decode cX12_numberFrom 40 = .ok (.iconst 0, 1) := by decide +kernel
theorem dX12_numberFrom_41 : decode cX12_numberFrom 41 = .ok (.istore 6, 2) := by decide +kernel
theorem dX12_numberFrom_43 : decode cX12_numberFrom 43 = .ok (.iload 6, 2) := by decide +kernel
theorem dX12_numberFrom_45 : decode cX12_numberFrom 45 = .ok (.iload 4, 2) := by decide +kernel
theorem dX12_numberFrom_47 : decode cX12_numberFrom 47 = .ok (.if_icmp .ge 31, 3) := by decide +kernel
theorem dX12_numberFrom_50 : decode cX12_numberFrom 50 = .ok (.aload_n 0, 1) := by decide +kernel
theorem dX12_numberFrom_51 : decode cX12_numberFrom 51 = .ok (.invokevirtual 349, 3) := by decide +kernel
theorem dX12_numberFrom_54 : decode cX12_numberFrom 54 = .ok (.istore 7, 2) := by decide +kernel
theorem dX12_numberFrom_56 : decode cX12_numberFrom 56 = .ok (.iload 7, 2) := by decide +kernel
theorem dX12_numberFrom_58 : decode cX12_numberFrom 58 = .ok (.ifCond .ge 4, 3) := by decide +kernel
theorem dX12_numberFrom_61 : decode cX12_numberFrom 61 = .ok (.return_, 1) := by decide +kernel
theorem dX12_numberFrom_62 : decode cX12_numberFrom 62 = .ok (.iload 5, 2) := by decide +kernel
theorem dX12_numberFrom_64 : decode cX12_numberFrom 64 = .ok (.bipush 8, 2) := by decide +kernel
theorem dX12_numberFrom_66 : decode cX12_numberFrom 66 = .ok (.ishl, 1) := by decide +kernel
theorem dX12_numberFrom_67 : decode cX12_numberFrom 67 = .ok (.iload 7, 2) := by decide +kernel
theorem dX12_numberFrom_69 : decode cX12_numberFrom 69 = .ok (.ior, 1) := by decide +kernel
theorem dX12_numberFrom_70 : decode cX12_numberFrom 70 = .ok (.istore 5, 2) := by decide +kernel
theorem dX12_numberFrom_72 : decode cX12_numberFrom 72 = .ok (.iinc 6 1, 3) := by decide +kernel
theorem dX12_numberFrom_75 : decode cX12_numberFrom 75 = .ok (.goto (-32), 3) := by decide +kernel
theorem dX12_numberFrom_78 : decode cX12_numberFrom 78 = .ok (.iload_n 1, 1) := by decide +kernel
theorem dX12_numberFrom_79 : decode cX12_numberFrom 79 = .ok (.sipush 255, 3) := by decide +kernel
theorem dX12_numberFrom_82 : decode cX12_numberFrom 82 = .ok (.if_icmp .ne 27, 3) := by decide +kernel
theorem dX12_numberFrom_85 : decode cX12_numberFrom 85 = .ok (.aload_n 0, 1) := by decide +kernel
theorem dX12_numberFrom_86 : decode cX12_numberFrom 86 = .ok (.getfield 16, 3) := by decide +kernel
theorem dX12_numberFrom_89 : decode cX12_numberFrom 89 = .ok (.ifCond .ne 9, 3) := by decide +kernel
theorem dX12_numberFrom_92 : decode cX12_numberFrom 92 = .ok (.iload 5, 2) := by decide +kernel
theorem dX12_numberFrom_94 : decode cX12_numberFrom 94 = .ok (.i2l, 1) := by decide +kernel
theorem dX12_numberFrom_95 : decode cX12_numberFrom 95 = .ok (.goto 10, 3) := by decide +kernel
theorem dX12_numberFrom_98 : decode cX12_numberFrom 98 = .ok (.iload 5, 2) := by decide +kernel
theorem dX12_numberFrom_100 : decode cX12_numberFrom 100 = .ok (.i2l, 1) := by decide +kernel
theorem dX12_numberFrom_101 : decode cX12_numberFrom 101 = .ok (.ldc2_w 361, 3) := by decide +kernel
theorem dX12_numberFrom_104 : decode cX12_numberFrom 104 = .ok (.lmul, 1) := by decide +kernel
theorem dX12_numberFrom_105 : decode cX12_numberFrom 105 = .ok (.lstore_n 2, 1) := by decide +kernel
theorem dX12_numberFrom_106 : decode cX12_numberFrom 106 = .ok (.goto 95, 3) := by decide +kernel
theorem dX12_numberFrom_109 : decode cX12_numberFrom 109 = .ok (.iload_n 1, 1) := by decide +kernel
theorem dX12_numberFrom_110 : decode cX12_numberFrom 110 = .ok (.bipush 28, 2) := by decide +kernel
theorem dX12_numberFrom_112 : decode cX12_numberFrom 112 = .ok (.if_icmp .ne 15, 3) := by decide +kernel
theorem dX12_numberFrom_115 : decode cX12_numberFrom 115 = .ok (.iload 5, 2) := by decide +kernel
theorem dX12_numberFrom_117 : decode cX12_numberFrom 117 = .ok (.i2s, 1) := by decide +kernel
theorem dX12_numberFrom_118 : decode cX12_numberFrom 118 = .ok (.i2l, 1) := by decide +kernel
theorem dX12_numberFrom_119 : decode cX12_numberFrom 119 = .ok (.ldc2_w 361, 3) := by decide +kernel
theorem dX12_numberFrom_122 : decode cX12_numberFrom 122 = .ok (.lmul, 1) := by decide +kernel
theorem dX12_numberFrom_123 : decode cX12_numberFrom 123 = .ok (.lstore_n 2, 1) := by decide +kernel
theorem dX12_numberFrom_124 : decode cX12_numberFrom 124 = .ok (.goto 77, 3) := by decide +kernel
theorem dX12_numberFrom_127 : decode cX12_numberFrom 127 = .ok (.iload_n 1, 1) := by decide +kernel
theorem dX12_numberFrom_128 : decode cX12_numberFrom 128 = .ok (.sipush 246, 3) := by decide +kernel
theorem dX12_numberFrom_131 : decode cX12_numberFrom 131 = .ok (.if_icmp .gt 17, 3) := by decide +kernel
theorem dX12_numberFrom_134 : decode cX12_numberFrom 134 = .ok (.iload_n 1, 1) := by decide +kernel
theorem dX12_numberFrom_135 : decode cX12_numberFrom 135 = .ok (.sipush 139, 3) := by decide +kernel
theorem dX12_numberFrom_138 : decode cX12_numberFrom 138 = .ok (.isub, 1) := by decide +kernel
theorem dX12_numberFrom_139 : decode cX12_numberFrom 139 = .ok (.i2l, 1) := by decide +kernel
theorem dX12_numberFrom_140 : decode cX12_numberFrom 140 = .ok (.ldc2_w 361, 3) := by decide +kernel
theorem dX12_numberFrom_143 : decode cX12_numberFrom 143 = .ok (.lmul, 1) := by decide +kernel
theorem dX12_numberFrom_144 : decode cX12_numberFrom 144 = .ok (.lstore_n 2, 1) := by decide +kernel
theorem dX12_numberFrom_145 : decode cX12_numberFrom 145 = .ok (.goto 56, 3) := by decide +kernel
theorem dX12_numberFrom_148 : decode cX12_numberFrom 148 = .ok (.iload_n 1, 1) := by decide +kernel
theorem dX12_numberFrom_149 : decode cX12_numberFrom 149 = .ok (.sipush 250, 3) := by decide +kernel
theorem dX12_numberFrom_152 : decode cX12_numberFrom 152 = .ok (.if_icmp .gt 27, 3) := by decide +kernel
theorem dX12_numberFrom_155 : decode cX12_numberFrom 155 = .ok (.iload_n 1, 1) := by decide +kernel
theorem dX12_numberFrom_156 : decode cX12_numberFrom 156 = .ok (.sipush 247, 3) := by decide +kernel
theorem dX12_numberFrom_159 : decode cX12_numberFrom 159 = .ok (.isub, 1) := by decide +kernel
theorem dX12_numberFrom_160 : decode cX12_numberFrom 160 = .ok (.sipush 256, 3) := by decide +kernel
theorem dX12_numberFrom_163 : decode cX12_numberFrom 163 = .ok (.imul, 1) := by decide +kernel
theorem dX12_numberFrom_164 : decode cX12_numberFrom 164 = .ok (.iload 5, 2) := by decide +kernel
theorem dX12_numberFrom_166 : decode cX12_numberFrom 166 = .ok (.iadd, 1) := by decide +kernel
theorem dX12_numberFrom_167 : decode cX12_numberFrom 167 = .ok (.bipush 108, 2) := by decide +kernel
theorem dX12_numberFrom_169 : decode cX12_numberFrom 169 = .ok (.iadd, 1) := by decide +kernel
theorem dX12_numberFrom_170 : decode cX12_numberFrom 170 = .ok (.i2l, 1) := by decide +kernel
theorem dX12_numberFrom_171 : decode cX12_numberFrom 171 = .ok (.ldc2_w 361, 3) := by decide +kernel
theorem dX12_numberFrom_174 : decode cX12_numberFrom 174 = .ok (.lmul, 1) := by decide +kernel
theorem dX12_numberFrom_175 : decode cX12_numberFrom 175 = .ok (.lstore_n 2, 1) := by decide +kernel
theorem dX12_numberFrom_176 : decode cX12_numberFrom 176 = .ok (.goto 25, 3) := by decide +kernel
theorem dX12_numberFrom_179 : decode cX12_numberFrom 179 = .ok (.iload_n 1, 1) := by decide +kernel
theorem dX12_numberFrom_180 : decode cX12_numberFrom 180 = .ok (.sipush 251, 3) := by decide +kernel
theorem dX12_numberFrom_183 : decode cX12_numberFrom 183 = .ok (.isub, 1) := by decide +kernel
theorem dX12_numberFrom_184 : decode cX12_numberFrom 184 = .ok (.ineg, 1) := by decide +kernel
theorem dX12_numberFrom_185 : decode cX12_numberFrom 185 = .ok (.sipush 256, 3) := by decide +kernel
theorem dX12_numberFrom_188 : decode cX12_numberFrom 188 = .ok (.imul, 1) := by decide +kernel
theorem dX12_numberFrom_189 : decode cX12_numberFrom 189 = .ok (.iload 5, 2) := by decide +kernel
theorem dX12_numberFrom_191 : decode cX12_numberFrom 191 = .ok (.isub, 1) := by decide +kernel
theorem dX12_numberFrom_192 : decode cX12_numberFrom 192 = .ok (.bipush 108, 2) := by decide +kernel
theorem dX12_numberFrom_194 : decode cX12_numberFrom 194 = .ok (.isub, 1) := by decide +kernel
theorem dX12_numberFrom_195 : decode cX12_numberFrom 195 = .ok (.i2l, 1) := by decide +kernel
theorem dX12_numberFrom_196 : decode cX12_numberFrom 196 = .ok (.ldc2_w 361, 3) := by decide +kernel
theorem dX12_numberFrom_199 : decode cX12_numberFrom 199 = .ok (.lmul, 1) := by decide +kernel
theorem dX12_numberFrom_200 : decode cX12_numberFrom 200 = .ok (.lstore_n 2, 1) := by decide +kernel
theorem dX12_numberFrom_201 : decode cX12_numberFrom 201 = .ok (.aload_n 0, 1) := by decide +kernel
theorem dX12_numberFrom_202 : decode cX12_numberFrom 202 = .ok (.lload_n 2, 1) := by decide +kernel
theorem dX12_numberFrom_203 : decode cX12_numberFrom 203 = .ok (.invokevirtual 363, 3) := by decide +kernel
theorem dX12_numberFrom_206 : decode cX12_numberFrom 206 = .ok (.istore 6, 2) := by decide +kernel
theorem dX12_numberFrom_208 : decode cX12_numberFrom 208 = .ok (.return_, 1) := by decide +kernel
theorem dX12_octet_0 : decode cX12_octet 0 = .ok (.iload_n 1, 1) := by decide +kernel
theorem dX12_octet_1 : decode cX12_octet 1 = .ok (.ifCond .lt 24, 3) := by decide +kernel
theorem dX12_octet_4 : decode cX12_octet 4 = .ok (.iload_n 1, 1) := by decide +kernel
theorem dX12_octet_5 : decode cX12_octet 5 = .ok (.aload_n 0, 1) := by decide +kernel
theorem dX12_octet_6 : decode cX12_octet 6 = .ok (.getfield 137, 3) := by decide +kernel
theorem dX12_octet_9 : decode cX12_octet 9 = .ok (.if_icmp .ge 16, 3) := by decide +kernel
theorem dX12_octet_12 : decode cX12_octet 12 = .ok (.aload_n 0, 1) := by decide +kernel
theorem dX12_octet_13 : decode cX12_octet 13 = .ok (.getfield 13, 3) := by decide +kernel
theorem dX12_octet_16 : decode cX12_octet 16 = .ok (.iload_n 1, 1) := by decide +kernel
theorem dX12_octet_17 : decode cX12_octet 17 = .ok (.baload, 1) := by decide +kernel
theorem dX12_octet_18 : decode cX12_octet 18 = .ok (.sipush 255, 3) := by decide +kernel
theorem dX12_octet_21 : decode cX12_octet 21 = .ok (.iand, 1) := by decide +kernel
theorem dX12_octet_22 : decode cX12_octet 22 = .ok (.goto 4, 3) := by decide +kernel
theorem dX12_octet_25 : decode cX12_octet 25 = .ok (.iconst (-1), 1) := by decide +kernel
theorem dX12_octet_26 : decode cX12_octet 26 = .ok (.ireturn, 1) := by decide +kernel
theorem dX12_offset_0 : decode cX12_offset 0 = .ok (.lconst 0, 1) := by decide +kernel
theorem dX12_offset_1 : decode cX12_offset 1 = .ok (.lstore_n 2, 1) := by decide +kernel
theorem dX12_offset_2 : decode cX12_offset 2 = .ok (.iconst 0, 1) := by decide +kernel
theorem dX12_offset_3 : decode cX12_offset 3 = .ok (.istore 4, 2) := by decide +kernel
theorem dX12_offset_5 : decode cX12_offset 5 = .ok (.iload 4, 2) := by decide +kernel
theorem dX12_offset_7 : decode cX12_offset 7 = .ok (.aload_n 0, 1) := by decide +kernel
theorem dX12_offset_8 : decode cX12_offset 8 = .ok (.getfield 185, 3) := by decide +kernel
theorem dX12_offset_11 : decode cX12_offset 11 = .ok (.if_icmp .ge 40, 3) := by decide +kernel
theorem dX12_offset_14 : decode cX12_offset 14 = .ok (.lload_n 2, 1) := by decide +kernel
theorem dX12_offset_15 : decode cX12_offset 15 = .ok (.bipush 8, 2) := by decide +kernel
theorem dX12_offset_17 : decode cX12_offset 17 = .ok (.lshl, 1) := by decide +kernel
theorem dX12_offset_18 : decode cX12_offset 18 = .ok (.aload_n 0, 1) := by decide +kernel
theorem dX12_offset_19 : decode cX12_offset 19 = .ok (.getfield 7, 3) := by decide +kernel
theorem dX12_offset_22 : decode cX12_offset 22 = .ok (.aload_n 0, 1) := by decide +kernel
theorem dX12_offset_23 : decode cX12_offset 23 = .ok (.getfield 188, 3) := by decide +kernel
theorem dX12_offset_26 : decode cX12_offset 26 = .ok (.l2i, 1) := by decide +kernel
theorem dX12_offset_27 : decode cX12_offset 27 = .ok (.aload_n 0, 1) := by decide +kernel
theorem dX12_offset_28 : decode cX12_offset 28 = .ok (.getfield 185, 3) := by decide +kernel
theorem dX12_offset_31 : decode cX12_offset 31 = .ok (.iload_n 1, 1) := by decide +kernel
theorem dX12_offset_32 : decode cX12_offset 32 = .ok (.imul, 1) := by decide +kernel
theorem dX12_offset_33 : decode cX12_offset 33 = .ok (.iadd, 1) := by decide +kernel
theorem dX12_offset_34 : decode cX12_offset 34 = .ok (.iload 4, 2) := by decide +kernel
theorem dX12_offset_36 : decode cX12_offset 36 = .ok (.iadd, 1) := by decide +kernel
theorem dX12_offset_37 : decode cX12_offset 37 = .ok (.baload, 1) := by decide +kernel
theorem dX12_offset_38 : decode cX12_offset 38 = .ok (.i2l, 1) := by decide +kernel
theorem dX12_offset_39 : decode cX12_offset 39 = .ok (.ldc2_w 183, 3) := by decide +kernel
theorem dX12_offset_42 : decode cX12_offset 42 = .ok (.land, 1) := by decide +kernel
theorem dX12_offset_43 : decode cX12_offset 43 = .ok (.lor, 1) := by decide +kernel
theorem dX12_offset_44 : decode cX12_offset 44 = .ok (.lstore_n 2, 1) := by decide +kernel
theorem dX12_offset_45 : decode cX12_offset 45 = .ok (.iinc 4 1, 3) := by decide +kernel
theorem dX12_offset_48 : decode cX12_offset 48 = .ok (.goto (-43), 3) := by decide +kernel
theorem dX12_offset_51 : decode cX12_offset 51 = .ok (.lload_n 2, 1) := by decide +kernel
theorem dX12_offset_52 : decode cX12_offset 52 = .ok (.lreturn, 1) := by decide +kernel
theorem dX12_opens_0 : decode cX12_opens 0 = .ok (.iconst 0, 1) := by decide +kernel
theorem dX12_opens_1 : decode cX12_opens 1 = .ok (.istore_n 1, 1) := by decide +kernel
theorem dX12_opens_2 : decode cX12_opens 2 = .ok (.iload_n 1, 1) := by decide +kernel
theorem dX12_opens_3 : decode cX12_opens 3 = .ok (.bipush 6, 2) := by decide +kernel
theorem dX12_opens_5 : decode cX12_opens 5 = .ok (.iadd, 1) := by decide +kernel
theorem dX12_opens_6 : decode cX12_opens 6 = .ok (.aload_n 0, 1) := by decide +kernel
theorem dX12_opens_7 : decode cX12_opens 7 = .ok (.getfield 125, 3) := by decide +kernel
theorem dX12_opens_10 : decode cX12_opens 10 = .ok (.if_icmp .gt 35, 3) := by decide +kernel
theorem dX12_opens_13 : decode cX12_opens 13 = .ok (.aload_n 0, 1) := by decide +kernel
theorem dX12_opens_14 : decode cX12_opens 14 = .ok (.iload_n 1, 1) := by decide +kernel
theorem dX12_opens_15 : decode cX12_opens 15 = .ok (.aload_n 0, 1) := by decide +kernel
theorem dX12_opens_16 : decode cX12_opens 16 = .ok (.getfield 62, 3) := by decide +kernel
theorem dX12_opens_19 : decode cX12_opens 19 = .ok (.invokevirtual 239, 3) := by decide +kernel
theorem dX12_opens_22 : decode cX12_opens 22 = .ok (.ifCond .eq 17, 3) := by decide +kernel
theorem dX12_opens_25 : decode cX12_opens 25 = .ok (.aload_n 0, 1) := by decide +kernel
theorem dX12_opens_26 : decode cX12_opens 26 = .ok (.getfield 7, 3) := by decide +kernel
theorem dX12_opens_29 : decode cX12_opens 29 = .ok (.iload_n 1, 1) := by decide +kernel
theorem dX12_opens_30 : decode cX12_opens 30 = .ok (.iconst 5, 1) := by decide +kernel
theorem dX12_opens_31 : decode cX12_opens 31 = .ok (.iadd, 1) := by decide +kernel
theorem dX12_opens_32 : decode cX12_opens 32 = .ok (.baload, 1) := by decide +kernel
theorem dX12_opens_33 : decode cX12_opens 33 = .ok (.invokestatic 243, 3) := by decide +kernel
theorem dX12_opens_36 : decode cX12_opens 36 = .ok (.ifCond .ne 9, 3) := by decide +kernel
theorem dX12_opens_39 : decode cX12_opens 39 = .ok (.iinc 1 1, 3) := by decide +kernel
theorem dX12_opens_42 : decode cX12_opens 42 = .ok (.goto (-40), 3) := by decide +kernel
theorem dX12_opens_45 : decode cX12_opens 45 = .ok (.iinc 1 6, 3) := by decide +kernel
theorem dX12_opens_48 : decode cX12_opens 48 = .ok (.iload_n 1, 1) := by decide +kernel
theorem dX12_opens_49 : decode cX12_opens 49 = .ok (.iconst 4, 1) := by decide +kernel
theorem dX12_opens_50 : decode cX12_opens 50 = .ok (.iadd, 1) := by decide +kernel
theorem dX12_opens_51 : decode cX12_opens 51 = .ok (.aload_n 0, 1) := by decide +kernel
theorem dX12_opens_52 : decode cX12_opens 52 = .ok (.getfield 125, 3) := by decide +kernel
theorem dX12_opens_55 : decode cX12_opens 55 = .ok (.if_icmp .le 9, 3) := by decide +kernel
theorem dX12_opens_58 : decode cX12_opens 58 = .ok (.aload_n 0, 1) := by decide +kernel
theorem dX12_opens_59 : decode cX12_opens 59 = .ok (.iconst 1, 1) := by decide +kernel
theorem dX12_opens_60 : decode cX12_opens 60 = .ok (.invokevirtual 179, 3) := by decide +kernel
theorem dX12_opens_63 : decode cX12_opens 63 = .ok (.ireturn, 1) := by decide +kernel
theorem dX12_opens_64 : decode cX12_opens 64 = .ok (.iconst 1, 1) := by decide +kernel
theorem dX12_opens_65 : decode cX12_opens 65 = .ok (.istore_n 2, 1) := by decide +kernel
theorem dX12_opens_66 : decode cX12_opens 66 = .ok (.iconst 0, 1) := by decide +kernel
theorem dX12_opens_67 : decode cX12_opens 67 = .ok (.istore_n 3, 1) := by decide +kernel
theorem dX12_opens_68 : decode cX12_opens 68 = .ok (.iload_n 3, 1) := by decide +kernel
theorem dX12_opens_69 : decode cX12_opens 69 = .ok (.iconst 4, 1) := by decide +kernel
theorem dX12_opens_70 : decode cX12_opens 70 = .ok (.if_icmp .ge 33, 3) := by decide +kernel
theorem dX12_opens_73 : decode cX12_opens 73 = .ok (.iload_n 2, 1) := by decide +kernel
theorem dX12_opens_74 : decode cX12_opens 74 = .ok (.ifCond .eq 21, 3) := by decide +kernel
theorem dX12_opens_77 : decode cX12_opens 77 = .ok (.aload_n 0, 1) := by decide +kernel
theorem dX12_opens_78 : decode cX12_opens 78 = .ok (.getfield 7, 3) := by decide +kernel
theorem dX12_opens_81 : decode cX12_opens 81 = .ok (.iload_n 1, 1) := by decide +kernel
theorem dX12_opens_82 : decode cX12_opens 82 = .ok (.iload_n 3, 1) := by decide +kernel
theorem dX12_opens_83 : decode cX12_opens 83 = .ok (.iadd, 1) := by decide +kernel
theorem dX12_opens_84 : decode cX12_opens 84 = .ok (.baload, 1) := by decide +kernel
theorem dX12_opens_85 : decode cX12_opens 85 = .ok (.invokestatic 246, 3) := by decide +kernel
theorem dX12_opens_88 : decode cX12_opens 88 = .ok (.ifCond .lt 7, 3) := by decide +kernel
theorem dX12_opens_91 : decode cX12_opens 91 = .ok (.iconst 1, 1) := by decide +kernel
theorem dX12_opens_92 : decode cX12_opens 92 = .ok (.goto 4, 3) := by decide +kernel
theorem dX12_opens_95 : decode cX12_opens 95 = .ok (.iconst 0, 1) := by decide +kernel
theorem dX12_opens_96 : decode cX12_opens 96 = .ok (.istore_n 2, 1) := by decide +kernel
theorem dX12_opens_97 : decode cX12_opens 97 = .ok (.iinc 3 1, 3) := by decide +kernel
theorem dX12_opens_100 : decode cX12_opens 100 = .ok (.goto (-32), 3) := by decide +kernel
theorem dX12_opens_103 : decode cX12_opens 103 = .ok (.aload_n 0, 1) := by decide +kernel
theorem dX12_opens_104 : decode cX12_opens 104 = .ok (.ldc 249, 2) := by decide +kernel
theorem dX12_opens_106 : decode cX12_opens 106 = .ok (.putfield 132, 3) := by decide +kernel
theorem dX12_opens_109 : decode cX12_opens 109 = .ok (.aload_n 0, 1) := by decide +kernel
theorem dX12_opens_110 : decode cX12_opens 110 = .ok (.iconst 0, 1) := by decide +kernel
theorem dX12_opens_111 : decode cX12_opens 111 = .ok (.putfield 250, 3) := by decide +kernel
theorem dX12_opens_114 : decode cX12_opens 114 = .ok (.iconst 0, 1) := by decide +kernel
theorem dX12_opens_115 : decode cX12_opens 115 = .ok (.istore_n 3, 1) := by decide +kernel
theorem dX12_opens_116 : decode cX12_opens 116 = .ok (.iconst (-1), 1) := by decide +kernel
theorem dX12_opens_117 : decode cX12_opens 117 = .ok (.istore 4, 2) := by decide +kernel
theorem dX12_opens_119 : decode cX12_opens 119 = .ok (.iload_n 1, 1) := by decide +kernel
theorem dX12_opens_120 : decode cX12_opens 120 = .ok (.istore 5, 2) := by decide +kernel
theorem dX12_opens_122 : decode cX12_opens 122 = .ok (.iload 5, 2) := by decide +kernel
theorem dX12_opens_124 : decode cX12_opens 124 = .ok (.aload_n 0, 1) := by decide +kernel
theorem dX12_opens_125 : decode cX12_opens 125 = .ok (.getfield 125, 3) := by decide +kernel
theorem dX12_opens_128 : decode cX12_opens 128 = .ok (.if_icmp .ge 118, 3) := by decide +kernel
theorem dX12_opens_131 : decode cX12_opens 131 = .ok (.aload_n 0, 1) := by decide +kernel
theorem dX12_opens_132 : decode cX12_opens 132 = .ok (.getfield 7, 3) := by decide +kernel
theorem dX12_opens_135 : decode cX12_opens 135 = .ok (.iload 5, 2) := by decide +kernel
theorem dX12_opens_137 : decode cX12_opens 137 = .ok (.baload, 1) := by decide +kernel
theorem dX12_opens_138 : decode cX12_opens 138 = .ok (.sipush 255, 3) := by decide +kernel
theorem dX12_opens_141 : decode cX12_opens 141 = .ok (.iand, 1) := by decide +kernel
theorem dX12_opens_142 : decode cX12_opens 142 = .ok (.istore 6, 2) := by decide +kernel
theorem dX12_opens_144 : decode cX12_opens 144 = .ok (.iload_n 2, 1) := by decide +kernel
theorem dX12_opens_145 : decode cX12_opens 145 = .ok (.ifCond .eq 57, 3) := by decide +kernel
theorem dX12_opens_148 : decode cX12_opens 148 = .ok (.iload 6, 2) := by decide +kernel
theorem dX12_opens_150 : decode cX12_opens 150 = .ok (.invokestatic 243, 3) := by decide +kernel
theorem dX12_opens_153 : decode cX12_opens 153 = .ok (.ifCond .eq 6, 3) := by decide +kernel
theorem dX12_opens_156 : decode cX12_opens 156 = .ok (.goto 84, 3) := by decide +kernel
theorem dX12_opens_159 : decode cX12_opens 159 = .ok (.iload 6, 2) := by decide +kernel
theorem dX12_opens_161 : decode cX12_opens 161 = .ok (.invokestatic 246, 3) := by decide +kernel
theorem dX12_opens_164 : decode cX12_opens 164 = .ok (.istore 7, 2) := by decide +kernel
theorem dX12_opens_166 : decode cX12_opens 166 = .ok (.iload 7, 2) := by decide +kernel
theorem dX12_opens_168 : decode cX12_opens 168 = .ok (.ifCond .ge 9, 3) := by decide +kernel
theorem dX12_opens_171 : decode cX12_opens 171 = .ok (.aload_n 0, 1) := by decide +kernel
theorem dX12_opens_172 : decode cX12_opens 172 = .ok (.iconst 2, 1) := by decide +kernel
theorem dX12_opens_173 : decode cX12_opens 173 = .ok (.invokevirtual 179, 3) := by decide +kernel
theorem dX12_opens_176 : decode cX12_opens 176 = .ok (.ireturn, 1) := by decide +kernel
theorem dX12_opens_177 : decode cX12_opens 177 = .ok (.iload 4, 2) := by decide +kernel
theorem dX12_opens_179 : decode cX12_opens 179 = .ok (.ifCond .ge 10, 3) := by decide +kernel
theorem dX12_opens_182 : decode cX12_opens 182 = .ok (.iload 7, 2) := by decide +kernel
theorem dX12_opens_184 : decode cX12_opens 184 = .ok (.istore 4, 2) := by decide +kernel
theorem dX12_opens_186 : decode cX12_opens 186 = .ok (.goto 54, 3) := by decide +kernel
theorem dX12_opens_189 : decode cX12_opens 189 = .ok (.bipush 16, 2) := by decide +kernel
theorem dX12_opens_191 : decode cX12_opens 191 = .ok (.iload 4, 2) := by decide +kernel
theorem dX12_opens_193 : decode cX12_opens 193 = .ok (.imul, 1) := by decide +kernel
theorem dX12_opens_194 : decode cX12_opens 194 = .ok (.iload 7, 2) := by decide +kernel
theorem dX12_opens_196 : decode cX12_opens 196 = .ok (.iadd, 1) := by decide +kernel
theorem dX12_opens_197 : decode cX12_opens 197 = .ok (.istore 6, 2) := by decide +kernel
theorem dX12_opens_199 : decode cX12_opens 199 = .ok (.iconst (-1), 1) := by decide +kernel
theorem dX12_opens_200 : decode cX12_opens 200 = .ok (.istore 4, 2) := by decide +kernel
theorem dX12_opens_202 : decode cX12_opens 202 = .ok (.aload_n 0, 1) := by decide +kernel
theorem dX12_opens_203 : decode cX12_opens 203 = .ok (.iload 6, 2) := by decide +kernel
theorem dX12_opens_205 : decode cX12_opens 205 = .ok (.invokevirtual 144, 3) := by decide +kernel
theorem dX12_opens_208 : decode cX12_opens 208 = .ok (.istore 7, 2) := by decide +kernel
theorem dX12_opens_210 : decode cX12_opens 210 = .ok (.iload_n 3, 1) := by decide +kernel
theorem dX12_opens_211 : decode cX12_opens 211 = .ok (.iconst 4, 1) := by decide +kernel
theorem dX12_opens_212 : decode cX12_opens 212 = .ok (.if_icmp .lt 25, 3) := by decide +kernel
theorem dX12_opens_215 : decode cX12_opens 215 = .ok (.aload_n 0, 1) := by decide +kernel
theorem dX12_opens_216 : decode cX12_opens 216 = .ok (.getfield 59, 3) := by decide +kernel
theorem dX12_opens_219 : decode cX12_opens 219 = .ok (.aload_n 0, 1) := by decide +kernel
theorem dX12_opens_220 : decode cX12_opens 220 = .ok (.getfield 250, 3) := by decide +kernel
theorem dX12_opens_223 : decode cX12_opens 223 = .ok (.iload 7, 2) := by decide +kernel
theorem dX12_opens_225 : decode cX12_opens 225 = .ok (.i2b, 1) := by decide +kernel
theorem dX12_opens_226 : decode cX12_opens 226 = .ok (.bastore, 1) := by decide +kernel
theorem dX12_opens_227 : decode cX12_opens 227 = .ok (.aload_n 0, 1) := by decide +kernel
theorem dX12_opens_228 : decode cX12_opens 228 = .ok (.dup, 1) := by decide +kernel
theorem dX12_opens_229 : decode cX12_opens 229 = .ok (.getfield 250, 3) := by decide +kernel
theorem dX12_opens_232 : decode cX12_opens 232 = .ok (.iconst 1, 1) := by decide +kernel
theorem dX12_opens_233 : decode cX12_opens 233 = .ok (.iadd, 1) := by decide +kernel
theorem dX12_opens_234 : decode cX12_opens 234 = .ok (.putfield 250, 3) := by decide +kernel
theorem dX12_opens_237 : decode cX12_opens 237 = .ok (.iinc 3 1, 3) := by decide +kernel
theorem dX12_opens_240 : decode cX12_opens 240 = .ok (.iinc 5 1, 3) := by decide +kernel
theorem dX12_opens_243 : decode cX12_opens 243 = .ok (.goto (-121), 3) := by decide +kernel
theorem dX12_opens_246 : decode cX12_opens 246 = .ok (.iload 4, 2) := by decide +kernel
theorem dX12_opens_248 : decode cX12_opens 248 = .ok (.ifCond .lt 9, 3) := by decide +kernel
theorem dX12_opens_251 : decode cX12_opens 251 = .ok (.aload_n 0, 1) := by decide +kernel
theorem dX12_opens_252 : decode cX12_opens 252 = .ok (.iconst 2, 1) := by decide +kernel
theorem dX12_opens_253 : decode cX12_opens 253 = .ok (.invokevirtual 179, 3) := by decide +kernel
theorem dX12_opens_256 : decode cX12_opens 256 = .ok (.ireturn, 1) := by decide +kernel
theorem dX12_opens_257 : decode cX12_opens 257 = .ok (.iload_n 3, 1) := by decide +kernel
theorem dX12_opens_258 : decode cX12_opens 258 = .ok (.iconst 4, 1) := by decide +kernel
theorem dX12_opens_259 : decode cX12_opens 259 = .ok (.if_icmp .ge 11, 3) := by decide +kernel
theorem dX12_opens_262 : decode cX12_opens 262 = .ok (.aload_n 0, 1) := by decide +kernel
theorem dX12_opens_263 : decode cX12_opens 263 = .ok (.iconst 1, 1) := by decide +kernel
theorem dX12_opens_264 : decode cX12_opens 264 = .ok (.invokevirtual 179, 3) := by decide +kernel
theorem dX12_opens_267 : decode cX12_opens 267 = .ok (.ifCond .eq 7, 3) := by decide +kernel
theorem dX12_opens_270 : decode cX12_opens 270 = .ok (.iconst 1, 1) := by decide +kernel
theorem dX12_opens_271 : decode cX12_opens 271 = .ok (.goto 4, 3) := by decide +kernel
theorem dX12_opens_274 : decode cX12_opens 274 = .ok (.iconst 0, 1) := by decide +kernel
theorem dX12_opens_275 : decode cX12_opens 275 = .ok (.ireturn, 1) := by decide +kernel
theorem dX12_operand_0 : decode cX12_operand 0 = .ok (.aload_n 0, 1) := by decide +kernel
theorem dX12_operand_1 : decode cX12_operand 1 = .ok (.iload_n 1, 1) := by decide +kernel
theorem dX12_operand_2 : decode cX12_operand 2 = .ok (.bipush 30, 2) := by decide +kernel
theorem dX12_operand_4 : decode cX12_operand 4 = .ok (.if_icmp .ne 7, 3) := by decide +kernel
theorem dX12_operand_7 : decode cX12_operand 7 = .ok (.iconst 1, 1) := by decide +kernel
theorem dX12_operand_8 : decode cX12_operand 8 = .ok (.goto 4, 3) := by decide +kernel
theorem dX12_operand_11 : decode cX12_operand 11 = .ok (.iconst 0, 1) := by decide +kernel
theorem dX12_operand_12 : decode cX12_operand 12 = .ok (.putfield 207, 3) := by decide +kernel
theorem dX12_operand_15 : decode cX12_operand 15 = .ok (.iload_n 1, 1) := by decide +kernel
theorem dX12_operand_16 : decode cX12_operand 16 = .ok (.bipush 28, 2) := by decide +kernel
theorem dX12_operand_18 : decode cX12_operand 18 = .ok (.if_icmp .ne 18, 3) := by decide +kernel
theorem dX12_operand_21 : decode cX12_operand 21 = .ok (.aload_n 0, 1) := by decide +kernel
theorem dX12_operand_22 : decode cX12_operand 22 = .ok (.invokevirtual 211, 3) := by decide +kernel
theorem dX12_operand_25 : decode cX12_operand 25 = .ok (.bipush 8, 2) := by decide +kernel
theorem dX12_operand_27 : decode cX12_operand 27 = .ok (.ishl, 1) := by decide +kernel
theorem dX12_operand_28 : decode cX12_operand 28 = .ok (.aload_n 0, 1) := by decide +kernel
theorem dX12_operand_29 : decode cX12_operand 29 = .ok (.invokevirtual 211, 3) := by decide +kernel
theorem dX12_operand_32 : decode cX12_operand 32 = .ok (.ior, 1) := by decide +kernel
theorem dX12_operand_33 : decode cX12_operand 33 = .ok (.i2s, 1) := by decide +kernel
theorem dX12_operand_34 : decode cX12_operand 34 = .ok (.i2l, 1) := by decide +kernel
theorem dX12_operand_35 : decode cX12_operand 35 = .ok (.lreturn, 1) := by decide +kernel
theorem dX12_operand_36 : decode cX12_operand 36 = .ok (.iload_n 1, 1) := by decide +kernel
theorem dX12_operand_37 : decode cX12_operand 37 = .ok (.bipush 29, 2) := by decide +kernel
theorem dX12_operand_39 : decode cX12_operand 39 = .ok (.if_icmp .ne 33, 3) := by decide +kernel
theorem dX12_operand_42 : decode cX12_operand 42 = .ok (.aload_n 0, 1) := by decide +kernel
theorem dX12_operand_43 : decode cX12_operand 43 = .ok (.invokevirtual 211, 3) := by decide +kernel
theorem dX12_operand_46 : decode cX12_operand 46 = .ok (.bipush 24, 2) := by decide +kernel
theorem dX12_operand_48 : decode cX12_operand 48 = .ok (.ishl, 1) := by decide +kernel
theorem dX12_operand_49 : decode cX12_operand 49 = .ok (.aload_n 0, 1) := by decide +kernel
theorem dX12_operand_50 : decode cX12_operand 50 = .ok (.invokevirtual 211, 3) := by decide +kernel
theorem dX12_operand_53 : decode cX12_operand 53 = .ok (.bipush 16, 2) := by decide +kernel
theorem dX12_operand_55 : decode cX12_operand 55 = .ok (.ishl, 1) := by decide +kernel
theorem dX12_operand_56 : decode cX12_operand 56 = .ok (.ior, 1) := by decide +kernel
theorem dX12_operand_57 : decode cX12_operand 57 = .ok (.aload_n 0, 1) := by decide +kernel
theorem dX12_operand_58 : decode cX12_operand 58 = .ok (.invokevirtual 211, 3) := by decide +kernel
theorem dX12_operand_61 : decode cX12_operand 61 = .ok (.bipush 8, 2) := by decide +kernel
theorem dX12_operand_63 : decode cX12_operand 63 = .ok (.ishl, 1) := by decide +kernel
theorem dX12_operand_64 : decode cX12_operand 64 = .ok (.ior, 1) := by decide +kernel
theorem dX12_operand_65 : decode cX12_operand 65 = .ok (.aload_n 0, 1) := by decide +kernel
theorem dX12_operand_66 : decode cX12_operand 66 = .ok (.invokevirtual 211, 3) := by decide +kernel
theorem dX12_operand_69 : decode cX12_operand 69 = .ok (.ior, 1) := by decide +kernel
theorem dX12_operand_70 : decode cX12_operand 70 = .ok (.i2l, 1) := by decide +kernel
theorem dX12_operand_71 : decode cX12_operand 71 = .ok (.lreturn, 1) := by decide +kernel
theorem dX12_operand_72 : decode cX12_operand 72 = .ok (.iload_n 1, 1) := by decide +kernel
theorem dX12_operand_73 : decode cX12_operand 73 = .ok (.bipush 32, 2) := by decide +kernel
theorem dX12_operand_75 : decode cX12_operand 75 = .ok (.if_icmp .lt 17, 3) := by decide +kernel
theorem dX12_operand_78 : decode cX12_operand 78 = .ok (.iload_n 1, 1) := by decide +kernel
theorem dX12_operand_79 : decode cX12_operand 79 = .ok (.sipush 246, 3) := by decide +kernel
theorem dX12_operand_82 : decode cX12_operand 82 = .ok (.if_icmp .gt 10, 3) := by decide +kernel
theorem dX12_operand_85 : decode cX12_operand 85 = .ok (.iload_n 1, 1) := by decide +kernel
theorem dX12_operand_86 : decode cX12_operand 86 = .ok (.sipush 139, 3) := by decide +kernel
theorem dX12_operand_89 : decode cX12_operand 89 = .ok (.isub, 1) := by decide +kernel
theorem dX12_operand_90 : decode cX12_operand 90 = .ok (.i2l, 1) := by decide +kernel
theorem dX12_operand_91 : decode cX12_operand 91 = .ok (.lreturn, 1) := by decide +kernel
theorem dX12_operand_92 : decode cX12_operand 92 = .ok (.iload_n 1, 1) := by decide +kernel
theorem dX12_operand_93 : decode cX12_operand 93 = .ok (.sipush 247, 3) := by decide +kernel
theorem dX12_operand_96 : decode cX12_operand 96 = .ok (.if_icmp .lt 29, 3) := by decide +kernel
theorem dX12_operand_99 : decode cX12_operand 99 = .ok (.iload_n 1, 1) := by decide +kernel
theorem dX12_operand_100 : decode cX12_operand 100 = .ok (.sipush 250, 3) := by decide +kernel
theorem dX12_operand_103 : decode cX12_operand 103 = .ok (.if_icmp .gt 22, 3) := by decide +kernel
theorem dX12_operand_106 : decode cX12_operand 106 = .ok (.iload_n 1, 1) := by decide +kernel
theorem dX12_operand_107 : decode cX12_operand 107 = .ok (.sipush 247, 3) := by decide +kernel
theorem dX12_operand_110 : decode cX12_operand 110 = .ok (.isub, 1) := by decide +kernel
theorem dX12_operand_111 : decode cX12_operand 111 = .ok (.sipush 256, 3) := by decide +kernel
theorem dX12_operand_114 : decode cX12_operand 114 = .ok (.imul, 1) := by decide +kernel
theorem dX12_operand_115 : decode cX12_operand 115 = .ok (.aload_n 0, 1) := by decide +kernel
theorem dX12_operand_116 : decode cX12_operand 116 = .ok (.invokevirtual 211, 3) := by decide +kernel
theorem dX12_operand_119 : decode cX12_operand 119 = .ok (.iadd, 1) := by decide +kernel
theorem dX12_operand_120 : decode cX12_operand 120 = .ok (.bipush 108, 2) := by decide +kernel
theorem dX12_operand_122 : decode cX12_operand 122 = .ok (.iadd, 1) := by decide +kernel
theorem dX12_operand_123 : decode cX12_operand 123 = .ok (.i2l, 1) := by decide +kernel
theorem dX12_operand_124 : decode cX12_operand 124 = .ok (.lreturn, 1) := by decide +kernel
theorem dX12_operand_125 : decode cX12_operand 125 = .ok (.iload_n 1, 1) := by decide +kernel
theorem dX12_operand_126 : decode cX12_operand 126 = .ok (.sipush 251, 3) := by decide +kernel
theorem dX12_operand_129 : decode cX12_operand 129 = .ok (.if_icmp .lt 30, 3) := by decide +kernel
theorem dX12_operand_132 : decode cX12_operand 132 = .ok (.iload_n 1, 1) := by decide +kernel
theorem dX12_operand_133 : decode cX12_operand 133 = .ok (.sipush 254, 3) := by decide +kernel
theorem dX12_operand_136 : decode cX12_operand 136 = .ok (.if_icmp .gt 23, 3) := by decide +kernel
theorem dX12_operand_139 : decode cX12_operand 139 = .ok (.iload_n 1, 1) := by decide +kernel
theorem dX12_operand_140 : decode cX12_operand 140 = .ok (.sipush 251, 3) := by decide +kernel
theorem dX12_operand_143 : decode cX12_operand 143 = .ok (.isub, 1) := by decide +kernel
theorem dX12_operand_144 : decode cX12_operand 144 = .ok (.ineg, 1) := by decide +kernel
theorem dX12_operand_145 : decode cX12_operand 145 = .ok (.sipush 256, 3) := by decide +kernel
theorem dX12_operand_148 : decode cX12_operand 148 = .ok (.imul, 1) := by decide +kernel
theorem dX12_operand_149 : decode cX12_operand 149 = .ok (.aload_n 0, 1) := by decide +kernel
theorem dX12_operand_150 : decode cX12_operand 150 = .ok (.invokevirtual 211, 3) := by decide +kernel
theorem dX12_operand_153 : decode cX12_operand 153 = .ok (.isub, 1) := by decide +kernel
theorem dX12_operand_154 : decode cX12_operand 154 = .ok (.bipush 108, 2) := by decide +kernel
theorem dX12_operand_156 : decode cX12_operand 156 = .ok (.isub, 1) := by decide +kernel
theorem dX12_operand_157 : decode cX12_operand 157 = .ok (.i2l, 1) := by decide +kernel
theorem dX12_operand_158 : decode cX12_operand 158 = .ok (.lreturn, 1) := by decide +kernel
theorem dX12_operand_159 : decode cX12_operand 159 = .ok (.iload_n 1, 1) := by decide +kernel
theorem dX12_operand_160 : decode cX12_operand 160 = .ok (.bipush 30, 2) := by decide +kernel
theorem dX12_operand_162 : decode cX12_operand 162 = .ok (.if_icmp .eq 7, 3) := by decide +kernel
theorem dX12_operand_165 : decode cX12_operand 165 = .ok (.iconst 1, 1) := by decide +kernel
theorem dX12_operand_166 : decode cX12_operand 166 = .ok (.goto 4, 3) := by decide +kernel
theorem dX12_operand_169 : decode cX12_operand 169 = .ok (.iconst 0, 1) := by decide +kernel
theorem dX12_operand_170 : decode cX12_operand 170 = .ok (.istore_n 2, 1) := by decide +kernel
theorem dX12_operand_171 : decode cX12_operand 171 = .ok (.iload_n 2, 1) := by decide +kernel
theorem dX12_operand_172 : decode cX12_operand 172 = .ok (.ifCond .eq 17, 3) := by decide +kernel
theorem dX12_operand_175 : decode cX12_operand 175 = .ok (.aload_n 0, 1) := by decide +kernel
theorem dX12_operand_176 : decode cX12_operand 176 = .ok (.iconst 2, 1) := by decide +kernel
theorem dX12_operand_177 : decode cX12_operand 177 = .ok (.invokevirtual 179, 3) := by decide +kernel
theorem dX12_operand_180 : decode cX12_operand 180 = .ok (.ifCond .eq 7, 3) := by decide +kernel
theorem dX12_operand_187 : decode cX12_operand 187 = .ok (.lconst 0, 1) := by decide +kernel
theorem dX12_operand_188 : decode cX12_operand 188 = .ok (.lreturn, 1) := by decide +kernel
theorem dX12_operand_189 : decode cX12_operand 189 = .ok (.iload_n 2, 1) := by decide +kernel
theorem dX12_operand_190 : decode cX12_operand 190 = .ok (.ifCond .ne 80, 3) := by decide +kernel
theorem dX12_operand_193 : decode cX12_operand 193 = .ok (.aload_n 0, 1) := by decide +kernel
theorem dX12_operand_194 : decode cX12_operand 194 = .ok (.getfield 147, 3) := by decide +kernel
theorem dX12_operand_197 : decode cX12_operand 197 = .ok (.ifCond .ne 73, 3) := by decide +kernel
theorem dX12_operand_200 : decode cX12_operand 200 = .ok (.aload_n 0, 1) := by decide +kernel
theorem dX12_operand_201 : decode cX12_operand 201 = .ok (.invokevirtual 211, 3) := by decide +kernel
theorem dX12_operand_204 : decode cX12_operand 204 = .ok (.istore_n 3, 1) := by decide +kernel
theorem dX12_operand_205 : decode cX12_operand 205 = .ok (.iload_n 3, 1) := by decide +kernel
theorem dX12_operand_206 : decode cX12_operand 206 = .ok (.iconst 4, 1) := by decide +kernel
theorem dX12_operand_207 : decode cX12_operand 207 = .ok (.ishr, 1) := by decide +kernel
theorem dX12_operand_208 : decode cX12_operand 208 = .ok (.bipush 13, 2) := by decide +kernel
theorem dX12_operand_210 : decode cX12_operand 210 = .ok (.if_icmp .eq 20, 3) := by decide +kernel
theorem dX12_operand_213 : decode cX12_operand 213 = .ok (.iload_n 3, 1) := by decide +kernel
theorem dX12_operand_214 : decode cX12_operand 214 = .ok (.iconst 4, 1) := by decide +kernel
theorem dX12_operand_215 : decode cX12_operand 215 = .ok (.ishr, 1) := by decide +kernel
theorem dX12_operand_216 : decode cX12_operand 216 = .ok (.bipush 15, 2) := by decide +kernel
theorem dX12_operand_218 : decode cX12_operand 218 = .ok (.if_icmp .eq 26, 3) := by decide +kernel
theorem dX12_operand_221 : decode cX12_operand 221 = .ok (.iload_n 3, 1) := by decide +kernel
theorem dX12_operand_222 : decode cX12_operand 222 = .ok (.bipush 15, 2) := by decide +kernel
theorem dX12_operand_224 : decode cX12_operand 224 = .ok (.iand, 1) := by decide +kernel
theorem dX12_operand_225 : decode cX12_operand 225 = .ok (.bipush 13, 2) := by decide +kernel
theorem dX12_operand_227 : decode cX12_operand 227 = .ok (.if_icmp .ne 17, 3) := by decide +kernel
theorem dX12_operand_230 : decode cX12_operand 230 = .ok (.aload_n 0, 1) := by decide +kernel
theorem dX12_operand_231 : decode cX12_operand 231 = .ok (.iconst 2, 1) := by decide +kernel
theorem dX12_operand_232 : decode cX12_operand 232 = .ok (.invokevirtual 179, 3) := by decide +kernel
theorem dX12_operand_235 : decode cX12_operand 235 = .ok (.ifCond .eq 7, 3) := by decide +kernel
theorem dX12_operand_242 : decode cX12_operand 242 = .ok (.lconst 0, 1) := by decide +kernel
theorem dX12_operand_243 : decode cX12_operand 243 = .ok (.lreturn, 1) := by decide +kernel
theorem dX12_operand_244 : decode cX12_operand 244 = .ok (.iload_n 3, 1) := by decide +kernel
theorem dX12_operand_245 : decode cX12_operand 245 = .ok (.iconst 4, 1) := by decide +kernel
theorem dX12_operand_246 : decode cX12_operand 246 = .ok (.ishr, 1) := by decide +kernel
theorem dX12_operand_247 : decode cX12_operand 247 = .ok (.bipush 15, 2) := by decide +kernel
theorem dX12_operand_249 : decode cX12_operand 249 = .ok (.if_icmp .eq 12, 3) := by decide +kernel
theorem dX12_operand_252 : decode cX12_operand 252 = .ok (.iload_n 3, 1) := by decide +kernel
theorem dX12_operand_253 : decode cX12_operand 253 = .ok (.bipush 15, 2) := by decide +kernel
theorem dX12_operand_255 : decode cX12_operand 255 = .ok (.iand, 1) := by decide +kernel
theorem dX12_operand_256 : decode cX12_operand 256 = .ok (.bipush 15, 2) := by decide +kernel
theorem dX12_operand_258 : decode cX12_operand 258 = .ok (.if_icmp .ne 7, 3) := by decide +kernel
theorem dX12_operand_261 : decode cX12_operand 261 = .ok (.iconst 1, 1) := by decide +kernel
theorem dX12_operand_262 : decode cX12_operand 262 = .ok (.goto 4, 3) := by decide +kernel
theorem dX12_operand_265 : decode cX12_operand 265 = .ok (.iconst 0, 1) := by decide +kernel
theorem dX12_operand_266 : decode cX12_operand 266 = .ok (.istore_n 2, 1) := by decide +kernel
theorem dX12_operand_267 : decode cX12_operand 267 = .ok (.goto (-78), 3) := by decide +kernel
theorem dX12_operand_270 : decode cX12_operand 270 = .ok (.lconst 0, 1) := by decide +kernel
theorem dX12_operand_271 : decode cX12_operand 271 = .ok (.lreturn, 1) := by decide +kernel
theorem dX12_others_0 : decode cX12_others 0 = .ok (.aload_n 0, 1) := by decide +kernel
theorem dX12_others_1 : decode cX12_others 1 = .ok (.iconst 2, 1) := by decide +kernel
theorem dX12_others_2 : decode cX12_others 2 = .ok (.invokevirtual 455, 3) := by decide +kernel
theorem dX12_others_5 : decode cX12_others 5 = .ok (.ifCond .ne 5, 3) := by decide +kernel
theorem dX12_others_8 : decode cX12_others 8 = .ok (.iconst 0, 1) := by decide +kernel
theorem dX12_others_9 : decode cX12_others 9 = .ok (.ireturn, 1) := by decide +kernel
theorem dX12_others_10 : decode cX12_others 10 = .ok (.aload_n 0, 1) := by decide +kernel
theorem dX12_others_11 : decode cX12_others 11 = .ok (.getfield 101, 3) := by decide +kernel
theorem dX12_others_14 : decode cX12_others 14 = .ok (.aload_n 0, 1) := by decide +kernel
theorem dX12_others_15 : decode cX12_others 15 = .ok (.getfield 325, 3) := by decide +kernel
theorem dX12_others_18 : decode cX12_others 18 = .ok (.iconst 1, 1) := by decide +kernel
theorem dX12_others_19 : decode cX12_others 19 = .ok (.isub, 1) := by decide +kernel
theorem dX12_others_20 : decode cX12_others 20 = .ok (.laload, 1) := by decide +kernel
theorem dX12_others_21 : decode cX12_others 21 = .ok (.invokestatic 408, 3) := by decide +kernel
theorem dX12_others_24 : decode cX12_others 24 = .ok (.lstore_n 1, 1) := by decide +kernel
theorem dX12_others_25 : decode cX12_others 25 = .ok (.aload_n 0, 1) := by decide +kernel
theorem dX12_others_26 : decode cX12_others 26 = .ok (.getfield 101, 3) := by decide +kernel
theorem dX12_others_29 : decode cX12_others 29 = .ok (.aload_n 0, 1) := by decide +kernel
theorem dX12_others_30 : decode cX12_others 30 = .ok (.getfield 325, 3) := by decide +kernel
theorem dX12_others_33 : decode cX12_others 33 = .ok (.iconst 2, 1) := by decide +kernel
theorem dX12_others_34 : decode cX12_others 34 = .ok (.isub, 1) := by decide +kernel
theorem dX12_others_35 : decode cX12_others 35 = .ok (.laload, 1) := by decide +kernel
theorem dX12_others_36 : decode cX12_others 36 = .ok (.invokestatic 408, 3) := by decide +kernel
theorem dX12_others_39 : decode cX12_others 39 = .ok (.lstore_n 3, 1) := by decide +kernel
theorem dX12_others_40 : decode cX12_others 40 = .ok (.lload_n 3, 1) := by decide +kernel
theorem dX12_others_41 : decode cX12_others 41 = .ok (.lconst 0, 1) := by decide +kernel
theorem dX12_others_42 : decode cX12_others 42 = .ok (.lcmp, 1) := by decide +kernel
theorem dX12_others_43 : decode cX12_others 43 = .ok (.ifCond .ge 10, 3) := by decide +kernel
theorem dX12_others_46 : decode cX12_others 46 = .ok (.aload_n 0, 1) := by decide +kernel
theorem dX12_others_47 : decode cX12_others 47 = .ok (.bipush 9, 2) := by decide +kernel
theorem dX12_others_49 : decode cX12_others 49 = .ok (.invokevirtual 346, 3) := by decide +kernel
theorem dX12_others_52 : decode cX12_others 52 = .ok (.ireturn, 1) := by decide +kernel
theorem dX12_others_53 : decode cX12_others 53 = .ok (.lload_n 3, 1) := by decide +kernel
theorem dX12_others_54 : decode cX12_others 54 = .ok (.aload_n 0, 1) := by decide +kernel
theorem dX12_others_55 : decode cX12_others 55 = .ok (.getfield 325, 3) := by decide +kernel
theorem dX12_others_58 : decode cX12_others 58 = .ok (.iconst 2, 1) := by decide +kernel
theorem dX12_others_59 : decode cX12_others 59 = .ok (.isub, 1) := by decide +kernel
theorem dX12_others_60 : decode cX12_others 60 = .ok (.i2l, 1) := by decide +kernel
theorem dX12_others_61 : decode cX12_others 61 = .ok (.lcmp, 1) := by decide +kernel
theorem dX12_others_62 : decode cX12_others 62 = .ok (.ifCond .le 9, 3) := by decide +kernel
theorem dX12_others_65 : decode cX12_others 65 = .ok (.aload_n 0, 1) := by decide +kernel
theorem dX12_others_66 : decode cX12_others 66 = .ok (.iconst 2, 1) := by decide +kernel
theorem dX12_others_67 : decode cX12_others 67 = .ok (.invokevirtual 346, 3) := by decide +kernel
theorem dX12_others_70 : decode cX12_others 70 = .ok (.ireturn, 1) := by decide +kernel
theorem dX12_others_71 : decode cX12_others 71 = .ok (.lload_n 3, 1) := by decide +kernel
theorem dX12_others_72 : decode cX12_others 72 = .ok (.l2i, 1) := by decide +kernel
theorem dX12_others_73 : decode cX12_others 73 = .ok (.istore 5, 2) := by decide +kernel
theorem dX12_others_75 : decode cX12_others 75 = .ok (.aload_n 0, 1) := by decide +kernel
theorem dX12_others_76 : decode cX12_others 76 = .ok (.dup, 1) := by decide +kernel
theorem dX12_others_77 : decode cX12_others 77 = .ok (.getfield 325, 3) := by decide +kernel
theorem dX12_others_80 : decode cX12_others 80 = .ok (.iconst 2, 1) := by decide +kernel
theorem dX12_others_81 : decode cX12_others 81 = .ok (.iload 5, 2) := by decide +kernel
theorem dX12_others_83 : decode cX12_others 83 = .ok (.iadd, 1) := by decide +kernel
theorem dX12_others_84 : decode cX12_others 84 = .ok (.isub, 1) := by decide +kernel
theorem dX12_others_85 : decode cX12_others 85 = .ok (.putfield 325, 3) := by decide +kernel
theorem dX12_others_88 : decode cX12_others 88 = .ok (.aload_n 0, 1) := by decide +kernel
theorem dX12_others_89 : decode cX12_others 89 = .ok (.iconst 0, 1) := by decide +kernel
theorem dX12_others_90 : decode cX12_others 90 = .ok (.putfield 337, 3) := by decide +kernel
theorem dX12_others_93 : decode cX12_others 93 = .ok (.lload_n 1, 1) := by decide +kernel
theorem dX12_others_94 : decode cX12_others 94 = .ok (.lconst 1, 1) := by decide +kernel
theorem dX12_others_95 : decode cX12_others 95 = .ok (.lcmp, 1) := by decide +kernel
theorem dX12_others_96 : decode cX12_others 96 = .ok (.ifCond .ne 20, 3) := by decide +kernel
theorem dX12_others_99 : decode cX12_others 99 = .ok (.iload 5, 2) := by decide +kernel
theorem dX12_others_101 : decode cX12_others 101 = .ok (.ifCond .ne 15, 3) := by decide +kernel
theorem dX12_others_104 : decode cX12_others 104 = .ok (.aload_n 0, 1) := by decide +kernel
theorem dX12_others_105 : decode cX12_others 105 = .ok (.iconst 1, 1) := by decide +kernel
theorem dX12_others_106 : decode cX12_others 106 = .ok (.putfield 334, 3) := by decide +kernel
theorem dX12_others_109 : decode cX12_others 109 = .ok (.aload_n 0, 1) := by decide +kernel
theorem dX12_others_110 : decode cX12_others 110 = .ok (.iconst 0, 1) := by decide +kernel
theorem dX12_others_111 : decode cX12_others 111 = .ok (.putfield 486, 3) := by decide +kernel
theorem dX12_others_114 : decode cX12_others 114 = .ok (.iconst 1, 1) := by decide +kernel
theorem dX12_others_115 : decode cX12_others 115 = .ok (.ireturn, 1) := by decide +kernel
theorem dX12_others_116 : decode cX12_others 116 = .ok (.lload_n 1, 1) := by decide +kernel
theorem dX12_others_117 : decode cX12_others 117 = .ok (.ldc2_w 233, 3) := by decide +kernel
theorem dX12_others_120 : decode cX12_others 120 = .ok (.lcmp, 1) := by decide +kernel
theorem dX12_others_121 : decode cX12_others 121 = .ok (.ifCond .ne 75, 3) := by decide +kernel
theorem dX12_others_124 : decode cX12_others 124 = .ok (.iload 5, 2) := by decide +kernel
theorem dX12_others_126 : decode cX12_others 126 = .ok (.ifCond .ne 70, 3) := by decide +kernel
theorem dX12_others_129 : decode cX12_others 129 = .ok (.aload_n 0, 1) := by decide +kernel
theorem dX12_others_130 : decode cX12_others 130 = .ok (.getfield 334, 3) := by decide +kernel
theorem dX12_others_133 : decode cX12_others 133 = .ok (.ifCond .eq 12, 3) := by decide +kernel
theorem dX12_others_136 : decode cX12_others 136 = .ok (.aload_n 0, 1) := by decide +kernel
theorem dX12_others_137 : decode cX12_others 137 = .ok (.getfield 486, 3) := by decide +kernel
theorem dX12_others_140 : decode cX12_others 140 = .ok (.bipush 7, 2) := by decide +kernel
theorem dX12_others_142 : decode cX12_others 142 = .ok (.if_icmp .ne 10, 3) := by decide +kernel
theorem dX12_others_145 : decode cX12_others 145 = .ok (.aload_n 0, 1) := by decide +kernel
theorem dX12_others_146 : decode cX12_others 146 = .ok (.bipush 9, 2) := by decide +kernel
theorem dX12_others_148 : decode cX12_others 148 = .ok (.invokevirtual 346, 3) := by decide +kernel
theorem dX12_others_151 : decode cX12_others 151 = .ok (.ireturn, 1) := by decide +kernel
theorem dX12_others_152 : decode cX12_others 152 = .ok (.aload_n 0, 1) := by decide +kernel
theorem dX12_others_153 : decode cX12_others 153 = .ok (.getfield 116, 3) := by decide +kernel
theorem dX12_others_156 : decode cX12_others 156 = .ok (.iconst 2, 1) := by decide +kernel
theorem dX12_others_157 : decode cX12_others 157 = .ok (.aload_n 0, 1) := by decide +kernel
theorem dX12_others_158 : decode cX12_others 158 = .ok (.getfield 486, 3) := by decide +kernel
theorem dX12_others_161 : decode cX12_others 161 = .ok (.imul, 1) := by decide +kernel
theorem dX12_others_162 : decode cX12_others 162 = .ok (.aload_n 0, 1) := by decide +kernel
theorem dX12_others_163 : decode cX12_others 163 = .ok (.getfield 316, 3) := by decide +kernel
theorem dX12_others_166 : decode cX12_others 166 = .ok (.lastore, 1) := by decide +kernel
theorem dX12_others_167 : decode cX12_others 167 = .ok (.aload_n 0, 1) := by decide +kernel
theorem dX12_others_168 : decode cX12_others 168 = .ok (.getfield 116, 3) := by decide +kernel
theorem dX12_others_171 : decode cX12_others 171 = .ok (.iconst 2, 1) := by decide +kernel
theorem dX12_others_172 : decode cX12_others 172 = .ok (.aload_n 0, 1) := by decide +kernel
theorem dX12_others_173 : decode cX12_others 173 = .ok (.getfield 486, 3) := by decide +kernel
theorem dX12_others_176 : decode cX12_others 176 = .ok (.imul, 1) := by decide +kernel
theorem dX12_others_177 : decode cX12_others 177 = .ok (.iconst 1, 1) := by decide +kernel
theorem dX12_others_178 : decode cX12_others 178 = .ok (.iadd, 1) := by decide +kernel
theorem dX12_others_179 : decode cX12_others 179 = .ok (.aload_n 0, 1) := by decide +kernel
theorem dX12_others_180 : decode cX12_others 180 = .ok (.getfield 319, 3) := by decide +kernel
theorem dX12_others_183 : decode cX12_others 183 = .ok (.lastore, 1) := by decide +kernel
theorem dX12_others_184 : decode cX12_others 184 = .ok (.aload_n 0, 1) := by decide +kernel
theorem dX12_others_185 : decode cX12_others 185 = .ok (.dup, 1) := by decide +kernel
theorem dX12_others_186 : decode cX12_others 186 = .ok (.getfield 486, 3) := by decide +kernel
theorem dX12_others_189 : decode cX12_others 189 = .ok (.iconst 1, 1) := by decide +kernel
theorem dX12_others_190 : decode cX12_others 190 = .ok (.iadd, 1) := by decide +kernel
theorem dX12_others_191 : decode cX12_others 191 = .ok (.putfield 486, 3) := by decide +kernel
theorem dX12_others_194 : decode cX12_others 194 = .ok (.iconst 1, 1) := by decide +kernel
theorem dX12_others_195 : decode cX12_others 195 = .ok (.ireturn, 1) := by decide +kernel
theorem dX12_others_196 : decode cX12_others 196 = .ok (.lload_n 1, 1) := by decide +kernel
theorem dX12_others_197 : decode cX12_others 197 = .ok (.lconst 0, 1) := by decide +kernel
theorem dX12_others_198 : decode cX12_others 198 = .ok (.lcmp, 1) := by decide +kernel
theorem dX12_others_199 : decode cX12_others 199 = .ok (.ifCond .ne 14, 3) := by decide +kernel
theorem dX12_others_202 : decode cX12_others 202 = .ok (.iload 5, 2) := by decide +kernel
theorem dX12_others_204 : decode cX12_others 204 = .ok (.iconst 3, 1) := by decide +kernel
theorem dX12_others_205 : decode cX12_others 205 = .ok (.if_icmp .ne 8, 3) := by decide +kernel
theorem dX12_others_208 : decode cX12_others 208 = .ok (.aload_n 0, 1) := by decide +kernel
theorem dX12_others_209 : decode cX12_others 209 = .ok (.invokevirtual 489, 3) := by decide +kernel
theorem dX12_others_212 : decode cX12_others 212 = .ok (.ireturn, 1) := by decide +kernel
theorem dX12_others_213 : decode cX12_others 213 = .ok (.lload_n 1, 1) := by decide +kernel
theorem dX12_others_214 : decode cX12_others 214 = .ok (.ldc2_w 492, 3) := by decide +kernel
theorem dX12_others_217 : decode cX12_others 217 = .ok (.lcmp, 1) := by decide +kernel
theorem dX12_others_218 : decode cX12_others 218 = .ok (.ifCond .ne 25, 3) := by decide +kernel
theorem dX12_others_221 : decode cX12_others 221 = .ok (.iload 5, 2) := by decide +kernel
theorem dX12_others_223 : decode cX12_others 223 = .ok (.iconst 1, 1) := by decide +kernel
theorem dX12_others_224 : decode cX12_others 224 = .ok (.if_icmp .ne 19, 3) := by decide +kernel
theorem dX12_others_227 : decode cX12_others 227 = .ok (.aload_n 0, 1) := by decide +kernel
theorem dX12_others_228 : decode cX12_others 228 = .ok (.getfield 119, 3) := by decide +kernel
theorem dX12_others_231 : decode cX12_others 231 = .ok (.iconst 0, 1) := by decide +kernel
theorem dX12_others_232 : decode cX12_others 232 = .ok (.ldc2_w 494, 3) := by decide +kernel
theorem dX12_others_235 : decode cX12_others 235 = .ok (.lastore, 1) := by decide +kernel
theorem dX12_others_236 : decode cX12_others 236 = .ok (.aload_n 0, 1) := by decide +kernel
theorem dX12_others_237 : decode cX12_others 237 = .ok (.iconst 1, 1) := by decide +kernel
theorem dX12_others_238 : decode cX12_others 238 = .ok (.putfield 337, 3) := by decide +kernel
theorem dX12_others_241 : decode cX12_others 241 = .ok (.iconst 1, 1) := by decide +kernel
theorem dX12_others_242 : decode cX12_others 242 = .ok (.ireturn, 1) := by decide +kernel
theorem dX12_others_243 : decode cX12_others 243 = .ok (.lload_n 1, 1) := by decide +kernel
theorem dX12_others_244 : decode cX12_others 244 = .ok (.lconst 0, 1) := by decide +kernel
theorem dX12_others_245 : decode cX12_others 245 = .ok (.lcmp, 1) := by decide +kernel
theorem dX12_others_246 : decode cX12_others 246 = .ok (.ifCond .lt 18, 3) := by decide +kernel
theorem dX12_others_249 : decode cX12_others 249 = .ok (.lload_n 1, 1) := by decide +kernel
theorem dX12_others_250 : decode cX12_others 250 = .ok (.ldc2_w 492, 3) := by decide +kernel
theorem dX12_others_253 : decode cX12_others 253 = .ok (.lcmp, 1) := by decide +kernel
theorem dX12_others_254 : decode cX12_others 254 = .ok (.ifCond .gt 10, 3) := by decide +kernel
theorem dX12_others_257 : decode cX12_others 257 = .ok (.aload_n 0, 1) := by decide +kernel
theorem dX12_others_258 : decode cX12_others 258 = .ok (.bipush 9, 2) := by decide +kernel
theorem dX12_others_260 : decode cX12_others 260 = .ok (.invokevirtual 346, 3) := by decide +kernel
theorem dX12_others_263 : decode cX12_others 263 = .ok (.ireturn, 1) := by decide +kernel
theorem dX12_others_264 : decode cX12_others 264 = .ok (.iconst 0, 1) := by decide +kernel
theorem dX12_others_265 : decode cX12_others 265 = .ok (.istore 6, 2) := by decide +kernel
theorem dX12_others_267 : decode cX12_others 267 = .ok (.iload 6, 2) := by decide +kernel
theorem dX12_others_269 : decode cX12_others 269 = .ok (.iload 5, 2) := by decide +kernel
theorem dX12_others_271 : decode cX12_others 271 = .ok (.if_icmp .ge 28, 3) := by decide +kernel
theorem dX12_others_274 : decode cX12_others 274 = .ok (.aload_n 0, 1) := by decide +kernel
theorem dX12_others_275 : decode cX12_others 275 = .ok (.getfield 119, 3) := by decide +kernel
theorem dX12_others_278 : decode cX12_others 278 = .ok (.iload 6, 2) := by decide +kernel
theorem dX12_others_280 : decode cX12_others 280 = .ok (.aload_n 0, 1) := by decide +kernel
theorem dX12_others_281 : decode cX12_others 281 = .ok (.getfield 101, 3) := by decide +kernel
theorem dX12_others_284 : decode cX12_others 284 = .ok (.aload_n 0, 1) := by decide +kernel
theorem dX12_others_285 : decode cX12_others 285 = .ok (.getfield 325, 3) := by decide +kernel
theorem dX12_others_288 : decode cX12_others 288 = .ok (.iload 6, 2) := by decide +kernel
theorem dX12_others_290 : decode cX12_others 290 = .ok (.iadd, 1) := by decide +kernel
theorem dX12_others_291 : decode cX12_others 291 = .ok (.laload, 1) := by decide +kernel
theorem dX12_others_292 : decode cX12_others 292 = .ok (.lastore, 1) := by decide +kernel
theorem dX12_others_293 : decode cX12_others 293 = .ok (.iinc 6 1, 3) := by decide +kernel
theorem dX12_others_296 : decode cX12_others 296 = .ok (.goto (-29), 3) := by decide +kernel
theorem dX12_others_299 : decode cX12_others 299 = .ok (.aload_n 0, 1) := by decide +kernel
theorem dX12_others_300 : decode cX12_others 300 = .ok (.iload 5, 2) := by decide +kernel
theorem dX12_others_302 : decode cX12_others 302 = .ok (.putfield 337, 3) := by decide +kernel
theorem dX12_others_305 : decode cX12_others 305 = .ok (.iconst 1, 1) := by decide +kernel
theorem dX12_others_306 : decode cX12_others 306 = .ok (.ireturn, 1) := by decide +kernel
theorem dX12_pairs_0 : decode cX12_pairs 0 = .ok (.iload_n 2, 1) := by decide +kernel
theorem dX12_pairs_1 : decode cX12_pairs 1 = .ok (.iload_n 1, 1) := by decide +kernel
theorem dX12_pairs_2 : decode cX12_pairs 2 = .ok (.isub, 1) := by decide +kernel
theorem dX12_pairs_3 : decode cX12_pairs 3 = .ok (.istore 4, 2) := by decide +kernel
theorem dX12_pairs_5 : decode cX12_pairs 5 = .ok (.iload 4, 2) := by decide +kernel
theorem dX12_pairs_7 : decode cX12_pairs 7 = .ok (.iconst 2, 1) := by decide +kernel
theorem dX12_pairs_8 : decode cX12_pairs 8 = .ok (.irem, 1) := by decide +kernel
theorem dX12_pairs_9 : decode cX12_pairs 9 = .ok (.ifCond .ne 11, 3) := by decide +kernel
theorem dX12_pairs_12 : decode cX12_pairs 12 = .ok (.iload 4, 2) := by decide +kernel
theorem dX12_pairs_14 : decode cX12_pairs 14 = .ok (.iconst 2, 1) := by decide +kernel
theorem dX12_pairs_15 : decode cX12_pairs 15 = .ok (.iload_n 3, 1) := by decide +kernel
theorem dX12_pairs_16 : decode cX12_pairs 16 = .ok (.imul, 1) := by decide +kernel
theorem dX12_pairs_17 : decode cX12_pairs 17 = .ok (.if_icmp .ge 9, 3) := by decide +kernel
theorem dX12_pairs_20 : decode cX12_pairs 20 = .ok (.aload_n 0, 1) := by decide +kernel
theorem dX12_pairs_21 : decode cX12_pairs 21 = .ok (.iconst 2, 1) := by decide +kernel
theorem dX12_pairs_22 : decode cX12_pairs 22 = .ok (.invokevirtual 346, 3) := by decide +kernel
theorem dX12_pairs_25 : decode cX12_pairs 25 = .ok (.ireturn, 1) := by decide +kernel
theorem dX12_pairs_26 : decode cX12_pairs 26 = .ok (.iload_n 1, 1) := by decide +kernel
theorem dX12_pairs_27 : decode cX12_pairs 27 = .ok (.istore 5, 2) := by decide +kernel
theorem dX12_pairs_29 : decode cX12_pairs 29 = .ok (.iload 5, 2) := by decide +kernel
theorem dX12_pairs_31 : decode cX12_pairs 31 = .ok (.iload_n 2, 1) := by decide +kernel
theorem dX12_pairs_32 : decode cX12_pairs 32 = .ok (.if_icmp .ge 34, 3) := by decide +kernel
theorem dX12_pairs_35 : decode cX12_pairs 35 = .ok (.aload_n 0, 1) := by decide +kernel
theorem dX12_pairs_36 : decode cX12_pairs 36 = .ok (.aload_n 0, 1) := by decide +kernel
theorem dX12_pairs_37 : decode cX12_pairs 37 = .ok (.getfield 101, 3) := by decide +kernel
theorem dX12_pairs_40 : decode cX12_pairs 40 = .ok (.iload 5, 2) := by decide +kernel
theorem dX12_pairs_42 : decode cX12_pairs 42 = .ok (.laload, 1) := by decide +kernel
theorem dX12_pairs_43 : decode cX12_pairs 43 = .ok (.aload_n 0, 1) := by decide +kernel
theorem dX12_pairs_44 : decode cX12_pairs 44 = .ok (.getfield 101, 3) := by decide +kernel
theorem dX12_pairs_47 : decode cX12_pairs 47 = .ok (.iload 5, 2) := by decide +kernel
theorem dX12_pairs_49 : decode cX12_pairs 49 = .ok (.iconst 1, 1) := by decide +kernel
theorem dX12_pairs_50 : decode cX12_pairs 50 = .ok (.iadd, 1) := by decide +kernel
theorem dX12_pairs_51 : decode cX12_pairs 51 = .ok (.laload, 1) := by decide +kernel
theorem dX12_pairs_52 : decode cX12_pairs 52 = .ok (.invokevirtual 446, 3) := by decide +kernel
theorem dX12_pairs_55 : decode cX12_pairs 55 = .ok (.ifCond .ne 5, 3) := by decide +kernel
theorem dX12_pairs_58 : decode cX12_pairs 58 = .ok (.iconst 0, 1) := by decide +kernel
theorem dX12_pairs_59 : decode cX12_pairs 59 = .ok (.ireturn, 1) := by decide +kernel
theorem dX12_pairs_60 : decode cX12_pairs 60 = .ok (.iinc 5 2, 3) := by decide +kernel
theorem dX12_pairs_63 : decode cX12_pairs 63 = .ok (.goto (-34), 3) := by decide +kernel
theorem dX12_pairs_66 : decode cX12_pairs 66 = .ok (.iconst 1, 1) := by decide +kernel
theorem dX12_pairs_67 : decode cX12_pairs 67 = .ok (.ireturn, 1) := by decide +kernel
theorem dX12_part_0 : decode cX12_part 0 = .ok (.iload_n 1, 1) := by decide +kernel
theorem dX12_part_1 : decode cX12_part 1 = .ok (.ifCond .lt 20, 3) := by decide +kernel
theorem dX12_part_4 : decode cX12_part 4 = .ok (.iload_n 1, 1) := by decide +kernel
theorem dX12_part_5 : decode cX12_part 5 = .ok (.aload_n 0, 1) := by decide +kernel
theorem dX12_part_6 : decode cX12_part 6 = .ok (.getfield 298, 3) := by decide +kernel
theorem dX12_part_9 : decode cX12_part 9 = .ok (.if_icmp .ge 12, 3) := by decide +kernel
theorem dX12_part_12 : decode cX12_part 12 = .ok (.aload_n 0, 1) := by decide +kernel
theorem dX12_part_13 : decode cX12_part 13 = .ok (.getfield 95, 3) := by decide +kernel
theorem dX12_part_16 : decode cX12_part 16 = .ok (.iload_n 1, 1) := by decide +kernel
theorem dX12_part_17 : decode cX12_part 17 = .ok (.iaload, 1) := by decide +kernel
theorem dX12_part_18 : decode cX12_part 18 = .ok (.goto 4, 3) := by decide +kernel
theorem dX12_part_21 : decode cX12_part 21 = .ok (.iconst (-1), 1) := by decide +kernel
theorem dX12_part_22 : decode cX12_part 22 = .ok (.ireturn, 1) := by decide +kernel
theorem dX12_places_0 : decode cX12_places 0 = .ok (.aload_n 0, 1) := by decide +kernel
theorem dX12_places_1 : decode cX12_places 1 = .ok (.invokevirtual 461, 3) := by decide +kernel
theorem dX12_places_4 : decode cX12_places 4 = .ok (.invokestatic 408, 3) := by decide +kernel
theorem dX12_places_7 : decode cX12_places 7 = .ok (.lstore_n 2, 1) := by decide +kernel
theorem dX12_places_8 : decode cX12_places 8 = .ok (.iload_n 1, 1) := by decide +kernel
theorem dX12_places_9 : decode cX12_places 9 = .ok (.bipush 20, 2) := by decide +kernel
theorem dX12_places_11 : decode cX12_places 11 = .ok (.if_icmp .eq 9, 3) := by decide +kernel
theorem dX12_places_14 : decode cX12_places 14 = .ok (.iload_n 1, 1) := by decide +kernel
theorem dX12_places_15 : decode cX12_places 15 = .ok (.bipush 21, 2) := by decide +kernel
theorem dX12_places_17 : decode cX12_places 17 = .ok (.if_icmp .ne 55, 3) := by decide +kernel
theorem dX12_places_20 : decode cX12_places 20 = .ok (.lload_n 2, 1) := by decide +kernel
theorem dX12_places_21 : decode cX12_places 21 = .ok (.lconst 0, 1) := by decide +kernel
theorem dX12_places_22 : decode cX12_places 22 = .ok (.lcmp, 1) := by decide +kernel
theorem dX12_places_23 : decode cX12_places 23 = .ok (.ifCond .lt 11, 3) := by decide +kernel
theorem dX12_places_26 : decode cX12_places 26 = .ok (.lload_n 2, 1) := by decide +kernel
theorem dX12_places_27 : decode cX12_places 27 = .ok (.ldc2_w 471, 3) := by decide +kernel
theorem dX12_places_30 : decode cX12_places 30 = .ok (.lcmp, 1) := by decide +kernel
theorem dX12_places_31 : decode cX12_places 31 = .ok (.ifCond .le 10, 3) := by decide +kernel
theorem dX12_places_34 : decode cX12_places 34 = .ok (.aload_n 0, 1) := by decide +kernel
theorem dX12_places_35 : decode cX12_places 35 = .ok (.bipush 9, 2) := by decide +kernel
theorem dX12_places_37 : decode cX12_places 37 = .ok (.invokevirtual 346, 3) := by decide +kernel
theorem dX12_places_40 : decode cX12_places 40 = .ok (.ireturn, 1) := by decide +kernel
theorem dX12_places_41 : decode cX12_places 41 = .ok (.iload_n 1, 1) := by decide +kernel
theorem dX12_places_42 : decode cX12_places 42 = .ok (.bipush 21, 2) := by decide +kernel
theorem dX12_places_44 : decode cX12_places 44 = .ok (.if_icmp .ne 15, 3) := by decide +kernel
theorem dX12_places_47 : decode cX12_places 47 = .ok (.aload_n 0, 1) := by decide +kernel
theorem dX12_places_48 : decode cX12_places 48 = .ok (.aload_n 0, 1) := by decide +kernel
theorem dX12_places_49 : decode cX12_places 49 = .ok (.getfield 104, 3) := by decide +kernel
theorem dX12_places_52 : decode cX12_places 52 = .ok (.lload_n 2, 1) := by decide +kernel
theorem dX12_places_53 : decode cX12_places 53 = .ok (.l2i, 1) := by decide +kernel
theorem dX12_places_54 : decode cX12_places 54 = .ok (.laload, 1) := by decide +kernel
theorem dX12_places_55 : decode cX12_places 55 = .ok (.invokevirtual 363, 3) := by decide +kernel
theorem dX12_places_58 : decode cX12_places 58 = .ok (.ireturn, 1) := by decide +kernel
theorem dX12_places_59 : decode cX12_places 59 = .ok (.aload_n 0, 1) := by decide +kernel
theorem dX12_places_60 : decode cX12_places 60 = .ok (.getfield 104, 3) := by decide +kernel
theorem dX12_places_63 : decode cX12_places 63 = .ok (.lload_n 2, 1) := by decide +kernel
theorem dX12_places_64 : decode cX12_places 64 = .ok (.l2i, 1) := by decide +kernel
theorem dX12_places_65 : decode cX12_places 65 = .ok (.aload_n 0, 1) := by decide +kernel
theorem dX12_places_66 : decode cX12_places 66 = .ok (.invokevirtual 461, 3) := by decide +kernel
theorem dX12_places_69 : decode cX12_places 69 = .ok (.lastore, 1) := by decide +kernel
theorem dX12_places_70 : decode cX12_places 70 = .ok (.iconst 1, 1) := by decide +kernel
theorem dX12_places_71 : decode cX12_places 71 = .ok (.ireturn, 1) := by decide +kernel
theorem dX12_places_72 : decode cX12_places 72 = .ok (.iload_n 1, 1) := by decide +kernel
theorem dX12_places_73 : decode cX12_places 73 = .ok (.bipush 29, 2) := by decide +kernel
theorem dX12_places_75 : decode cX12_places 75 = .ok (.if_icmp .ne 56, 3) := by decide +kernel
theorem dX12_places_78 : decode cX12_places 78 = .ok (.lload_n 2, 1) := by decide +kernel
theorem dX12_places_79 : decode cX12_places 79 = .ok (.lconst 0, 1) := by decide +kernel
theorem dX12_places_80 : decode cX12_places 80 = .ok (.lcmp, 1) := by decide +kernel
theorem dX12_places_81 : decode cX12_places 81 = .ok (.ifCond .ge 7, 3) := by decide +kernel
theorem dX12_places_84 : decode cX12_places 84 = .ok (.lconst 0, 1) := by decide +kernel
theorem dX12_places_85 : decode cX12_places 85 = .ok (.goto 4, 3) := by decide +kernel
theorem dX12_places_88 : decode cX12_places 88 = .ok (.lload_n 2, 1) := by decide +kernel
theorem dX12_places_89 : decode cX12_places 89 = .ok (.lstore 4, 2) := by decide +kernel
theorem dX12_places_91 : decode cX12_places 91 = .ok (.lload 4, 2) := by decide +kernel
theorem dX12_places_93 : decode cX12_places 93 = .ok (.aload_n 0, 1) := by decide +kernel
theorem dX12_places_94 : decode cX12_places 94 = .ok (.getfield 325, 3) := by decide +kernel
theorem dX12_places_97 : decode cX12_places 97 = .ok (.i2l, 1) := by decide +kernel
theorem dX12_places_98 : decode cX12_places 98 = .ok (.lcmp, 1) := by decide +kernel
theorem dX12_places_99 : decode cX12_places 99 = .ok (.ifCond .lt 12, 3) := by decide +kernel
theorem dX12_places_102 : decode cX12_places 102 = .ok (.aload_n 0, 1) := by decide +kernel
theorem dX12_places_103 : decode cX12_places 103 = .ok (.bipush 9, 2) := by decide +kernel
theorem dX12_places_105 : decode cX12_places 105 = .ok (.invokevirtual 346, 3) := by decide +kernel
theorem dX12_places_108 : decode cX12_places 108 = .ok (.goto 22, 3) := by decide +kernel
theorem dX12_places_111 : decode cX12_places 111 = .ok (.aload_n 0, 1) := by decide +kernel
theorem dX12_places_112 : decode cX12_places 112 = .ok (.aload_n 0, 1) := by decide +kernel
theorem dX12_places_113 : decode cX12_places 113 = .ok (.getfield 101, 3) := by decide +kernel
theorem dX12_places_116 : decode cX12_places 116 = .ok (.aload_n 0, 1) := by decide +kernel
theorem dX12_places_117 : decode cX12_places 117 = .ok (.getfield 325, 3) := by decide +kernel
theorem dX12_places_120 : decode cX12_places 120 = .ok (.iconst 1, 1) := by decide +kernel
theorem dX12_places_121 : decode cX12_places 121 = .ok (.isub, 1) := by decide +kernel
theorem dX12_places_122 : decode cX12_places 122 = .ok (.lload 4, 2) := by decide +kernel
theorem dX12_places_124 : decode cX12_places 124 = .ok (.l2i, 1) := by decide +kernel
theorem dX12_places_125 : decode cX12_places 125 = .ok (.isub, 1) := by decide +kernel
theorem dX12_places_126 : decode cX12_places 126 = .ok (.laload, 1) := by decide +kernel
theorem dX12_places_127 : decode cX12_places 127 = .ok (.invokevirtual 363, 3) := by decide +kernel
theorem dX12_places_130 : decode cX12_places 130 = .ok (.ireturn, 1) := by decide +kernel
theorem dX12_places_131 : decode cX12_places 131 = .ok (.aload_n 0, 1) := by decide +kernel
theorem dX12_places_132 : decode cX12_places 132 = .ok (.invokevirtual 461, 3) := by decide +kernel
theorem dX12_places_135 : decode cX12_places 135 = .ok (.invokestatic 408, 3) := by decide +kernel
theorem dX12_places_138 : decode cX12_places 138 = .ok (.lstore 4, 2) := by decide +kernel
theorem dX12_places_140 : decode cX12_places 140 = .ok (.lload 4, 2) := by decide +kernel
theorem dX12_places_142 : decode cX12_places 142 = .ok (.lconst 0, 1) := by decide +kernel
theorem dX12_places_143 : decode cX12_places 143 = .ok (.lcmp, 1) := by decide +kernel
theorem dX12_places_144 : decode cX12_places 144 = .ok (.ifCond .ge 10, 3) := by decide +kernel
theorem dX12_places_147 : decode cX12_places 147 = .ok (.aload_n 0, 1) := by decide +kernel
theorem dX12_places_148 : decode cX12_places 148 = .ok (.bipush 9, 2) := by decide +kernel
theorem dX12_places_150 : decode cX12_places 150 = .ok (.invokevirtual 346, 3) := by decide +kernel
theorem dX12_places_153 : decode cX12_places 153 = .ok (.ireturn, 1) := by decide +kernel
theorem dX12_places_154 : decode cX12_places 154 = .ok (.lload 4, 2) := by decide +kernel
theorem dX12_places_156 : decode cX12_places 156 = .ok (.aload_n 0, 1) := by decide +kernel
theorem dX12_places_157 : decode cX12_places 157 = .ok (.getfield 325, 3) := by decide +kernel
theorem dX12_places_160 : decode cX12_places 160 = .ok (.i2l, 1) := by decide +kernel
theorem dX12_places_161 : decode cX12_places 161 = .ok (.lcmp, 1) := by decide +kernel
theorem dX12_places_162 : decode cX12_places 162 = .ok (.ifCond .le 9, 3) := by decide +kernel
theorem dX12_places_165 : decode cX12_places 165 = .ok (.aload_n 0, 1) := by decide +kernel
theorem dX12_places_166 : decode cX12_places 166 = .ok (.iconst 2, 1) := by decide +kernel
theorem dX12_places_167 : decode cX12_places 167 = .ok (.invokevirtual 346, 3) := by decide +kernel
theorem dX12_places_170 : decode cX12_places 170 = .ok (.ireturn, 1) := by decide +kernel
theorem dX12_places_171 : decode cX12_places 171 = .ok (.lload 4, 2) := by decide +kernel
theorem dX12_places_173 : decode cX12_places 173 = .ok (.l2i, 1) := by decide +kernel
theorem dX12_places_174 : decode cX12_places 174 = .ok (.istore 6, 2) := by decide +kernel
theorem dX12_places_176 : decode cX12_places 176 = .ok (.iload 6, 2) := by decide +kernel
theorem dX12_places_178 : decode cX12_places 178 = .ok (.ifCond .ne 5, 3) := by decide +kernel
theorem dX12_places_181 : decode cX12_places 181 = .ok (.iconst 1, 1) := by decide +kernel
theorem dX12_places_182 : decode cX12_places 182 = .ok (.ireturn, 1) := by decide +kernel
theorem dX12_places_183 : decode cX12_places 183 = .ok (.lload_n 2, 1) := by decide +kernel
theorem dX12_places_184 : decode cX12_places 184 = .ok (.iload 6, 2) := by decide +kernel
theorem dX12_places_186 : decode cX12_places 186 = .ok (.i2l, 1) := by decide +kernel
theorem dX12_places_187 : decode cX12_places 187 = .ok (.lrem, 1) := by decide +kernel
theorem dX12_places_188 : decode cX12_places 188 = .ok (.iload 6, 2) := by decide +kernel
theorem dX12_places_190 : decode cX12_places 190 = .ok (.i2l, 1) := by decide +kernel
theorem dX12_places_191 : decode cX12_places 191 = .ok (.ladd, 1) := by decide +kernel
theorem dX12_places_192 : decode cX12_places 192 = .ok (.iload 6, 2) := by decide +kernel
theorem dX12_places_194 : decode cX12_places 194 = .ok (.i2l, 1) := by decide +kernel
theorem dX12_places_195 : decode cX12_places 195 = .ok (.lrem, 1) := by decide +kernel
theorem dX12_places_196 : decode cX12_places 196 = .ok (.l2i, 1) := by decide +kernel
theorem dX12_places_197 : decode cX12_places 197 = .ok (.istore 7, 2) := by decide +kernel
theorem dX12_places_199 : decode cX12_places 199 = .ok (.iconst 0, 1) := by decide +kernel
theorem dX12_places_200 : decode cX12_places 200 = .ok (.istore 8, 2) := by decide +kernel
theorem dX12_places_202 : decode cX12_places 202 = .ok (.iload 8, 2) := by decide +kernel
theorem dX12_places_204 : decode cX12_places 204 = .ok (.iload 6, 2) := by decide +kernel
theorem dX12_places_206 : decode cX12_places 206 = .ok (.if_icmp .ge 37, 3) := by decide +kernel
theorem dX12_places_209 : decode cX12_places 209 = .ok (.aload_n 0, 1) := by decide +kernel
theorem dX12_places_210 : decode cX12_places 210 = .ok (.getfield 122, 3) := by decide +kernel
theorem dX12_places_213 : decode cX12_places 213 = .ok (.iload 8, 2) := by decide +kernel
theorem dX12_places_215 : decode cX12_places 215 = .ok (.iload 7, 2) := by decide +kernel
theorem dX12_places_217 : decode cX12_places 217 = .ok (.iadd, 1) := by decide +kernel
theorem dX12_places_218 : decode cX12_places 218 = .ok (.iload 6, 2) := by decide +kernel
theorem dX12_places_220 : decode cX12_places 220 = .ok (.irem, 1) := by decide +kernel
theorem dX12_places_221 : decode cX12_places 221 = .ok (.aload_n 0, 1) := by decide +kernel
theorem dX12_places_222 : decode cX12_places 222 = .ok (.getfield 101, 3) := by decide +kernel
theorem dX12_places_225 : decode cX12_places 225 = .ok (.aload_n 0, 1) := by decide +kernel
theorem dX12_places_226 : decode cX12_places 226 = .ok (.getfield 325, 3) := by decide +kernel
theorem dX12_places_229 : decode cX12_places 229 = .ok (.iload 6, 2) := by decide +kernel
theorem dX12_places_231 : decode cX12_places 231 = .ok (.isub, 1) := by decide +kernel
theorem dX12_places_232 : decode cX12_places 232 = .ok (.iload 8, 2) := by decide +kernel
theorem dX12_places_234 : decode cX12_places 234 = .ok (.iadd, 1) := by decide +kernel
theorem dX12_places_235 : decode cX12_places 235 = .ok (.laload, 1) := by decide +kernel
theorem dX12_places_236 : decode cX12_places 236 = .ok (.lastore, 1) := by decide +kernel
theorem dX12_places_237 : decode cX12_places 237 = .ok (.iinc 8 1, 3) := by decide +kernel
theorem dX12_places_240 : decode cX12_places 240 = .ok (.goto (-38), 3) := by decide +kernel
theorem dX12_places_243 : decode cX12_places 243 = .ok (.iconst 0, 1) := by decide +kernel
theorem dX12_places_244 : decode cX12_places 244 = .ok (.istore 8, 2) := by decide +kernel
theorem dX12_places_246 : decode cX12_places 246 = .ok (.iload 8, 2) := by decide +kernel
theorem dX12_places_248 : decode cX12_places 248 = .ok (.iload 6, 2) := by decide +kernel
theorem dX12_places_250 : decode cX12_places 250 = .ok (.if_icmp .ge 31, 3) := by decide +kernel
theorem dX12_places_253 : decode cX12_places 253 = .ok (.aload_n 0, 1) := by decide +kernel
theorem dX12_places_254 : decode cX12_places 254 = .ok (.getfield 101, 3) := by decide +kernel
theorem dX12_places_257 : decode cX12_places 257 = .ok (.aload_n 0, 1) := by decide +kernel
theorem dX12_places_258 : decode cX12_places 258 = .ok (.getfield 325, 3) := by decide +kernel
theorem dX12_places_261 : decode cX12_places 261 = .ok (.iload 6, 2) := by decide +kernel
theorem dX12_places_263 : decode cX12_places 263 = .ok (.isub, 1) := by decide +kernel
theorem dX12_places_264 : decode cX12_places 264 = .ok (.iload 8, 2) := by decide +kernel
theorem dX12_places_266 : decode cX12_places 266 = .ok (.iadd, 1) := by decide +kernel
theorem dX12_places_267 : decode cX12_places 267 = .ok (.aload_n 0, 1) := by decide +kernel
theorem dX12_places_268 : decode cX12_places 268 = .ok (.getfield 122, 3) := by decide +kernel
theorem dX12_places_271 : decode cX12_places 271 = .ok (.iload 8, 2) := by decide +kernel
theorem dX12_places_273 : decode cX12_places 273 = .ok (.laload, 1) := by decide +kernel
theorem dX12_places_274 : decode cX12_places 274 = .ok (.lastore, 1) := by decide +kernel
theorem dX12_places_275 : decode cX12_places 275 = .ok (.iinc 8 1, 3) := by decide +kernel
theorem dX12_places_278 : decode cX12_places 278 = .ok (.goto (-32), 3) := by decide +kernel
theorem dX12_places_281 : decode cX12_places 281 = .ok (.iconst 1, 1) := by decide +kernel
theorem dX12_places_282 : decode cX12_places 282 = .ok (.ireturn, 1) := by decide +kernel
theorem dX12_plain_0 : decode cX12_plain 0 = .ok (.iload_n 1, 1) := by decide +kernel
theorem dX12_plain_1 : decode cX12_plain 1 = .ok (.ifCond .lt 19, 3) := by decide +kernel
theorem dX12_plain_4 : decode cX12_plain 4 = .ok (.iload_n 1, 1) := by decide +kernel
theorem dX12_plain_5 : decode cX12_plain 5 = .ok (.ldc 136, 2) := by decide +kernel
theorem dX12_plain_7 : decode cX12_plain 7 = .ok (.if_icmp .gt 13, 3) := by decide +kernel
theorem dX12_plain_10 : decode cX12_plain 10 = .ok (.iload_n 2, 1) := by decide +kernel
theorem dX12_plain_11 : decode cX12_plain 11 = .ok (.ifCond .lt 9, 3) := by decide +kernel
theorem dX12_plain_14 : decode cX12_plain 14 = .ok (.iload_n 2, 1) := by decide +kernel
theorem dX12_plain_15 : decode cX12_plain 15 = .ok (.bipush 8, 2) := by decide +kernel
theorem dX12_plain_17 : decode cX12_plain 17 = .ok (.if_icmp .le 5, 3) := by decide +kernel
theorem dX12_plain_20 : decode cX12_plain 20 = .ok (.iconst (-1), 1) := by decide +kernel
theorem dX12_plain_21 : decode cX12_plain 21 = .ok (.ireturn, 1) := by decide +kernel
theorem dX12_plain_22 : decode cX12_plain 22 = .ok (.aload_n 0, 1) := by decide +kernel
theorem dX12_plain_23 : decode cX12_plain 23 = .ok (.iload_n 1, 1) := by decide +kernel
theorem dX12_plain_24 : decode cX12_plain 24 = .ok (.putfield 132, 3) := by decide +kernel
theorem dX12_plain_27 : decode cX12_plain 27 = .ok (.aload_n 0, 1) := by decide +kernel
theorem dX12_plain_28 : decode cX12_plain 28 = .ok (.iconst 0, 1) := by decide +kernel
theorem dX12_plain_29 : decode cX12_plain 29 = .ok (.putfield 137, 3) := by decide +kernel
theorem dX12_plain_32 : decode cX12_plain 32 = .ok (.iconst 0, 1) := by decide +kernel
theorem dX12_plain_33 : decode cX12_plain 33 = .ok (.istore_n 3, 1) := by decide +kernel
theorem dX12_plain_34 : decode cX12_plain 34 = .ok (.iload_n 3, 1) := by decide +kernel
theorem dX12_plain_35 : decode cX12_plain 35 = .ok (.aload_n 0, 1) := by decide +kernel
theorem dX12_plain_36 : decode cX12_plain 36 = .ok (.getfield 125, 3) := by decide +kernel
theorem dX12_plain_39 : decode cX12_plain 39 = .ok (.if_icmp .ge 55, 3) := by decide +kernel
theorem dX12_plain_42 : decode cX12_plain 42 = .ok (.aload_n 0, 1) := by decide +kernel
theorem dX12_plain_43 : decode cX12_plain 43 = .ok (.aload_n 0, 1) := by decide +kernel
theorem dX12_plain_44 : decode cX12_plain 44 = .ok (.getfield 7, 3) := by decide +kernel
theorem dX12_plain_47 : decode cX12_plain 47 = .ok (.iload_n 3, 1) := by decide +kernel
theorem dX12_plain_48 : decode cX12_plain 48 = .ok (.baload, 1) := by decide +kernel
theorem dX12_plain_49 : decode cX12_plain 49 = .ok (.sipush 255, 3) := by decide +kernel
theorem dX12_plain_52 : decode cX12_plain 52 = .ok (.iand, 1) := by decide +kernel
theorem dX12_plain_53 : decode cX12_plain 53 = .ok (.invokevirtual 144, 3) := by decide +kernel
theorem dX12_plain_56 : decode cX12_plain 56 = .ok (.istore 4, 2) := by decide +kernel
theorem dX12_plain_58 : decode cX12_plain 58 = .ok (.iload_n 3, 1) := by decide +kernel
theorem dX12_plain_59 : decode cX12_plain 59 = .ok (.iload_n 2, 1) := by decide +kernel
theorem dX12_plain_60 : decode cX12_plain 60 = .ok (.if_icmp .ge 6, 3) := by decide +kernel
theorem dX12_plain_63 : decode cX12_plain 63 = .ok (.goto 25, 3) := by decide +kernel
theorem dX12_plain_66 : decode cX12_plain 66 = .ok (.aload_n 0, 1) := by decide +kernel
theorem dX12_plain_67 : decode cX12_plain 67 = .ok (.getfield 13, 3) := by decide +kernel
theorem dX12_plain_70 : decode cX12_plain 70 = .ok (.aload_n 0, 1) := by decide +kernel
theorem dX12_plain_71 : decode cX12_plain 71 = .ok (.getfield 137, 3) := by decide +kernel
theorem dX12_plain_74 : decode cX12_plain 74 = .ok (.iload 4, 2) := by decide +kernel
theorem dX12_plain_76 : decode cX12_plain 76 = .ok (.i2b, 1) := by decide +kernel
theorem dX12_plain_77 : decode cX12_plain 77 = .ok (.bastore, 1) := by decide +kernel
theorem dX12_plain_78 : decode cX12_plain 78 = .ok (.aload_n 0, 1) := by decide +kernel
theorem dX12_plain_79 : decode cX12_plain 79 = .ok (.dup, 1) := by decide +kernel
theorem dX12_plain_80 : decode cX12_plain 80 = .ok (.getfield 137, 3) := by decide +kernel
theorem dX12_plain_83 : decode cX12_plain 83 = .ok (.iconst 1, 1) := by decide +kernel
theorem dX12_plain_84 : decode cX12_plain 84 = .ok (.iadd, 1) := by decide +kernel
theorem dX12_plain_85 : decode cX12_plain 85 = .ok (.putfield 137, 3) := by decide +kernel
theorem dX12_plain_88 : decode cX12_plain 88 = .ok (.iinc 3 1, 3) := by decide +kernel
theorem dX12_plain_91 : decode cX12_plain 91 = .ok (.goto (-57), 3) := by decide +kernel
theorem dX12_plain_94 : decode cX12_plain 94 = .ok (.aload_n 0, 1) := by decide +kernel
theorem dX12_plain_95 : decode cX12_plain 95 = .ok (.iconst 0, 1) := by decide +kernel
theorem dX12_plain_96 : decode cX12_plain 96 = .ok (.putfield 125, 3) := by decide +kernel
theorem dX12_plain_99 : decode cX12_plain 99 = .ok (.aload_n 0, 1) := by decide +kernel
theorem dX12_plain_100 : decode cX12_plain 100 = .ok (.getfield 137, 3) := by decide +kernel
theorem dX12_plain_103 : decode cX12_plain 103 = .ok (.ireturn, 1) := by decide +kernel
theorem dX12_plainKind_0 : decode cX12_plainKind 0 = .ok (.iload_n 1, 1) := by decide +kernel
theorem dX12_plainKind_1 : decode cX12_plainKind 1 = .ok (.lookupswitch 653 #[(1, 163), (3, 163), (4, 579), (5, 277), (6, 310), (7, 338), (8, 366), (9, 255), (13, 182), (14, 639), (21, 518), (22, 551), (30, 424), (31, 471), (256, 176), (257, 169), (258, 169), (263, 216), (289, 607)], 163) := by decide +kernel
theorem dX12_plainKind_164 : decode cX12_plainKind 164 = .ok (.aload_n 0, 1) := by decide +kernel
theorem dX12_plainKind_165 : decode cX12_plainKind 165 = .ok (.iconst 2, 1) := by decide +kernel
theorem dX12_plainKind_166 : decode cX12_plainKind 166 = .ok (.invokevirtual 434, 3) := by decide +kernel
theorem dX12_plainKind_169 : decode cX12_plainKind 169 = .ok (.ireturn, 1) := by decide +kernel
theorem dX12_plainKind_170 : decode cX12_plainKind 170 = .ok (.aload_n 0, 1) := by decide +kernel
theorem dX12_plainKind_171 : decode cX12_plainKind 171 = .ok (.bipush 6, 2) := by decide +kernel
theorem dX12_plainKind_173 : decode cX12_plainKind 173 = .ok (.invokevirtual 434, 3) := by decide +kernel
theorem dX12_plainKind_176 : decode cX12_plainKind 176 = .ok (.ireturn, 1) := by decide +kernel
theorem dX12_plainKind_177 : decode cX12_plainKind 177 = .ok (.aload_n 0, 1) := by decide +kernel
theorem dX12_plainKind_178 : decode cX12_plainKind 178 = .ok (.iconst 0, 1) := by decide +kernel
theorem dX12_plainKind_179 : decode cX12_plainKind 179 = .ok (.invokevirtual 434, 3) := by decide +kernel
theorem dX12_plainKind_182 : decode cX12_plainKind 182 = .ok (.ireturn, 1) := by decide +kernel
theorem dX12_plainKind_183 : decode cX12_plainKind 183 = .ok (.aload_n 0, 1) := by decide +kernel
theorem dX12_plainKind_184 : decode cX12_plainKind 184 = .ok (.iconst 2, 1) := by decide +kernel
theorem dX12_plainKind_185 : decode cX12_plainKind 185 = .ok (.invokevirtual 434, 3) := by decide +kernel
theorem dX12_plainKind_188 : decode cX12_plainKind 188 = .ok (.ifCond .eq 27, 3) := by decide +kernel
theorem dX12_plainKind_191 : decode cX12_plainKind 191 = .ok (.aload_n 0, 1) := by decide +kernel
theorem dX12_plainKind_192 : decode cX12_plainKind 192 = .ok (.aload_n 0, 1) := by decide +kernel
theorem dX12_plainKind_193 : decode cX12_plainKind 193 = .ok (.getfield 101, 3) := by decide +kernel
theorem dX12_plainKind_196 : decode cX12_plainKind 196 = .ok (.iconst 0, 1) := by decide +kernel
theorem dX12_plainKind_197 : decode cX12_plainKind 197 = .ok (.laload, 1) := by decide +kernel
theorem dX12_plainKind_198 : decode cX12_plainKind 198 = .ok (.lconst 0, 1) := by decide +kernel
theorem dX12_plainKind_199 : decode cX12_plainKind 199 = .ok (.aload_n 0, 1) := by decide +kernel
theorem dX12_plainKind_200 : decode cX12_plainKind 200 = .ok (.getfield 101, 3) := by decide +kernel
theorem dX12_plainKind_203 : decode cX12_plainKind 203 = .ok (.iconst 1, 1) := by decide +kernel
theorem dX12_plainKind_204 : decode cX12_plainKind 204 = .ok (.laload, 1) := by decide +kernel
theorem dX12_plainKind_205 : decode cX12_plainKind 205 = .ok (.invokevirtual 479, 3) := by decide +kernel
theorem dX12_plainKind_208 : decode cX12_plainKind 208 = .ok (.ifCond .eq 7, 3) := by decide +kernel
theorem dX12_plainKind_211 : decode cX12_plainKind 211 = .ok (.iconst 1, 1) := by decide +kernel
theorem dX12_plainKind_212 : decode cX12_plainKind 212 = .ok (.goto 4, 3) := by decide +kernel
theorem dX12_plainKind_215 : decode cX12_plainKind 215 = .ok (.iconst 0, 1) := by decide +kernel
theorem dX12_plainKind_216 : decode cX12_plainKind 216 = .ok (.ireturn, 1) := by decide +kernel
theorem dX12_plainKind_217 : decode cX12_plainKind 217 = .ok (.aload_n 0, 1) := by decide +kernel
theorem dX12_plainKind_218 : decode cX12_plainKind 218 = .ok (.iconst 4, 1) := by decide +kernel
theorem dX12_plainKind_219 : decode cX12_plainKind 219 = .ok (.invokevirtual 434, 3) := by decide +kernel
theorem dX12_plainKind_222 : decode cX12_plainKind 222 = .ok (.ifCond .eq 32, 3) := by decide +kernel
theorem dX12_plainKind_225 : decode cX12_plainKind 225 = .ok (.aload_n 0, 1) := by decide +kernel
theorem dX12_plainKind_226 : decode cX12_plainKind 226 = .ok (.aload_n 0, 1) := by decide +kernel
theorem dX12_plainKind_227 : decode cX12_plainKind 227 = .ok (.getfield 101, 3) := by decide +kernel
theorem dX12_plainKind_230 : decode cX12_plainKind 230 = .ok (.iconst 0, 1) := by decide +kernel
theorem dX12_plainKind_231 : decode cX12_plainKind 231 = .ok (.laload, 1) := by decide +kernel
theorem dX12_plainKind_232 : decode cX12_plainKind 232 = .ok (.aload_n 0, 1) := by decide +kernel
theorem dX12_plainKind_233 : decode cX12_plainKind 233 = .ok (.getfield 101, 3) := by decide +kernel
theorem dX12_plainKind_236 : decode cX12_plainKind 236 = .ok (.iconst 1, 1) := by decide +kernel
theorem dX12_plainKind_237 : decode cX12_plainKind 237 = .ok (.laload, 1) := by decide +kernel
theorem dX12_plainKind_238 : decode cX12_plainKind 238 = .ok (.aload_n 0, 1) := by decide +kernel
theorem dX12_plainKind_239 : decode cX12_plainKind 239 = .ok (.getfield 101, 3) := by decide +kernel
theorem dX12_plainKind_242 : decode cX12_plainKind 242 = .ok (.iconst 2, 1) := by decide +kernel
theorem dX12_plainKind_243 : decode cX12_plainKind 243 = .ok (.laload, 1) := by decide +kernel
theorem dX12_plainKind_244 : decode cX12_plainKind 244 = .ok (.invokevirtual 479, 3) := by decide +kernel
theorem dX12_plainKind_247 : decode cX12_plainKind 247 = .ok (.ifCond .eq 7, 3) := by decide +kernel
theorem dX12_plainKind_250 : decode cX12_plainKind 250 = .ok (.iconst 1, 1) := by decide +kernel
theorem dX12_plainKind_251 : decode cX12_plainKind 251 = .ok (.goto 4, 3) := by decide +kernel
theorem dX12_plainKind_254 : decode cX12_plainKind 254 = .ok (.iconst 0, 1) := by decide +kernel
theorem dX12_plainKind_255 : decode cX12_plainKind 255 = .ok (.ireturn, 1) := by decide +kernel
theorem dX12_plainKind_256 : decode cX12_plainKind 256 = .ok (.aload_n 0, 1) := by decide +kernel
theorem dX12_plainKind_257 : decode cX12_plainKind 257 = .ok (.iconst 0, 1) := by decide +kernel
theorem dX12_plainKind_258 : decode cX12_plainKind 258 = .ok (.invokevirtual 434, 3) := by decide +kernel
theorem dX12_plainKind_261 : decode cX12_plainKind 261 = .ok (.ifCond .eq 15, 3) := by decide +kernel
theorem dX12_plainKind_264 : decode cX12_plainKind 264 = .ok (.aload_n 0, 1) := by decide +kernel
theorem dX12_plainKind_265 : decode cX12_plainKind 265 = .ok (.iconst 3, 1) := by decide +kernel
theorem dX12_plainKind_266 : decode cX12_plainKind 266 = .ok (.invokevirtual 367, 3) := by decide +kernel
theorem dX12_plainKind_269 : decode cX12_plainKind 269 = .ok (.ifCond .eq 7, 3) := by decide +kernel
theorem dX12_plainKind_272 : decode cX12_plainKind 272 = .ok (.iconst 1, 1) := by decide +kernel
theorem dX12_plainKind_273 : decode cX12_plainKind 273 = .ok (.goto 4, 3) := by decide +kernel
theorem dX12_plainKind_276 : decode cX12_plainKind 276 = .ok (.iconst 0, 1) := by decide +kernel
theorem dX12_plainKind_277 : decode cX12_plainKind 277 = .ok (.ireturn, 1) := by decide +kernel
theorem dX12_plainKind_278 : decode cX12_plainKind 278 = .ok (.aload_n 0, 1) := by decide +kernel
theorem dX12_plainKind_279 : decode cX12_plainKind 279 = .ok (.iconst 2, 1) := by decide +kernel
theorem dX12_plainKind_280 : decode cX12_plainKind 280 = .ok (.invokevirtual 434, 3) := by decide +kernel
theorem dX12_plainKind_283 : decode cX12_plainKind 283 = .ok (.ifCond .eq 26, 3) := by decide +kernel
theorem dX12_plainKind_286 : decode cX12_plainKind 286 = .ok (.aload_n 0, 1) := by decide +kernel
theorem dX12_plainKind_287 : decode cX12_plainKind 287 = .ok (.aload_n 0, 1) := by decide +kernel
theorem dX12_plainKind_288 : decode cX12_plainKind 288 = .ok (.getfield 101, 3) := by decide +kernel
theorem dX12_plainKind_291 : decode cX12_plainKind 291 = .ok (.iconst 0, 1) := by decide +kernel
theorem dX12_plainKind_292 : decode cX12_plainKind 292 = .ok (.laload, 1) := by decide +kernel
theorem dX12_plainKind_293 : decode cX12_plainKind 293 = .ok (.aload_n 0, 1) := by decide +kernel
theorem dX12_plainKind_294 : decode cX12_plainKind 294 = .ok (.getfield 101, 3) := by decide +kernel
theorem dX12_plainKind_297 : decode cX12_plainKind 297 = .ok (.iconst 1, 1) := by decide +kernel
theorem dX12_plainKind_298 : decode cX12_plainKind 298 = .ok (.laload, 1) := by decide +kernel
theorem dX12_plainKind_299 : decode cX12_plainKind 299 = .ok (.invokevirtual 446, 3) := by decide +kernel
theorem dX12_plainKind_302 : decode cX12_plainKind 302 = .ok (.ifCond .eq 7, 3) := by decide +kernel
theorem dX12_plainKind_305 : decode cX12_plainKind 305 = .ok (.iconst 1, 1) := by decide +kernel
theorem dX12_plainKind_306 : decode cX12_plainKind 306 = .ok (.goto 4, 3) := by decide +kernel
theorem dX12_plainKind_309 : decode cX12_plainKind 309 = .ok (.iconst 0, 1) := by decide +kernel
theorem dX12_plainKind_310 : decode cX12_plainKind 310 = .ok (.ireturn, 1) := by decide +kernel
theorem dX12_plainKind_311 : decode cX12_plainKind 311 = .ok (.aload_n 0, 1) := by decide +kernel
theorem dX12_plainKind_312 : decode cX12_plainKind 312 = .ok (.iconst 1, 1) := by decide +kernel
theorem dX12_plainKind_313 : decode cX12_plainKind 313 = .ok (.invokevirtual 434, 3) := by decide +kernel
theorem dX12_plainKind_316 : decode cX12_plainKind 316 = .ok (.ifCond .eq 21, 3) := by decide +kernel
theorem dX12_plainKind_319 : decode cX12_plainKind 319 = .ok (.aload_n 0, 1) := by decide +kernel
theorem dX12_plainKind_320 : decode cX12_plainKind 320 = .ok (.aload_n 0, 1) := by decide +kernel
theorem dX12_plainKind_321 : decode cX12_plainKind 321 = .ok (.getfield 101, 3) := by decide +kernel
theorem dX12_plainKind_324 : decode cX12_plainKind 324 = .ok (.iconst 0, 1) := by decide +kernel
theorem dX12_plainKind_325 : decode cX12_plainKind 325 = .ok (.laload, 1) := by decide +kernel
theorem dX12_plainKind_326 : decode cX12_plainKind 326 = .ok (.lconst 0, 1) := by decide +kernel
theorem dX12_plainKind_327 : decode cX12_plainKind 327 = .ok (.invokevirtual 446, 3) := by decide +kernel
theorem dX12_plainKind_330 : decode cX12_plainKind 330 = .ok (.ifCond .eq 7, 3) := by decide +kernel
theorem dX12_plainKind_333 : decode cX12_plainKind 333 = .ok (.iconst 1, 1) := by decide +kernel
theorem dX12_plainKind_334 : decode cX12_plainKind 334 = .ok (.goto 4, 3) := by decide +kernel
theorem dX12_plainKind_337 : decode cX12_plainKind 337 = .ok (.iconst 0, 1) := by decide +kernel
theorem dX12_plainKind_338 : decode cX12_plainKind 338 = .ok (.ireturn, 1) := by decide +kernel
theorem dX12_plainKind_339 : decode cX12_plainKind 339 = .ok (.aload_n 0, 1) := by decide +kernel
theorem dX12_plainKind_340 : decode cX12_plainKind 340 = .ok (.iconst 1, 1) := by decide +kernel
theorem dX12_plainKind_341 : decode cX12_plainKind 341 = .ok (.invokevirtual 434, 3) := by decide +kernel
theorem dX12_plainKind_344 : decode cX12_plainKind 344 = .ok (.ifCond .eq 21, 3) := by decide +kernel
theorem dX12_plainKind_347 : decode cX12_plainKind 347 = .ok (.aload_n 0, 1) := by decide +kernel
theorem dX12_plainKind_348 : decode cX12_plainKind 348 = .ok (.lconst 0, 1) := by decide +kernel
theorem dX12_plainKind_349 : decode cX12_plainKind 349 = .ok (.aload_n 0, 1) := by decide +kernel
theorem dX12_plainKind_350 : decode cX12_plainKind 350 = .ok (.getfield 101, 3) := by decide +kernel
theorem dX12_plainKind_353 : decode cX12_plainKind 353 = .ok (.iconst 0, 1) := by decide +kernel
theorem dX12_plainKind_354 : decode cX12_plainKind 354 = .ok (.laload, 1) := by decide +kernel
theorem dX12_plainKind_355 : decode cX12_plainKind 355 = .ok (.invokevirtual 446, 3) := by decide +kernel
theorem dX12_plainKind_358 : decode cX12_plainKind 358 = .ok (.ifCond .eq 7, 3) := by decide +kernel
theorem dX12_plainKind_361 : decode cX12_plainKind 361 = .ok (.iconst 1, 1) := by decide +kernel
theorem dX12_plainKind_362 : decode cX12_plainKind 362 = .ok (.goto 4, 3) := by decide +kernel
theorem dX12_plainKind_365 : decode cX12_plainKind 365 = .ok (.iconst 0, 1) := by decide +kernel
theorem dX12_plainKind_366 : decode cX12_plainKind 366 = .ok (.ireturn, 1) := by decide +kernel
theorem dX12_plainKind_367 : decode cX12_plainKind 367 = .ok (.aload_n 0, 1) := by decide +kernel
theorem dX12_plainKind_368 : decode cX12_plainKind 368 = .ok (.bipush 6, 2) := by decide +kernel
theorem dX12_plainKind_370 : decode cX12_plainKind 370 = .ok (.invokevirtual 434, 3) := by decide +kernel
theorem dX12_plainKind_373 : decode cX12_plainKind 373 = .ok (.ifCond .eq 50, 3) := by decide +kernel
theorem dX12_plainKind_376 : decode cX12_plainKind 376 = .ok (.aload_n 0, 1) := by decide +kernel
theorem dX12_plainKind_377 : decode cX12_plainKind 377 = .ok (.aload_n 0, 1) := by decide +kernel
theorem dX12_plainKind_378 : decode cX12_plainKind 378 = .ok (.getfield 101, 3) := by decide +kernel
theorem dX12_plainKind_381 : decode cX12_plainKind 381 = .ok (.iconst 0, 1) := by decide +kernel
theorem dX12_plainKind_382 : decode cX12_plainKind 382 = .ok (.laload, 1) := by decide +kernel
theorem dX12_plainKind_383 : decode cX12_plainKind 383 = .ok (.aload_n 0, 1) := by decide +kernel
theorem dX12_plainKind_384 : decode cX12_plainKind 384 = .ok (.getfield 101, 3) := by decide +kernel
theorem dX12_plainKind_387 : decode cX12_plainKind 387 = .ok (.iconst 1, 1) := by decide +kernel
theorem dX12_plainKind_388 : decode cX12_plainKind 388 = .ok (.laload, 1) := by decide +kernel
theorem dX12_plainKind_389 : decode cX12_plainKind 389 = .ok (.aload_n 0, 1) := by decide +kernel
theorem dX12_plainKind_390 : decode cX12_plainKind 390 = .ok (.getfield 101, 3) := by decide +kernel
theorem dX12_plainKind_393 : decode cX12_plainKind 393 = .ok (.iconst 2, 1) := by decide +kernel
theorem dX12_plainKind_394 : decode cX12_plainKind 394 = .ok (.laload, 1) := by decide +kernel
theorem dX12_plainKind_395 : decode cX12_plainKind 395 = .ok (.aload_n 0, 1) := by decide +kernel
theorem dX12_plainKind_396 : decode cX12_plainKind 396 = .ok (.getfield 101, 3) := by decide +kernel
theorem dX12_plainKind_399 : decode cX12_plainKind 399 = .ok (.iconst 3, 1) := by decide +kernel
theorem dX12_plainKind_400 : decode cX12_plainKind 400 = .ok (.laload, 1) := by decide +kernel
theorem dX12_plainKind_401 : decode cX12_plainKind 401 = .ok (.aload_n 0, 1) := by decide +kernel
theorem dX12_plainKind_402 : decode cX12_plainKind 402 = .ok (.getfield 101, 3) := by decide +kernel
theorem dX12_plainKind_405 : decode cX12_plainKind 405 = .ok (.iconst 4, 1) := by decide +kernel
theorem dX12_plainKind_406 : decode cX12_plainKind 406 = .ok (.laload, 1) := by decide +kernel
theorem dX12_plainKind_407 : decode cX12_plainKind 407 = .ok (.aload_n 0, 1) := by decide +kernel
theorem dX12_plainKind_408 : decode cX12_plainKind 408 = .ok (.getfield 101, 3) := by decide +kernel
theorem dX12_plainKind_411 : decode cX12_plainKind 411 = .ok (.iconst 5, 1) := by decide +kernel
theorem dX12_plainKind_412 : decode cX12_plainKind 412 = .ok (.laload, 1) := by decide +kernel
theorem dX12_plainKind_413 : decode cX12_plainKind 413 = .ok (.invokevirtual 449, 3) := by decide +kernel
theorem dX12_plainKind_416 : decode cX12_plainKind 416 = .ok (.ifCond .eq 7, 3) := by decide +kernel
theorem dX12_plainKind_419 : decode cX12_plainKind 419 = .ok (.iconst 1, 1) := by decide +kernel
theorem dX12_plainKind_420 : decode cX12_plainKind 420 = .ok (.goto 4, 3) := by decide +kernel
theorem dX12_plainKind_423 : decode cX12_plainKind 423 = .ok (.iconst 0, 1) := by decide +kernel
theorem dX12_plainKind_424 : decode cX12_plainKind 424 = .ok (.ireturn, 1) := by decide +kernel
theorem dX12_plainKind_425 : decode cX12_plainKind 425 = .ok (.aload_n 0, 1) := by decide +kernel
theorem dX12_plainKind_426 : decode cX12_plainKind 426 = .ok (.iconst 4, 1) := by decide +kernel
theorem dX12_plainKind_427 : decode cX12_plainKind 427 = .ok (.invokevirtual 434, 3) := by decide +kernel
theorem dX12_plainKind_430 : decode cX12_plainKind 430 = .ok (.ifCond .eq 40, 3) := by decide +kernel
theorem dX12_plainKind_433 : decode cX12_plainKind 433 = .ok (.aload_n 0, 1) := by decide +kernel
theorem dX12_plainKind_434 : decode cX12_plainKind 434 = .ok (.lconst 0, 1) := by decide +kernel
theorem dX12_plainKind_435 : decode cX12_plainKind 435 = .ok (.aload_n 0, 1) := by decide +kernel
theorem dX12_plainKind_436 : decode cX12_plainKind 436 = .ok (.getfield 101, 3) := by decide +kernel
theorem dX12_plainKind_439 : decode cX12_plainKind 439 = .ok (.iconst 0, 1) := by decide +kernel
theorem dX12_plainKind_440 : decode cX12_plainKind 440 = .ok (.laload, 1) := by decide +kernel
theorem dX12_plainKind_441 : decode cX12_plainKind 441 = .ok (.aload_n 0, 1) := by decide +kernel
theorem dX12_plainKind_442 : decode cX12_plainKind 442 = .ok (.getfield 101, 3) := by decide +kernel
theorem dX12_plainKind_445 : decode cX12_plainKind 445 = .ok (.iconst 1, 1) := by decide +kernel
theorem dX12_plainKind_446 : decode cX12_plainKind 446 = .ok (.laload, 1) := by decide +kernel
theorem dX12_plainKind_447 : decode cX12_plainKind 447 = .ok (.aload_n 0, 1) := by decide +kernel
theorem dX12_plainKind_448 : decode cX12_plainKind 448 = .ok (.getfield 101, 3) := by decide +kernel
theorem dX12_plainKind_451 : decode cX12_plainKind 451 = .ok (.iconst 2, 1) := by decide +kernel
theorem dX12_plainKind_452 : decode cX12_plainKind 452 = .ok (.laload, 1) := by decide +kernel
theorem dX12_plainKind_453 : decode cX12_plainKind 453 = .ok (.aload_n 0, 1) := by decide +kernel
theorem dX12_plainKind_454 : decode cX12_plainKind 454 = .ok (.getfield 101, 3) := by decide +kernel
theorem dX12_plainKind_457 : decode cX12_plainKind 457 = .ok (.iconst 3, 1) := by decide +kernel
theorem dX12_plainKind_458 : decode cX12_plainKind 458 = .ok (.laload, 1) := by decide +kernel
theorem dX12_plainKind_459 : decode cX12_plainKind 459 = .ok (.lconst 0, 1) := by decide +kernel
theorem dX12_plainKind_460 : decode cX12_plainKind 460 = .ok (.invokevirtual 449, 3) := by decide +kernel
theorem dX12_plainKind_463 : decode cX12_plainKind 463 = .ok (.ifCond .eq 7, 3) := by decide +kernel
theorem dX12_plainKind_466 : decode cX12_plainKind 466 = .ok (.iconst 1, 1) := by decide +kernel
theorem dX12_plainKind_467 : decode cX12_plainKind 467 = .ok (.goto 4, 3) := by decide +kernel
theorem dX12_plainKind_470 : decode cX12_plainKind 470 = .ok (.iconst 0, 1) := by decide +kernel
theorem dX12_plainKind_471 : decode cX12_plainKind 471 = .ok (.ireturn, 1) := by decide +kernel
theorem dX12_plainKind_472 : decode cX12_plainKind 472 = .ok (.aload_n 0, 1) := by decide +kernel
theorem dX12_plainKind_473 : decode cX12_plainKind 473 = .ok (.iconst 4, 1) := by decide +kernel
theorem dX12_plainKind_474 : decode cX12_plainKind 474 = .ok (.invokevirtual 434, 3) := by decide +kernel
theorem dX12_plainKind_477 : decode cX12_plainKind 477 = .ok (.ifCond .eq 40, 3) := by decide +kernel
theorem dX12_plainKind_480 : decode cX12_plainKind 480 = .ok (.aload_n 0, 1) := by decide +kernel
theorem dX12_plainKind_481 : decode cX12_plainKind 481 = .ok (.aload_n 0, 1) := by decide +kernel
theorem dX12_plainKind_482 : decode cX12_plainKind 482 = .ok (.getfield 101, 3) := by decide +kernel
theorem dX12_plainKind_485 : decode cX12_plainKind 485 = .ok (.iconst 0, 1) := by decide +kernel
theorem dX12_plainKind_486 : decode cX12_plainKind 486 = .ok (.laload, 1) := by decide +kernel
theorem dX12_plainKind_487 : decode cX12_plainKind 487 = .ok (.lconst 0, 1) := by decide +kernel
theorem dX12_plainKind_488 : decode cX12_plainKind 488 = .ok (.aload_n 0, 1) := by decide +kernel
theorem dX12_plainKind_489 : decode cX12_plainKind 489 = .ok (.getfield 101, 3) := by decide +kernel
theorem dX12_plainKind_492 : decode cX12_plainKind 492 = .ok (.iconst 1, 1) := by decide +kernel
theorem dX12_plainKind_493 : decode cX12_plainKind 493 = .ok (.laload, 1) := by decide +kernel
theorem dX12_plainKind_494 : decode cX12_plainKind 494 = .ok (.aload_n 0, 1) := by decide +kernel
theorem dX12_plainKind_495 : decode cX12_plainKind 495 = .ok (.getfield 101, 3) := by decide +kernel
theorem dX12_plainKind_498 : decode cX12_plainKind 498 = .ok (.iconst 2, 1) := by decide +kernel
theorem dX12_plainKind_499 : decode cX12_plainKind 499 = .ok (.laload, 1) := by decide +kernel
theorem dX12_plainKind_500 : decode cX12_plainKind 500 = .ok (.lconst 0, 1) := by decide +kernel
theorem dX12_plainKind_501 : decode cX12_plainKind 501 = .ok (.aload_n 0, 1) := by decide +kernel
theorem dX12_plainKind_502 : decode cX12_plainKind 502 = .ok (.getfield 101, 3) := by decide +kernel
theorem dX12_plainKind_505 : decode cX12_plainKind 505 = .ok (.iconst 3, 1) := by decide +kernel
theorem dX12_plainKind_506 : decode cX12_plainKind 506 = .ok (.laload, 1) := by decide +kernel
theorem dX12_plainKind_507 : decode cX12_plainKind 507 = .ok (.invokevirtual 449, 3) := by decide +kernel
theorem dX12_plainKind_510 : decode cX12_plainKind 510 = .ok (.ifCond .eq 7, 3) := by decide +kernel
theorem dX12_plainKind_513 : decode cX12_plainKind 513 = .ok (.iconst 1, 1) := by decide +kernel
theorem dX12_plainKind_514 : decode cX12_plainKind 514 = .ok (.goto 4, 3) := by decide +kernel
theorem dX12_plainKind_517 : decode cX12_plainKind 517 = .ok (.iconst 0, 1) := by decide +kernel
theorem dX12_plainKind_518 : decode cX12_plainKind 518 = .ok (.ireturn, 1) := by decide +kernel
theorem dX12_plainKind_519 : decode cX12_plainKind 519 = .ok (.aload_n 0, 1) := by decide +kernel
theorem dX12_plainKind_520 : decode cX12_plainKind 520 = .ok (.iconst 2, 1) := by decide +kernel
theorem dX12_plainKind_521 : decode cX12_plainKind 521 = .ok (.invokevirtual 434, 3) := by decide +kernel
theorem dX12_plainKind_524 : decode cX12_plainKind 524 = .ok (.ifCond .eq 26, 3) := by decide +kernel
theorem dX12_plainKind_527 : decode cX12_plainKind 527 = .ok (.aload_n 0, 1) := by decide +kernel
theorem dX12_plainKind_528 : decode cX12_plainKind 528 = .ok (.aload_n 0, 1) := by decide +kernel
theorem dX12_plainKind_529 : decode cX12_plainKind 529 = .ok (.getfield 101, 3) := by decide +kernel
theorem dX12_plainKind_532 : decode cX12_plainKind 532 = .ok (.iconst 0, 1) := by decide +kernel
theorem dX12_plainKind_533 : decode cX12_plainKind 533 = .ok (.laload, 1) := by decide +kernel
theorem dX12_plainKind_534 : decode cX12_plainKind 534 = .ok (.aload_n 0, 1) := by decide +kernel
theorem dX12_plainKind_535 : decode cX12_plainKind 535 = .ok (.getfield 101, 3) := by decide +kernel
theorem dX12_plainKind_538 : decode cX12_plainKind 538 = .ok (.iconst 1, 1) := by decide +kernel
theorem dX12_plainKind_539 : decode cX12_plainKind 539 = .ok (.laload, 1) := by decide +kernel
theorem dX12_plainKind_540 : decode cX12_plainKind 540 = .ok (.invokevirtual 483, 3) := by decide +kernel
theorem dX12_plainKind_543 : decode cX12_plainKind 543 = .ok (.ifCond .eq 7, 3) := by decide +kernel
theorem dX12_plainKind_546 : decode cX12_plainKind 546 = .ok (.iconst 1, 1) := by decide +kernel
theorem dX12_plainKind_547 : decode cX12_plainKind 547 = .ok (.goto 4, 3) := by decide +kernel
theorem dX12_plainKind_550 : decode cX12_plainKind 550 = .ok (.iconst 0, 1) := by decide +kernel
theorem dX12_plainKind_551 : decode cX12_plainKind 551 = .ok (.ireturn, 1) := by decide +kernel
theorem dX12_plainKind_552 : decode cX12_plainKind 552 = .ok (.aload_n 0, 1) := by decide +kernel
theorem dX12_plainKind_553 : decode cX12_plainKind 553 = .ok (.iconst 1, 1) := by decide +kernel
theorem dX12_plainKind_554 : decode cX12_plainKind 554 = .ok (.invokevirtual 434, 3) := by decide +kernel
theorem dX12_plainKind_557 : decode cX12_plainKind 557 = .ok (.ifCond .eq 21, 3) := by decide +kernel
theorem dX12_plainKind_560 : decode cX12_plainKind 560 = .ok (.aload_n 0, 1) := by decide +kernel
theorem dX12_plainKind_561 : decode cX12_plainKind 561 = .ok (.aload_n 0, 1) := by decide +kernel
theorem dX12_plainKind_562 : decode cX12_plainKind 562 = .ok (.getfield 101, 3) := by decide +kernel
theorem dX12_plainKind_565 : decode cX12_plainKind 565 = .ok (.iconst 0, 1) := by decide +kernel
theorem dX12_plainKind_566 : decode cX12_plainKind 566 = .ok (.laload, 1) := by decide +kernel
theorem dX12_plainKind_567 : decode cX12_plainKind 567 = .ok (.lconst 0, 1) := by decide +kernel
theorem dX12_plainKind_568 : decode cX12_plainKind 568 = .ok (.invokevirtual 483, 3) := by decide +kernel
theorem dX12_plainKind_571 : decode cX12_plainKind 571 = .ok (.ifCond .eq 7, 3) := by decide +kernel
theorem dX12_plainKind_574 : decode cX12_plainKind 574 = .ok (.iconst 1, 1) := by decide +kernel
theorem dX12_plainKind_575 : decode cX12_plainKind 575 = .ok (.goto 4, 3) := by decide +kernel
theorem dX12_plainKind_578 : decode cX12_plainKind 578 = .ok (.iconst 0, 1) := by decide +kernel
theorem dX12_plainKind_579 : decode cX12_plainKind 579 = .ok (.ireturn, 1) := by decide +kernel
theorem dX12_plainKind_580 : decode cX12_plainKind 580 = .ok (.aload_n 0, 1) := by decide +kernel
theorem dX12_plainKind_581 : decode cX12_plainKind 581 = .ok (.iconst 1, 1) := by decide +kernel
theorem dX12_plainKind_582 : decode cX12_plainKind 582 = .ok (.invokevirtual 434, 3) := by decide +kernel
theorem dX12_plainKind_585 : decode cX12_plainKind 585 = .ok (.ifCond .eq 21, 3) := by decide +kernel
theorem dX12_plainKind_588 : decode cX12_plainKind 588 = .ok (.aload_n 0, 1) := by decide +kernel
theorem dX12_plainKind_589 : decode cX12_plainKind 589 = .ok (.lconst 0, 1) := by decide +kernel
theorem dX12_plainKind_590 : decode cX12_plainKind 590 = .ok (.aload_n 0, 1) := by decide +kernel
theorem dX12_plainKind_591 : decode cX12_plainKind 591 = .ok (.getfield 101, 3) := by decide +kernel
theorem dX12_plainKind_594 : decode cX12_plainKind 594 = .ok (.iconst 0, 1) := by decide +kernel
theorem dX12_plainKind_595 : decode cX12_plainKind 595 = .ok (.laload, 1) := by decide +kernel
theorem dX12_plainKind_596 : decode cX12_plainKind 596 = .ok (.invokevirtual 483, 3) := by decide +kernel
theorem dX12_plainKind_599 : decode cX12_plainKind 599 = .ok (.ifCond .eq 7, 3) := by decide +kernel
theorem dX12_plainKind_602 : decode cX12_plainKind 602 = .ok (.iconst 1, 1) := by decide +kernel
theorem dX12_plainKind_603 : decode cX12_plainKind 603 = .ok (.goto 4, 3) := by decide +kernel
theorem dX12_plainKind_606 : decode cX12_plainKind 606 = .ok (.iconst 0, 1) := by decide +kernel
theorem dX12_plainKind_607 : decode cX12_plainKind 607 = .ok (.ireturn, 1) := by decide +kernel
theorem dX12_plainKind_608 : decode cX12_plainKind 608 = .ok (.aload_n 0, 1) := by decide +kernel
theorem dX12_plainKind_609 : decode cX12_plainKind 609 = .ok (.iconst 2, 1) := by decide +kernel
theorem dX12_plainKind_610 : decode cX12_plainKind 610 = .ok (.invokevirtual 434, 3) := by decide +kernel
theorem dX12_plainKind_613 : decode cX12_plainKind 613 = .ok (.ifCond .ne 5, 3) := by decide +kernel
theorem dX12_plainKind_616 : decode cX12_plainKind 616 = .ok (.iconst 0, 1) := by decide +kernel
theorem dX12_plainKind_617 : decode cX12_plainKind 617 = .ok (.ireturn, 1) := by decide +kernel
theorem dX12_plainKind_618 : decode cX12_plainKind 618 = .ok (.aload_n 0, 1) := by decide +kernel
theorem dX12_plainKind_619 : decode cX12_plainKind 619 = .ok (.aload_n 0, 1) := by decide +kernel
theorem dX12_plainKind_620 : decode cX12_plainKind 620 = .ok (.getfield 101, 3) := by decide +kernel
theorem dX12_plainKind_623 : decode cX12_plainKind 623 = .ok (.iconst 0, 1) := by decide +kernel
theorem dX12_plainKind_624 : decode cX12_plainKind 624 = .ok (.laload, 1) := by decide +kernel
theorem dX12_plainKind_625 : decode cX12_plainKind 625 = .ok (.putfield 316, 3) := by decide +kernel
theorem dX12_plainKind_628 : decode cX12_plainKind 628 = .ok (.aload_n 0, 1) := by decide +kernel
theorem dX12_plainKind_629 : decode cX12_plainKind 629 = .ok (.aload_n 0, 1) := by decide +kernel
theorem dX12_plainKind_630 : decode cX12_plainKind 630 = .ok (.getfield 101, 3) := by decide +kernel
theorem dX12_plainKind_633 : decode cX12_plainKind 633 = .ok (.iconst 1, 1) := by decide +kernel
theorem dX12_plainKind_634 : decode cX12_plainKind 634 = .ok (.laload, 1) := by decide +kernel
theorem dX12_plainKind_635 : decode cX12_plainKind 635 = .ok (.putfield 319, 3) := by decide +kernel
theorem dX12_plainKind_638 : decode cX12_plainKind 638 = .ok (.iconst 1, 1) := by decide +kernel
theorem dX12_plainKind_639 : decode cX12_plainKind 639 = .ok (.ireturn, 1) := by decide +kernel
theorem dX12_plainKind_640 : decode cX12_plainKind 640 = .ok (.aload_n 0, 1) := by decide +kernel
theorem dX12_plainKind_641 : decode cX12_plainKind 641 = .ok (.aload_n 0, 1) := by decide +kernel
theorem dX12_plainKind_642 : decode cX12_plainKind 642 = .ok (.iconst 0, 1) := by decide +kernel
theorem dX12_plainKind_643 : decode cX12_plainKind 643 = .ok (.invokevirtual 434, 3) := by decide +kernel
theorem dX12_plainKind_646 : decode cX12_plainKind 646 = .ok (.putfield 331, 3) := by decide +kernel
theorem dX12_plainKind_649 : decode cX12_plainKind 649 = .ok (.aload_n 0, 1) := by decide +kernel
theorem dX12_plainKind_650 : decode cX12_plainKind 650 = .ok (.getfield 331, 3) := by decide +kernel
theorem dX12_plainKind_653 : decode cX12_plainKind 653 = .ok (.ireturn, 1) := by decide +kernel
theorem dX12_plainKind_654 : decode cX12_plainKind 654 = .ok (.aload_n 0, 1) := by decide +kernel
theorem dX12_plainKind_655 : decode cX12_plainKind 655 = .ok (.iconst 1, 1) := by decide +kernel
theorem dX12_plainKind_656 : decode cX12_plainKind 656 = .ok (.invokevirtual 346, 3) := by decide +kernel
theorem dX12_plainKind_659 : decode cX12_plainKind 659 = .ok (.ireturn, 1) := by decide +kernel
theorem dX12_plains_0 : decode cX12_plains 0 = .ok (.iload_n 1, 1) := by decide +kernel
theorem dX12_plains_1 : decode cX12_plains 1 = .ok (.aload_n 0, 1) := by decide +kernel
theorem dX12_plains_2 : decode cX12_plains 2 = .ok (.getfield 132, 3) := by decide +kernel
theorem dX12_plains_5 : decode cX12_plains 5 = .ok (.bipush 8, 2) := by decide +kernel
theorem dX12_plains_7 : decode cX12_plains 7 = .ok (.ishr, 1) := by decide +kernel
theorem dX12_plains_8 : decode cX12_plains 8 = .ok (.ixor, 1) := by decide +kernel
theorem dX12_plains_9 : decode cX12_plains 9 = .ok (.sipush 255, 3) := by decide +kernel
theorem dX12_plains_12 : decode cX12_plains 12 = .ok (.iand, 1) := by decide +kernel
theorem dX12_plains_13 : decode cX12_plains 13 = .ok (.istore_n 2, 1) := by decide +kernel
theorem dX12_plains_14 : decode cX12_plains 14 = .ok (.aload_n 0, 1) := by decide +kernel
theorem dX12_plains_15 : decode cX12_plains 15 = .ok (.iload_n 1, 1) := by decide +kernel
theorem dX12_plains_16 : decode cX12_plains 16 = .ok (.aload_n 0, 1) := by decide +kernel
theorem dX12_plains_17 : decode cX12_plains 17 = .ok (.getfield 132, 3) := by decide +kernel
theorem dX12_plains_20 : decode cX12_plains 20 = .ok (.iadd, 1) := by decide +kernel
theorem dX12_plains_21 : decode cX12_plains 21 = .ok (.ldc 135, 2) := by decide +kernel
theorem dX12_plains_23 : decode cX12_plains 23 = .ok (.imul, 1) := by decide +kernel
theorem dX12_plains_24 : decode cX12_plains 24 = .ok (.sipush 22719, 3) := by decide +kernel
theorem dX12_plains_27 : decode cX12_plains 27 = .ok (.iadd, 1) := by decide +kernel
theorem dX12_plains_28 : decode cX12_plains 28 = .ok (.ldc 136, 2) := by decide +kernel
theorem dX12_plains_30 : decode cX12_plains 30 = .ok (.iand, 1) := by decide +kernel
theorem dX12_plains_31 : decode cX12_plains 31 = .ok (.putfield 132, 3) := by decide +kernel
theorem dX12_plains_34 : decode cX12_plains 34 = .ok (.iload_n 2, 1) := by decide +kernel
theorem dX12_plains_35 : decode cX12_plains 35 = .ok (.ireturn, 1) := by decide +kernel
theorem dX12_point_0 : decode cX12_point 0 = .ok (.aload_n 0, 1) := by decide +kernel
theorem dX12_point_1 : decode cX12_point 1 = .ok (.getfield 98, 3) := by decide +kernel
theorem dX12_point_4 : decode cX12_point 4 = .ok (.bipush 6, 2) := by decide +kernel
theorem dX12_point_6 : decode cX12_point 6 = .ok (.aload_n 0, 1) := by decide +kernel
theorem dX12_point_7 : decode cX12_point 7 = .ok (.getfield 298, 3) := by decide +kernel
theorem dX12_point_10 : decode cX12_point 10 = .ok (.iconst 1, 1) := by decide +kernel
theorem dX12_point_11 : decode cX12_point 11 = .ok (.isub, 1) := by decide +kernel
theorem dX12_point_12 : decode cX12_point 12 = .ok (.imul, 1) := by decide +kernel
theorem dX12_point_13 : decode cX12_point 13 = .ok (.iconst 2, 1) := by decide +kernel
theorem dX12_point_14 : decode cX12_point 14 = .ok (.iload_n 1, 1) := by decide +kernel
theorem dX12_point_15 : decode cX12_point 15 = .ok (.imul, 1) := by decide +kernel
theorem dX12_point_16 : decode cX12_point 16 = .ok (.iadd, 1) := by decide +kernel
theorem dX12_point_17 : decode cX12_point 17 = .ok (.aload_n 0, 1) := by decide +kernel
theorem dX12_point_18 : decode cX12_point 18 = .ok (.getfield 316, 3) := by decide +kernel
theorem dX12_point_21 : decode cX12_point 21 = .ok (.lastore, 1) := by decide +kernel
theorem dX12_point_22 : decode cX12_point 22 = .ok (.aload_n 0, 1) := by decide +kernel
theorem dX12_point_23 : decode cX12_point 23 = .ok (.getfield 98, 3) := by decide +kernel
theorem dX12_point_26 : decode cX12_point 26 = .ok (.bipush 6, 2) := by decide +kernel
theorem dX12_point_28 : decode cX12_point 28 = .ok (.aload_n 0, 1) := by decide +kernel
theorem dX12_point_29 : decode cX12_point 29 = .ok (.getfield 298, 3) := by decide +kernel
theorem dX12_point_32 : decode cX12_point 32 = .ok (.iconst 1, 1) := by decide +kernel
theorem dX12_point_33 : decode cX12_point 33 = .ok (.isub, 1) := by decide +kernel
theorem dX12_point_34 : decode cX12_point 34 = .ok (.imul, 1) := by decide +kernel
theorem dX12_point_35 : decode cX12_point 35 = .ok (.iconst 2, 1) := by decide +kernel
theorem dX12_point_36 : decode cX12_point 36 = .ok (.iload_n 1, 1) := by decide +kernel
theorem dX12_point_37 : decode cX12_point 37 = .ok (.imul, 1) := by decide +kernel
theorem dX12_point_38 : decode cX12_point 38 = .ok (.iadd, 1) := by decide +kernel
theorem dX12_point_39 : decode cX12_point 39 = .ok (.iconst 1, 1) := by decide +kernel
theorem dX12_point_40 : decode cX12_point 40 = .ok (.iadd, 1) := by decide +kernel
theorem dX12_point_41 : decode cX12_point 41 = .ok (.aload_n 0, 1) := by decide +kernel
theorem dX12_point_42 : decode cX12_point 42 = .ok (.getfield 319, 3) := by decide +kernel
theorem dX12_point_45 : decode cX12_point 45 = .ok (.lastore, 1) := by decide +kernel
theorem dX12_point_46 : decode cX12_point 46 = .ok (.return_, 1) := by decide +kernel
theorem dX12_pops_0 : decode cX12_pops 0 = .ok (.aload_n 0, 1) := by decide +kernel
theorem dX12_pops_1 : decode cX12_pops 1 = .ok (.dup, 1) := by decide +kernel
theorem dX12_pops_2 : decode cX12_pops 2 = .ok (.getfield 325, 3) := by decide +kernel
theorem dX12_pops_5 : decode cX12_pops 5 = .ok (.iconst 1, 1) := by decide +kernel
theorem dX12_pops_6 : decode cX12_pops 6 = .ok (.isub, 1) := by decide +kernel
theorem dX12_pops_7 : decode cX12_pops 7 = .ok (.putfield 325, 3) := by decide +kernel
theorem dX12_pops_10 : decode cX12_pops 10 = .ok (.aload_n 0, 1) := by decide +kernel
theorem dX12_pops_11 : decode cX12_pops 11 = .ok (.getfield 101, 3) := by decide +kernel
theorem dX12_pops_14 : decode cX12_pops 14 = .ok (.aload_n 0, 1) := by decide +kernel
theorem dX12_pops_15 : decode cX12_pops 15 = .ok (.getfield 325, 3) := by decide +kernel
theorem dX12_pops_18 : decode cX12_pops 18 = .ok (.laload, 1) := by decide +kernel
theorem dX12_pops_19 : decode cX12_pops 19 = .ok (.lreturn, 1) := by decide +kernel
theorem dX12_programs_0 : decode cX12_programs 0 = .ok (.aload_n 0, 1) := by decide +kernel
theorem dX12_programs_1 : decode cX12_programs 1 = .ok (.getfield 33, 3) := by decide +kernel
theorem dX12_programs_4 : decode cX12_programs 4 = .ok (.iload_n 1, 1) := by decide +kernel
theorem dX12_programs_5 : decode cX12_programs 5 = .ok (.aload_n 0, 1) := by decide +kernel
theorem dX12_programs_6 : decode cX12_programs 6 = .ok (.getfield 195, 3) := by decide +kernel
theorem dX12_programs_9 : decode cX12_programs 9 = .ok (.iastore, 1) := by decide +kernel
theorem dX12_programs_10 : decode cX12_programs 10 = .ok (.iconst 0, 1) := by decide +kernel
theorem dX12_programs_11 : decode cX12_programs 11 = .ok (.istore_n 2, 1) := by decide +kernel
theorem dX12_programs_12 : decode cX12_programs 12 = .ok (.iload_n 2, 1) := by decide +kernel
theorem dX12_programs_13 : decode cX12_programs 13 = .ok (.aload_n 0, 1) := by decide +kernel
theorem dX12_programs_14 : decode cX12_programs 14 = .ok (.getfield 195, 3) := by decide +kernel
theorem dX12_programs_17 : decode cX12_programs 17 = .ok (.if_icmp .ge 115, 3) := by decide +kernel
theorem dX12_programs_20 : decode cX12_programs 20 = .ok (.aload_n 0, 1) := by decide +kernel
theorem dX12_programs_21 : decode cX12_programs 21 = .ok (.getfield 198, 3) := by decide +kernel
theorem dX12_programs_24 : decode cX12_programs 24 = .ok (.aload_n 0, 1) := by decide +kernel
theorem dX12_programs_25 : decode cX12_programs 25 = .ok (.iload_n 2, 1) := by decide +kernel
theorem dX12_programs_26 : decode cX12_programs 26 = .ok (.invokevirtual 201, 3) := by decide +kernel
theorem dX12_programs_29 : decode cX12_programs 29 = .ok (.ladd, 1) := by decide +kernel
theorem dX12_programs_30 : decode cX12_programs 30 = .ok (.l2i, 1) := by decide +kernel
theorem dX12_programs_31 : decode cX12_programs 31 = .ok (.istore_n 3, 1) := by decide +kernel
theorem dX12_programs_32 : decode cX12_programs 32 = .ok (.aload_n 0, 1) := by decide +kernel
theorem dX12_programs_33 : decode cX12_programs 33 = .ok (.iload_n 2, 1) := by decide +kernel
theorem dX12_programs_34 : decode cX12_programs 34 = .ok (.iconst 1, 1) := by decide +kernel
theorem dX12_programs_35 : decode cX12_programs 35 = .ok (.iadd, 1) := by decide +kernel
theorem dX12_programs_36 : decode cX12_programs 36 = .ok (.invokevirtual 201, 3) := by decide +kernel
theorem dX12_programs_39 : decode cX12_programs 39 = .ok (.aload_n 0, 1) := by decide +kernel
theorem dX12_programs_40 : decode cX12_programs 40 = .ok (.iload_n 2, 1) := by decide +kernel
theorem dX12_programs_41 : decode cX12_programs 41 = .ok (.invokevirtual 201, 3) := by decide +kernel
theorem dX12_programs_44 : decode cX12_programs 44 = .ok (.lsub, 1) := by decide +kernel
theorem dX12_programs_45 : decode cX12_programs 45 = .ok (.l2i, 1) := by decide +kernel
theorem dX12_programs_46 : decode cX12_programs 46 = .ok (.istore 4, 2) := by decide +kernel
theorem dX12_programs_48 : decode cX12_programs 48 = .ok (.aload_n 0, 1) := by decide +kernel
theorem dX12_programs_49 : decode cX12_programs 49 = .ok (.getfield 36, 3) := by decide +kernel
theorem dX12_programs_52 : decode cX12_programs 52 = .ok (.sipush 1600, 3) := by decide +kernel
theorem dX12_programs_55 : decode cX12_programs 55 = .ok (.iload_n 1, 1) := by decide +kernel
theorem dX12_programs_56 : decode cX12_programs 56 = .ok (.imul, 1) := by decide +kernel
theorem dX12_programs_57 : decode cX12_programs 57 = .ok (.iload_n 2, 1) := by decide +kernel
theorem dX12_programs_58 : decode cX12_programs 58 = .ok (.iadd, 1) := by decide +kernel
theorem dX12_programs_59 : decode cX12_programs 59 = .ok (.aload_n 0, 1) := by decide +kernel
theorem dX12_programs_60 : decode cX12_programs 60 = .ok (.getfield 150, 3) := by decide +kernel
theorem dX12_programs_63 : decode cX12_programs 63 = .ok (.iastore, 1) := by decide +kernel
theorem dX12_programs_64 : decode cX12_programs 64 = .ok (.aload_n 0, 1) := by decide +kernel
theorem dX12_programs_65 : decode cX12_programs 65 = .ok (.getfield 39, 3) := by decide +kernel
theorem dX12_programs_68 : decode cX12_programs 68 = .ok (.sipush 1600, 3) := by decide +kernel
theorem dX12_programs_71 : decode cX12_programs 71 = .ok (.iload_n 1, 1) := by decide +kernel
theorem dX12_programs_72 : decode cX12_programs 72 = .ok (.imul, 1) := by decide +kernel
theorem dX12_programs_73 : decode cX12_programs 73 = .ok (.iload_n 2, 1) := by decide +kernel
theorem dX12_programs_74 : decode cX12_programs 74 = .ok (.iadd, 1) := by decide +kernel
theorem dX12_programs_75 : decode cX12_programs 75 = .ok (.iload 4, 2) := by decide +kernel
theorem dX12_programs_77 : decode cX12_programs 77 = .ok (.iastore, 1) := by decide +kernel
theorem dX12_programs_78 : decode cX12_programs 78 = .ok (.iconst 0, 1) := by decide +kernel
theorem dX12_programs_79 : decode cX12_programs 79 = .ok (.istore 5, 2) := by decide +kernel
theorem dX12_programs_81 : decode cX12_programs 81 = .ok (.iload 5, 2) := by decide +kernel
theorem dX12_programs_83 : decode cX12_programs 83 = .ok (.iload 4, 2) := by decide +kernel
theorem dX12_programs_85 : decode cX12_programs 85 = .ok (.if_icmp .ge 30, 3) := by decide +kernel
theorem dX12_programs_88 : decode cX12_programs 88 = .ok (.aload_n 0, 1) := by decide +kernel
theorem dX12_programs_89 : decode cX12_programs 89 = .ok (.getfield 42, 3) := by decide +kernel
theorem dX12_programs_92 : decode cX12_programs 92 = .ok (.aload_n 0, 1) := by decide +kernel
theorem dX12_programs_93 : decode cX12_programs 93 = .ok (.getfield 150, 3) := by decide +kernel
theorem dX12_programs_96 : decode cX12_programs 96 = .ok (.iload 5, 2) := by decide +kernel
theorem dX12_programs_98 : decode cX12_programs 98 = .ok (.iadd, 1) := by decide +kernel
theorem dX12_programs_99 : decode cX12_programs 99 = .ok (.aload_n 0, 1) := by decide +kernel
theorem dX12_programs_100 : decode cX12_programs 100 = .ok (.getfield 7, 3) := by decide +kernel
theorem dX12_programs_103 : decode cX12_programs 103 = .ok (.iload_n 3, 1) := by decide +kernel
theorem dX12_programs_104 : decode cX12_programs 104 = .ok (.iload 5, 2) := by decide +kernel
theorem dX12_programs_106 : decode cX12_programs 106 = .ok (.iadd, 1) := by decide +kernel
theorem dX12_programs_107 : decode cX12_programs 107 = .ok (.baload, 1) := by decide +kernel
theorem dX12_programs_108 : decode cX12_programs 108 = .ok (.bastore, 1) := by decide +kernel
theorem dX12_programs_109 : decode cX12_programs 109 = .ok (.iinc 5 1, 3) := by decide +kernel
theorem dX12_programs_112 : decode cX12_programs 112 = .ok (.goto (-31), 3) := by decide +kernel
theorem dX12_programs_115 : decode cX12_programs 115 = .ok (.aload_n 0, 1) := by decide +kernel
theorem dX12_programs_116 : decode cX12_programs 116 = .ok (.dup, 1) := by decide +kernel
theorem dX12_programs_117 : decode cX12_programs 117 = .ok (.getfield 150, 3) := by decide +kernel
theorem dX12_programs_120 : decode cX12_programs 120 = .ok (.iload 4, 2) := by decide +kernel
theorem dX12_programs_122 : decode cX12_programs 122 = .ok (.iadd, 1) := by decide +kernel
theorem dX12_programs_123 : decode cX12_programs 123 = .ok (.putfield 150, 3) := by decide +kernel
theorem dX12_programs_126 : decode cX12_programs 126 = .ok (.iinc 2 1, 3) := by decide +kernel
theorem dX12_programs_129 : decode cX12_programs 129 = .ok (.goto (-117), 3) := by decide +kernel
theorem dX12_programs_132 : decode cX12_programs 132 = .ok (.return_, 1) := by decide +kernel
theorem dX12_read_0 : decode cX12_read 0 = .ok (.iload_n 1, 1) := by decide +kernel
theorem dX12_read_1 : decode cX12_read 1 = .ok (.ifCond .lt 8, 3) := by decide +kernel
theorem dX12_read_4 : decode cX12_read 4 = .ok (.iload_n 1, 1) := by decide +kernel
theorem dX12_read_5 : decode cX12_read 5 = .ok (.iconst 1, 1) := by decide +kernel
theorem dX12_read_6 : decode cX12_read 6 = .ok (.if_icmp .le 5, 3) := by decide +kernel
theorem dX12_read_9 : decode cX12_read 9 = .ok (.iconst (-1), 1) := by decide +kernel
theorem dX12_read_10 : decode cX12_read 10 = .ok (.ireturn, 1) := by decide +kernel
theorem dX12_read_11 : decode cX12_read 11 = .ok (.aload_n 0, 1) := by decide +kernel
theorem dX12_read_12 : decode cX12_read 12 = .ok (.iconst 0, 1) := by decide +kernel
theorem dX12_read_13 : decode cX12_read 13 = .ok (.putfield 147, 3) := by decide +kernel
theorem dX12_read_16 : decode cX12_read 16 = .ok (.aload_n 0, 1) := by decide +kernel
theorem dX12_read_17 : decode cX12_read 17 = .ok (.iconst 0, 1) := by decide +kernel
theorem dX12_read_18 : decode cX12_read 18 = .ok (.putfield 150, 3) := by decide +kernel
theorem dX12_read_21 : decode cX12_read 21 = .ok (.aload_n 0, 1) := by decide +kernel
theorem dX12_read_22 : decode cX12_read 22 = .ok (.iconst 0, 1) := by decide +kernel
theorem dX12_read_23 : decode cX12_read 23 = .ok (.putfield 153, 3) := by decide +kernel
theorem dX12_read_26 : decode cX12_read 26 = .ok (.aload_n 0, 1) := by decide +kernel
theorem dX12_read_27 : decode cX12_read 27 = .ok (.iconst 0, 1) := by decide +kernel
theorem dX12_read_28 : decode cX12_read 28 = .ok (.putfield 156, 3) := by decide +kernel
theorem dX12_read_31 : decode cX12_read 31 = .ok (.iconst 0, 1) := by decide +kernel
theorem dX12_read_32 : decode cX12_read 32 = .ok (.istore_n 2, 1) := by decide +kernel
theorem dX12_read_33 : decode cX12_read 33 = .ok (.iload_n 2, 1) := by decide +kernel
theorem dX12_read_34 : decode cX12_read 34 = .ok (.iconst 3, 1) := by decide +kernel
theorem dX12_read_35 : decode cX12_read 35 = .ok (.if_icmp .ge 16, 3) := by decide +kernel
theorem dX12_read_38 : decode cX12_read 38 = .ok (.aload_n 0, 1) := by decide +kernel
theorem dX12_read_39 : decode cX12_read 39 = .ok (.getfield 33, 3) := by decide +kernel
theorem dX12_read_42 : decode cX12_read 42 = .ok (.iload_n 2, 1) := by decide +kernel
theorem dX12_read_43 : decode cX12_read 43 = .ok (.iconst 0, 1) := by decide +kernel
theorem dX12_read_44 : decode cX12_read 44 = .ok (.iastore, 1) := by decide +kernel
theorem dX12_read_45 : decode cX12_read 45 = .ok (.iinc 2 1, 3) := by decide +kernel
theorem dX12_read_48 : decode cX12_read 48 = .ok (.goto (-15), 3) := by decide +kernel
theorem dX12_read_51 : decode cX12_read 51 = .ok (.iload_n 1, 1) := by decide +kernel
theorem dX12_read_52 : decode cX12_read 52 = .ok (.ifCond .ne 10, 3) := by decide +kernel
theorem dX12_read_55 : decode cX12_read 55 = .ok (.aload_n 0, 1) := by decide +kernel
theorem dX12_read_56 : decode cX12_read 56 = .ok (.invokevirtual 159, 3) := by decide +kernel
theorem dX12_read_59 : decode cX12_read 59 = .ok (.goto 7, 3) := by decide +kernel
theorem dX12_read_62 : decode cX12_read 62 = .ok (.aload_n 0, 1) := by decide +kernel
theorem dX12_read_63 : decode cX12_read 63 = .ok (.invokevirtual 162, 3) := by decide +kernel
theorem dX12_read_66 : decode cX12_read 66 = .ok (.aload_n 0, 1) := by decide +kernel
theorem dX12_read_67 : decode cX12_read 67 = .ok (.iconst 0, 1) := by decide +kernel
theorem dX12_read_68 : decode cX12_read 68 = .ok (.putfield 125, 3) := by decide +kernel
theorem dX12_read_71 : decode cX12_read 71 = .ok (.aload_n 0, 1) := by decide +kernel
theorem dX12_read_72 : decode cX12_read 72 = .ok (.getfield 147, 3) := by decide +kernel
theorem dX12_read_75 : decode cX12_read 75 = .ok (.ifCond .le 8, 3) := by decide +kernel
theorem dX12_read_78 : decode cX12_read 78 = .ok (.aload_n 0, 1) := by decide +kernel
theorem dX12_read_79 : decode cX12_read 79 = .ok (.getfield 147, 3) := by decide +kernel
theorem dX12_read_82 : decode cX12_read 82 = .ok (.ireturn, 1) := by decide +kernel
theorem dX12_read_83 : decode cX12_read 83 = .ok (.aload_n 0, 1) := by decide +kernel
theorem dX12_read_84 : decode cX12_read 84 = .ok (.iload_n 1, 1) := by decide +kernel
theorem dX12_read_85 : decode cX12_read 85 = .ok (.putfield 16, 3) := by decide +kernel
theorem dX12_read_88 : decode cX12_read 88 = .ok (.aload_n 0, 1) := by decide +kernel
theorem dX12_read_89 : decode cX12_read 89 = .ok (.aload_n 0, 1) := by decide +kernel
theorem dX12_read_90 : decode cX12_read 90 = .ok (.getfield 153, 3) := by decide +kernel
theorem dX12_read_93 : decode cX12_read 93 = .ok (.putfield 165, 3) := by decide +kernel
theorem dX12_read_96 : decode cX12_read 96 = .ok (.aload_n 0, 1) := by decide +kernel
theorem dX12_read_97 : decode cX12_read 97 = .ok (.aload_n 0, 1) := by decide +kernel
theorem dX12_read_98 : decode cX12_read 98 = .ok (.getfield 156, 3) := by decide +kernel
theorem dX12_read_101 : decode cX12_read 101 = .ok (.putfield 168, 3) := by decide +kernel
theorem dX12_read_104 : decode cX12_read 104 = .ok (.iconst 0, 1) := by decide +kernel
theorem dX12_read_105 : decode cX12_read 105 = .ok (.istore_n 2, 1) := by decide +kernel
theorem dX12_read_106 : decode cX12_read 106 = .ok (.iload_n 2, 1) := by decide +kernel
theorem dX12_read_107 : decode cX12_read 107 = .ok (.iconst 3, 1) := by decide +kernel
theorem dX12_read_108 : decode cX12_read 108 = .ok (.if_icmp .ge 73, 3) := by decide +kernel
theorem dX12_read_111 : decode cX12_read 111 = .ok (.aload_n 0, 1) := by decide +kernel
theorem dX12_read_112 : decode cX12_read 112 = .ok (.getfield 20, 3) := by decide +kernel
theorem dX12_read_115 : decode cX12_read 115 = .ok (.iload_n 2, 1) := by decide +kernel
theorem dX12_read_116 : decode cX12_read 116 = .ok (.aload_n 0, 1) := by decide +kernel
theorem dX12_read_117 : decode cX12_read 117 = .ok (.getfield 33, 3) := by decide +kernel
theorem dX12_read_120 : decode cX12_read 120 = .ok (.iload_n 2, 1) := by decide +kernel
theorem dX12_read_121 : decode cX12_read 121 = .ok (.iaload, 1) := by decide +kernel
theorem dX12_read_122 : decode cX12_read 122 = .ok (.iastore, 1) := by decide +kernel
theorem dX12_read_123 : decode cX12_read 123 = .ok (.sipush 1600, 3) := by decide +kernel
theorem dX12_read_126 : decode cX12_read 126 = .ok (.iload_n 2, 1) := by decide +kernel
theorem dX12_read_127 : decode cX12_read 127 = .ok (.imul, 1) := by decide +kernel
theorem dX12_read_128 : decode cX12_read 128 = .ok (.istore_n 3, 1) := by decide +kernel
theorem dX12_read_129 : decode cX12_read 129 = .ok (.iload_n 3, 1) := by decide +kernel
theorem dX12_read_130 : decode cX12_read 130 = .ok (.sipush 1600, 3) := by decide +kernel
theorem dX12_read_133 : decode cX12_read 133 = .ok (.iload_n 2, 1) := by decide +kernel
theorem dX12_read_134 : decode cX12_read 134 = .ok (.imul, 1) := by decide +kernel
theorem dX12_read_135 : decode cX12_read 135 = .ok (.aload_n 0, 1) := by decide +kernel
theorem dX12_read_136 : decode cX12_read 136 = .ok (.getfield 33, 3) := by decide +kernel
theorem dX12_read_139 : decode cX12_read 139 = .ok (.iload_n 2, 1) := by decide +kernel
theorem dX12_read_140 : decode cX12_read 140 = .ok (.iaload, 1) := by decide +kernel
theorem dX12_read_141 : decode cX12_read 141 = .ok (.iadd, 1) := by decide +kernel
theorem dX12_read_142 : decode cX12_read 142 = .ok (.if_icmp .ge 33, 3) := by decide +kernel
theorem dX12_read_145 : decode cX12_read 145 = .ok (.aload_n 0, 1) := by decide +kernel
theorem dX12_read_146 : decode cX12_read 146 = .ok (.getfield 24, 3) := by decide +kernel
theorem dX12_read_149 : decode cX12_read 149 = .ok (.iload_n 3, 1) := by decide +kernel
theorem dX12_read_150 : decode cX12_read 150 = .ok (.aload_n 0, 1) := by decide +kernel
theorem dX12_read_151 : decode cX12_read 151 = .ok (.getfield 36, 3) := by decide +kernel
theorem dX12_read_154 : decode cX12_read 154 = .ok (.iload_n 3, 1) := by decide +kernel
theorem dX12_read_155 : decode cX12_read 155 = .ok (.iaload, 1) := by decide +kernel
theorem dX12_read_156 : decode cX12_read 156 = .ok (.iastore, 1) := by decide +kernel
theorem dX12_read_157 : decode cX12_read 157 = .ok (.aload_n 0, 1) := by decide +kernel
theorem dX12_read_158 : decode cX12_read 158 = .ok (.getfield 27, 3) := by decide +kernel
theorem dX12_read_161 : decode cX12_read 161 = .ok (.iload_n 3, 1) := by decide +kernel
theorem dX12_read_162 : decode cX12_read 162 = .ok (.aload_n 0, 1) := by decide +kernel
theorem dX12_read_163 : decode cX12_read 163 = .ok (.getfield 39, 3) := by decide +kernel
theorem dX12_read_166 : decode cX12_read 166 = .ok (.iload_n 3, 1) := by decide +kernel
theorem dX12_read_167 : decode cX12_read 167 = .ok (.iaload, 1) := by decide +kernel
theorem dX12_read_168 : decode cX12_read 168 = .ok (.iastore, 1) := by decide +kernel
theorem dX12_read_169 : decode cX12_read 169 = .ok (.iinc 3 1, 3) := by decide +kernel
theorem dX12_read_172 : decode cX12_read 172 = .ok (.goto (-43), 3) := by decide +kernel
theorem dX12_read_175 : decode cX12_read 175 = .ok (.iinc 2 1, 3) := by decide +kernel
theorem dX12_read_178 : decode cX12_read 178 = .ok (.goto (-72), 3) := by decide +kernel
theorem dX12_read_181 : decode cX12_read 181 = .ok (.iconst 0, 1) := by decide +kernel
theorem dX12_read_182 : decode cX12_read 182 = .ok (.istore_n 2, 1) := by decide +kernel
theorem dX12_read_183 : decode cX12_read 183 = .ok (.iload_n 2, 1) := by decide +kernel
theorem dX12_read_184 : decode cX12_read 184 = .ok (.aload_n 0, 1) := by decide +kernel
theorem dX12_read_185 : decode cX12_read 185 = .ok (.getfield 150, 3) := by decide +kernel
theorem dX12_read_188 : decode cX12_read 188 = .ok (.if_icmp .ge 21, 3) := by decide +kernel
theorem dX12_read_191 : decode cX12_read 191 = .ok (.aload_n 0, 1) := by decide +kernel
theorem dX12_read_192 : decode cX12_read 192 = .ok (.getfield 30, 3) := by decide +kernel
theorem dX12_read_195 : decode cX12_read 195 = .ok (.iload_n 2, 1) := by decide +kernel
theorem dX12_read_196 : decode cX12_read 196 = .ok (.aload_n 0, 1) := by decide +kernel
theorem dX12_read_197 : decode cX12_read 197 = .ok (.getfield 42, 3) := by decide +kernel
theorem dX12_read_200 : decode cX12_read 200 = .ok (.iload_n 2, 1) := by decide +kernel
theorem dX12_read_201 : decode cX12_read 201 = .ok (.baload, 1) := by decide +kernel
theorem dX12_read_202 : decode cX12_read 202 = .ok (.bastore, 1) := by decide +kernel
theorem dX12_read_203 : decode cX12_read 203 = .ok (.iinc 2 1, 3) := by decide +kernel
theorem dX12_read_206 : decode cX12_read 206 = .ok (.goto (-23), 3) := by decide +kernel
theorem dX12_read_209 : decode cX12_read 209 = .ok (.iconst 0, 1) := by decide +kernel
theorem dX12_read_210 : decode cX12_read 210 = .ok (.ireturn, 1) := by decide +kernel
theorem dX12_reckons_0 : decode cX12_reckons 0 = .ok (.iload_n 1, 1) := by decide +kernel
theorem dX12_reckons_1 : decode cX12_reckons 1 = .ok (.bipush 22, 2) := by decide +kernel
theorem dX12_reckons_3 : decode cX12_reckons 3 = .ok (.if_icmp .ne 7, 3) := by decide +kernel
theorem dX12_reckons_6 : decode cX12_reckons 6 = .ok (.iconst 4, 1) := by decide +kernel
theorem dX12_reckons_7 : decode cX12_reckons 7 = .ok (.goto 55, 3) := by decide +kernel
theorem dX12_reckons_10 : decode cX12_reckons 10 = .ok (.iload_n 1, 1) := by decide +kernel
theorem dX12_reckons_11 : decode cX12_reckons 11 = .ok (.iconst 5, 1) := by decide +kernel
theorem dX12_reckons_12 : decode cX12_reckons 12 = .ok (.if_icmp .eq 45, 3) := by decide +kernel
theorem dX12_reckons_15 : decode cX12_reckons 15 = .ok (.iload_n 1, 1) := by decide +kernel
theorem dX12_reckons_16 : decode cX12_reckons 16 = .ok (.bipush 9, 2) := by decide +kernel
theorem dX12_reckons_18 : decode cX12_reckons 18 = .ok (.if_icmp .eq 39, 3) := by decide +kernel
theorem dX12_reckons_21 : decode cX12_reckons 21 = .ok (.iload_n 1, 1) := by decide +kernel
theorem dX12_reckons_22 : decode cX12_reckons 22 = .ok (.bipush 14, 2) := by decide +kernel
theorem dX12_reckons_24 : decode cX12_reckons 24 = .ok (.if_icmp .eq 33, 3) := by decide +kernel
theorem dX12_reckons_27 : decode cX12_reckons 27 = .ok (.iload_n 1, 1) := by decide +kernel
theorem dX12_reckons_28 : decode cX12_reckons 28 = .ok (.bipush 18, 2) := by decide +kernel
theorem dX12_reckons_30 : decode cX12_reckons 30 = .ok (.if_icmp .eq 27, 3) := by decide +kernel
theorem dX12_reckons_33 : decode cX12_reckons 33 = .ok (.iload_n 1, 1) := by decide +kernel
theorem dX12_reckons_34 : decode cX12_reckons 34 = .ok (.bipush 21, 2) := by decide +kernel
theorem dX12_reckons_36 : decode cX12_reckons 36 = .ok (.if_icmp .eq 21, 3) := by decide +kernel
theorem dX12_reckons_39 : decode cX12_reckons 39 = .ok (.iload_n 1, 1) := by decide +kernel
theorem dX12_reckons_40 : decode cX12_reckons 40 = .ok (.bipush 26, 2) := by decide +kernel
theorem dX12_reckons_42 : decode cX12_reckons 42 = .ok (.if_icmp .eq 15, 3) := by decide +kernel
theorem dX12_reckons_45 : decode cX12_reckons 45 = .ok (.iload_n 1, 1) := by decide +kernel
theorem dX12_reckons_46 : decode cX12_reckons 46 = .ok (.bipush 27, 2) := by decide +kernel
theorem dX12_reckons_48 : decode cX12_reckons 48 = .ok (.if_icmp .eq 9, 3) := by decide +kernel
theorem dX12_reckons_51 : decode cX12_reckons 51 = .ok (.iload_n 1, 1) := by decide +kernel
theorem dX12_reckons_52 : decode cX12_reckons 52 = .ok (.bipush 29, 2) := by decide +kernel
theorem dX12_reckons_54 : decode cX12_reckons 54 = .ok (.if_icmp .ne 7, 3) := by decide +kernel
theorem dX12_reckons_57 : decode cX12_reckons 57 = .ok (.iconst 1, 1) := by decide +kernel
theorem dX12_reckons_58 : decode cX12_reckons 58 = .ok (.goto 4, 3) := by decide +kernel
theorem dX12_reckons_61 : decode cX12_reckons 61 = .ok (.iconst 2, 1) := by decide +kernel
theorem dX12_reckons_62 : decode cX12_reckons 62 = .ok (.istore_n 2, 1) := by decide +kernel
theorem dX12_reckons_63 : decode cX12_reckons 63 = .ok (.aload_n 0, 1) := by decide +kernel
theorem dX12_reckons_64 : decode cX12_reckons 64 = .ok (.iload_n 2, 1) := by decide +kernel
theorem dX12_reckons_65 : decode cX12_reckons 65 = .ok (.invokevirtual 455, 3) := by decide +kernel
theorem dX12_reckons_68 : decode cX12_reckons 68 = .ok (.ifCond .ne 5, 3) := by decide +kernel
theorem dX12_reckons_71 : decode cX12_reckons 71 = .ok (.iconst 0, 1) := by decide +kernel
theorem dX12_reckons_72 : decode cX12_reckons 72 = .ok (.ireturn, 1) := by decide +kernel
theorem dX12_reckons_73 : decode cX12_reckons 73 = .ok (.iload_n 1, 1) := by decide +kernel
theorem dX12_reckons_74 : decode cX12_reckons 74 = .ok (.bipush 29, 2) := by decide +kernel
theorem dX12_reckons_76 : decode cX12_reckons 76 = .ok (.if_icmp .eq 21, 3) := by decide +kernel
theorem dX12_reckons_79 : decode cX12_reckons 79 = .ok (.iload_n 1, 1) := by decide +kernel
theorem dX12_reckons_80 : decode cX12_reckons 80 = .ok (.bipush 30, 2) := by decide +kernel
theorem dX12_reckons_82 : decode cX12_reckons 82 = .ok (.if_icmp .eq 15, 3) := by decide +kernel
theorem dX12_reckons_85 : decode cX12_reckons 85 = .ok (.iload_n 1, 1) := by decide +kernel
theorem dX12_reckons_86 : decode cX12_reckons 86 = .ok (.bipush 20, 2) := by decide +kernel
theorem dX12_reckons_88 : decode cX12_reckons 88 = .ok (.if_icmp .eq 9, 3) := by decide +kernel
theorem dX12_reckons_91 : decode cX12_reckons 91 = .ok (.iload_n 1, 1) := by decide +kernel
theorem dX12_reckons_92 : decode cX12_reckons 92 = .ok (.bipush 21, 2) := by decide +kernel
theorem dX12_reckons_94 : decode cX12_reckons 94 = .ok (.if_icmp .ne 9, 3) := by decide +kernel
theorem dX12_reckons_97 : decode cX12_reckons 97 = .ok (.aload_n 0, 1) := by decide +kernel
theorem dX12_reckons_98 : decode cX12_reckons 98 = .ok (.iload_n 1, 1) := by decide +kernel
theorem dX12_reckons_99 : decode cX12_reckons 99 = .ok (.invokevirtual 458, 3) := by decide +kernel
theorem dX12_reckons_102 : decode cX12_reckons 102 = .ok (.ireturn, 1) := by decide +kernel
theorem dX12_reckons_103 : decode cX12_reckons 103 = .ok (.aload_n 0, 1) := by decide +kernel
theorem dX12_reckons_104 : decode cX12_reckons 104 = .ok (.invokevirtual 461, 3) := by decide +kernel
theorem dX12_reckons_107 : decode cX12_reckons 107 = .ok (.lstore_n 3, 1) := by decide +kernel
theorem dX12_reckons_108 : decode cX12_reckons 108 = .ok (.iload_n 1, 1) := by decide +kernel
theorem dX12_reckons_109 : decode cX12_reckons 109 = .ok (.lookupswitch 159 #[(5, 59), (9, 77), (14, 97), (18, 107), (26, 109), (27, 137)], 59) := by decide +kernel
theorem dX12_reckons_168 : decode cX12_reckons 168 = .ok (.aload_n 0, 1) := by decide +kernel
theorem dX12_reckons_169 : decode cX12_reckons 169 = .ok (.lload_n 3, 1) := by decide +kernel
theorem dX12_reckons_170 : decode cX12_reckons 170 = .ok (.lconst 0, 1) := by decide +kernel
theorem dX12_reckons_171 : decode cX12_reckons 171 = .ok (.lcmp, 1) := by decide +kernel
theorem dX12_reckons_172 : decode cX12_reckons 172 = .ok (.ifCond .ne 9, 3) := by decide +kernel
theorem dX12_reckons_175 : decode cX12_reckons 175 = .ok (.ldc2_w 361, 3) := by decide +kernel
theorem dX12_reckons_178 : decode cX12_reckons 178 = .ok (.goto 4, 3) := by decide +kernel
theorem dX12_reckons_181 : decode cX12_reckons 181 = .ok (.lconst 0, 1) := by decide +kernel
theorem dX12_reckons_182 : decode cX12_reckons 182 = .ok (.invokevirtual 363, 3) := by decide +kernel
theorem dX12_reckons_185 : decode cX12_reckons 185 = .ok (.ireturn, 1) := by decide +kernel
theorem dX12_reckons_186 : decode cX12_reckons 186 = .ok (.aload_n 0, 1) := by decide +kernel
theorem dX12_reckons_187 : decode cX12_reckons 187 = .ok (.lload_n 3, 1) := by decide +kernel
theorem dX12_reckons_188 : decode cX12_reckons 188 = .ok (.lconst 0, 1) := by decide +kernel
theorem dX12_reckons_189 : decode cX12_reckons 189 = .ok (.lcmp, 1) := by decide +kernel
theorem dX12_reckons_190 : decode cX12_reckons 190 = .ok (.ifCond .ge 8, 3) := by decide +kernel
theorem dX12_reckons_193 : decode cX12_reckons 193 = .ok (.lload_n 3, 1) := by decide +kernel
theorem dX12_reckons_194 : decode cX12_reckons 194 = .ok (.lneg, 1) := by decide +kernel
theorem dX12_reckons_195 : decode cX12_reckons 195 = .ok (.goto 4, 3) := by decide +kernel
theorem dX12_reckons_198 : decode cX12_reckons 198 = .ok (.lload_n 3, 1) := by decide +kernel
theorem dX12_reckons_199 : decode cX12_reckons 199 = .ok (.invokestatic 465, 3) := by decide +kernel
theorem dX12_reckons_202 : decode cX12_reckons 202 = .ok (.invokevirtual 363, 3) := by decide +kernel
theorem dX12_reckons_205 : decode cX12_reckons 205 = .ok (.ireturn, 1) := by decide +kernel
theorem dX12_reckons_206 : decode cX12_reckons 206 = .ok (.aload_n 0, 1) := by decide +kernel
theorem dX12_reckons_207 : decode cX12_reckons 207 = .ok (.lload_n 3, 1) := by decide +kernel
theorem dX12_reckons_208 : decode cX12_reckons 208 = .ok (.lneg, 1) := by decide +kernel
theorem dX12_reckons_209 : decode cX12_reckons 209 = .ok (.invokestatic 465, 3) := by decide +kernel
theorem dX12_reckons_212 : decode cX12_reckons 212 = .ok (.invokevirtual 363, 3) := by decide +kernel
theorem dX12_reckons_215 : decode cX12_reckons 215 = .ok (.ireturn, 1) := by decide +kernel
theorem dX12_reckons_216 : decode cX12_reckons 216 = .ok (.iconst 1, 1) := by decide +kernel
theorem dX12_reckons_217 : decode cX12_reckons 217 = .ok (.ireturn, 1) := by decide +kernel
theorem dX12_reckons_218 : decode cX12_reckons 218 = .ok (.lload_n 3, 1) := by decide +kernel
theorem dX12_reckons_219 : decode cX12_reckons 219 = .ok (.lconst 0, 1) := by decide +kernel
theorem dX12_reckons_220 : decode cX12_reckons 220 = .ok (.lcmp, 1) := by decide +kernel
theorem dX12_reckons_221 : decode cX12_reckons 221 = .ok (.ifCond .ge 12, 3) := by decide +kernel
theorem dX12_reckons_224 : decode cX12_reckons 224 = .ok (.aload_n 0, 1) := by decide +kernel
theorem dX12_reckons_225 : decode cX12_reckons 225 = .ok (.bipush 9, 2) := by decide +kernel
theorem dX12_reckons_227 : decode cX12_reckons 227 = .ok (.invokevirtual 346, 3) := by decide +kernel
theorem dX12_reckons_230 : decode cX12_reckons 230 = .ok (.goto 15, 3) := by decide +kernel
theorem dX12_reckons_233 : decode cX12_reckons 233 = .ok (.aload_n 0, 1) := by decide +kernel
theorem dX12_reckons_234 : decode cX12_reckons 234 = .ok (.lload_n 3, 1) := by decide +kernel
theorem dX12_reckons_235 : decode cX12_reckons 235 = .ok (.ldc2_w 361, 3) := by decide +kernel
theorem dX12_reckons_238 : decode cX12_reckons 238 = .ok (.lmul, 1) := by decide +kernel
theorem dX12_reckons_239 : decode cX12_reckons 239 = .ok (.invokestatic 468, 3) := by decide +kernel
theorem dX12_reckons_242 : decode cX12_reckons 242 = .ok (.invokevirtual 363, 3) := by decide +kernel
theorem dX12_reckons_245 : decode cX12_reckons 245 = .ok (.ireturn, 1) := by decide +kernel
theorem dX12_reckons_246 : decode cX12_reckons 246 = .ok (.aload_n 0, 1) := by decide +kernel
theorem dX12_reckons_247 : decode cX12_reckons 247 = .ok (.lload_n 3, 1) := by decide +kernel
theorem dX12_reckons_248 : decode cX12_reckons 248 = .ok (.invokevirtual 363, 3) := by decide +kernel
theorem dX12_reckons_251 : decode cX12_reckons 251 = .ok (.ifCond .eq 15, 3) := by decide +kernel
theorem dX12_reckons_254 : decode cX12_reckons 254 = .ok (.aload_n 0, 1) := by decide +kernel
theorem dX12_reckons_255 : decode cX12_reckons 255 = .ok (.lload_n 3, 1) := by decide +kernel
theorem dX12_reckons_256 : decode cX12_reckons 256 = .ok (.invokevirtual 363, 3) := by decide +kernel
theorem dX12_reckons_259 : decode cX12_reckons 259 = .ok (.ifCond .eq 7, 3) := by decide +kernel
theorem dX12_reckons_262 : decode cX12_reckons 262 = .ok (.iconst 1, 1) := by decide +kernel
theorem dX12_reckons_263 : decode cX12_reckons 263 = .ok (.goto 4, 3) := by decide +kernel
theorem dX12_reckons_266 : decode cX12_reckons 266 = .ok (.iconst 0, 1) := by decide +kernel
theorem dX12_reckons_267 : decode cX12_reckons 267 = .ok (.ireturn, 1) := by decide +kernel
theorem dX12_reckons_268 : decode cX12_reckons 268 = .ok (.aload_n 0, 1) := by decide +kernel
theorem dX12_reckons_269 : decode cX12_reckons 269 = .ok (.invokevirtual 461, 3) := by decide +kernel
theorem dX12_reckons_272 : decode cX12_reckons 272 = .ok (.lstore 5, 2) := by decide +kernel
theorem dX12_reckons_274 : decode cX12_reckons 274 = .ok (.iload_n 1, 1) := by decide +kernel
theorem dX12_reckons_275 : decode cX12_reckons 275 = .ok (.tableswitch 280 3 28 #[117, 142, 280, 280, 280, 280, 280, 167, 179, 191, 280, 280, 222, 280, 280, 280, 280, 280, 280, 280, 280, 241, 280, 280, 280, 257], 117) := by decide +kernel
theorem dX12_reckons_392 : decode cX12_reckons 392 = .ok (.aload_n 0, 1) := by decide +kernel
theorem dX12_reckons_393 : decode cX12_reckons 393 = .ok (.lload 5, 2) := by decide +kernel
theorem dX12_reckons_395 : decode cX12_reckons 395 = .ok (.lconst 0, 1) := by decide +kernel
theorem dX12_reckons_396 : decode cX12_reckons 396 = .ok (.lcmp, 1) := by decide +kernel
theorem dX12_reckons_397 : decode cX12_reckons 397 = .ok (.ifCond .eq 15, 3) := by decide +kernel
theorem dX12_reckons_400 : decode cX12_reckons 400 = .ok (.lload_n 3, 1) := by decide +kernel
theorem dX12_reckons_401 : decode cX12_reckons 401 = .ok (.lconst 0, 1) := by decide +kernel
theorem dX12_reckons_402 : decode cX12_reckons 402 = .ok (.lcmp, 1) := by decide +kernel
theorem dX12_reckons_403 : decode cX12_reckons 403 = .ok (.ifCond .eq 9, 3) := by decide +kernel
theorem dX12_reckons_406 : decode cX12_reckons 406 = .ok (.ldc2_w 361, 3) := by decide +kernel
theorem dX12_reckons_409 : decode cX12_reckons 409 = .ok (.goto 4, 3) := by decide +kernel
theorem dX12_reckons_412 : decode cX12_reckons 412 = .ok (.lconst 0, 1) := by decide +kernel
theorem dX12_reckons_413 : decode cX12_reckons 413 = .ok (.invokevirtual 363, 3) := by decide +kernel
theorem dX12_reckons_416 : decode cX12_reckons 416 = .ok (.ireturn, 1) := by decide +kernel
theorem dX12_reckons_417 : decode cX12_reckons 417 = .ok (.aload_n 0, 1) := by decide +kernel
theorem dX12_reckons_418 : decode cX12_reckons 418 = .ok (.lload 5, 2) := by decide +kernel
theorem dX12_reckons_420 : decode cX12_reckons 420 = .ok (.lconst 0, 1) := by decide +kernel
theorem dX12_reckons_421 : decode cX12_reckons 421 = .ok (.lcmp, 1) := by decide +kernel
theorem dX12_reckons_422 : decode cX12_reckons 422 = .ok (.ifCond .ne 9, 3) := by decide +kernel
theorem dX12_reckons_425 : decode cX12_reckons 425 = .ok (.lload_n 3, 1) := by decide +kernel
theorem dX12_reckons_426 : decode cX12_reckons 426 = .ok (.lconst 0, 1) := by decide +kernel
theorem dX12_reckons_427 : decode cX12_reckons 427 = .ok (.lcmp, 1) := by decide +kernel
theorem dX12_reckons_428 : decode cX12_reckons 428 = .ok (.ifCond .eq 9, 3) := by decide +kernel
theorem dX12_reckons_431 : decode cX12_reckons 431 = .ok (.ldc2_w 361, 3) := by decide +kernel
theorem dX12_reckons_434 : decode cX12_reckons 434 = .ok (.goto 4, 3) := by decide +kernel
theorem dX12_reckons_437 : decode cX12_reckons 437 = .ok (.lconst 0, 1) := by decide +kernel
theorem dX12_reckons_438 : decode cX12_reckons 438 = .ok (.invokevirtual 363, 3) := by decide +kernel
theorem dX12_reckons_441 : decode cX12_reckons 441 = .ok (.ireturn, 1) := by decide +kernel
theorem dX12_reckons_442 : decode cX12_reckons 442 = .ok (.aload_n 0, 1) := by decide +kernel
theorem dX12_reckons_443 : decode cX12_reckons 443 = .ok (.lload 5, 2) := by decide +kernel
theorem dX12_reckons_445 : decode cX12_reckons 445 = .ok (.lload_n 3, 1) := by decide +kernel
theorem dX12_reckons_446 : decode cX12_reckons 446 = .ok (.ladd, 1) := by decide +kernel
theorem dX12_reckons_447 : decode cX12_reckons 447 = .ok (.invokestatic 465, 3) := by decide +kernel
theorem dX12_reckons_450 : decode cX12_reckons 450 = .ok (.invokevirtual 363, 3) := by decide +kernel
theorem dX12_reckons_453 : decode cX12_reckons 453 = .ok (.ireturn, 1) := by decide +kernel
theorem dX12_reckons_454 : decode cX12_reckons 454 = .ok (.aload_n 0, 1) := by decide +kernel
theorem dX12_reckons_455 : decode cX12_reckons 455 = .ok (.lload 5, 2) := by decide +kernel
theorem dX12_reckons_457 : decode cX12_reckons 457 = .ok (.lload_n 3, 1) := by decide +kernel
theorem dX12_reckons_458 : decode cX12_reckons 458 = .ok (.lsub, 1) := by decide +kernel
theorem dX12_reckons_459 : decode cX12_reckons 459 = .ok (.invokestatic 465, 3) := by decide +kernel
theorem dX12_reckons_462 : decode cX12_reckons 462 = .ok (.invokevirtual 363, 3) := by decide +kernel
theorem dX12_reckons_465 : decode cX12_reckons 465 = .ok (.ireturn, 1) := by decide +kernel
theorem dX12_reckons_466 : decode cX12_reckons 466 = .ok (.lload_n 3, 1) := by decide +kernel
theorem dX12_reckons_467 : decode cX12_reckons 467 = .ok (.lconst 0, 1) := by decide +kernel
theorem dX12_reckons_468 : decode cX12_reckons 468 = .ok (.lcmp, 1) := by decide +kernel
theorem dX12_reckons_469 : decode cX12_reckons 469 = .ok (.ifCond .ne 12, 3) := by decide +kernel
theorem dX12_reckons_472 : decode cX12_reckons 472 = .ok (.aload_n 0, 1) := by decide +kernel
theorem dX12_reckons_473 : decode cX12_reckons 473 = .ok (.bipush 9, 2) := by decide +kernel
theorem dX12_reckons_475 : decode cX12_reckons 475 = .ok (.invokevirtual 346, 3) := by decide +kernel
theorem dX12_reckons_478 : decode cX12_reckons 478 = .ok (.goto 18, 3) := by decide +kernel
theorem dX12_reckons_481 : decode cX12_reckons 481 = .ok (.aload_n 0, 1) := by decide +kernel
theorem dX12_reckons_482 : decode cX12_reckons 482 = .ok (.lload 5, 2) := by decide +kernel
theorem dX12_reckons_484 : decode cX12_reckons 484 = .ok (.ldc2_w 361, 3) := by decide +kernel
theorem dX12_reckons_487 : decode cX12_reckons 487 = .ok (.lmul, 1) := by decide +kernel
theorem dX12_reckons_488 : decode cX12_reckons 488 = .ok (.lload_n 3, 1) := by decide +kernel
theorem dX12_reckons_489 : decode cX12_reckons 489 = .ok (.ldiv, 1) := by decide +kernel
theorem dX12_reckons_490 : decode cX12_reckons 490 = .ok (.invokestatic 465, 3) := by decide +kernel
theorem dX12_reckons_493 : decode cX12_reckons 493 = .ok (.invokevirtual 363, 3) := by decide +kernel
theorem dX12_reckons_496 : decode cX12_reckons 496 = .ok (.ireturn, 1) := by decide +kernel
theorem dX12_reckons_497 : decode cX12_reckons 497 = .ok (.aload_n 0, 1) := by decide +kernel
theorem dX12_reckons_498 : decode cX12_reckons 498 = .ok (.lload 5, 2) := by decide +kernel
theorem dX12_reckons_500 : decode cX12_reckons 500 = .ok (.lload_n 3, 1) := by decide +kernel
theorem dX12_reckons_501 : decode cX12_reckons 501 = .ok (.lcmp, 1) := by decide +kernel
theorem dX12_reckons_502 : decode cX12_reckons 502 = .ok (.ifCond .ne 9, 3) := by decide +kernel
theorem dX12_reckons_505 : decode cX12_reckons 505 = .ok (.ldc2_w 361, 3) := by decide +kernel
theorem dX12_reckons_508 : decode cX12_reckons 508 = .ok (.goto 4, 3) := by decide +kernel
theorem dX12_reckons_511 : decode cX12_reckons 511 = .ok (.lconst 0, 1) := by decide +kernel
theorem dX12_reckons_512 : decode cX12_reckons 512 = .ok (.invokevirtual 363, 3) := by decide +kernel
theorem dX12_reckons_515 : decode cX12_reckons 515 = .ok (.ireturn, 1) := by decide +kernel
theorem dX12_reckons_516 : decode cX12_reckons 516 = .ok (.aload_n 0, 1) := by decide +kernel
theorem dX12_reckons_517 : decode cX12_reckons 517 = .ok (.lload 5, 2) := by decide +kernel
theorem dX12_reckons_519 : decode cX12_reckons 519 = .ok (.lload_n 3, 1) := by decide +kernel
theorem dX12_reckons_520 : decode cX12_reckons 520 = .ok (.lmul, 1) := by decide +kernel
theorem dX12_reckons_521 : decode cX12_reckons 521 = .ok (.ldc2_w 361, 3) := by decide +kernel
theorem dX12_reckons_524 : decode cX12_reckons 524 = .ok (.ldiv, 1) := by decide +kernel
theorem dX12_reckons_525 : decode cX12_reckons 525 = .ok (.invokestatic 465, 3) := by decide +kernel
theorem dX12_reckons_528 : decode cX12_reckons 528 = .ok (.invokevirtual 363, 3) := by decide +kernel
theorem dX12_reckons_531 : decode cX12_reckons 531 = .ok (.ireturn, 1) := by decide +kernel
theorem dX12_reckons_532 : decode cX12_reckons 532 = .ok (.aload_n 0, 1) := by decide +kernel
theorem dX12_reckons_533 : decode cX12_reckons 533 = .ok (.lload_n 3, 1) := by decide +kernel
theorem dX12_reckons_534 : decode cX12_reckons 534 = .ok (.invokevirtual 363, 3) := by decide +kernel
theorem dX12_reckons_537 : decode cX12_reckons 537 = .ok (.ifCond .eq 16, 3) := by decide +kernel
theorem dX12_reckons_540 : decode cX12_reckons 540 = .ok (.aload_n 0, 1) := by decide +kernel
theorem dX12_reckons_541 : decode cX12_reckons 541 = .ok (.lload 5, 2) := by decide +kernel
theorem dX12_reckons_543 : decode cX12_reckons 543 = .ok (.invokevirtual 363, 3) := by decide +kernel
theorem dX12_reckons_546 : decode cX12_reckons 546 = .ok (.ifCond .eq 7, 3) := by decide +kernel
theorem dX12_reckons_549 : decode cX12_reckons 549 = .ok (.iconst 1, 1) := by decide +kernel
theorem dX12_reckons_550 : decode cX12_reckons 550 = .ok (.goto 4, 3) := by decide +kernel
theorem dX12_reckons_553 : decode cX12_reckons 553 = .ok (.iconst 0, 1) := by decide +kernel
theorem dX12_reckons_554 : decode cX12_reckons 554 = .ok (.ireturn, 1) := by decide +kernel
theorem dX12_reckons_555 : decode cX12_reckons 555 = .ok (.aload_n 0, 1) := by decide +kernel
theorem dX12_reckons_556 : decode cX12_reckons 556 = .ok (.invokevirtual 461, 3) := by decide +kernel
theorem dX12_reckons_559 : decode cX12_reckons 559 = .ok (.lstore 7, 2) := by decide +kernel
theorem dX12_reckons_561 : decode cX12_reckons 561 = .ok (.aload_n 0, 1) := by decide +kernel
theorem dX12_reckons_562 : decode cX12_reckons 562 = .ok (.invokevirtual 461, 3) := by decide +kernel
theorem dX12_reckons_565 : decode cX12_reckons 565 = .ok (.lstore 9, 2) := by decide +kernel
theorem dX12_reckons_567 : decode cX12_reckons 567 = .ok (.aload_n 0, 1) := by decide +kernel
theorem dX12_reckons_568 : decode cX12_reckons 568 = .ok (.lload 5, 2) := by decide +kernel
theorem dX12_reckons_570 : decode cX12_reckons 570 = .ok (.lload_n 3, 1) := by decide +kernel
theorem dX12_reckons_571 : decode cX12_reckons 571 = .ok (.lcmp, 1) := by decide +kernel
theorem dX12_reckons_572 : decode cX12_reckons 572 = .ok (.ifCond .gt 8, 3) := by decide +kernel
theorem dX12_reckons_575 : decode cX12_reckons 575 = .ok (.lload 9, 2) := by decide +kernel
theorem dX12_reckons_577 : decode cX12_reckons 577 = .ok (.goto 5, 3) := by decide +kernel
theorem dX12_reckons_580 : decode cX12_reckons 580 = .ok (.lload 7, 2) := by decide +kernel
theorem dX12_reckons_582 : decode cX12_reckons 582 = .ok (.invokevirtual 363, 3) := by decide +kernel
theorem dX12_reckons_585 : decode cX12_reckons 585 = .ok (.ireturn, 1) := by decide +kernel
theorem dX12_returns_0 : decode cX12_returns 0 = .ok (.aload_n 0, 1) := by decide +kernel
theorem dX12_returns_1 : decode cX12_returns 1 = .ok (.getfield 328, 3) := by decide +kernel
theorem dX12_returns_4 : decode cX12_returns 4 = .ok (.ifCond .ne 9, 3) := by decide +kernel
theorem dX12_returns_7 : decode cX12_returns 7 = .ok (.aload_n 0, 1) := by decide +kernel
theorem dX12_returns_8 : decode cX12_returns 8 = .ok (.iconst 1, 1) := by decide +kernel
theorem dX12_returns_9 : decode cX12_returns 9 = .ok (.invokevirtual 346, 3) := by decide +kernel
theorem dX12_returns_12 : decode cX12_returns 12 = .ok (.ireturn, 1) := by decide +kernel
theorem dX12_returns_13 : decode cX12_returns 13 = .ok (.aload_n 0, 1) := by decide +kernel
theorem dX12_returns_14 : decode cX12_returns 14 = .ok (.dup, 1) := by decide +kernel
theorem dX12_returns_15 : decode cX12_returns 15 = .ok (.getfield 328, 3) := by decide +kernel
theorem dX12_returns_18 : decode cX12_returns 18 = .ok (.iconst 1, 1) := by decide +kernel
theorem dX12_returns_19 : decode cX12_returns 19 = .ok (.isub, 1) := by decide +kernel
theorem dX12_returns_20 : decode cX12_returns 20 = .ok (.putfield 328, 3) := by decide +kernel
theorem dX12_returns_23 : decode cX12_returns 23 = .ok (.iconst 1, 1) := by decide +kernel
theorem dX12_returns_24 : decode cX12_returns 24 = .ok (.ireturn, 1) := by decide +kernel
theorem dX12_root_0 : decode cX12_root 0 = .ok (.lconst 0, 1) := by decide +kernel
theorem dX12_root_1 : decode cX12_root 1 = .ok (.lstore_n 2, 1) := by decide +kernel
theorem dX12_root_2 : decode cX12_root 2 = .ok (.ldc2_w 453, 3) := by decide +kernel
theorem dX12_root_5 : decode cX12_root 5 = .ok (.lstore 4, 2) := by decide +kernel
theorem dX12_root_7 : decode cX12_root 7 = .ok (.lload 4, 2) := by decide +kernel
theorem dX12_root_9 : decode cX12_root 9 = .ok (.lconst 0, 1) := by decide +kernel
theorem dX12_root_10 : decode cX12_root 10 = .ok (.lcmp, 1) := by decide +kernel
theorem dX12_root_11 : decode cX12_root 11 = .ok (.ifCond .le 31, 3) := by decide +kernel
theorem dX12_root_14 : decode cX12_root 14 = .ok (.lload_n 2, 1) := by decide +kernel
theorem dX12_root_15 : decode cX12_root 15 = .ok (.lload 4, 2) := by decide +kernel
theorem dX12_root_17 : decode cX12_root 17 = .ok (.ladd, 1) := by decide +kernel
theorem dX12_root_18 : decode cX12_root 18 = .ok (.lload_n 2, 1) := by decide +kernel
theorem dX12_root_19 : decode cX12_root 19 = .ok (.lload 4, 2) := by decide +kernel
theorem dX12_root_21 : decode cX12_root 21 = .ok (.ladd, 1) := by decide +kernel
theorem dX12_root_22 : decode cX12_root 22 = .ok (.lmul, 1) := by decide +kernel
theorem dX12_root_23 : decode cX12_root 23 = .ok (.lload_n 0, 1) := by decide +kernel
theorem dX12_root_24 : decode cX12_root 24 = .ok (.lcmp, 1) := by decide +kernel
theorem dX12_root_25 : decode cX12_root 25 = .ok (.ifCond .gt 8, 3) := by decide +kernel
theorem dX12_root_28 : decode cX12_root 28 = .ok (.lload_n 2, 1) := by decide +kernel
theorem dX12_root_29 : decode cX12_root 29 = .ok (.lload 4, 2) := by decide +kernel
theorem dX12_root_31 : decode cX12_root 31 = .ok (.ladd, 1) := by decide +kernel
theorem dX12_root_32 : decode cX12_root 32 = .ok (.lstore_n 2, 1) := by decide +kernel
theorem dX12_root_33 : decode cX12_root 33 = .ok (.lload 4, 2) := by decide +kernel
theorem dX12_root_35 : decode cX12_root 35 = .ok (.iconst 1, 1) := by decide +kernel
theorem dX12_root_36 : decode cX12_root 36 = .ok (.lshr, 1) := by decide +kernel
theorem dX12_root_37 : decode cX12_root 37 = .ok (.lstore 4, 2) := by decide +kernel
theorem dX12_root_39 : decode cX12_root 39 = .ok (.goto (-32), 3) := by decide +kernel
theorem dX12_root_42 : decode cX12_root 42 = .ok (.lload_n 2, 1) := by decide +kernel
theorem dX12_root_43 : decode cX12_root 43 = .ok (.lreturn, 1) := by decide +kernel
theorem dX12_second_0 : decode cX12_second 0 = .ok (.iload_n 1, 1) := by decide +kernel
theorem dX12_second_1 : decode cX12_second 1 = .ok (.lookupswitch 325 #[(1, 267), (3, 267), (4, 283), (10, 294), (11, 310), (14, 289), (18, 267), (19, 272), (20, 272), (21, 277), (22, 283), (23, 267), (29, 294), (259, 315), (260, 315), (261, 315), (265, 315), (266, 315), (267, 315), (268, 315), (270, 315), (271, 315), (274, 315), (276, 315), (277, 315), (278, 315), (280, 315), (282, 315), (283, 315), (284, 315), (285, 315), (286, 315)], 267) := by decide +kernel
theorem dX12_second_268 : decode cX12_second 268 = .ok (.aload_n 0, 1) := by decide +kernel
theorem dX12_second_269 : decode cX12_second 269 = .ok (.invokevirtual 377, 3) := by decide +kernel
theorem dX12_second_272 : decode cX12_second 272 = .ok (.ireturn, 1) := by decide +kernel
theorem dX12_second_273 : decode cX12_second 273 = .ok (.aload_n 0, 1) := by decide +kernel
theorem dX12_second_274 : decode cX12_second 274 = .ok (.invokevirtual 380, 3) := by decide +kernel
theorem dX12_second_277 : decode cX12_second 277 = .ok (.ireturn, 1) := by decide +kernel
theorem dX12_second_278 : decode cX12_second 278 = .ok (.aload_n 0, 1) := by decide +kernel
theorem dX12_second_279 : decode cX12_second 279 = .ok (.iconst 2, 1) := by decide +kernel
theorem dX12_second_280 : decode cX12_second 280 = .ok (.invokevirtual 383, 3) := by decide +kernel
theorem dX12_second_283 : decode cX12_second 283 = .ok (.ireturn, 1) := by decide +kernel
theorem dX12_second_284 : decode cX12_second 284 = .ok (.aload_n 0, 1) := by decide +kernel
theorem dX12_second_285 : decode cX12_second 285 = .ok (.iload_n 1, 1) := by decide +kernel
theorem dX12_second_286 : decode cX12_second 286 = .ok (.invokevirtual 383, 3) := by decide +kernel
theorem dX12_second_289 : decode cX12_second 289 = .ok (.ireturn, 1) := by decide +kernel
theorem dX12_second_290 : decode cX12_second 290 = .ok (.aload_n 0, 1) := by decide +kernel
theorem dX12_second_291 : decode cX12_second 291 = .ok (.invokevirtual 386, 3) := by decide +kernel
theorem dX12_second_294 : decode cX12_second 294 = .ok (.ireturn, 1) := by decide +kernel
theorem dX12_second_295 : decode cX12_second 295 = .ok (.aload_n 0, 1) := by decide +kernel
theorem dX12_second_296 : decode cX12_second 296 = .ok (.iload_n 1, 1) := by decide +kernel
theorem dX12_second_297 : decode cX12_second 297 = .ok (.bipush 10, 2) := by decide +kernel
theorem dX12_second_299 : decode cX12_second 299 = .ok (.if_icmp .ne 7, 3) := by decide +kernel
theorem dX12_second_302 : decode cX12_second 302 = .ok (.iconst 1, 1) := by decide +kernel
theorem dX12_second_303 : decode cX12_second 303 = .ok (.goto 4, 3) := by decide +kernel
theorem dX12_second_306 : decode cX12_second 306 = .ok (.iconst 2, 1) := by decide +kernel
theorem dX12_second_307 : decode cX12_second 307 = .ok (.invokevirtual 389, 3) := by decide +kernel
theorem dX12_second_310 : decode cX12_second 310 = .ok (.ireturn, 1) := by decide +kernel
theorem dX12_second_311 : decode cX12_second 311 = .ok (.aload_n 0, 1) := by decide +kernel
theorem dX12_second_312 : decode cX12_second 312 = .ok (.invokevirtual 392, 3) := by decide +kernel
theorem dX12_second_315 : decode cX12_second 315 = .ok (.ireturn, 1) := by decide +kernel
theorem dX12_second_316 : decode cX12_second 316 = .ok (.aload_n 0, 1) := by decide +kernel
theorem dX12_second_317 : decode cX12_second 317 = .ok (.iload_n 1, 1) := by decide +kernel
theorem dX12_second_318 : decode cX12_second 318 = .ok (.sipush 256, 3) := by decide +kernel
theorem dX12_second_321 : decode cX12_second 321 = .ok (.isub, 1) := by decide +kernel
theorem dX12_second_322 : decode cX12_second 322 = .ok (.invokevirtual 395, 3) := by decide +kernel
theorem dX12_second_325 : decode cX12_second 325 = .ok (.ireturn, 1) := by decide +kernel
theorem dX12_second_326 : decode cX12_second 326 = .ok (.aload_n 0, 1) := by decide +kernel
theorem dX12_second_327 : decode cX12_second 327 = .ok (.iconst 0, 1) := by decide +kernel
theorem dX12_second_328 : decode cX12_second 328 = .ok (.putfield 375, 3) := by decide +kernel
theorem dX12_second_331 : decode cX12_second 331 = .ok (.aload_n 0, 1) := by decide +kernel
theorem dX12_second_332 : decode cX12_second 332 = .ok (.iload_n 1, 1) := by decide +kernel
theorem dX12_second_333 : decode cX12_second 333 = .ok (.invokevirtual 398, 3) := by decide +kernel
theorem dX12_second_336 : decode cX12_second 336 = .ok (.istore_n 2, 1) := by decide +kernel
theorem dX12_second_337 : decode cX12_second 337 = .ok (.aload_n 0, 1) := by decide +kernel
theorem dX12_second_338 : decode cX12_second 338 = .ok (.getfield 295, 3) := by decide +kernel
theorem dX12_second_341 : decode cX12_second 341 = .ok (.ifCond .ne 8, 3) := by decide +kernel
theorem dX12_second_344 : decode cX12_second 344 = .ok (.aload_n 0, 1) := by decide +kernel
theorem dX12_second_345 : decode cX12_second 345 = .ok (.iconst 0, 1) := by decide +kernel
theorem dX12_second_346 : decode cX12_second 346 = .ok (.putfield 325, 3) := by decide +kernel
theorem dX12_second_349 : decode cX12_second 349 = .ok (.iload_n 2, 1) := by decide +kernel
theorem dX12_second_350 : decode cX12_second 350 = .ok (.ireturn, 1) := by decide +kernel
theorem dX12_secret_0 : decode cX12_secret 0 = .ok (.lload_n 1, 1) := by decide +kernel
theorem dX12_secret_1 : decode cX12_secret 1 = .ok (.lconst 0, 1) := by decide +kernel
theorem dX12_secret_2 : decode cX12_secret 2 = .ok (.lcmp, 1) := by decide +kernel
theorem dX12_secret_3 : decode cX12_secret 3 = .ok (.ifCond .lt 21, 3) := by decide +kernel
theorem dX12_secret_6 : decode cX12_secret 6 = .ok (.lload_n 3, 1) := by decide +kernel
theorem dX12_secret_7 : decode cX12_secret 7 = .ok (.lconst 0, 1) := by decide +kernel
theorem dX12_secret_8 : decode cX12_secret 8 = .ok (.lcmp, 1) := by decide +kernel
theorem dX12_secret_9 : decode cX12_secret 9 = .ok (.ifCond .lt 15, 3) := by decide +kernel
theorem dX12_secret_12 : decode cX12_secret 12 = .ok (.lload_n 1, 1) := by decide +kernel
theorem dX12_secret_13 : decode cX12_secret 13 = .ok (.lload_n 3, 1) := by decide +kernel
theorem dX12_secret_14 : decode cX12_secret 14 = .ok (.ladd, 1) := by decide +kernel
theorem dX12_secret_15 : decode cX12_secret 15 = .ok (.aload_n 0, 1) := by decide +kernel
theorem dX12_secret_16 : decode cX12_secret 16 = .ok (.getfield 125, 3) := by decide +kernel
theorem dX12_secret_19 : decode cX12_secret 19 = .ok (.i2l, 1) := by decide +kernel
theorem dX12_secret_20 : decode cX12_secret 20 = .ok (.lcmp, 1) := by decide +kernel
theorem dX12_secret_21 : decode cX12_secret 21 = .ok (.ifCond .le 11, 3) := by decide +kernel
theorem dX12_secret_24 : decode cX12_secret 24 = .ok (.aload_n 0, 1) := by decide +kernel
theorem dX12_secret_25 : decode cX12_secret 25 = .ok (.iconst 1, 1) := by decide +kernel
theorem dX12_secret_26 : decode cX12_secret 26 = .ok (.invokevirtual 179, 3) := by decide +kernel
theorem dX12_secret_29 : decode cX12_secret 29 = .ok (.ifCond .eq 44, 3) := by decide +kernel
theorem dX12_secret_32 : decode cX12_secret 32 = .ok (.aload_n 0, 1) := by decide +kernel
theorem dX12_secret_33 : decode cX12_secret 33 = .ok (.lload_n 1, 1) := by decide +kernel
theorem dX12_secret_34 : decode cX12_secret 34 = .ok (.lload_n 1, 1) := by decide +kernel
theorem dX12_secret_35 : decode cX12_secret 35 = .ok (.lload_n 3, 1) := by decide +kernel
theorem dX12_secret_36 : decode cX12_secret 36 = .ok (.ladd, 1) := by decide +kernel
theorem dX12_secret_37 : decode cX12_secret 37 = .ok (.invokevirtual 226, 3) := by decide +kernel
theorem dX12_secret_40 : decode cX12_secret 40 = .ok (.ifCond .eq 33, 3) := by decide +kernel
theorem dX12_secret_43 : decode cX12_secret 43 = .ok (.aload_n 0, 1) := by decide +kernel
theorem dX12_secret_44 : decode cX12_secret 44 = .ok (.bipush 19, 2) := by decide +kernel
theorem dX12_secret_46 : decode cX12_secret 46 = .ok (.iconst 1, 1) := by decide +kernel
theorem dX12_secret_47 : decode cX12_secret 47 = .ok (.invokevirtual 230, 3) := by decide +kernel
theorem dX12_secret_50 : decode cX12_secret 50 = .ok (.ifCond .eq 23, 3) := by decide +kernel
theorem dX12_secret_53 : decode cX12_secret 53 = .ok (.aload_n 0, 1) := by decide +kernel
theorem dX12_secret_54 : decode cX12_secret 54 = .ok (.bipush 20, 2) := by decide +kernel
theorem dX12_secret_56 : decode cX12_secret 56 = .ok (.iconst 1, 1) := by decide +kernel
theorem dX12_secret_57 : decode cX12_secret 57 = .ok (.invokevirtual 230, 3) := by decide +kernel
theorem dX12_secret_60 : decode cX12_secret 60 = .ok (.ifCond .eq 13, 3) := by decide +kernel
theorem dX12_secret_63 : decode cX12_secret 63 = .ok (.aload_n 0, 1) := by decide +kernel
theorem dX12_secret_64 : decode cX12_secret 64 = .ok (.bipush 21, 2) := by decide +kernel
theorem dX12_secret_66 : decode cX12_secret 66 = .ok (.iconst 1, 1) := by decide +kernel
theorem dX12_secret_67 : decode cX12_secret 67 = .ok (.invokevirtual 230, 3) := by decide +kernel
theorem dX12_secret_70 : decode cX12_secret 70 = .ok (.ifCond .ne 4, 3) := by decide +kernel
theorem dX12_secret_73 : decode cX12_secret 73 = .ok (.return_, 1) := by decide +kernel
theorem dX12_secret_74 : decode cX12_secret 74 = .ok (.aload_n 0, 1) := by decide +kernel
theorem dX12_secret_75 : decode cX12_secret 75 = .ok (.aload_n 0, 1) := by decide +kernel
theorem dX12_secret_76 : decode cX12_secret 76 = .ok (.getfield 45, 3) := by decide +kernel
theorem dX12_secret_79 : decode cX12_secret 79 = .ok (.bipush 20, 2) := by decide +kernel
theorem dX12_secret_81 : decode cX12_secret 81 = .ok (.iaload, 1) := by decide +kernel
theorem dX12_secret_82 : decode cX12_secret 82 = .ok (.iconst 1, 1) := by decide +kernel
theorem dX12_secret_83 : decode cX12_secret 83 = .ok (.if_icmp .ne 14, 3) := by decide +kernel
theorem dX12_secret_86 : decode cX12_secret 86 = .ok (.aload_n 0, 1) := by decide +kernel
theorem dX12_secret_87 : decode cX12_secret 87 = .ok (.getfield 48, 3) := by decide +kernel
theorem dX12_secret_90 : decode cX12_secret 90 = .ok (.bipush 20, 2) := by decide +kernel
theorem dX12_secret_92 : decode cX12_secret 92 = .ok (.laload, 1) := by decide +kernel
theorem dX12_secret_93 : decode cX12_secret 93 = .ok (.l2i, 1) := by decide +kernel
theorem dX12_secret_94 : decode cX12_secret 94 = .ok (.goto 4, 3) := by decide +kernel
theorem dX12_secret_97 : decode cX12_secret 97 = .ok (.iconst 0, 1) := by decide +kernel
theorem dX12_secret_98 : decode cX12_secret 98 = .ok (.putfield 153, 3) := by decide +kernel
theorem dX12_secret_101 : decode cX12_secret 101 = .ok (.aload_n 0, 1) := by decide +kernel
theorem dX12_secret_102 : decode cX12_secret 102 = .ok (.aload_n 0, 1) := by decide +kernel
theorem dX12_secret_103 : decode cX12_secret 103 = .ok (.getfield 45, 3) := by decide +kernel
theorem dX12_secret_106 : decode cX12_secret 106 = .ok (.bipush 21, 2) := by decide +kernel
theorem dX12_secret_108 : decode cX12_secret 108 = .ok (.iaload, 1) := by decide +kernel
theorem dX12_secret_109 : decode cX12_secret 109 = .ok (.iconst 1, 1) := by decide +kernel
theorem dX12_secret_110 : decode cX12_secret 110 = .ok (.if_icmp .ne 14, 3) := by decide +kernel
theorem dX12_secret_113 : decode cX12_secret 113 = .ok (.aload_n 0, 1) := by decide +kernel
theorem dX12_secret_114 : decode cX12_secret 114 = .ok (.getfield 48, 3) := by decide +kernel
theorem dX12_secret_117 : decode cX12_secret 117 = .ok (.bipush 21, 2) := by decide +kernel
theorem dX12_secret_119 : decode cX12_secret 119 = .ok (.laload, 1) := by decide +kernel
theorem dX12_secret_120 : decode cX12_secret 120 = .ok (.l2i, 1) := by decide +kernel
theorem dX12_secret_121 : decode cX12_secret 121 = .ok (.goto 4, 3) := by decide +kernel
theorem dX12_secret_124 : decode cX12_secret 124 = .ok (.iconst 0, 1) := by decide +kernel
theorem dX12_secret_125 : decode cX12_secret 125 = .ok (.putfield 156, 3) := by decide +kernel
theorem dX12_secret_128 : decode cX12_secret 128 = .ok (.aload_n 0, 1) := by decide +kernel
theorem dX12_secret_129 : decode cX12_secret 129 = .ok (.getfield 45, 3) := by decide +kernel
theorem dX12_secret_132 : decode cX12_secret 132 = .ok (.bipush 19, 2) := by decide +kernel
theorem dX12_secret_134 : decode cX12_secret 134 = .ok (.iaload, 1) := by decide +kernel
theorem dX12_secret_135 : decode cX12_secret 135 = .ok (.iconst 1, 1) := by decide +kernel
theorem dX12_secret_136 : decode cX12_secret 136 = .ok (.if_icmp .eq 4, 3) := by decide +kernel
theorem dX12_secret_139 : decode cX12_secret 139 = .ok (.return_, 1) := by decide +kernel
theorem dX12_secret_140 : decode cX12_secret 140 = .ok (.aload_n 0, 1) := by decide +kernel
theorem dX12_secret_141 : decode cX12_secret 141 = .ok (.lload_n 1, 1) := by decide +kernel
theorem dX12_secret_142 : decode cX12_secret 142 = .ok (.aload_n 0, 1) := by decide +kernel
theorem dX12_secret_143 : decode cX12_secret 143 = .ok (.getfield 48, 3) := by decide +kernel
theorem dX12_secret_146 : decode cX12_secret 146 = .ok (.bipush 19, 2) := by decide +kernel
theorem dX12_secret_148 : decode cX12_secret 148 = .ok (.laload, 1) := by decide +kernel
theorem dX12_secret_149 : decode cX12_secret 149 = .ok (.ladd, 1) := by decide +kernel
theorem dX12_secret_150 : decode cX12_secret 150 = .ok (.putfield 175, 3) := by decide +kernel
theorem dX12_secret_153 : decode cX12_secret 153 = .ok (.aload_n 0, 1) := by decide +kernel
theorem dX12_secret_154 : decode cX12_secret 154 = .ok (.iconst 0, 1) := by decide +kernel
theorem dX12_secret_155 : decode cX12_secret 155 = .ok (.ldc 136, 2) := by decide +kernel
theorem dX12_secret_157 : decode cX12_secret 157 = .ok (.invokevirtual 220, 3) := by decide +kernel
theorem dX12_secret_160 : decode cX12_secret 160 = .ok (.ifCond .eq 8, 3) := by decide +kernel
theorem dX12_secret_163 : decode cX12_secret 163 = .ok (.aload_n 0, 1) := by decide +kernel
theorem dX12_secret_164 : decode cX12_secret 164 = .ok (.iconst 1, 1) := by decide +kernel
theorem dX12_secret_165 : decode cX12_secret 165 = .ok (.invokevirtual 223, 3) := by decide +kernel
theorem dX12_secret_168 : decode cX12_secret 168 = .ok (.return_, 1) := by decide +kernel
theorem dX12_sixes_0 : decode cX12_sixes 0 = .ok (.iload_n 2, 1) := by decide +kernel
theorem dX12_sixes_1 : decode cX12_sixes 1 = .ok (.iload_n 1, 1) := by decide +kernel
theorem dX12_sixes_2 : decode cX12_sixes 2 = .ok (.isub, 1) := by decide +kernel
theorem dX12_sixes_3 : decode cX12_sixes 3 = .ok (.istore 4, 2) := by decide +kernel
theorem dX12_sixes_5 : decode cX12_sixes 5 = .ok (.iload 4, 2) := by decide +kernel
theorem dX12_sixes_7 : decode cX12_sixes 7 = .ok (.bipush 6, 2) := by decide +kernel
theorem dX12_sixes_9 : decode cX12_sixes 9 = .ok (.irem, 1) := by decide +kernel
theorem dX12_sixes_10 : decode cX12_sixes 10 = .ok (.ifCond .ne 12, 3) := by decide +kernel
theorem dX12_sixes_13 : decode cX12_sixes 13 = .ok (.iload 4, 2) := by decide +kernel
theorem dX12_sixes_15 : decode cX12_sixes 15 = .ok (.bipush 6, 2) := by decide +kernel
theorem dX12_sixes_17 : decode cX12_sixes 17 = .ok (.iload_n 3, 1) := by decide +kernel
theorem dX12_sixes_18 : decode cX12_sixes 18 = .ok (.imul, 1) := by decide +kernel
theorem dX12_sixes_19 : decode cX12_sixes 19 = .ok (.if_icmp .ge 9, 3) := by decide +kernel
theorem dX12_sixes_22 : decode cX12_sixes 22 = .ok (.aload_n 0, 1) := by decide +kernel
theorem dX12_sixes_23 : decode cX12_sixes 23 = .ok (.iconst 2, 1) := by decide +kernel
theorem dX12_sixes_24 : decode cX12_sixes 24 = .ok (.invokevirtual 346, 3) := by decide +kernel
theorem dX12_sixes_27 : decode cX12_sixes 27 = .ok (.ireturn, 1) := by decide +kernel
theorem dX12_sixes_28 : decode cX12_sixes 28 = .ok (.iload_n 1, 1) := by decide +kernel
theorem dX12_sixes_29 : decode cX12_sixes 29 = .ok (.istore 5, 2) := by decide +kernel
theorem dX12_sixes_31 : decode cX12_sixes 31 = .ok (.iload 5, 2) := by decide +kernel
theorem dX12_sixes_33 : decode cX12_sixes 33 = .ok (.iload_n 2, 1) := by decide +kernel
theorem dX12_sixes_34 : decode cX12_sixes 34 = .ok (.if_icmp .ge 70, 3) := by decide +kernel
theorem dX12_sixes_37 : decode cX12_sixes 37 = .ok (.aload_n 0, 1) := by decide +kernel
theorem dX12_sixes_38 : decode cX12_sixes 38 = .ok (.aload_n 0, 1) := by decide +kernel
theorem dX12_sixes_39 : decode cX12_sixes 39 = .ok (.getfield 101, 3) := by decide +kernel
theorem dX12_sixes_42 : decode cX12_sixes 42 = .ok (.iload 5, 2) := by decide +kernel
theorem dX12_sixes_44 : decode cX12_sixes 44 = .ok (.laload, 1) := by decide +kernel
theorem dX12_sixes_45 : decode cX12_sixes 45 = .ok (.aload_n 0, 1) := by decide +kernel
theorem dX12_sixes_46 : decode cX12_sixes 46 = .ok (.getfield 101, 3) := by decide +kernel
theorem dX12_sixes_49 : decode cX12_sixes 49 = .ok (.iload 5, 2) := by decide +kernel
theorem dX12_sixes_51 : decode cX12_sixes 51 = .ok (.iconst 1, 1) := by decide +kernel
theorem dX12_sixes_52 : decode cX12_sixes 52 = .ok (.iadd, 1) := by decide +kernel
theorem dX12_sixes_53 : decode cX12_sixes 53 = .ok (.laload, 1) := by decide +kernel
theorem dX12_sixes_54 : decode cX12_sixes 54 = .ok (.aload_n 0, 1) := by decide +kernel
theorem dX12_sixes_55 : decode cX12_sixes 55 = .ok (.getfield 101, 3) := by decide +kernel
theorem dX12_sixes_58 : decode cX12_sixes 58 = .ok (.iload 5, 2) := by decide +kernel
theorem dX12_sixes_60 : decode cX12_sixes 60 = .ok (.iconst 2, 1) := by decide +kernel
theorem dX12_sixes_61 : decode cX12_sixes 61 = .ok (.iadd, 1) := by decide +kernel
theorem dX12_sixes_62 : decode cX12_sixes 62 = .ok (.laload, 1) := by decide +kernel
theorem dX12_sixes_63 : decode cX12_sixes 63 = .ok (.aload_n 0, 1) := by decide +kernel
theorem dX12_sixes_64 : decode cX12_sixes 64 = .ok (.getfield 101, 3) := by decide +kernel
theorem dX12_sixes_67 : decode cX12_sixes 67 = .ok (.iload 5, 2) := by decide +kernel
theorem dX12_sixes_69 : decode cX12_sixes 69 = .ok (.iconst 3, 1) := by decide +kernel
theorem dX12_sixes_70 : decode cX12_sixes 70 = .ok (.iadd, 1) := by decide +kernel
theorem dX12_sixes_71 : decode cX12_sixes 71 = .ok (.laload, 1) := by decide +kernel
theorem dX12_sixes_72 : decode cX12_sixes 72 = .ok (.aload_n 0, 1) := by decide +kernel
theorem dX12_sixes_73 : decode cX12_sixes 73 = .ok (.getfield 101, 3) := by decide +kernel
theorem dX12_sixes_76 : decode cX12_sixes 76 = .ok (.iload 5, 2) := by decide +kernel
theorem dX12_sixes_78 : decode cX12_sixes 78 = .ok (.iconst 4, 1) := by decide +kernel
theorem dX12_sixes_79 : decode cX12_sixes 79 = .ok (.iadd, 1) := by decide +kernel
theorem dX12_sixes_80 : decode cX12_sixes 80 = .ok (.laload, 1) := by decide +kernel
theorem dX12_sixes_81 : decode cX12_sixes 81 = .ok (.aload_n 0, 1) := by decide +kernel
theorem dX12_sixes_82 : decode cX12_sixes 82 = .ok (.getfield 101, 3) := by decide +kernel
theorem dX12_sixes_85 : decode cX12_sixes 85 = .ok (.iload 5, 2) := by decide +kernel
theorem dX12_sixes_87 : decode cX12_sixes 87 = .ok (.iconst 5, 1) := by decide +kernel
theorem dX12_sixes_88 : decode cX12_sixes 88 = .ok (.iadd, 1) := by decide +kernel
theorem dX12_sixes_89 : decode cX12_sixes 89 = .ok (.laload, 1) := by decide +kernel
theorem dX12_sixes_90 : decode cX12_sixes 90 = .ok (.invokevirtual 449, 3) := by decide +kernel
theorem dX12_sixes_93 : decode cX12_sixes 93 = .ok (.ifCond .ne 5, 3) := by decide +kernel
theorem dX12_sixes_96 : decode cX12_sixes 96 = .ok (.iconst 0, 1) := by decide +kernel
theorem dX12_sixes_97 : decode cX12_sixes 97 = .ok (.ireturn, 1) := by decide +kernel
theorem dX12_sixes_98 : decode cX12_sixes 98 = .ok (.iinc 5 6, 3) := by decide +kernel
theorem dX12_sixes_101 : decode cX12_sixes 101 = .ok (.goto (-70), 3) := by decide +kernel
theorem dX12_sixes_104 : decode cX12_sixes 104 = .ok (.iconst 1, 1) := by decide +kernel
theorem dX12_sixes_105 : decode cX12_sixes 105 = .ok (.ireturn, 1) := by decide +kernel
theorem dX12_stems_0 : decode cX12_stems 0 = .ok (.aload_n 0, 1) := by decide +kernel
theorem dX12_stems_1 : decode cX12_stems 1 = .ok (.getfield 325, 3) := by decide +kernel
theorem dX12_stems_4 : decode cX12_stems 4 = .ok (.iconst 2, 1) := by decide +kernel
theorem dX12_stems_5 : decode cX12_stems 5 = .ok (.irem, 1) := by decide +kernel
theorem dX12_stems_6 : decode cX12_stems 6 = .ok (.istore_n 1, 1) := by decide +kernel
theorem dX12_stems_7 : decode cX12_stems 7 = .ok (.aload_n 0, 1) := by decide +kernel
theorem dX12_stems_8 : decode cX12_stems 8 = .ok (.getfield 325, 3) := by decide +kernel
theorem dX12_stems_11 : decode cX12_stems 11 = .ok (.iconst 2, 1) := by decide +kernel
theorem dX12_stems_12 : decode cX12_stems 12 = .ok (.if_icmp .lt 23, 3) := by decide +kernel
theorem dX12_stems_15 : decode cX12_stems 15 = .ok (.iload_n 1, 1) := by decide +kernel
theorem dX12_stems_16 : decode cX12_stems 16 = .ok (.iconst 1, 1) := by decide +kernel
theorem dX12_stems_17 : decode cX12_stems 17 = .ok (.if_icmp .ne 24, 3) := by decide +kernel
theorem dX12_stems_20 : decode cX12_stems 20 = .ok (.aload_n 0, 1) := by decide +kernel
theorem dX12_stems_21 : decode cX12_stems 21 = .ok (.getfield 313, 3) := by decide +kernel
theorem dX12_stems_24 : decode cX12_stems 24 = .ok (.ifCond .ne 11, 3) := by decide +kernel
theorem dX12_stems_27 : decode cX12_stems 27 = .ok (.aload_n 0, 1) := by decide +kernel
theorem dX12_stems_28 : decode cX12_stems 28 = .ok (.getfield 325, 3) := by decide +kernel
theorem dX12_stems_31 : decode cX12_stems 31 = .ok (.iconst 3, 1) := by decide +kernel
theorem dX12_stems_32 : decode cX12_stems 32 = .ok (.if_icmp .ge 9, 3) := by decide +kernel
theorem dX12_stems_35 : decode cX12_stems 35 = .ok (.aload_n 0, 1) := by decide +kernel
theorem dX12_stems_36 : decode cX12_stems 36 = .ok (.iconst 2, 1) := by decide +kernel
theorem dX12_stems_37 : decode cX12_stems 37 = .ok (.invokevirtual 346, 3) := by decide +kernel
theorem dX12_stems_40 : decode cX12_stems 40 = .ok (.ireturn, 1) := by decide +kernel
theorem dX12_stems_41 : decode cX12_stems 41 = .ok (.aload_n 0, 1) := by decide +kernel
theorem dX12_stems_42 : decode cX12_stems 42 = .ok (.iload_n 1, 1) := by decide +kernel
theorem dX12_stems_43 : decode cX12_stems 43 = .ok (.iconst 1, 1) := by decide +kernel
theorem dX12_stems_44 : decode cX12_stems 44 = .ok (.if_icmp .ne 7, 3) := by decide +kernel
theorem dX12_stems_47 : decode cX12_stems 47 = .ok (.iconst 1, 1) := by decide +kernel
theorem dX12_stems_48 : decode cX12_stems 48 = .ok (.goto 4, 3) := by decide +kernel
theorem dX12_stems_51 : decode cX12_stems 51 = .ok (.iconst 0, 1) := by decide +kernel
theorem dX12_stems_52 : decode cX12_stems 52 = .ok (.invokevirtual 401, 3) := by decide +kernel
theorem dX12_stems_55 : decode cX12_stems 55 = .ok (.aload_n 0, 1) := by decide +kernel
theorem dX12_stems_56 : decode cX12_stems 56 = .ok (.dup, 1) := by decide +kernel
theorem dX12_stems_57 : decode cX12_stems 57 = .ok (.getfield 307, 3) := by decide +kernel
theorem dX12_stems_60 : decode cX12_stems 60 = .ok (.aload_n 0, 1) := by decide +kernel
theorem dX12_stems_61 : decode cX12_stems 61 = .ok (.getfield 325, 3) := by decide +kernel
theorem dX12_stems_64 : decode cX12_stems 64 = .ok (.iconst 2, 1) := by decide +kernel
theorem dX12_stems_65 : decode cX12_stems 65 = .ok (.idiv, 1) := by decide +kernel
theorem dX12_stems_66 : decode cX12_stems 66 = .ok (.iadd, 1) := by decide +kernel
theorem dX12_stems_67 : decode cX12_stems 67 = .ok (.putfield 307, 3) := by decide +kernel
theorem dX12_stems_70 : decode cX12_stems 70 = .ok (.aload_n 0, 1) := by decide +kernel
theorem dX12_stems_71 : decode cX12_stems 71 = .ok (.iconst 0, 1) := by decide +kernel
theorem dX12_stems_72 : decode cX12_stems 72 = .ok (.putfield 325, 3) := by decide +kernel
theorem dX12_stems_75 : decode cX12_stems 75 = .ok (.iconst 1, 1) := by decide +kernel
theorem dX12_stems_76 : decode cX12_stems 76 = .ok (.ireturn, 1) := by decide +kernel
theorem dX12_step_0 : decode cX12_step 0 = .ok (.aload_n 0, 1) := by decide +kernel
theorem dX12_step_1 : decode cX12_step 1 = .ok (.invokevirtual 349, 3) := by decide +kernel
theorem dX12_step_4 : decode cX12_step 4 = .ok (.istore_n 1, 1) := by decide +kernel
theorem dX12_step_5 : decode cX12_step 5 = .ok (.iload_n 1, 1) := by decide +kernel
theorem dX12_step_6 : decode cX12_step 6 = .ok (.ifCond .ge 4, 3) := by decide +kernel
theorem dX12_step_9 : decode cX12_step 9 = .ok (.return_, 1) := by decide +kernel
theorem dX12_step_10 : decode cX12_step 10 = .ok (.iload_n 1, 1) := by decide +kernel
theorem dX12_step_11 : decode cX12_step 11 = .ok (.bipush 32, 2) := by decide +kernel
theorem dX12_step_13 : decode cX12_step 13 = .ok (.if_icmp .ge 16, 3) := by decide +kernel
theorem dX12_step_16 : decode cX12_step 16 = .ok (.iload_n 1, 1) := by decide +kernel
theorem dX12_step_17 : decode cX12_step 17 = .ok (.bipush 28, 2) := by decide +kernel
theorem dX12_step_19 : decode cX12_step 19 = .ok (.if_icmp .ne 16, 3) := by decide +kernel
theorem dX12_step_22 : decode cX12_step 22 = .ok (.aload_n 0, 1) := by decide +kernel
theorem dX12_step_23 : decode cX12_step 23 = .ok (.getfield 16, 3) := by decide +kernel
theorem dX12_step_26 : decode cX12_step 26 = .ok (.ifCond .ne 9, 3) := by decide +kernel
theorem dX12_step_29 : decode cX12_step 29 = .ok (.aload_n 0, 1) := by decide +kernel
theorem dX12_step_30 : decode cX12_step 30 = .ok (.iload_n 1, 1) := by decide +kernel
theorem dX12_step_31 : decode cX12_step 31 = .ok (.invokevirtual 352, 3) := by decide +kernel
theorem dX12_step_34 : decode cX12_step 34 = .ok (.return_, 1) := by decide +kernel
theorem dX12_step_35 : decode cX12_step 35 = .ok (.aload_n 0, 1) := by decide +kernel
theorem dX12_step_36 : decode cX12_step 36 = .ok (.getfield 304, 3) := by decide +kernel
theorem dX12_step_39 : decode cX12_step 39 = .ok (.sipush 3000, 3) := by decide +kernel
theorem dX12_step_42 : decode cX12_step 42 = .ok (.if_icmp .ne 11, 3) := by decide +kernel
theorem dX12_step_45 : decode cX12_step 45 = .ok (.aload_n 0, 1) := by decide +kernel
theorem dX12_step_46 : decode cX12_step 46 = .ok (.bipush 8, 2) := by decide +kernel
theorem dX12_step_48 : decode cX12_step 48 = .ok (.invokevirtual 346, 3) := by decide +kernel
theorem dX12_step_51 : decode cX12_step 51 = .ok (.istore_n 2, 1) := by decide +kernel
theorem dX12_step_52 : decode cX12_step 52 = .ok (.return_, 1) := by decide +kernel
theorem dX12_step_53 : decode cX12_step 53 = .ok (.iload_n 1, 1) := by decide +kernel
theorem dX12_step_54 : decode cX12_step 54 = .ok (.bipush 12, 2) := by decide +kernel
theorem dX12_step_56 : decode cX12_step 56 = .ok (.if_icmp .ne 19, 3) := by decide +kernel
theorem dX12_step_59 : decode cX12_step 59 = .ok (.aload_n 0, 1) := by decide +kernel
theorem dX12_step_60 : decode cX12_step 60 = .ok (.invokevirtual 349, 3) := by decide +kernel
theorem dX12_step_63 : decode cX12_step 63 = .ok (.istore_n 2, 1) := by decide +kernel
theorem dX12_step_64 : decode cX12_step 64 = .ok (.iload_n 2, 1) := by decide +kernel
theorem dX12_step_65 : decode cX12_step 65 = .ok (.ifCond .ge 4, 3) := by decide +kernel
theorem dX12_step_68 : decode cX12_step 68 = .ok (.return_, 1) := by decide +kernel
theorem dX12_step_69 : decode cX12_step 69 = .ok (.sipush 256, 3) := by decide +kernel
theorem dX12_step_72 : decode cX12_step 72 = .ok (.iload_n 2, 1) := by decide +kernel
theorem dX12_step_73 : decode cX12_step 73 = .ok (.iadd, 1) := by decide +kernel
theorem dX12_step_74 : decode cX12_step 74 = .ok (.istore_n 1, 1) := by decide +kernel
theorem dX12_step_75 : decode cX12_step 75 = .ok (.aload_n 0, 1) := by decide +kernel
theorem dX12_step_76 : decode cX12_step 76 = .ok (.getfield 16, 3) := by decide +kernel
theorem dX12_step_79 : decode cX12_step 79 = .ok (.ifCond .ne 11, 3) := by decide +kernel
theorem dX12_step_82 : decode cX12_step 82 = .ok (.aload_n 0, 1) := by decide +kernel
theorem dX12_step_83 : decode cX12_step 83 = .ok (.iload_n 1, 1) := by decide +kernel
theorem dX12_step_84 : decode cX12_step 84 = .ok (.invokevirtual 355, 3) := by decide +kernel
theorem dX12_step_87 : decode cX12_step 87 = .ok (.goto 8, 3) := by decide +kernel
theorem dX12_step_90 : decode cX12_step 90 = .ok (.aload_n 0, 1) := by decide +kernel
theorem dX12_step_91 : decode cX12_step 91 = .ok (.iload_n 1, 1) := by decide +kernel
theorem dX12_step_92 : decode cX12_step 92 = .ok (.invokevirtual 358, 3) := by decide +kernel
theorem dX12_step_95 : decode cX12_step 95 = .ok (.istore_n 2, 1) := by decide +kernel
theorem dX12_step_96 : decode cX12_step 96 = .ok (.iload_n 2, 1) := by decide +kernel
theorem dX12_step_97 : decode cX12_step 97 = .ok (.ifCond .eq 20, 3) := by decide +kernel
theorem dX12_step_100 : decode cX12_step 100 = .ok (.aload_n 0, 1) := by decide +kernel
theorem dX12_step_101 : decode cX12_step 101 = .ok (.getfield 295, 3) := by decide +kernel
theorem dX12_step_104 : decode cX12_step 104 = .ok (.ifCond .ne 13, 3) := by decide +kernel
theorem dX12_step_107 : decode cX12_step 107 = .ok (.aload_n 0, 1) := by decide +kernel
theorem dX12_step_108 : decode cX12_step 108 = .ok (.dup, 1) := by decide +kernel
theorem dX12_step_109 : decode cX12_step 109 = .ok (.getfield 304, 3) := by decide +kernel
theorem dX12_step_112 : decode cX12_step 112 = .ok (.iconst 1, 1) := by decide +kernel
theorem dX12_step_113 : decode cX12_step 113 = .ok (.iadd, 1) := by decide +kernel
theorem dX12_step_114 : decode cX12_step 114 = .ok (.putfield 304, 3) := by decide +kernel
theorem dX12_step_117 : decode cX12_step 117 = .ok (.return_, 1) := by decide +kernel
theorem dX12_stops_0 : decode cX12_stops 0 = .ok (.aload_n 0, 1) := by decide +kernel
theorem dX12_stops_1 : decode cX12_stops 1 = .ok (.getfield 295, 3) := by decide +kernel
theorem dX12_stops_4 : decode cX12_stops 4 = .ok (.ifCond .ne 8, 3) := by decide +kernel
theorem dX12_stops_7 : decode cX12_stops 7 = .ok (.aload_n 0, 1) := by decide +kernel
theorem dX12_stops_8 : decode cX12_stops 8 = .ok (.iload_n 1, 1) := by decide +kernel
theorem dX12_stops_9 : decode cX12_stops 9 = .ok (.putfield 295, 3) := by decide +kernel
theorem dX12_stops_12 : decode cX12_stops 12 = .ok (.iconst 0, 1) := by decide +kernel
theorem dX12_stops_13 : decode cX12_stops 13 = .ok (.ireturn, 1) := by decide +kernel
theorem dX12_straight_0 : decode cX12_straight 0 = .ok (.aload_n 0, 1) := by decide +kernel
theorem dX12_straight_1 : decode cX12_straight 1 = .ok (.getfield 325, 3) := by decide +kernel
theorem dX12_straight_4 : decode cX12_straight 4 = .ok (.iconst 4, 1) := by decide +kernel
theorem dX12_straight_5 : decode cX12_straight 5 = .ok (.irem, 1) := by decide +kernel
theorem dX12_straight_6 : decode cX12_straight 6 = .ok (.istore_n 2, 1) := by decide +kernel
theorem dX12_straight_7 : decode cX12_straight 7 = .ok (.aload_n 0, 1) := by decide +kernel
theorem dX12_straight_8 : decode cX12_straight 8 = .ok (.getfield 325, 3) := by decide +kernel
theorem dX12_straight_11 : decode cX12_straight 11 = .ok (.iconst 4, 1) := by decide +kernel
theorem dX12_straight_12 : decode cX12_straight 12 = .ok (.if_icmp .lt 8, 3) := by decide +kernel
theorem dX12_straight_15 : decode cX12_straight 15 = .ok (.iload_n 2, 1) := by decide +kernel
theorem dX12_straight_16 : decode cX12_straight 16 = .ok (.iconst 1, 1) := by decide +kernel
theorem dX12_straight_17 : decode cX12_straight 17 = .ok (.if_icmp .le 9, 3) := by decide +kernel
theorem dX12_straight_20 : decode cX12_straight 20 = .ok (.aload_n 0, 1) := by decide +kernel
theorem dX12_straight_21 : decode cX12_straight 21 = .ok (.iconst 2, 1) := by decide +kernel
theorem dX12_straight_22 : decode cX12_straight 22 = .ok (.invokevirtual 346, 3) := by decide +kernel
theorem dX12_straight_25 : decode cX12_straight 25 = .ok (.ireturn, 1) := by decide +kernel
theorem dX12_straight_26 : decode cX12_straight 26 = .ok (.iload_n 2, 1) := by decide +kernel
theorem dX12_straight_27 : decode cX12_straight 27 = .ok (.istore_n 3, 1) := by decide +kernel
theorem dX12_straight_28 : decode cX12_straight 28 = .ok (.iload_n 3, 1) := by decide +kernel
theorem dX12_straight_29 : decode cX12_straight 29 = .ok (.aload_n 0, 1) := by decide +kernel
theorem dX12_straight_30 : decode cX12_straight 30 = .ok (.getfield 325, 3) := by decide +kernel
theorem dX12_straight_33 : decode cX12_straight 33 = .ok (.if_icmp .ge 115, 3) := by decide +kernel
theorem dX12_straight_36 : decode cX12_straight 36 = .ok (.iload_n 3, 1) := by decide +kernel
theorem dX12_straight_37 : decode cX12_straight 37 = .ok (.iconst 1, 1) := by decide +kernel
theorem dX12_straight_38 : decode cX12_straight 38 = .ok (.if_icmp .ne 12, 3) := by decide +kernel
theorem dX12_straight_41 : decode cX12_straight 41 = .ok (.aload_n 0, 1) := by decide +kernel
theorem dX12_straight_42 : decode cX12_straight 42 = .ok (.getfield 101, 3) := by decide +kernel
theorem dX12_straight_45 : decode cX12_straight 45 = .ok (.iconst 0, 1) := by decide +kernel
theorem dX12_straight_46 : decode cX12_straight 46 = .ok (.laload, 1) := by decide +kernel
theorem dX12_straight_47 : decode cX12_straight 47 = .ok (.goto 4, 3) := by decide +kernel
theorem dX12_straight_50 : decode cX12_straight 50 = .ok (.lconst 0, 1) := by decide +kernel
theorem dX12_straight_51 : decode cX12_straight 51 = .ok (.lstore 4, 2) := by decide +kernel
theorem dX12_straight_53 : decode cX12_straight 53 = .ok (.iload_n 1, 1) := by decide +kernel
theorem dX12_straight_54 : decode cX12_straight 54 = .ok (.ifCond .eq 46, 3) := by decide +kernel
theorem dX12_straight_57 : decode cX12_straight 57 = .ok (.aload_n 0, 1) := by decide +kernel
theorem dX12_straight_58 : decode cX12_straight 58 = .ok (.lload 4, 2) := by decide +kernel
theorem dX12_straight_60 : decode cX12_straight 60 = .ok (.aload_n 0, 1) := by decide +kernel
theorem dX12_straight_61 : decode cX12_straight 61 = .ok (.getfield 101, 3) := by decide +kernel
theorem dX12_straight_64 : decode cX12_straight 64 = .ok (.iload_n 3, 1) := by decide +kernel
theorem dX12_straight_65 : decode cX12_straight 65 = .ok (.laload, 1) := by decide +kernel
theorem dX12_straight_66 : decode cX12_straight 66 = .ok (.aload_n 0, 1) := by decide +kernel
theorem dX12_straight_67 : decode cX12_straight 67 = .ok (.getfield 101, 3) := by decide +kernel
theorem dX12_straight_70 : decode cX12_straight 70 = .ok (.iload_n 3, 1) := by decide +kernel
theorem dX12_straight_71 : decode cX12_straight 71 = .ok (.iconst 1, 1) := by decide +kernel
theorem dX12_straight_72 : decode cX12_straight 72 = .ok (.iadd, 1) := by decide +kernel
theorem dX12_straight_73 : decode cX12_straight 73 = .ok (.laload, 1) := by decide +kernel
theorem dX12_straight_74 : decode cX12_straight 74 = .ok (.aload_n 0, 1) := by decide +kernel
theorem dX12_straight_75 : decode cX12_straight 75 = .ok (.getfield 101, 3) := by decide +kernel
theorem dX12_straight_78 : decode cX12_straight 78 = .ok (.iload_n 3, 1) := by decide +kernel
theorem dX12_straight_79 : decode cX12_straight 79 = .ok (.iconst 2, 1) := by decide +kernel
theorem dX12_straight_80 : decode cX12_straight 80 = .ok (.iadd, 1) := by decide +kernel
theorem dX12_straight_81 : decode cX12_straight 81 = .ok (.laload, 1) := by decide +kernel
theorem dX12_straight_82 : decode cX12_straight 82 = .ok (.lconst 0, 1) := by decide +kernel
theorem dX12_straight_83 : decode cX12_straight 83 = .ok (.aload_n 0, 1) := by decide +kernel
theorem dX12_straight_84 : decode cX12_straight 84 = .ok (.getfield 101, 3) := by decide +kernel
theorem dX12_straight_87 : decode cX12_straight 87 = .ok (.iload_n 3, 1) := by decide +kernel
theorem dX12_straight_88 : decode cX12_straight 88 = .ok (.iconst 3, 1) := by decide +kernel
theorem dX12_straight_89 : decode cX12_straight 89 = .ok (.iadd, 1) := by decide +kernel
theorem dX12_straight_90 : decode cX12_straight 90 = .ok (.laload, 1) := by decide +kernel
theorem dX12_straight_91 : decode cX12_straight 91 = .ok (.invokevirtual 449, 3) := by decide +kernel
theorem dX12_straight_94 : decode cX12_straight 94 = .ok (.ifCond .ne 48, 3) := by decide +kernel
theorem dX12_straight_97 : decode cX12_straight 97 = .ok (.goto 43, 3) := by decide +kernel
theorem dX12_straight_100 : decode cX12_straight 100 = .ok (.aload_n 0, 1) := by decide +kernel
theorem dX12_straight_101 : decode cX12_straight 101 = .ok (.aload_n 0, 1) := by decide +kernel
theorem dX12_straight_102 : decode cX12_straight 102 = .ok (.getfield 101, 3) := by decide +kernel
theorem dX12_straight_105 : decode cX12_straight 105 = .ok (.iload_n 3, 1) := by decide +kernel
theorem dX12_straight_106 : decode cX12_straight 106 = .ok (.laload, 1) := by decide +kernel
theorem dX12_straight_107 : decode cX12_straight 107 = .ok (.lload 4, 2) := by decide +kernel
theorem dX12_straight_109 : decode cX12_straight 109 = .ok (.aload_n 0, 1) := by decide +kernel
theorem dX12_straight_110 : decode cX12_straight 110 = .ok (.getfield 101, 3) := by decide +kernel
theorem dX12_straight_113 : decode cX12_straight 113 = .ok (.iload_n 3, 1) := by decide +kernel
theorem dX12_straight_114 : decode cX12_straight 114 = .ok (.iconst 1, 1) := by decide +kernel
theorem dX12_straight_115 : decode cX12_straight 115 = .ok (.iadd, 1) := by decide +kernel
theorem dX12_straight_116 : decode cX12_straight 116 = .ok (.laload, 1) := by decide +kernel
theorem dX12_straight_117 : decode cX12_straight 117 = .ok (.aload_n 0, 1) := by decide +kernel
theorem dX12_straight_118 : decode cX12_straight 118 = .ok (.getfield 101, 3) := by decide +kernel
theorem dX12_straight_121 : decode cX12_straight 121 = .ok (.iload_n 3, 1) := by decide +kernel
theorem dX12_straight_122 : decode cX12_straight 122 = .ok (.iconst 2, 1) := by decide +kernel
theorem dX12_straight_123 : decode cX12_straight 123 = .ok (.iadd, 1) := by decide +kernel
theorem dX12_straight_124 : decode cX12_straight 124 = .ok (.laload, 1) := by decide +kernel
theorem dX12_straight_125 : decode cX12_straight 125 = .ok (.aload_n 0, 1) := by decide +kernel
theorem dX12_straight_126 : decode cX12_straight 126 = .ok (.getfield 101, 3) := by decide +kernel
theorem dX12_straight_129 : decode cX12_straight 129 = .ok (.iload_n 3, 1) := by decide +kernel
theorem dX12_straight_130 : decode cX12_straight 130 = .ok (.iconst 3, 1) := by decide +kernel
theorem dX12_straight_131 : decode cX12_straight 131 = .ok (.iadd, 1) := by decide +kernel
theorem dX12_straight_132 : decode cX12_straight 132 = .ok (.laload, 1) := by decide +kernel
theorem dX12_straight_133 : decode cX12_straight 133 = .ok (.lconst 0, 1) := by decide +kernel
theorem dX12_straight_134 : decode cX12_straight 134 = .ok (.invokevirtual 449, 3) := by decide +kernel
theorem dX12_straight_137 : decode cX12_straight 137 = .ok (.ifCond .ne 5, 3) := by decide +kernel
theorem dX12_straight_140 : decode cX12_straight 140 = .ok (.iconst 0, 1) := by decide +kernel
theorem dX12_straight_141 : decode cX12_straight 141 = .ok (.ireturn, 1) := by decide +kernel
theorem dX12_straight_142 : decode cX12_straight 142 = .ok (.iinc 3 4, 3) := by decide +kernel
theorem dX12_straight_145 : decode cX12_straight 145 = .ok (.goto (-117), 3) := by decide +kernel
theorem dX12_straight_148 : decode cX12_straight 148 = .ok (.iconst 1, 1) := by decide +kernel
theorem dX12_straight_149 : decode cX12_straight 149 = .ok (.ireturn, 1) := by decide +kernel
theorem dX12_subroutine_0 : decode cX12_subroutine 0 = .ok (.aload_n 0, 1) := by decide +kernel
theorem dX12_subroutine_1 : decode cX12_subroutine 1 = .ok (.getfield 325, 3) := by decide +kernel
theorem dX12_subroutine_4 : decode cX12_subroutine 4 = .ok (.iconst 1, 1) := by decide +kernel
theorem dX12_subroutine_5 : decode cX12_subroutine 5 = .ok (.if_icmp .ge 9, 3) := by decide +kernel
theorem dX12_subroutine_8 : decode cX12_subroutine 8 = .ok (.aload_n 0, 1) := by decide +kernel
theorem dX12_subroutine_9 : decode cX12_subroutine 9 = .ok (.iconst 2, 1) := by decide +kernel
theorem dX12_subroutine_10 : decode cX12_subroutine 10 = .ok (.invokevirtual 346, 3) := by decide +kernel
theorem dX12_subroutine_13 : decode cX12_subroutine 13 = .ok (.ireturn, 1) := by decide +kernel
theorem dX12_subroutine_14 : decode cX12_subroutine 14 = .ok (.aload_n 0, 1) := by decide +kernel
theorem dX12_subroutine_15 : decode cX12_subroutine 15 = .ok (.dup, 1) := by decide +kernel
theorem dX12_subroutine_16 : decode cX12_subroutine 16 = .ok (.getfield 325, 3) := by decide +kernel
theorem dX12_subroutine_19 : decode cX12_subroutine 19 = .ok (.iconst 1, 1) := by decide +kernel
theorem dX12_subroutine_20 : decode cX12_subroutine 20 = .ok (.isub, 1) := by decide +kernel
theorem dX12_subroutine_21 : decode cX12_subroutine 21 = .ok (.putfield 325, 3) := by decide +kernel
theorem dX12_subroutine_24 : decode cX12_subroutine 24 = .ok (.aload_n 0, 1) := by decide +kernel
theorem dX12_subroutine_25 : decode cX12_subroutine 25 = .ok (.getfield 20, 3) := by decide +kernel
theorem dX12_subroutine_28 : decode cX12_subroutine 28 = .ok (.iload_n 1, 1) := by decide +kernel
theorem dX12_subroutine_29 : decode cX12_subroutine 29 = .ok (.iaload, 1) := by decide +kernel
theorem dX12_subroutine_30 : decode cX12_subroutine 30 = .ok (.istore_n 2, 1) := by decide +kernel
theorem dX12_subroutine_31 : decode cX12_subroutine 31 = .ok (.aload_n 0, 1) := by decide +kernel
theorem dX12_subroutine_32 : decode cX12_subroutine 32 = .ok (.iload_n 1, 1) := by decide +kernel
theorem dX12_subroutine_33 : decode cX12_subroutine 33 = .ok (.aload_n 0, 1) := by decide +kernel
theorem dX12_subroutine_34 : decode cX12_subroutine 34 = .ok (.getfield 101, 3) := by decide +kernel
theorem dX12_subroutine_37 : decode cX12_subroutine 37 = .ok (.aload_n 0, 1) := by decide +kernel
theorem dX12_subroutine_38 : decode cX12_subroutine 38 = .ok (.getfield 325, 3) := by decide +kernel
theorem dX12_subroutine_41 : decode cX12_subroutine 41 = .ok (.laload, 1) := by decide +kernel
theorem dX12_subroutine_42 : decode cX12_subroutine 42 = .ok (.invokestatic 408, 3) := by decide +kernel
theorem dX12_subroutine_45 : decode cX12_subroutine 45 = .ok (.iload_n 2, 1) := by decide +kernel
theorem dX12_subroutine_46 : decode cX12_subroutine 46 = .ok (.sipush 1240, 3) := by decide +kernel
theorem dX12_subroutine_49 : decode cX12_subroutine 49 = .ok (.if_icmp .ge 8, 3) := by decide +kernel
theorem dX12_subroutine_52 : decode cX12_subroutine 52 = .ok (.bipush 107, 2) := by decide +kernel
theorem dX12_subroutine_54 : decode cX12_subroutine 54 = .ok (.goto 19, 3) := by decide +kernel
theorem dX12_subroutine_57 : decode cX12_subroutine 57 = .ok (.iload_n 2, 1) := by decide +kernel
theorem dX12_subroutine_58 : decode cX12_subroutine 58 = .ok (.ldc_w 412, 3) := by decide +kernel
theorem dX12_subroutine_61 : decode cX12_subroutine 61 = .ok (.if_icmp .ge 9, 3) := by decide +kernel
theorem dX12_subroutine_64 : decode cX12_subroutine 64 = .ok (.sipush 1131, 3) := by decide +kernel
theorem dX12_subroutine_67 : decode cX12_subroutine 67 = .ok (.goto 6, 3) := by decide +kernel
theorem dX12_subroutine_73 : decode cX12_subroutine 73 = .ok (.i2l, 1) := by decide +kernel
theorem dX12_subroutine_74 : decode cX12_subroutine 74 = .ok (.ladd, 1) := by decide +kernel
theorem dX12_subroutine_75 : decode cX12_subroutine 75 = .ok (.invokevirtual 414, 3) := by decide +kernel
theorem dX12_subroutine_78 : decode cX12_subroutine 78 = .ok (.ireturn, 1) := by decide +kernel
theorem dX12_take_0 : decode cX12_take 0 = .ok (.aload_n 0, 1) := by decide +kernel
theorem dX12_take_1 : decode cX12_take 1 = .ok (.getfield 113, 3) := by decide +kernel
theorem dX12_take_4 : decode cX12_take 4 = .ok (.aload_n 0, 1) := by decide +kernel
theorem dX12_take_5 : decode cX12_take 5 = .ok (.getfield 328, 3) := by decide +kernel
theorem dX12_take_8 : decode cX12_take 8 = .ok (.iaload, 1) := by decide +kernel
theorem dX12_take_9 : decode cX12_take 9 = .ok (.aload_n 0, 1) := by decide +kernel
theorem dX12_take_10 : decode cX12_take 10 = .ok (.invokevirtual 343, 3) := by decide +kernel
theorem dX12_take_13 : decode cX12_take 13 = .ok (.if_icmp .lt 12, 3) := by decide +kernel
theorem dX12_take_16 : decode cX12_take 16 = .ok (.aload_n 0, 1) := by decide +kernel
theorem dX12_take_17 : decode cX12_take 17 = .ok (.bipush 7, 2) := by decide +kernel
theorem dX12_take_19 : decode cX12_take 19 = .ok (.invokevirtual 346, 3) := by decide +kernel
theorem dX12_take_22 : decode cX12_take 22 = .ok (.istore_n 1, 1) := by decide +kernel
theorem dX12_take_23 : decode cX12_take 23 = .ok (.iconst (-1), 1) := by decide +kernel
theorem dX12_take_24 : decode cX12_take 24 = .ok (.ireturn, 1) := by decide +kernel
theorem dX12_take_25 : decode cX12_take 25 = .ok (.aload_n 0, 1) := by decide +kernel
theorem dX12_take_26 : decode cX12_take 26 = .ok (.getfield 113, 3) := by decide +kernel
theorem dX12_take_29 : decode cX12_take 29 = .ok (.aload_n 0, 1) := by decide +kernel
theorem dX12_take_30 : decode cX12_take 30 = .ok (.getfield 328, 3) := by decide +kernel
theorem dX12_take_33 : decode cX12_take 33 = .ok (.dup2, 1) := by decide +kernel
theorem dX12_take_34 : decode cX12_take 34 = .ok (.iaload, 1) := by decide +kernel
theorem dX12_take_35 : decode cX12_take 35 = .ok (.iconst 1, 1) := by decide +kernel
theorem dX12_take_36 : decode cX12_take 36 = .ok (.iadd, 1) := by decide +kernel
theorem dX12_take_37 : decode cX12_take 37 = .ok (.iastore, 1) := by decide +kernel
theorem dX12_take_38 : decode cX12_take 38 = .ok (.aload_n 0, 1) := by decide +kernel
theorem dX12_take_39 : decode cX12_take 39 = .ok (.getfield 30, 3) := by decide +kernel
theorem dX12_take_42 : decode cX12_take 42 = .ok (.aload_n 0, 1) := by decide +kernel
theorem dX12_take_43 : decode cX12_take 43 = .ok (.getfield 24, 3) := by decide +kernel
theorem dX12_take_46 : decode cX12_take 46 = .ok (.sipush 1600, 3) := by decide +kernel
theorem dX12_take_49 : decode cX12_take 49 = .ok (.aload_n 0, 1) := by decide +kernel
theorem dX12_take_50 : decode cX12_take 50 = .ok (.getfield 107, 3) := by decide +kernel
theorem dX12_take_53 : decode cX12_take 53 = .ok (.aload_n 0, 1) := by decide +kernel
theorem dX12_take_54 : decode cX12_take 54 = .ok (.getfield 328, 3) := by decide +kernel
theorem dX12_take_57 : decode cX12_take 57 = .ok (.iaload, 1) := by decide +kernel
theorem dX12_take_58 : decode cX12_take 58 = .ok (.imul, 1) := by decide +kernel
theorem dX12_take_59 : decode cX12_take 59 = .ok (.aload_n 0, 1) := by decide +kernel
theorem dX12_take_60 : decode cX12_take 60 = .ok (.getfield 110, 3) := by decide +kernel
theorem dX12_take_63 : decode cX12_take 63 = .ok (.aload_n 0, 1) := by decide +kernel
theorem dX12_take_64 : decode cX12_take 64 = .ok (.getfield 328, 3) := by decide +kernel
theorem dX12_take_67 : decode cX12_take 67 = .ok (.iaload, 1) := by decide +kernel
theorem dX12_take_68 : decode cX12_take 68 = .ok (.iadd, 1) := by decide +kernel
theorem dX12_take_69 : decode cX12_take 69 = .ok (.iaload, 1) := by decide +kernel
theorem dX12_take_70 : decode cX12_take 70 = .ok (.aload_n 0, 1) := by decide +kernel
theorem dX12_take_71 : decode cX12_take 71 = .ok (.getfield 113, 3) := by decide +kernel
theorem dX12_take_74 : decode cX12_take 74 = .ok (.aload_n 0, 1) := by decide +kernel
theorem dX12_take_75 : decode cX12_take 75 = .ok (.getfield 328, 3) := by decide +kernel
theorem dX12_take_78 : decode cX12_take 78 = .ok (.iaload, 1) := by decide +kernel
theorem dX12_take_79 : decode cX12_take 79 = .ok (.iadd, 1) := by decide +kernel
theorem dX12_take_80 : decode cX12_take 80 = .ok (.iconst 1, 1) := by decide +kernel
theorem dX12_take_81 : decode cX12_take 81 = .ok (.isub, 1) := by decide +kernel
theorem dX12_take_82 : decode cX12_take 82 = .ok (.baload, 1) := by decide +kernel
theorem dX12_take_83 : decode cX12_take 83 = .ok (.sipush 255, 3) := by decide +kernel
theorem dX12_take_86 : decode cX12_take 86 = .ok (.iand, 1) := by decide +kernel
theorem dX12_take_87 : decode cX12_take 87 = .ok (.ireturn, 1) := by decide +kernel
theorem dX12_told_0 : decode cX12_told 0 = .ok (.aload_n 0, 1) := by decide +kernel
theorem dX12_told_1 : decode cX12_told 1 = .ok (.invokevirtual 262, 3) := by decide +kernel
theorem dX12_told_4 : decode cX12_told 4 = .ok (.ifCond .ne 5, 3) := by decide +kernel
theorem dX12_told_7 : decode cX12_told 7 = .ok (.iconst (-1), 1) := by decide +kernel
theorem dX12_told_8 : decode cX12_told 8 = .ok (.ireturn, 1) := by decide +kernel
theorem dX12_told_9 : decode cX12_told 9 = .ok (.aload_n 0, 1) := by decide +kernel
theorem dX12_told_10 : decode cX12_told 10 = .ok (.invokevirtual 266, 3) := by decide +kernel
theorem dX12_told_13 : decode cX12_told 13 = .ok (.istore_n 1, 1) := by decide +kernel
theorem dX12_told_14 : decode cX12_told 14 = .ok (.iload_n 1, 1) := by decide +kernel
theorem dX12_told_15 : decode cX12_told 15 = .ok (.ifCond .ge 17, 3) := by decide +kernel
theorem dX12_told_18 : decode cX12_told 18 = .ok (.aload_n 0, 1) := by decide +kernel
theorem dX12_told_19 : decode cX12_told 19 = .ok (.iconst 2, 1) := by decide +kernel
theorem dX12_told_20 : decode cX12_told 20 = .ok (.invokevirtual 179, 3) := by decide +kernel
theorem dX12_told_23 : decode cX12_told 23 = .ok (.ifCond .eq 7, 3) := by decide +kernel
theorem dX12_told_30 : decode cX12_told 30 = .ok (.iconst (-1), 1) := by decide +kernel
theorem dX12_told_31 : decode cX12_told 31 = .ok (.ireturn, 1) := by decide +kernel
theorem dX12_told_32 : decode cX12_told 32 = .ok (.iload_n 1, 1) := by decide +kernel
theorem dX12_told_33 : decode cX12_told 33 = .ok (.ireturn, 1) := by decide +kernel
theorem dX12_turns_0 : decode cX12_turns 0 = .ok (.aload_n 0, 1) := by decide +kernel
theorem dX12_turns_1 : decode cX12_turns 1 = .ok (.getfield 325, 3) := by decide +kernel
theorem dX12_turns_4 : decode cX12_turns 4 = .ok (.iconst 1, 1) := by decide +kernel
theorem dX12_turns_5 : decode cX12_turns 5 = .ok (.if_icmp .ge 9, 3) := by decide +kernel
theorem dX12_turns_8 : decode cX12_turns 8 = .ok (.aload_n 0, 1) := by decide +kernel
theorem dX12_turns_9 : decode cX12_turns 9 = .ok (.iconst 2, 1) := by decide +kernel
theorem dX12_turns_10 : decode cX12_turns 10 = .ok (.invokevirtual 346, 3) := by decide +kernel
theorem dX12_turns_13 : decode cX12_turns 13 = .ok (.ireturn, 1) := by decide +kernel
theorem dX12_turns_14 : decode cX12_turns 14 = .ok (.iload_n 1, 1) := by decide +kernel
theorem dX12_turns_15 : decode cX12_turns 15 = .ok (.istore_n 2, 1) := by decide +kernel
theorem dX12_turns_16 : decode cX12_turns 16 = .ok (.iconst 0, 1) := by decide +kernel
theorem dX12_turns_17 : decode cX12_turns 17 = .ok (.istore_n 3, 1) := by decide +kernel
theorem dX12_turns_18 : decode cX12_turns 18 = .ok (.iload_n 3, 1) := by decide +kernel
theorem dX12_turns_19 : decode cX12_turns 19 = .ok (.aload_n 0, 1) := by decide +kernel
theorem dX12_turns_20 : decode cX12_turns 20 = .ok (.getfield 325, 3) := by decide +kernel
theorem dX12_turns_23 : decode cX12_turns 23 = .ok (.if_icmp .ge 56, 3) := by decide +kernel
theorem dX12_turns_26 : decode cX12_turns 26 = .ok (.aload_n 0, 1) := by decide +kernel
theorem dX12_turns_27 : decode cX12_turns 27 = .ok (.iload_n 2, 1) := by decide +kernel
theorem dX12_turns_28 : decode cX12_turns 28 = .ok (.ifCond .eq 12, 3) := by decide +kernel
theorem dX12_turns_31 : decode cX12_turns 31 = .ok (.aload_n 0, 1) := by decide +kernel
theorem dX12_turns_32 : decode cX12_turns 32 = .ok (.getfield 101, 3) := by decide +kernel
theorem dX12_turns_35 : decode cX12_turns 35 = .ok (.iload_n 3, 1) := by decide +kernel
theorem dX12_turns_36 : decode cX12_turns 36 = .ok (.laload, 1) := by decide +kernel
theorem dX12_turns_37 : decode cX12_turns 37 = .ok (.goto 4, 3) := by decide +kernel
theorem dX12_turns_40 : decode cX12_turns 40 = .ok (.lconst 0, 1) := by decide +kernel
theorem dX12_turns_41 : decode cX12_turns 41 = .ok (.iload_n 2, 1) := by decide +kernel
theorem dX12_turns_42 : decode cX12_turns 42 = .ok (.ifCond .eq 7, 3) := by decide +kernel
theorem dX12_turns_45 : decode cX12_turns 45 = .ok (.lconst 0, 1) := by decide +kernel
theorem dX12_turns_46 : decode cX12_turns 46 = .ok (.goto 9, 3) := by decide +kernel
theorem dX12_turns_49 : decode cX12_turns 49 = .ok (.aload_n 0, 1) := by decide +kernel
theorem dX12_turns_50 : decode cX12_turns 50 = .ok (.getfield 101, 3) := by decide +kernel
theorem dX12_turns_53 : decode cX12_turns 53 = .ok (.iload_n 3, 1) := by decide +kernel
theorem dX12_turns_54 : decode cX12_turns 54 = .ok (.laload, 1) := by decide +kernel
theorem dX12_turns_55 : decode cX12_turns 55 = .ok (.invokevirtual 446, 3) := by decide +kernel
theorem dX12_turns_58 : decode cX12_turns 58 = .ok (.ifCond .ne 5, 3) := by decide +kernel
theorem dX12_turns_61 : decode cX12_turns 61 = .ok (.iconst 0, 1) := by decide +kernel
theorem dX12_turns_62 : decode cX12_turns 62 = .ok (.ireturn, 1) := by decide +kernel
theorem dX12_turns_63 : decode cX12_turns 63 = .ok (.iload_n 2, 1) := by decide +kernel
theorem dX12_turns_64 : decode cX12_turns 64 = .ok (.ifCond .ne 7, 3) := by decide +kernel
theorem dX12_turns_67 : decode cX12_turns 67 = .ok (.iconst 1, 1) := by decide +kernel
theorem dX12_turns_68 : decode cX12_turns 68 = .ok (.goto 4, 3) := by decide +kernel
theorem dX12_turns_71 : decode cX12_turns 71 = .ok (.iconst 0, 1) := by decide +kernel
theorem dX12_turns_72 : decode cX12_turns 72 = .ok (.istore_n 2, 1) := by decide +kernel
theorem dX12_turns_73 : decode cX12_turns 73 = .ok (.iinc 3 1, 3) := by decide +kernel
theorem dX12_turns_76 : decode cX12_turns 76 = .ok (.goto (-58), 3) := by decide +kernel
theorem dX12_turns_79 : decode cX12_turns 79 = .ok (.iconst 1, 1) := by decide +kernel
theorem dX12_turns_80 : decode cX12_turns 80 = .ok (.ireturn, 1) := by decide +kernel
theorem dX12_wants_0 : decode cX12_wants 0 = .ok (.aload_n 0, 1) := by decide +kernel
theorem dX12_wants_1 : decode cX12_wants 1 = .ok (.getfield 325, 3) := by decide +kernel
theorem dX12_wants_4 : decode cX12_wants 4 = .ok (.iload_n 1, 1) := by decide +kernel
theorem dX12_wants_5 : decode cX12_wants 5 = .ok (.if_icmp .eq 11, 3) := by decide +kernel
theorem dX12_wants_8 : decode cX12_wants 8 = .ok (.aload_n 0, 1) := by decide +kernel
theorem dX12_wants_9 : decode cX12_wants 9 = .ok (.iconst 2, 1) := by decide +kernel
theorem dX12_wants_10 : decode cX12_wants 10 = .ok (.invokevirtual 346, 3) := by decide +kernel
theorem dX12_wants_13 : decode cX12_wants 13 = .ok (.ifCond .eq 7, 3) := by decide +kernel
theorem dX12_wants_16 : decode cX12_wants 16 = .ok (.iconst 1, 1) := by decide +kernel
theorem dX12_wants_17 : decode cX12_wants 17 = .ok (.goto 4, 3) := by decide +kernel
theorem dX12_wants_20 : decode cX12_wants 20 = .ok (.iconst 0, 1) := by decide +kernel
theorem dX12_wants_21 : decode cX12_wants 21 = .ok (.ireturn, 1) := by decide +kernel
theorem dX12_width_0 : decode cX12_width 0 = .ok (.aload_n 0, 1) := by decide +kernel
theorem dX12_width_1 : decode cX12_width 1 = .ok (.getfield 310, 3) := by decide +kernel
theorem dX12_width_4 : decode cX12_width 4 = .ok (.lreturn, 1) := by decide +kernel
theorem dX12_widthOf_0 : decode cX12_widthOf 0 = .ok (.aload_n 0, 1) := by decide +kernel
theorem dX12_widthOf_1 : decode cX12_widthOf 1 = .ok (.iconst 0, 1) := by decide +kernel
theorem dX12_widthOf_2 : decode cX12_widthOf 2 = .ok (.putfield 375, 3) := by decide +kernel
theorem dX12_widthOf_5 : decode cX12_widthOf 5 = .ok (.aload_n 0, 1) := by decide +kernel
theorem dX12_widthOf_6 : decode cX12_widthOf 6 = .ok (.getfield 313, 3) := by decide +kernel
theorem dX12_widthOf_9 : decode cX12_widthOf 9 = .ok (.ifCond .eq 4, 3) := by decide +kernel
theorem dX12_widthOf_12 : decode cX12_widthOf 12 = .ok (.return_, 1) := by decide +kernel
theorem dX12_widthOf_13 : decode cX12_widthOf 13 = .ok (.aload_n 0, 1) := by decide +kernel
theorem dX12_widthOf_14 : decode cX12_widthOf 14 = .ok (.iconst 1, 1) := by decide +kernel
theorem dX12_widthOf_15 : decode cX12_widthOf 15 = .ok (.putfield 313, 3) := by decide +kernel
theorem dX12_widthOf_18 : decode cX12_widthOf 18 = .ok (.aload_n 0, 1) := by decide +kernel
theorem dX12_widthOf_19 : decode cX12_widthOf 19 = .ok (.iload_n 1, 1) := by decide +kernel
theorem dX12_widthOf_20 : decode cX12_widthOf 20 = .ok (.ifCond .eq 22, 3) := by decide +kernel
theorem dX12_widthOf_23 : decode cX12_widthOf 23 = .ok (.aload_n 0, 1) := by decide +kernel
theorem dX12_widthOf_24 : decode cX12_widthOf 24 = .ok (.getfield 101, 3) := by decide +kernel
theorem dX12_widthOf_27 : decode cX12_widthOf 27 = .ok (.iconst 0, 1) := by decide +kernel
theorem dX12_widthOf_28 : decode cX12_widthOf 28 = .ok (.laload, 1) := by decide +kernel
theorem dX12_widthOf_29 : decode cX12_widthOf 29 = .ok (.aload_n 0, 1) := by decide +kernel
theorem dX12_widthOf_30 : decode cX12_widthOf 30 = .ok (.getfield 168, 3) := by decide +kernel
theorem dX12_widthOf_33 : decode cX12_widthOf 33 = .ok (.i2l, 1) := by decide +kernel
theorem dX12_widthOf_34 : decode cX12_widthOf 34 = .ok (.ldc2_w 361, 3) := by decide +kernel
theorem dX12_widthOf_37 : decode cX12_widthOf 37 = .ok (.lmul, 1) := by decide +kernel
theorem dX12_widthOf_38 : decode cX12_widthOf 38 = .ok (.ladd, 1) := by decide +kernel
theorem dX12_widthOf_39 : decode cX12_widthOf 39 = .ok (.goto 12, 3) := by decide +kernel
theorem dX12_widthOf_42 : decode cX12_widthOf 42 = .ok (.aload_n 0, 1) := by decide +kernel
theorem dX12_widthOf_43 : decode cX12_widthOf 43 = .ok (.getfield 165, 3) := by decide +kernel
theorem dX12_widthOf_46 : decode cX12_widthOf 46 = .ok (.i2l, 1) := by decide +kernel
theorem dX12_widthOf_47 : decode cX12_widthOf 47 = .ok (.ldc2_w 361, 3) := by decide +kernel
theorem dX12_widthOf_50 : decode cX12_widthOf 50 = .ok (.lmul, 1) := by decide +kernel
theorem dX12_widthOf_51 : decode cX12_widthOf 51 = .ok (.putfield 310, 3) := by decide +kernel
theorem dX12_widthOf_54 : decode cX12_widthOf 54 = .ok (.aload_n 0, 1) := by decide +kernel
theorem dX12_widthOf_55 : decode cX12_widthOf 55 = .ok (.iload_n 1, 1) := by decide +kernel
theorem dX12_widthOf_56 : decode cX12_widthOf 56 = .ok (.ifCond .eq 7, 3) := by decide +kernel
theorem dX12_widthOf_59 : decode cX12_widthOf 59 = .ok (.iconst 1, 1) := by decide +kernel
theorem dX12_widthOf_60 : decode cX12_widthOf 60 = .ok (.goto 4, 3) := by decide +kernel
theorem dX12_widthOf_63 : decode cX12_widthOf 63 = .ok (.iconst 0, 1) := by decide +kernel
theorem dX12_widthOf_64 : decode cX12_widthOf 64 = .ok (.putfield 375, 3) := by decide +kernel
theorem dX12_widthOf_67 : decode cX12_widthOf 67 = .ok (.return_, 1) := by decide +kernel
theorem dX12_word_0 : decode cX12_word 0 = .ok (.aload_n 0, 1) := by decide +kernel
theorem dX12_word_1 : decode cX12_word 1 = .ok (.getfield 253, 3) := by decide +kernel
theorem dX12_word_4 : decode cX12_word 4 = .ok (.aload_n 0, 1) := by decide +kernel
theorem dX12_word_5 : decode cX12_word 5 = .ok (.getfield 250, 3) := by decide +kernel
theorem dX12_word_8 : decode cX12_word 8 = .ok (.if_icmp .ge 31, 3) := by decide +kernel
theorem dX12_word_11 : decode cX12_word 11 = .ok (.aload_n 0, 1) := by decide +kernel
theorem dX12_word_12 : decode cX12_word 12 = .ok (.getfield 59, 3) := by decide +kernel
theorem dX12_word_15 : decode cX12_word 15 = .ok (.aload_n 0, 1) := by decide +kernel
theorem dX12_word_16 : decode cX12_word 16 = .ok (.getfield 253, 3) := by decide +kernel
theorem dX12_word_19 : decode cX12_word 19 = .ok (.baload, 1) := by decide +kernel
theorem dX12_word_20 : decode cX12_word 20 = .ok (.invokestatic 243, 3) := by decide +kernel
theorem dX12_word_23 : decode cX12_word 23 = .ok (.ifCond .eq 16, 3) := by decide +kernel
theorem dX12_word_26 : decode cX12_word 26 = .ok (.aload_n 0, 1) := by decide +kernel
theorem dX12_word_27 : decode cX12_word 27 = .ok (.dup, 1) := by decide +kernel
theorem dX12_word_28 : decode cX12_word 28 = .ok (.getfield 253, 3) := by decide +kernel
theorem dX12_word_31 : decode cX12_word 31 = .ok (.iconst 1, 1) := by decide +kernel
theorem dX12_word_32 : decode cX12_word 32 = .ok (.iadd, 1) := by decide +kernel
theorem dX12_word_33 : decode cX12_word 33 = .ok (.putfield 253, 3) := by decide +kernel
theorem dX12_word_36 : decode cX12_word 36 = .ok (.goto (-36), 3) := by decide +kernel
theorem dX12_word_39 : decode cX12_word 39 = .ok (.aload_n 0, 1) := by decide +kernel
theorem dX12_word_40 : decode cX12_word 40 = .ok (.aload_n 0, 1) := by decide +kernel
theorem dX12_word_41 : decode cX12_word 41 = .ok (.getfield 253, 3) := by decide +kernel
theorem dX12_word_44 : decode cX12_word 44 = .ok (.putfield 256, 3) := by decide +kernel
theorem dX12_word_47 : decode cX12_word 47 = .ok (.aload_n 0, 1) := by decide +kernel
theorem dX12_word_48 : decode cX12_word 48 = .ok (.getfield 253, 3) := by decide +kernel
theorem dX12_word_51 : decode cX12_word 51 = .ok (.aload_n 0, 1) := by decide +kernel
theorem dX12_word_52 : decode cX12_word 52 = .ok (.getfield 250, 3) := by decide +kernel
theorem dX12_word_55 : decode cX12_word 55 = .ok (.if_icmp .ge 31, 3) := by decide +kernel
theorem dX12_word_58 : decode cX12_word 58 = .ok (.aload_n 0, 1) := by decide +kernel
theorem dX12_word_59 : decode cX12_word 59 = .ok (.getfield 59, 3) := by decide +kernel
theorem dX12_word_62 : decode cX12_word 62 = .ok (.aload_n 0, 1) := by decide +kernel
theorem dX12_word_63 : decode cX12_word 63 = .ok (.getfield 253, 3) := by decide +kernel
theorem dX12_word_66 : decode cX12_word 66 = .ok (.baload, 1) := by decide +kernel
theorem dX12_word_67 : decode cX12_word 67 = .ok (.invokestatic 243, 3) := by decide +kernel
theorem dX12_word_70 : decode cX12_word 70 = .ok (.ifCond .ne 16, 3) := by decide +kernel
theorem dX12_word_73 : decode cX12_word 73 = .ok (.aload_n 0, 1) := by decide +kernel
theorem dX12_word_74 : decode cX12_word 74 = .ok (.dup, 1) := by decide +kernel
theorem dX12_word_75 : decode cX12_word 75 = .ok (.getfield 253, 3) := by decide +kernel
theorem dX12_word_78 : decode cX12_word 78 = .ok (.iconst 1, 1) := by decide +kernel
theorem dX12_word_79 : decode cX12_word 79 = .ok (.iadd, 1) := by decide +kernel
theorem dX12_word_80 : decode cX12_word 80 = .ok (.putfield 253, 3) := by decide +kernel
theorem dX12_word_83 : decode cX12_word 83 = .ok (.goto (-36), 3) := by decide +kernel
theorem dX12_word_86 : decode cX12_word 86 = .ok (.aload_n 0, 1) := by decide +kernel
theorem dX12_word_87 : decode cX12_word 87 = .ok (.aload_n 0, 1) := by decide +kernel
theorem dX12_word_88 : decode cX12_word 88 = .ok (.getfield 253, 3) := by decide +kernel
theorem dX12_word_91 : decode cX12_word 91 = .ok (.putfield 259, 3) := by decide +kernel
theorem dX12_word_94 : decode cX12_word 94 = .ok (.aload_n 0, 1) := by decide +kernel
theorem dX12_word_95 : decode cX12_word 95 = .ok (.getfield 259, 3) := by decide +kernel
theorem dX12_word_98 : decode cX12_word 98 = .ok (.aload_n 0, 1) := by decide +kernel
theorem dX12_word_99 : decode cX12_word 99 = .ok (.getfield 256, 3) := by decide +kernel
theorem dX12_word_102 : decode cX12_word 102 = .ok (.if_icmp .gt 11, 3) := by decide +kernel
theorem dX12_word_105 : decode cX12_word 105 = .ok (.aload_n 0, 1) := by decide +kernel
theorem dX12_word_106 : decode cX12_word 106 = .ok (.iconst 1, 1) := by decide +kernel
theorem dX12_word_107 : decode cX12_word 107 = .ok (.invokevirtual 179, 3) := by decide +kernel
theorem dX12_word_110 : decode cX12_word 110 = .ok (.ifCond .eq 7, 3) := by decide +kernel
theorem dX12_word_113 : decode cX12_word 113 = .ok (.iconst 1, 1) := by decide +kernel
theorem dX12_word_114 : decode cX12_word 114 = .ok (.goto 4, 3) := by decide +kernel
theorem dX12_word_117 : decode cX12_word 117 = .ok (.iconst 0, 1) := by decide +kernel
theorem dX12_word_118 : decode cX12_word 118 = .ok (.ireturn, 1) := by decide +kernel
