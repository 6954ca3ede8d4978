theorem dX0_init_0 : decode cX0_init 0 = .ok (.aload_n 0, 1) := by decide +kernel
theorem dX0_init_1 : decode cX0_init 1 = .ok (.invokespecial 3, 3) := by decide +kernel
theorem dX0_init_4 : decode cX0_init 4 = .ok (.aload_n 0, 1) := by decide +kernel
theorem dX0_init_5 : decode cX0_init 5 = .ok (.bipush 49, 2) := by decide +kernel
theorem dX0_init_7 : decode cX0_init 7 = .ok (.newarray .int, 2) := by decide +kernel
theorem dX0_init_9 : decode cX0_init 9 = .ok (.putfield 9, 3) := by decide +kernel
theorem dX0_init_12 : decode cX0_init 12 = .ok (.aload_n 0, 1) := by decide +kernel
theorem dX0_init_13 : decode cX0_init 13 = .ok (.iload_n 1, 1) := by decide +kernel
theorem dX0_init_14 : decode cX0_init 14 = .ok (.putfield 15, 3) := by decide +kernel
theorem dX0_init_17 : decode cX0_init 17 = .ok (.aload_n 0, 1) := by decide +kernel
theorem dX0_init_18 : decode cX0_init 18 = .ok (.iload_n 2, 1) := by decide +kernel
theorem dX0_init_19 : decode cX0_init 19 = .ok (.putfield 19, 3) := by decide +kernel
theorem dX0_init_22 : decode cX0_init 22 = .ok (.aload_n 0, 1) := by decide +kernel
theorem dX0_init_23 : decode cX0_init 23 = .ok (.getfield 9, 3) := by decide +kernel
theorem dX0_init_26 : decode cX0_init 26 = .ok (.iconst (-1), 1) := by decide +kernel
theorem dX0_init_27 : decode cX0_init 27 = .ok (.invokestatic 22, 3) := by decide +kernel
theorem dX0_init_30 : decode cX0_init 30 = .ok (.return_, 1) := by decide +kernel
theorem dX0_has_0 : decode cX0_has 0 = .ok (.iload_n 1, 1) := by decide +kernel
theorem dX0_has_1 : decode cX0_has 1 = .ok (.ifCond .lt 27, 3) := by decide +kernel
theorem dX0_has_4 : decode cX0_has 4 = .ok (.iload_n 1, 1) := by decide +kernel
theorem dX0_has_5 : decode cX0_has 5 = .ok (.aload_n 0, 1) := by decide +kernel
theorem dX0_has_6 : decode cX0_has 6 = .ok (.getfield 15, 3) := by decide +kernel
theorem dX0_has_9 : decode cX0_has 9 = .ok (.if_icmp .ge 19, 3) := by decide +kernel
theorem dX0_has_12 : decode cX0_has 12 = .ok (.iload_n 2, 1) := by decide +kernel
theorem dX0_has_13 : decode cX0_has 13 = .ok (.ifCond .lt 15, 3) := by decide +kernel
theorem dX0_has_16 : decode cX0_has 16 = .ok (.iload_n 2, 1) := by decide +kernel
theorem dX0_has_17 : decode cX0_has 17 = .ok (.aload_n 0, 1) := by decide +kernel
theorem dX0_has_18 : decode cX0_has 18 = .ok (.getfield 19, 3) := by decide +kernel
theorem dX0_has_21 : decode cX0_has 21 = .ok (.if_icmp .ge 7, 3) := by decide +kernel
theorem dX0_has_24 : decode cX0_has 24 = .ok (.iconst 1, 1) := by decide +kernel
theorem dX0_has_25 : decode cX0_has 25 = .ok (.goto 4, 3) := by decide +kernel
theorem dX0_has_28 : decode cX0_has 28 = .ok (.iconst 0, 1) := by decide +kernel
theorem dX0_has_29 : decode cX0_has 29 = .ok (.ireturn, 1) := by decide +kernel
theorem dX0_isFull_0 : decode cX0_isFull 0 = .ok (.aload_n 0, 1) := by decide +kernel
theorem dX0_isFull_1 : decode cX0_isFull 1 = .ok (.getfield 28, 3) := by decide +kernel
theorem dX0_isFull_4 : decode cX0_isFull 4 = .ok (.iconst 3, 1) := by decide +kernel
theorem dX0_isFull_5 : decode cX0_isFull 5 = .ok (.if_icmp .lt 7, 3) := by decide +kernel
theorem dX0_isFull_8 : decode cX0_isFull 8 = .ok (.iconst 1, 1) := by decide +kernel
theorem dX0_isFull_9 : decode cX0_isFull 9 = .ok (.goto 4, 3) := by decide +kernel
theorem dX0_isFull_12 : decode cX0_isFull 12 = .ok (.iconst 0, 1) := by decide +kernel
theorem dX0_isFull_13 : decode cX0_isFull 13 = .ok (.ireturn, 1) := by decide +kernel
theorem dX0_isPillar_0 : decode cX0_isPillar 0 = .ok (.aload_n 0, 1) := by decide +kernel
theorem dX0_isPillar_1 : decode cX0_isPillar 1 = .ok (.iload_n 1, 1) := by decide +kernel
theorem dX0_isPillar_2 : decode cX0_isPillar 2 = .ok (.invokevirtual 31, 3) := by decide +kernel
theorem dX0_isPillar_5 : decode cX0_isPillar 5 = .ok (.iconst (-1), 1) := by decide +kernel
theorem dX0_isPillar_6 : decode cX0_isPillar 6 = .ok (.if_icmp .eq 7, 3) := by decide +kernel
theorem dX0_isPillar_9 : decode cX0_isPillar 9 = .ok (.iconst 1, 1) := by decide +kernel
theorem dX0_isPillar_10 : decode cX0_isPillar 10 = .ok (.goto 4, 3) := by decide +kernel
theorem dX0_isPillar_13 : decode cX0_isPillar 13 = .ok (.iconst 0, 1) := by decide +kernel
theorem dX0_isPillar_14 : decode cX0_isPillar 14 = .ok (.ireturn, 1) := by decide +kernel
theorem dX0_setPillar_0 : decode cX0_setPillar 0 = .ok (.aload_n 0, 1) := by decide +kernel
theorem dX0_setPillar_1 : decode cX0_setPillar 1 = .ok (.invokevirtual 35, 3) := by decide +kernel
theorem dX0_setPillar_4 : decode cX0_setPillar 4 = .ok (.ifCond .ne 16, 3) := by decide +kernel
theorem dX0_setPillar_7 : decode cX0_setPillar 7 = .ok (.iload_n 1, 1) := by decide +kernel
theorem dX0_setPillar_8 : decode cX0_setPillar 8 = .ok (.ifCond .lt 12, 3) := by decide +kernel
theorem dX0_setPillar_11 : decode cX0_setPillar 11 = .ok (.iload_n 1, 1) := by decide +kernel
theorem dX0_setPillar_12 : decode cX0_setPillar 12 = .ok (.aload_n 0, 1) := by decide +kernel
theorem dX0_setPillar_13 : decode cX0_setPillar 13 = .ok (.getfield 9, 3) := by decide +kernel
theorem dX0_setPillar_16 : decode cX0_setPillar 16 = .ok (.arraylength, 1) := by decide +kernel
theorem dX0_setPillar_17 : decode cX0_setPillar 17 = .ok (.if_icmp .lt 5, 3) := by decide +kernel
theorem dX0_setPillar_20 : decode cX0_setPillar 20 = .ok (.iconst (-1), 1) := by decide +kernel
theorem dX0_setPillar_21 : decode cX0_setPillar 21 = .ok (.ireturn, 1) := by decide +kernel
theorem dX0_setPillar_22 : decode cX0_setPillar 22 = .ok (.aload_n 0, 1) := by decide +kernel
theorem dX0_setPillar_23 : decode cX0_setPillar 23 = .ok (.getfield 28, 3) := by decide +kernel
theorem dX0_setPillar_26 : decode cX0_setPillar 26 = .ok (.istore_n 2, 1) := by decide +kernel
theorem dX0_setPillar_27 : decode cX0_setPillar 27 = .ok (.aload_n 0, 1) := by decide +kernel
theorem dX0_setPillar_28 : decode cX0_setPillar 28 = .ok (.getfield 9, 3) := by decide +kernel
theorem dX0_setPillar_31 : decode cX0_setPillar 31 = .ok (.iload_n 1, 1) := by decide +kernel
theorem dX0_setPillar_32 : decode cX0_setPillar 32 = .ok (.iload_n 2, 1) := by decide +kernel
theorem dX0_setPillar_33 : decode cX0_setPillar 33 = .ok (.iastore, 1) := by decide +kernel
theorem dX0_setPillar_34 : decode cX0_setPillar 34 = .ok (.aload_n 0, 1) := by decide +kernel
theorem dX0_setPillar_35 : decode cX0_setPillar 35 = .ok (.dup, 1) := by decide +kernel
theorem dX0_setPillar_36 : decode cX0_setPillar 36 = .ok (.getfield 28, 3) := by decide +kernel
theorem dX0_setPillar_39 : decode cX0_setPillar 39 = .ok (.iconst 1, 1) := by decide +kernel
theorem dX0_setPillar_40 : decode cX0_setPillar 40 = .ok (.iadd, 1) := by decide +kernel
theorem dX0_setPillar_41 : decode cX0_setPillar 41 = .ok (.putfield 28, 3) := by decide +kernel
theorem dX0_setPillar_44 : decode cX0_setPillar 44 = .ok (.iload_n 2, 1) := by decide +kernel
theorem dX0_setPillar_45 : decode cX0_setPillar 45 = .ok (.ireturn, 1) := by decide +kernel
theorem dX0_after_0 : decode cX0_after 0 = .ok (.iload_n 1, 1) := by decide +kernel
theorem dX0_after_1 : decode cX0_after 1 = .ok (.invokestatic 39, 3) := by decide +kernel
theorem dX0_after_4 : decode cX0_after 4 = .ok (.invokestatic 42, 3) := by decide +kernel
theorem dX0_after_7 : decode cX0_after 7 = .ok (.istore_n 3, 1) := by decide +kernel
theorem dX0_after_8 : decode cX0_after 8 = .ok (.iload_n 1, 1) := by decide +kernel
theorem dX0_after_9 : decode cX0_after 9 = .ok (.invokestatic 39, 3) := by decide +kernel
theorem dX0_after_12 : decode cX0_after 12 = .ok (.invokestatic 45, 3) := by decide +kernel
theorem dX0_after_15 : decode cX0_after 15 = .ok (.istore 4, 2) := by decide +kernel
theorem dX0_after_17 : decode cX0_after 17 = .ok (.iload_n 2, 1) := by decide +kernel
theorem dX0_after_18 : decode cX0_after 18 = .ok (.tableswitch 102 0 3 #[30, 44, 65, 79], 30) := by decide +kernel
theorem dX0_after_48 : decode cX0_after 48 = .ok (.aload_n 0, 1) := by decide +kernel
theorem dX0_after_49 : decode cX0_after 49 = .ok (.iload_n 3, 1) := by decide +kernel
theorem dX0_after_50 : decode cX0_after 50 = .ok (.iload 4, 2) := by decide +kernel
theorem dX0_after_52 : decode cX0_after 52 = .ok (.iconst 1, 1) := by decide +kernel
theorem dX0_after_53 : decode cX0_after 53 = .ok (.isub, 1) := by decide +kernel
theorem dX0_after_54 : decode cX0_after 54 = .ok (.iload_n 1, 1) := by decide +kernel
theorem dX0_after_55 : decode cX0_after 55 = .ok (.invokestatic 48, 3) := by decide +kernel
theorem dX0_after_58 : decode cX0_after 58 = .ok (.invokevirtual 51, 3) := by decide +kernel
theorem dX0_after_61 : decode cX0_after 61 = .ok (.ireturn, 1) := by decide +kernel
theorem dX0_after_62 : decode cX0_after 62 = .ok (.aload_n 0, 1) := by decide +kernel
theorem dX0_after_63 : decode cX0_after 63 = .ok (.iload_n 3, 1) := by decide +kernel
theorem dX0_after_64 : decode cX0_after 64 = .ok (.iconst 1, 1) := by decide +kernel
theorem dX0_after_65 : decode cX0_after 65 = .ok (.iadd, 1) := by decide +kernel
theorem dX0_after_66 : decode cX0_after 66 = .ok (.iload 4, 2) := by decide +kernel
theorem dX0_after_68 : decode cX0_after 68 = .ok (.aload_n 0, 1) := by decide +kernel
theorem dX0_after_69 : decode cX0_after 69 = .ok (.iload_n 1, 1) := by decide +kernel
theorem dX0_after_70 : decode cX0_after 70 = .ok (.invokestatic 48, 3) := by decide +kernel
theorem dX0_after_73 : decode cX0_after 73 = .ok (.iload_n 3, 1) := by decide +kernel
theorem dX0_after_74 : decode cX0_after 74 = .ok (.iload 4, 2) := by decide +kernel
theorem dX0_after_76 : decode cX0_after 76 = .ok (.invokevirtual 55, 3) := by decide +kernel
theorem dX0_after_79 : decode cX0_after 79 = .ok (.invokevirtual 51, 3) := by decide +kernel
theorem dX0_after_82 : decode cX0_after 82 = .ok (.ireturn, 1) := by decide +kernel
theorem dX0_after_83 : decode cX0_after 83 = .ok (.aload_n 0, 1) := by decide +kernel
theorem dX0_after_84 : decode cX0_after 84 = .ok (.iload_n 3, 1) := by decide +kernel
theorem dX0_after_85 : decode cX0_after 85 = .ok (.iload 4, 2) := by decide +kernel
theorem dX0_after_87 : decode cX0_after 87 = .ok (.iconst 1, 1) := by decide +kernel
theorem dX0_after_88 : decode cX0_after 88 = .ok (.iadd, 1) := by decide +kernel
theorem dX0_after_89 : decode cX0_after 89 = .ok (.iload_n 1, 1) := by decide +kernel
theorem dX0_after_90 : decode cX0_after 90 = .ok (.invokestatic 48, 3) := by decide +kernel
theorem dX0_after_93 : decode cX0_after 93 = .ok (.invokevirtual 51, 3) := by decide +kernel
theorem dX0_after_96 : decode cX0_after 96 = .ok (.ireturn, 1) := by decide +kernel
theorem dX0_after_97 : decode cX0_after 97 = .ok (.aload_n 0, 1) := by decide +kernel
theorem dX0_after_98 : decode cX0_after 98 = .ok (.iload_n 3, 1) := by decide +kernel
theorem dX0_after_99 : decode cX0_after 99 = .ok (.iconst 1, 1) := by decide +kernel
theorem dX0_after_100 : decode cX0_after 100 = .ok (.isub, 1) := by decide +kernel
theorem dX0_after_101 : decode cX0_after 101 = .ok (.iload 4, 2) := by decide +kernel
theorem dX0_after_103 : decode cX0_after 103 = .ok (.aload_n 0, 1) := by decide +kernel
theorem dX0_after_104 : decode cX0_after 104 = .ok (.iload_n 1, 1) := by decide +kernel
theorem dX0_after_105 : decode cX0_after 105 = .ok (.invokestatic 48, 3) := by decide +kernel
theorem dX0_after_108 : decode cX0_after 108 = .ok (.iload_n 3, 1) := by decide +kernel
theorem dX0_after_109 : decode cX0_after 109 = .ok (.iconst 1, 1) := by decide +kernel
theorem dX0_after_110 : decode cX0_after 110 = .ok (.isub, 1) := by decide +kernel
theorem dX0_after_111 : decode cX0_after 111 = .ok (.iload 4, 2) := by decide +kernel
theorem dX0_after_113 : decode cX0_after 113 = .ok (.invokevirtual 58, 3) := by decide +kernel
theorem dX0_after_116 : decode cX0_after 116 = .ok (.invokevirtual 51, 3) := by decide +kernel
theorem dX0_after_119 : decode cX0_after 119 = .ok (.ireturn, 1) := by decide +kernel
theorem dX0_after_120 : decode cX0_after 120 = .ok (.iconst (-1), 1) := by decide +kernel
theorem dX0_after_121 : decode cX0_after 121 = .ok (.ireturn, 1) := by decide +kernel
theorem dX0_placeAt_0 : decode cX0_placeAt 0 = .ok (.iload_n 3, 1) := by decide +kernel
theorem dX0_placeAt_1 : decode cX0_placeAt 1 = .ok (.sipush 343, 3) := by decide +kernel
theorem dX0_placeAt_4 : decode cX0_placeAt 4 = .ok (.if_icmp .ge 24, 3) := by decide +kernel
theorem dX0_placeAt_7 : decode cX0_placeAt 7 = .ok (.aload_n 0, 1) := by decide +kernel
theorem dX0_placeAt_8 : decode cX0_placeAt 8 = .ok (.iload_n 1, 1) := by decide +kernel
theorem dX0_placeAt_9 : decode cX0_placeAt 9 = .ok (.iload_n 2, 1) := by decide +kernel
theorem dX0_placeAt_10 : decode cX0_placeAt 10 = .ok (.invokevirtual 61, 3) := by decide +kernel
theorem dX0_placeAt_13 : decode cX0_placeAt 13 = .ok (.ifCond .eq 15, 3) := by decide +kernel
theorem dX0_placeAt_16 : decode cX0_placeAt 16 = .ok (.aload_n 0, 1) := by decide +kernel
theorem dX0_placeAt_17 : decode cX0_placeAt 17 = .ok (.iload_n 1, 1) := by decide +kernel
theorem dX0_placeAt_18 : decode cX0_placeAt 18 = .ok (.iload_n 2, 1) := by decide +kernel
theorem dX0_placeAt_19 : decode cX0_placeAt 19 = .ok (.invokestatic 65, 3) := by decide +kernel
theorem dX0_placeAt_22 : decode cX0_placeAt 22 = .ok (.invokevirtual 69, 3) := by decide +kernel
theorem dX0_placeAt_25 : decode cX0_placeAt 25 = .ok (.ifCond .eq 5, 3) := by decide +kernel
theorem dX0_placeAt_28 : decode cX0_placeAt 28 = .ok (.iconst (-1), 1) := by decide +kernel
theorem dX0_placeAt_29 : decode cX0_placeAt 29 = .ok (.ireturn, 1) := by decide +kernel
theorem dX0_placeAt_30 : decode cX0_placeAt 30 = .ok (.iload_n 1, 1) := by decide +kernel
theorem dX0_placeAt_31 : decode cX0_placeAt 31 = .ok (.iload_n 2, 1) := by decide +kernel
theorem dX0_placeAt_32 : decode cX0_placeAt 32 = .ok (.invokestatic 65, 3) := by decide +kernel
theorem dX0_placeAt_35 : decode cX0_placeAt 35 = .ok (.iload_n 3, 1) := by decide +kernel
theorem dX0_placeAt_36 : decode cX0_placeAt 36 = .ok (.invokestatic 73, 3) := by decide +kernel
theorem dX0_placeAt_39 : decode cX0_placeAt 39 = .ok (.ireturn, 1) := by decide +kernel
theorem dX0_wordToTheRight_0 : decode cX0_wordToTheRight 0 = .ok (.iload_n 1, 1) := by decide +kernel
theorem dX0_wordToTheRight_1 : decode cX0_wordToTheRight 1 = .ok (.istore 4, 2) := by decide +kernel
theorem dX0_wordToTheRight_3 : decode cX0_wordToTheRight 3 = .ok (.iload_n 3, 1) := by decide +kernel
theorem dX0_wordToTheRight_4 : decode cX0_wordToTheRight 4 = .ok (.iconst 1, 1) := by decide +kernel
theorem dX0_wordToTheRight_5 : decode cX0_wordToTheRight 5 = .ok (.iadd, 1) := by decide +kernel
theorem dX0_wordToTheRight_6 : decode cX0_wordToTheRight 6 = .ok (.istore 5, 2) := by decide +kernel
theorem dX0_wordToTheRight_8 : decode cX0_wordToTheRight 8 = .ok (.iload 5, 2) := by decide +kernel
theorem dX0_wordToTheRight_10 : decode cX0_wordToTheRight 10 = .ok (.aload_n 0, 1) := by decide +kernel
theorem dX0_wordToTheRight_11 : decode cX0_wordToTheRight 11 = .ok (.getfield 19, 3) := by decide +kernel
theorem dX0_wordToTheRight_14 : decode cX0_wordToTheRight 14 = .ok (.if_icmp .ge 38, 3) := by decide +kernel
theorem dX0_wordToTheRight_17 : decode cX0_wordToTheRight 17 = .ok (.aload_n 0, 1) := by decide +kernel
theorem dX0_wordToTheRight_18 : decode cX0_wordToTheRight 18 = .ok (.iload_n 2, 1) := by decide +kernel
theorem dX0_wordToTheRight_19 : decode cX0_wordToTheRight 19 = .ok (.iload 5, 2) := by decide +kernel
theorem dX0_wordToTheRight_21 : decode cX0_wordToTheRight 21 = .ok (.invokestatic 65, 3) := by decide +kernel
theorem dX0_wordToTheRight_24 : decode cX0_wordToTheRight 24 = .ok (.invokevirtual 31, 3) := by decide +kernel
theorem dX0_wordToTheRight_27 : decode cX0_wordToTheRight 27 = .ok (.istore 6, 2) := by decide +kernel
theorem dX0_wordToTheRight_29 : decode cX0_wordToTheRight 29 = .ok (.iload 6, 2) := by decide +kernel
theorem dX0_wordToTheRight_31 : decode cX0_wordToTheRight 31 = .ok (.iconst (-1), 1) := by decide +kernel
theorem dX0_wordToTheRight_32 : decode cX0_wordToTheRight 32 = .ok (.if_icmp .eq 14, 3) := by decide +kernel
theorem dX0_wordToTheRight_35 : decode cX0_wordToTheRight 35 = .ok (.iload 4, 2) := by decide +kernel
theorem dX0_wordToTheRight_37 : decode cX0_wordToTheRight 37 = .ok (.iconst 2, 1) := by decide +kernel
theorem dX0_wordToTheRight_38 : decode cX0_wordToTheRight 38 = .ok (.iload 6, 2) := by decide +kernel
theorem dX0_wordToTheRight_40 : decode cX0_wordToTheRight 40 = .ok (.imul, 1) := by decide +kernel
theorem dX0_wordToTheRight_41 : decode cX0_wordToTheRight 41 = .ok (.invokestatic 76, 3) := by decide +kernel
theorem dX0_wordToTheRight_44 : decode cX0_wordToTheRight 44 = .ok (.istore 4, 2) := by decide +kernel
theorem dX0_wordToTheRight_46 : decode cX0_wordToTheRight 46 = .ok (.iinc 5 1, 3) := by decide +kernel
theorem dX0_wordToTheRight_49 : decode cX0_wordToTheRight 49 = .ok (.goto (-41), 3) := by decide +kernel
theorem dX0_wordToTheRight_52 : decode cX0_wordToTheRight 52 = .ok (.iload 4, 2) := by decide +kernel
theorem dX0_wordToTheRight_54 : decode cX0_wordToTheRight 54 = .ok (.ireturn, 1) := by decide +kernel
theorem dX0_wordToTheLeft_0 : decode cX0_wordToTheLeft 0 = .ok (.iload_n 1, 1) := by decide +kernel
theorem dX0_wordToTheLeft_1 : decode cX0_wordToTheLeft 1 = .ok (.istore 4, 2) := by decide +kernel
theorem dX0_wordToTheLeft_3 : decode cX0_wordToTheLeft 3 = .ok (.aload_n 0, 1) := by decide +kernel
theorem dX0_wordToTheLeft_4 : decode cX0_wordToTheLeft 4 = .ok (.getfield 19, 3) := by decide +kernel
theorem dX0_wordToTheLeft_7 : decode cX0_wordToTheLeft 7 = .ok (.iconst 1, 1) := by decide +kernel
theorem dX0_wordToTheLeft_8 : decode cX0_wordToTheLeft 8 = .ok (.isub, 1) := by decide +kernel
theorem dX0_wordToTheLeft_9 : decode cX0_wordToTheLeft 9 = .ok (.istore 5, 2) := by decide +kernel
theorem dX0_wordToTheLeft_11 : decode cX0_wordToTheLeft 11 = .ok (.iload 5, 2) := by decide +kernel
theorem dX0_wordToTheLeft_13 : decode cX0_wordToTheLeft 13 = .ok (.iload_n 3, 1) := by decide +kernel
theorem dX0_wordToTheLeft_14 : decode cX0_wordToTheLeft 14 = .ok (.if_icmp .le 41, 3) := by decide +kernel
theorem dX0_wordToTheLeft_17 : decode cX0_wordToTheLeft 17 = .ok (.aload_n 0, 1) := by decide +kernel
theorem dX0_wordToTheLeft_18 : decode cX0_wordToTheLeft 18 = .ok (.iload_n 2, 1) := by decide +kernel
theorem dX0_wordToTheLeft_19 : decode cX0_wordToTheLeft 19 = .ok (.iload 5, 2) := by decide +kernel
theorem dX0_wordToTheLeft_21 : decode cX0_wordToTheLeft 21 = .ok (.invokestatic 65, 3) := by decide +kernel
theorem dX0_wordToTheLeft_24 : decode cX0_wordToTheLeft 24 = .ok (.invokevirtual 31, 3) := by decide +kernel
theorem dX0_wordToTheLeft_27 : decode cX0_wordToTheLeft 27 = .ok (.istore 6, 2) := by decide +kernel
theorem dX0_wordToTheLeft_29 : decode cX0_wordToTheLeft 29 = .ok (.iload 6, 2) := by decide +kernel
theorem dX0_wordToTheLeft_31 : decode cX0_wordToTheLeft 31 = .ok (.iconst (-1), 1) := by decide +kernel
theorem dX0_wordToTheLeft_32 : decode cX0_wordToTheLeft 32 = .ok (.if_icmp .eq 17, 3) := by decide +kernel
theorem dX0_wordToTheLeft_35 : decode cX0_wordToTheLeft 35 = .ok (.iload 4, 2) := by decide +kernel
theorem dX0_wordToTheLeft_37 : decode cX0_wordToTheLeft 37 = .ok (.iconst 2, 1) := by decide +kernel
theorem dX0_wordToTheLeft_38 : decode cX0_wordToTheLeft 38 = .ok (.iload 6, 2) := by decide +kernel
theorem dX0_wordToTheLeft_40 : decode cX0_wordToTheLeft 40 = .ok (.imul, 1) := by decide +kernel
theorem dX0_wordToTheLeft_41 : decode cX0_wordToTheLeft 41 = .ok (.invokestatic 79, 3) := by decide +kernel
theorem dX0_wordToTheLeft_44 : decode cX0_wordToTheLeft 44 = .ok (.invokestatic 76, 3) := by decide +kernel
theorem dX0_wordToTheLeft_47 : decode cX0_wordToTheLeft 47 = .ok (.istore 4, 2) := by decide +kernel
theorem dX0_wordToTheLeft_49 : decode cX0_wordToTheLeft 49 = .ok (.iinc 5 (-1), 3) := by decide +kernel
theorem dX0_wordToTheLeft_52 : decode cX0_wordToTheLeft 52 = .ok (.goto (-41), 3) := by decide +kernel
theorem dX0_wordToTheLeft_55 : decode cX0_wordToTheLeft 55 = .ok (.iload 4, 2) := by decide +kernel
theorem dX0_wordToTheLeft_57 : decode cX0_wordToTheLeft 57 = .ok (.ireturn, 1) := by decide +kernel
theorem dX0_pillarNumberOf_0 : decode cX0_pillarNumberOf 0 = .ok (.iload_n 1, 1) := by decide +kernel
theorem dX0_pillarNumberOf_1 : decode cX0_pillarNumberOf 1 = .ok (.ifCond .lt 21, 3) := by decide +kernel
theorem dX0_pillarNumberOf_4 : decode cX0_pillarNumberOf 4 = .ok (.iload_n 1, 1) := by decide +kernel
theorem dX0_pillarNumberOf_5 : decode cX0_pillarNumberOf 5 = .ok (.aload_n 0, 1) := by decide +kernel
theorem dX0_pillarNumberOf_6 : decode cX0_pillarNumberOf 6 = .ok (.getfield 9, 3) := by decide +kernel
theorem dX0_pillarNumberOf_9 : decode cX0_pillarNumberOf 9 = .ok (.arraylength, 1) := by decide +kernel
theorem dX0_pillarNumberOf_10 : decode cX0_pillarNumberOf 10 = .ok (.if_icmp .ge 12, 3) := by decide +kernel
theorem dX0_pillarNumberOf_13 : decode cX0_pillarNumberOf 13 = .ok (.aload_n 0, 1) := by decide +kernel
theorem dX0_pillarNumberOf_14 : decode cX0_pillarNumberOf 14 = .ok (.getfield 9, 3) := by decide +kernel
theorem dX0_pillarNumberOf_17 : decode cX0_pillarNumberOf 17 = .ok (.iload_n 1, 1) := by decide +kernel
theorem dX0_pillarNumberOf_18 : decode cX0_pillarNumberOf 18 = .ok (.iaload, 1) := by decide +kernel
theorem dX0_pillarNumberOf_19 : decode cX0_pillarNumberOf 19 = .ok (.goto 4, 3) := by decide +kernel
theorem dX0_pillarNumberOf_22 : decode cX0_pillarNumberOf 22 = .ok (.iconst (-1), 1) := by decide +kernel
theorem dX0_pillarNumberOf_23 : decode cX0_pillarNumberOf 23 = .ok (.ireturn, 1) := by decide +kernel
theorem dX1_init_0 : decode cX1_init 0 = .ok (.aload_n 0, 1) := by decide +kernel
theorem dX1_init_1 : decode cX1_init 1 = .ok (.invokespecial 3, 3) := by decide +kernel
theorem dX1_init_4 : decode cX1_init 4 = .ok (.aload_n 0, 1) := by decide +kernel
theorem dX1_init_5 : decode cX1_init 5 = .ok (.sipush 16807, 3) := by decide +kernel
theorem dX1_init_8 : decode cX1_init 8 = .ok (.newarray .int, 2) := by decide +kernel
theorem dX1_init_10 : decode cX1_init 10 = .ok (.putfield 9, 3) := by decide +kernel
theorem dX1_init_13 : decode cX1_init 13 = .ok (.aload_n 0, 1) := by decide +kernel
theorem dX1_init_14 : decode cX1_init 14 = .ok (.sipush 9163, 3) := by decide +kernel
theorem dX1_init_17 : decode cX1_init 17 = .ok (.newarray .int, 2) := by decide +kernel
theorem dX1_init_19 : decode cX1_init 19 = .ok (.putfield 15, 3) := by decide +kernel
theorem dX1_init_22 : decode cX1_init 22 = .ok (.return_, 1) := by decide +kernel
theorem dX1_begin_0 : decode cX1_begin 0 = .ok (.aload_n 0, 1) := by decide +kernel
theorem dX1_begin_1 : decode cX1_begin 1 = .ok (.getfield 9, 3) := by decide +kernel
theorem dX1_begin_4 : decode cX1_begin 4 = .ok (.iconst (-1), 1) := by decide +kernel
theorem dX1_begin_5 : decode cX1_begin 5 = .ok (.invokestatic 18, 3) := by decide +kernel
theorem dX1_begin_8 : decode cX1_begin 8 = .ok (.aload_n 0, 1) := by decide +kernel
theorem dX1_begin_9 : decode cX1_begin 9 = .ok (.iconst 0, 1) := by decide +kernel
theorem dX1_begin_10 : decode cX1_begin 10 = .ok (.putfield 24, 3) := by decide +kernel
theorem dX1_begin_13 : decode cX1_begin 13 = .ok (.aload_n 0, 1) := by decide +kernel
theorem dX1_begin_14 : decode cX1_begin 14 = .ok (.iload_n 1, 1) := by decide +kernel
theorem dX1_begin_15 : decode cX1_begin 15 = .ok (.iconst 0, 1) := by decide +kernel
theorem dX1_begin_16 : decode cX1_begin 16 = .ok (.invokevirtual 28, 3) := by decide +kernel
theorem dX1_begin_19 : decode cX1_begin 19 = .ok (.return_, 1) := by decide +kernel
theorem dX1_reach_0 : decode cX1_reach 0 = .ok (.aload_n 0, 1) := by decide +kernel
theorem dX1_reach_1 : decode cX1_reach 1 = .ok (.iload_n 1, 1) := by decide +kernel
theorem dX1_reach_2 : decode cX1_reach 2 = .ok (.invokevirtual 32, 3) := by decide +kernel
theorem dX1_reach_5 : decode cX1_reach 5 = .ok (.iconst (-1), 1) := by decide +kernel
theorem dX1_reach_6 : decode cX1_reach 6 = .ok (.if_icmp .ne 15, 3) := by decide +kernel
theorem dX1_reach_9 : decode cX1_reach 9 = .ok (.aload_n 0, 1) := by decide +kernel
theorem dX1_reach_10 : decode cX1_reach 10 = .ok (.iload_n 1, 1) := by decide +kernel
theorem dX1_reach_11 : decode cX1_reach 11 = .ok (.aload_n 0, 1) := by decide +kernel
theorem dX1_reach_12 : decode cX1_reach 12 = .ok (.iload_n 2, 1) := by decide +kernel
theorem dX1_reach_13 : decode cX1_reach 13 = .ok (.invokevirtual 32, 3) := by decide +kernel
theorem dX1_reach_16 : decode cX1_reach 16 = .ok (.iconst 1, 1) := by decide +kernel
theorem dX1_reach_17 : decode cX1_reach 17 = .ok (.iadd, 1) := by decide +kernel
theorem dX1_reach_18 : decode cX1_reach 18 = .ok (.invokevirtual 28, 3) := by decide +kernel
theorem dX1_reach_21 : decode cX1_reach 21 = .ok (.return_, 1) := by decide +kernel
theorem dX1_count_0 : decode cX1_count 0 = .ok (.aload_n 0, 1) := by decide +kernel
theorem dX1_count_1 : decode cX1_count 1 = .ok (.getfield 24, 3) := by decide +kernel
theorem dX1_count_4 : decode cX1_count 4 = .ok (.ireturn, 1) := by decide +kernel
theorem dX1_placeAt_0 : decode cX1_placeAt 0 = .ok (.iload_n 1, 1) := by decide +kernel
theorem dX1_placeAt_1 : decode cX1_placeAt 1 = .ok (.ifCond .lt 29, 3) := by decide +kernel
theorem dX1_placeAt_4 : decode cX1_placeAt 4 = .ok (.iload_n 1, 1) := by decide +kernel
theorem dX1_placeAt_5 : decode cX1_placeAt 5 = .ok (.aload_n 0, 1) := by decide +kernel
theorem dX1_placeAt_6 : decode cX1_placeAt 6 = .ok (.getfield 24, 3) := by decide +kernel
theorem dX1_placeAt_9 : decode cX1_placeAt 9 = .ok (.if_icmp .ge 21, 3) := by decide +kernel
theorem dX1_placeAt_12 : decode cX1_placeAt 12 = .ok (.iload_n 1, 1) := by decide +kernel
theorem dX1_placeAt_13 : decode cX1_placeAt 13 = .ok (.aload_n 0, 1) := by decide +kernel
theorem dX1_placeAt_14 : decode cX1_placeAt 14 = .ok (.getfield 15, 3) := by decide +kernel
theorem dX1_placeAt_17 : decode cX1_placeAt 17 = .ok (.arraylength, 1) := by decide +kernel
theorem dX1_placeAt_18 : decode cX1_placeAt 18 = .ok (.if_icmp .ge 12, 3) := by decide +kernel
theorem dX1_placeAt_21 : decode cX1_placeAt 21 = .ok (.aload_n 0, 1) := by decide +kernel
theorem dX1_placeAt_22 : decode cX1_placeAt 22 = .ok (.getfield 15, 3) := by decide +kernel
theorem dX1_placeAt_25 : decode cX1_placeAt 25 = .ok (.iload_n 1, 1) := by decide +kernel
theorem dX1_placeAt_26 : decode cX1_placeAt 26 = .ok (.iaload, 1) := by decide +kernel
theorem dX1_placeAt_27 : decode cX1_placeAt 27 = .ok (.goto 4, 3) := by decide +kernel
theorem dX1_placeAt_30 : decode cX1_placeAt 30 = .ok (.iconst (-1), 1) := by decide +kernel
theorem dX1_placeAt_31 : decode cX1_placeAt 31 = .ok (.ireturn, 1) := by decide +kernel
theorem dX1_distanceOf_0 : decode cX1_distanceOf 0 = .ok (.iload_n 1, 1) := by decide +kernel
theorem dX1_distanceOf_1 : decode cX1_distanceOf 1 = .ok (.ifCond .lt 21, 3) := by decide +kernel
theorem dX1_distanceOf_4 : decode cX1_distanceOf 4 = .ok (.iload_n 1, 1) := by decide +kernel
theorem dX1_distanceOf_5 : decode cX1_distanceOf 5 = .ok (.aload_n 0, 1) := by decide +kernel
theorem dX1_distanceOf_6 : decode cX1_distanceOf 6 = .ok (.getfield 9, 3) := by decide +kernel
theorem dX1_distanceOf_9 : decode cX1_distanceOf 9 = .ok (.arraylength, 1) := by decide +kernel
theorem dX1_distanceOf_10 : decode cX1_distanceOf 10 = .ok (.if_icmp .ge 12, 3) := by decide +kernel
theorem dX1_distanceOf_13 : decode cX1_distanceOf 13 = .ok (.aload_n 0, 1) := by decide +kernel
theorem dX1_distanceOf_14 : decode cX1_distanceOf 14 = .ok (.getfield 9, 3) := by decide +kernel
theorem dX1_distanceOf_17 : decode cX1_distanceOf 17 = .ok (.iload_n 1, 1) := by decide +kernel
theorem dX1_distanceOf_18 : decode cX1_distanceOf 18 = .ok (.iaload, 1) := by decide +kernel
theorem dX1_distanceOf_19 : decode cX1_distanceOf 19 = .ok (.goto 4, 3) := by decide +kernel
theorem dX1_distanceOf_22 : decode cX1_distanceOf 22 = .ok (.iconst (-1), 1) := by decide +kernel
theorem dX1_distanceOf_23 : decode cX1_distanceOf 23 = .ok (.ireturn, 1) := by decide +kernel
theorem dX1_add_0 : decode cX1_add 0 = .ok (.iload_n 1, 1) := by decide +kernel
theorem dX1_add_1 : decode cX1_add 1 = .ok (.ifCond .lt 58, 3) := by decide +kernel
theorem dX1_add_4 : decode cX1_add 4 = .ok (.iload_n 1, 1) := by decide +kernel
theorem dX1_add_5 : decode cX1_add 5 = .ok (.aload_n 0, 1) := by decide +kernel
theorem dX1_add_6 : decode cX1_add 6 = .ok (.getfield 9, 3) := by decide +kernel
theorem dX1_add_9 : decode cX1_add 9 = .ok (.arraylength, 1) := by decide +kernel
theorem dX1_add_10 : decode cX1_add 10 = .ok (.if_icmp .ge 49, 3) := by decide +kernel
theorem dX1_add_13 : decode cX1_add 13 = .ok (.aload_n 0, 1) := by decide +kernel
theorem dX1_add_14 : decode cX1_add 14 = .ok (.getfield 24, 3) := by decide +kernel
theorem dX1_add_17 : decode cX1_add 17 = .ok (.ifCond .lt 42, 3) := by decide +kernel
theorem dX1_add_20 : decode cX1_add 20 = .ok (.aload_n 0, 1) := by decide +kernel
theorem dX1_add_21 : decode cX1_add 21 = .ok (.getfield 24, 3) := by decide +kernel
theorem dX1_add_24 : decode cX1_add 24 = .ok (.aload_n 0, 1) := by decide +kernel
theorem dX1_add_25 : decode cX1_add 25 = .ok (.getfield 15, 3) := by decide +kernel
theorem dX1_add_28 : decode cX1_add 28 = .ok (.arraylength, 1) := by decide +kernel
theorem dX1_add_29 : decode cX1_add 29 = .ok (.if_icmp .ge 30, 3) := by decide +kernel
theorem dX1_add_32 : decode cX1_add 32 = .ok (.aload_n 0, 1) := by decide +kernel
theorem dX1_add_33 : decode cX1_add 33 = .ok (.getfield 9, 3) := by decide +kernel
theorem dX1_add_36 : decode cX1_add 36 = .ok (.iload_n 1, 1) := by decide +kernel
theorem dX1_add_37 : decode cX1_add 37 = .ok (.iload_n 2, 1) := by decide +kernel
theorem dX1_add_38 : decode cX1_add 38 = .ok (.iastore, 1) := by decide +kernel
theorem dX1_add_39 : decode cX1_add 39 = .ok (.aload_n 0, 1) := by decide +kernel
theorem dX1_add_40 : decode cX1_add 40 = .ok (.getfield 15, 3) := by decide +kernel
theorem dX1_add_43 : decode cX1_add 43 = .ok (.aload_n 0, 1) := by decide +kernel
theorem dX1_add_44 : decode cX1_add 44 = .ok (.getfield 24, 3) := by decide +kernel
theorem dX1_add_47 : decode cX1_add 47 = .ok (.iload_n 1, 1) := by decide +kernel
theorem dX1_add_48 : decode cX1_add 48 = .ok (.iastore, 1) := by decide +kernel
theorem dX1_add_49 : decode cX1_add 49 = .ok (.aload_n 0, 1) := by decide +kernel
theorem dX1_add_50 : decode cX1_add 50 = .ok (.dup, 1) := by decide +kernel
theorem dX1_add_51 : decode cX1_add 51 = .ok (.getfield 24, 3) := by decide +kernel
theorem dX1_add_54 : decode cX1_add 54 = .ok (.iconst 1, 1) := by decide +kernel
theorem dX1_add_55 : decode cX1_add 55 = .ok (.iadd, 1) := by decide +kernel
theorem dX1_add_56 : decode cX1_add 56 = .ok (.putfield 24, 3) := by decide +kernel
theorem dX1_add_59 : decode cX1_add 59 = .ok (.return_, 1) := by decide +kernel
theorem dX2_init_0 : decode cX2_init 0 = .ok (.aload_n 0, 1) := by decide +kernel
theorem dX2_init_1 : decode cX2_init 1 = .ok (.invokespecial 3, 3) := by decide +kernel
theorem dX2_init_4 : decode cX2_init 4 = .ok (.aload_n 0, 1) := by decide +kernel
theorem dX2_init_5 : decode cX2_init 5 = .ok (.new 9, 3) := by decide +kernel
theorem dX2_init_8 : decode cX2_init 8 = .ok (.dup, 1) := by decide +kernel
theorem dX2_init_9 : decode cX2_init 9 = .ok (.invokespecial 11, 3) := by decide +kernel
theorem dX2_init_12 : decode cX2_init 12 = .ok (.putfield 12, 3) := by decide +kernel
theorem dX2_init_15 : decode cX2_init 15 = .ok (.aload_n 0, 1) := by decide +kernel
theorem dX2_init_16 : decode cX2_init 16 = .ok (.new 9, 3) := by decide +kernel
theorem dX2_init_19 : decode cX2_init 19 = .ok (.dup, 1) := by decide +kernel
theorem dX2_init_20 : decode cX2_init 20 = .ok (.invokespecial 11, 3) := by decide +kernel
theorem dX2_init_23 : decode cX2_init 23 = .ok (.putfield 16, 3) := by decide +kernel
theorem dX2_init_26 : decode cX2_init 26 = .ok (.aload_n 0, 1) := by decide +kernel
theorem dX2_init_27 : decode cX2_init 27 = .ok (.new 19, 3) := by decide +kernel
theorem dX2_init_30 : decode cX2_init 30 = .ok (.dup, 1) := by decide +kernel
theorem dX2_init_31 : decode cX2_init 31 = .ok (.iconst 3, 1) := by decide +kernel
theorem dX2_init_32 : decode cX2_init 32 = .ok (.iload_n 1, 1) := by decide +kernel
theorem dX2_init_33 : decode cX2_init 33 = .ok (.bipush 7, 2) := by decide +kernel
theorem dX2_init_35 : decode cX2_init 35 = .ok (.invokestatic 21, 3) := by decide +kernel
theorem dX2_init_38 : decode cX2_init 38 = .ok (.iconst 3, 1) := by decide +kernel
theorem dX2_init_39 : decode cX2_init 39 = .ok (.iload_n 2, 1) := by decide +kernel
theorem dX2_init_40 : decode cX2_init 40 = .ok (.bipush 7, 2) := by decide +kernel
theorem dX2_init_42 : decode cX2_init 42 = .ok (.invokestatic 21, 3) := by decide +kernel
theorem dX2_init_45 : decode cX2_init 45 = .ok (.invokespecial 25, 3) := by decide +kernel
theorem dX2_init_48 : decode cX2_init 48 = .ok (.putfield 28, 3) := by decide +kernel
theorem dX2_init_51 : decode cX2_init 51 = .ok (.aload_n 0, 1) := by decide +kernel
theorem dX2_init_52 : decode cX2_init 52 = .ok (.iconst 1, 1) := by decide +kernel
theorem dX2_init_53 : decode cX2_init 53 = .ok (.iload_n 3, 1) := by decide +kernel
theorem dX2_init_54 : decode cX2_init 54 = .ok (.bipush 60, 2) := by decide +kernel
theorem dX2_init_56 : decode cX2_init 56 = .ok (.invokestatic 21, 3) := by decide +kernel
theorem dX2_init_59 : decode cX2_init 59 = .ok (.putfield 32, 3) := by decide +kernel
theorem dX2_init_62 : decode cX2_init 62 = .ok (.aload_n 0, 1) := by decide +kernel
theorem dX2_init_63 : decode cX2_init 63 = .ok (.iconst 0, 1) := by decide +kernel
theorem dX2_init_64 : decode cX2_init 64 = .ok (.iconst 0, 1) := by decide +kernel
theorem dX2_init_65 : decode cX2_init 65 = .ok (.invokestatic 36, 3) := by decide +kernel
theorem dX2_init_68 : decode cX2_init 68 = .ok (.putfield 40, 3) := by decide +kernel
theorem dX2_init_71 : decode cX2_init 71 = .ok (.aload_n 0, 1) := by decide +kernel
theorem dX2_init_72 : decode cX2_init 72 = .ok (.aload_n 0, 1) := by decide +kernel
theorem dX2_init_73 : decode cX2_init 73 = .ok (.getfield 40, 3) := by decide +kernel
theorem dX2_init_76 : decode cX2_init 76 = .ok (.iconst 0, 1) := by decide +kernel
theorem dX2_init_77 : decode cX2_init 77 = .ok (.invokestatic 43, 3) := by decide +kernel
theorem dX2_init_80 : decode cX2_init 80 = .ok (.putfield 46, 3) := by decide +kernel
theorem dX2_init_83 : decode cX2_init 83 = .ok (.aload_n 0, 1) := by decide +kernel
theorem dX2_init_84 : decode cX2_init 84 = .ok (.invokevirtual 49, 3) := by decide +kernel
theorem dX2_init_87 : decode cX2_init 87 = .ok (.return_, 1) := by decide +kernel
theorem dX2_pillar_0 : decode cX2_pillar 0 = .ok (.aload_n 0, 1) := by decide +kernel
theorem dX2_pillar_1 : decode cX2_pillar 1 = .ok (.iload_n 1, 1) := by decide +kernel
theorem dX2_pillar_2 : decode cX2_pillar 2 = .ok (.iload_n 2, 1) := by decide +kernel
theorem dX2_pillar_3 : decode cX2_pillar 3 = .ok (.invokevirtual 52, 3) := by decide +kernel
theorem dX2_pillar_6 : decode cX2_pillar 6 = .ok (.iload_n 1, 1) := by decide +kernel
theorem dX2_pillar_7 : decode cX2_pillar 7 = .ok (.iload_n 2, 1) := by decide +kernel
theorem dX2_pillar_8 : decode cX2_pillar 8 = .ok (.invokestatic 36, 3) := by decide +kernel
theorem dX2_pillar_11 : decode cX2_pillar 11 = .ok (.istore_n 3, 1) := by decide +kernel
theorem dX2_pillar_12 : decode cX2_pillar 12 = .ok (.aload_n 0, 1) := by decide +kernel
theorem dX2_pillar_13 : decode cX2_pillar 13 = .ok (.getfield 46, 3) := by decide +kernel
theorem dX2_pillar_16 : decode cX2_pillar 16 = .ok (.aload_n 0, 1) := by decide +kernel
theorem dX2_pillar_17 : decode cX2_pillar 17 = .ok (.getfield 40, 3) := by decide +kernel
theorem dX2_pillar_20 : decode cX2_pillar 20 = .ok (.iconst 0, 1) := by decide +kernel
theorem dX2_pillar_21 : decode cX2_pillar 21 = .ok (.invokestatic 43, 3) := by decide +kernel
theorem dX2_pillar_24 : decode cX2_pillar 24 = .ok (.if_icmp .eq 7, 3) := by decide +kernel
theorem dX2_pillar_27 : decode cX2_pillar 27 = .ok (.iconst 1, 1) := by decide +kernel
theorem dX2_pillar_28 : decode cX2_pillar 28 = .ok (.goto 4, 3) := by decide +kernel
theorem dX2_pillar_31 : decode cX2_pillar 31 = .ok (.iconst 0, 1) := by decide +kernel
theorem dX2_pillar_32 : decode cX2_pillar 32 = .ok (.istore 4, 2) := by decide +kernel
theorem dX2_pillar_34 : decode cX2_pillar 34 = .ok (.iload 4, 2) := by decide +kernel
theorem dX2_pillar_36 : decode cX2_pillar 36 = .ok (.ifCond .ne 32, 3) := by decide +kernel
theorem dX2_pillar_39 : decode cX2_pillar 39 = .ok (.iload_n 3, 1) := by decide +kernel
theorem dX2_pillar_40 : decode cX2_pillar 40 = .ok (.aload_n 0, 1) := by decide +kernel
theorem dX2_pillar_41 : decode cX2_pillar 41 = .ok (.getfield 40, 3) := by decide +kernel
theorem dX2_pillar_44 : decode cX2_pillar 44 = .ok (.if_icmp .eq 24, 3) := by decide +kernel
theorem dX2_pillar_47 : decode cX2_pillar 47 = .ok (.aload_n 0, 1) := by decide +kernel
theorem dX2_pillar_48 : decode cX2_pillar 48 = .ok (.getfield 28, 3) := by decide +kernel
theorem dX2_pillar_51 : decode cX2_pillar 51 = .ok (.invokevirtual 55, 3) := by decide +kernel
theorem dX2_pillar_54 : decode cX2_pillar 54 = .ok (.ifCond .ne 14, 3) := by decide +kernel
theorem dX2_pillar_57 : decode cX2_pillar 57 = .ok (.aload_n 0, 1) := by decide +kernel
theorem dX2_pillar_58 : decode cX2_pillar 58 = .ok (.getfield 28, 3) := by decide +kernel
theorem dX2_pillar_61 : decode cX2_pillar 61 = .ok (.iload_n 3, 1) := by decide +kernel
theorem dX2_pillar_62 : decode cX2_pillar 62 = .ok (.invokevirtual 59, 3) := by decide +kernel
theorem dX2_pillar_65 : decode cX2_pillar 65 = .ok (.ifCond .eq 13, 3) := by decide +kernel
theorem dX2_pillar_68 : decode cX2_pillar 68 = .ok (.new 63, 3) := by decide +kernel
theorem dX2_pillar_71 : decode cX2_pillar 71 = .ok (.dup, 1) := by decide +kernel
theorem dX2_pillar_72 : decode cX2_pillar 72 = .ok (.ldc 65, 2) := by decide +kernel
theorem dX2_pillar_74 : decode cX2_pillar 74 = .ok (.invokespecial 67, 3) := by decide +kernel
theorem dX2_pillar_77 : decode cX2_pillar 77 = .ok (.athrow, 1) := by decide +kernel
theorem dX2_pillar_78 : decode cX2_pillar 78 = .ok (.aload_n 0, 1) := by decide +kernel
theorem dX2_pillar_79 : decode cX2_pillar 79 = .ok (.getfield 28, 3) := by decide +kernel
theorem dX2_pillar_82 : decode cX2_pillar 82 = .ok (.iload_n 3, 1) := by decide +kernel
theorem dX2_pillar_83 : decode cX2_pillar 83 = .ok (.invokevirtual 70, 3) := by decide +kernel
theorem dX2_pillar_86 : decode cX2_pillar 86 = .ok (.istore 5, 2) := by decide +kernel
theorem dX2_pillar_88 : decode cX2_pillar 88 = .ok (.aload_n 0, 1) := by decide +kernel
theorem dX2_pillar_89 : decode cX2_pillar 89 = .ok (.invokevirtual 49, 3) := by decide +kernel
theorem dX2_pillar_92 : decode cX2_pillar 92 = .ok (.iload 5, 2) := by decide +kernel
theorem dX2_pillar_94 : decode cX2_pillar 94 = .ok (.ireturn, 1) := by decide +kernel
theorem dX2_base_0 : decode cX2_base 0 = .ok (.aload_n 0, 1) := by decide +kernel
theorem dX2_base_1 : decode cX2_base 1 = .ok (.iload_n 1, 1) := by decide +kernel
theorem dX2_base_2 : decode cX2_base 2 = .ok (.iload_n 2, 1) := by decide +kernel
theorem dX2_base_3 : decode cX2_base 3 = .ok (.invokevirtual 52, 3) := by decide +kernel
theorem dX2_base_6 : decode cX2_base 6 = .ok (.iload_n 1, 1) := by decide +kernel
theorem dX2_base_7 : decode cX2_base 7 = .ok (.iload_n 2, 1) := by decide +kernel
theorem dX2_base_8 : decode cX2_base 8 = .ok (.invokestatic 36, 3) := by decide +kernel
theorem dX2_base_11 : decode cX2_base 11 = .ok (.istore_n 3, 1) := by decide +kernel
theorem dX2_base_12 : decode cX2_base 12 = .ok (.aload_n 0, 1) := by decide +kernel
theorem dX2_base_13 : decode cX2_base 13 = .ok (.getfield 28, 3) := by decide +kernel
theorem dX2_base_16 : decode cX2_base 16 = .ok (.iload_n 3, 1) := by decide +kernel
theorem dX2_base_17 : decode cX2_base 17 = .ok (.invokevirtual 59, 3) := by decide +kernel
theorem dX2_base_20 : decode cX2_base 20 = .ok (.ifCond .eq 13, 3) := by decide +kernel
theorem dX2_base_23 : decode cX2_base 23 = .ok (.new 63, 3) := by decide +kernel
theorem dX2_base_26 : decode cX2_base 26 = .ok (.dup, 1) := by decide +kernel
theorem dX2_base_27 : decode cX2_base 27 = .ok (.ldc 74, 2) := by decide +kernel
theorem dX2_base_29 : decode cX2_base 29 = .ok (.invokespecial 67, 3) := by decide +kernel
theorem dX2_base_32 : decode cX2_base 32 = .ok (.athrow, 1) := by decide +kernel
theorem dX2_base_33 : decode cX2_base 33 = .ok (.aload_n 0, 1) := by decide +kernel
theorem dX2_base_34 : decode cX2_base 34 = .ok (.iload_n 3, 1) := by decide +kernel
theorem dX2_base_35 : decode cX2_base 35 = .ok (.putfield 40, 3) := by decide +kernel
theorem dX2_base_38 : decode cX2_base 38 = .ok (.aload_n 0, 1) := by decide +kernel
theorem dX2_base_39 : decode cX2_base 39 = .ok (.aload_n 0, 1) := by decide +kernel
theorem dX2_base_40 : decode cX2_base 40 = .ok (.getfield 40, 3) := by decide +kernel
theorem dX2_base_43 : decode cX2_base 43 = .ok (.iconst 0, 1) := by decide +kernel
theorem dX2_base_44 : decode cX2_base 44 = .ok (.invokestatic 43, 3) := by decide +kernel
theorem dX2_base_47 : decode cX2_base 47 = .ok (.putfield 46, 3) := by decide +kernel
theorem dX2_base_50 : decode cX2_base 50 = .ok (.aload_n 0, 1) := by decide +kernel
theorem dX2_base_51 : decode cX2_base 51 = .ok (.iconst 0, 1) := by decide +kernel
theorem dX2_base_52 : decode cX2_base 52 = .ok (.putfield 76, 3) := by decide +kernel
theorem dX2_base_55 : decode cX2_base 55 = .ok (.aload_n 0, 1) := by decide +kernel
theorem dX2_base_56 : decode cX2_base 56 = .ok (.invokevirtual 49, 3) := by decide +kernel
theorem dX2_base_59 : decode cX2_base 59 = .ok (.return_, 1) := by decide +kernel
theorem dX2_step_0 : decode cX2_step 0 = .ok (.iload_n 1, 1) := by decide +kernel
theorem dX2_step_1 : decode cX2_step 1 = .ok (.ifCond .lt 8, 3) := by decide +kernel
theorem dX2_step_4 : decode cX2_step 4 = .ok (.iload_n 1, 1) := by decide +kernel
theorem dX2_step_5 : decode cX2_step 5 = .ok (.iconst 4, 1) := by decide +kernel
theorem dX2_step_6 : decode cX2_step 6 = .ok (.if_icmp .lt 13, 3) := by decide +kernel
theorem dX2_step_9 : decode cX2_step 9 = .ok (.new 79, 3) := by decide +kernel
theorem dX2_step_12 : decode cX2_step 12 = .ok (.dup, 1) := by decide +kernel
theorem dX2_step_13 : decode cX2_step 13 = .ok (.ldc 81, 2) := by decide +kernel
theorem dX2_step_15 : decode cX2_step 15 = .ok (.invokespecial 83, 3) := by decide +kernel
theorem dX2_step_18 : decode cX2_step 18 = .ok (.athrow, 1) := by decide +kernel
theorem dX2_step_19 : decode cX2_step 19 = .ok (.aload_n 0, 1) := by decide +kernel
theorem dX2_step_20 : decode cX2_step 20 = .ok (.aload_n 0, 1) := by decide +kernel
theorem dX2_step_21 : decode cX2_step 21 = .ok (.getfield 46, 3) := by decide +kernel
theorem dX2_step_24 : decode cX2_step 24 = .ok (.iload_n 1, 1) := by decide +kernel
theorem dX2_step_25 : decode cX2_step 25 = .ok (.invokevirtual 84, 3) := by decide +kernel
theorem dX2_step_28 : decode cX2_step 28 = .ok (.istore_n 2, 1) := by decide +kernel
theorem dX2_step_29 : decode cX2_step 29 = .ok (.iload_n 2, 1) := by decide +kernel
theorem dX2_step_30 : decode cX2_step 30 = .ok (.iconst (-1), 1) := by decide +kernel
theorem dX2_step_31 : decode cX2_step 31 = .ok (.if_icmp .ne 13, 3) := by decide +kernel
theorem dX2_step_34 : decode cX2_step 34 = .ok (.new 63, 3) := by decide +kernel
theorem dX2_step_37 : decode cX2_step 37 = .ok (.dup, 1) := by decide +kernel
theorem dX2_step_38 : decode cX2_step 38 = .ok (.ldc 87, 2) := by decide +kernel
theorem dX2_step_40 : decode cX2_step 40 = .ok (.invokespecial 67, 3) := by decide +kernel
theorem dX2_step_43 : decode cX2_step 43 = .ok (.athrow, 1) := by decide +kernel
theorem dX2_step_44 : decode cX2_step 44 = .ok (.aload_n 0, 1) := by decide +kernel
theorem dX2_step_45 : decode cX2_step 45 = .ok (.iload_n 2, 1) := by decide +kernel
theorem dX2_step_46 : decode cX2_step 46 = .ok (.putfield 46, 3) := by decide +kernel
theorem dX2_step_49 : decode cX2_step 49 = .ok (.aload_n 0, 1) := by decide +kernel
theorem dX2_step_50 : decode cX2_step 50 = .ok (.dup, 1) := by decide +kernel
theorem dX2_step_51 : decode cX2_step 51 = .ok (.getfield 76, 3) := by decide +kernel
theorem dX2_step_54 : decode cX2_step 54 = .ok (.iconst 1, 1) := by decide +kernel
theorem dX2_step_55 : decode cX2_step 55 = .ok (.iadd, 1) := by decide +kernel
theorem dX2_step_56 : decode cX2_step 56 = .ok (.putfield 76, 3) := by decide +kernel
theorem dX2_step_59 : decode cX2_step 59 = .ok (.aload_n 0, 1) := by decide +kernel
theorem dX2_step_60 : decode cX2_step 60 = .ok (.invokevirtual 89, 3) := by decide +kernel
theorem dX2_step_63 : decode cX2_step 63 = .ok (.ireturn, 1) := by decide +kernel
theorem dX2_go_0 : decode cX2_go 0 = .ok (.aload_n 0, 1) := by decide +kernel
theorem dX2_go_1 : decode cX2_go 1 = .ok (.iload_n 1, 1) := by decide +kernel
theorem dX2_go_2 : decode cX2_go 2 = .ok (.iload_n 2, 1) := by decide +kernel
theorem dX2_go_3 : decode cX2_go 3 = .ok (.invokevirtual 52, 3) := by decide +kernel
theorem dX2_go_6 : decode cX2_go 6 = .ok (.aload_n 0, 1) := by decide +kernel
theorem dX2_go_7 : decode cX2_go 7 = .ok (.iload_n 1, 1) := by decide +kernel
theorem dX2_go_8 : decode cX2_go 8 = .ok (.iload_n 2, 1) := by decide +kernel
theorem dX2_go_9 : decode cX2_go 9 = .ok (.invokestatic 36, 3) := by decide +kernel
theorem dX2_go_12 : decode cX2_go 12 = .ok (.invokevirtual 93, 3) := by decide +kernel
theorem dX2_go_15 : decode cX2_go 15 = .ok (.istore_n 3, 1) := by decide +kernel
theorem dX2_go_16 : decode cX2_go 16 = .ok (.iload_n 3, 1) := by decide +kernel
theorem dX2_go_17 : decode cX2_go 17 = .ok (.iconst (-1), 1) := by decide +kernel
theorem dX2_go_18 : decode cX2_go 18 = .ok (.if_icmp .ne 13, 3) := by decide +kernel
theorem dX2_go_21 : decode cX2_go 21 = .ok (.new 96, 3) := by decide +kernel
theorem dX2_go_24 : decode cX2_go 24 = .ok (.dup, 1) := by decide +kernel
theorem dX2_go_25 : decode cX2_go 25 = .ok (.ldc 98, 2) := by decide +kernel
theorem dX2_go_27 : decode cX2_go 27 = .ok (.invokespecial 100, 3) := by decide +kernel
theorem dX2_go_30 : decode cX2_go 30 = .ok (.athrow, 1) := by decide +kernel
theorem dX2_go_31 : decode cX2_go 31 = .ok (.aload_n 0, 1) := by decide +kernel
theorem dX2_go_32 : decode cX2_go 32 = .ok (.getfield 16, 3) := by decide +kernel
theorem dX2_go_35 : decode cX2_go 35 = .ok (.iload_n 3, 1) := by decide +kernel
theorem dX2_go_36 : decode cX2_go 36 = .ok (.invokevirtual 101, 3) := by decide +kernel
theorem dX2_go_39 : decode cX2_go 39 = .ok (.istore 4, 2) := by decide +kernel
theorem dX2_go_41 : decode cX2_go 41 = .ok (.aload_n 0, 1) := by decide +kernel
theorem dX2_go_42 : decode cX2_go 42 = .ok (.iload_n 3, 1) := by decide +kernel
theorem dX2_go_43 : decode cX2_go 43 = .ok (.putfield 46, 3) := by decide +kernel
theorem dX2_go_46 : decode cX2_go 46 = .ok (.aload_n 0, 1) := by decide +kernel
theorem dX2_go_47 : decode cX2_go 47 = .ok (.dup, 1) := by decide +kernel
theorem dX2_go_48 : decode cX2_go 48 = .ok (.getfield 76, 3) := by decide +kernel
theorem dX2_go_51 : decode cX2_go 51 = .ok (.iload 4, 2) := by decide +kernel
theorem dX2_go_53 : decode cX2_go 53 = .ok (.iadd, 1) := by decide +kernel
theorem dX2_go_54 : decode cX2_go 54 = .ok (.putfield 76, 3) := by decide +kernel
theorem dX2_go_57 : decode cX2_go 57 = .ok (.iload 4, 2) := by decide +kernel
theorem dX2_go_59 : decode cX2_go 59 = .ok (.ireturn, 1) := by decide +kernel
theorem dX2_back_0 : decode cX2_back 0 = .ok (.iload_n 1, 1) := by decide +kernel
theorem dX2_back_1 : decode cX2_back 1 = .ok (.iconst 1, 1) := by decide +kernel
theorem dX2_back_2 : decode cX2_back 2 = .ok (.if_icmp .lt 9, 3) := by decide +kernel
theorem dX2_back_5 : decode cX2_back 5 = .ok (.iload_n 1, 1) := by decide +kernel
theorem dX2_back_6 : decode cX2_back 6 = .ok (.bipush 60, 2) := by decide +kernel
theorem dX2_back_8 : decode cX2_back 8 = .ok (.if_icmp .le 13, 3) := by decide +kernel
theorem dX2_back_11 : decode cX2_back 11 = .ok (.new 79, 3) := by decide +kernel
theorem dX2_back_14 : decode cX2_back 14 = .ok (.dup, 1) := by decide +kernel
theorem dX2_back_15 : decode cX2_back 15 = .ok (.ldc 104, 2) := by decide +kernel
theorem dX2_back_17 : decode cX2_back 17 = .ok (.invokespecial 83, 3) := by decide +kernel
theorem dX2_back_20 : decode cX2_back 20 = .ok (.athrow, 1) := by decide +kernel
theorem dX2_back_21 : decode cX2_back 21 = .ok (.iload_n 1, 1) := by decide +kernel
theorem dX2_back_22 : decode cX2_back 22 = .ok (.aload_n 0, 1) := by decide +kernel
theorem dX2_back_23 : decode cX2_back 23 = .ok (.invokevirtual 89, 3) := by decide +kernel
theorem dX2_back_26 : decode cX2_back 26 = .ok (.invokestatic 106, 3) := by decide +kernel
theorem dX2_back_29 : decode cX2_back 29 = .ok (.istore_n 2, 1) := by decide +kernel
theorem dX2_back_30 : decode cX2_back 30 = .ok (.aload_n 0, 1) := by decide +kernel
theorem dX2_back_31 : decode cX2_back 31 = .ok (.aload_n 0, 1) := by decide +kernel
theorem dX2_back_32 : decode cX2_back 32 = .ok (.iload_n 2, 1) := by decide +kernel
theorem dX2_back_33 : decode cX2_back 33 = .ok (.invokevirtual 111, 3) := by decide +kernel
theorem dX2_back_36 : decode cX2_back 36 = .ok (.putfield 46, 3) := by decide +kernel
theorem dX2_back_39 : decode cX2_back 39 = .ok (.aload_n 0, 1) := by decide +kernel
theorem dX2_back_40 : decode cX2_back 40 = .ok (.dup, 1) := by decide +kernel
theorem dX2_back_41 : decode cX2_back 41 = .ok (.getfield 76, 3) := by decide +kernel
theorem dX2_back_44 : decode cX2_back 44 = .ok (.iload_n 2, 1) := by decide +kernel
theorem dX2_back_45 : decode cX2_back 45 = .ok (.iadd, 1) := by decide +kernel
theorem dX2_back_46 : decode cX2_back 46 = .ok (.putfield 76, 3) := by decide +kernel
theorem dX2_back_49 : decode cX2_back 49 = .ok (.iload_n 2, 1) := by decide +kernel
theorem dX2_back_50 : decode cX2_back 50 = .ok (.ireturn, 1) := by decide +kernel
theorem dX2_column_0 : decode cX2_column 0 = .ok (.aload_n 0, 1) := by decide +kernel
theorem dX2_column_1 : decode cX2_column 1 = .ok (.getfield 46, 3) := by decide +kernel
theorem dX2_column_4 : decode cX2_column 4 = .ok (.invokestatic 114, 3) := by decide +kernel
theorem dX2_column_7 : decode cX2_column 7 = .ok (.invokestatic 117, 3) := by decide +kernel
theorem dX2_column_10 : decode cX2_column 10 = .ok (.ireturn, 1) := by decide +kernel
theorem dX2_row_0 : decode cX2_row 0 = .ok (.aload_n 0, 1) := by decide +kernel
theorem dX2_row_1 : decode cX2_row 1 = .ok (.getfield 46, 3) := by decide +kernel
theorem dX2_row_4 : decode cX2_row 4 = .ok (.invokestatic 114, 3) := by decide +kernel
theorem dX2_row_7 : decode cX2_row 7 = .ok (.invokestatic 120, 3) := by decide +kernel
theorem dX2_row_10 : decode cX2_row 10 = .ok (.ireturn, 1) := by decide +kernel
theorem dX2_letters_0 : decode cX2_letters 0 = .ok (.aload_n 0, 1) := by decide +kernel
theorem dX2_letters_1 : decode cX2_letters 1 = .ok (.getfield 46, 3) := by decide +kernel
theorem dX2_letters_4 : decode cX2_letters 4 = .ok (.invokestatic 123, 3) := by decide +kernel
theorem dX2_letters_7 : decode cX2_letters 7 = .ok (.invokestatic 126, 3) := by decide +kernel
theorem dX2_letters_10 : decode cX2_letters 10 = .ok (.ireturn, 1) := by decide +kernel
theorem dX2_letterAt_0 : decode cX2_letterAt 0 = .ok (.aload_n 0, 1) := by decide +kernel
theorem dX2_letterAt_1 : decode cX2_letterAt 1 = .ok (.invokevirtual 129, 3) := by decide +kernel
theorem dX2_letterAt_4 : decode cX2_letterAt 4 = .ok (.istore_n 2, 1) := by decide +kernel
theorem dX2_letterAt_5 : decode cX2_letterAt 5 = .ok (.iload_n 1, 1) := by decide +kernel
theorem dX2_letterAt_6 : decode cX2_letterAt 6 = .ok (.ifCond .lt 8, 3) := by decide +kernel
theorem dX2_letterAt_9 : decode cX2_letterAt 9 = .ok (.iload_n 1, 1) := by decide +kernel
theorem dX2_letterAt_10 : decode cX2_letterAt 10 = .ok (.iload_n 2, 1) := by decide +kernel
theorem dX2_letterAt_11 : decode cX2_letterAt 11 = .ok (.if_icmp .lt 13, 3) := by decide +kernel
theorem dX2_letterAt_14 : decode cX2_letterAt 14 = .ok (.new 132, 3) := by decide +kernel
theorem dX2_letterAt_17 : decode cX2_letterAt 17 = .ok (.dup, 1) := by decide +kernel
theorem dX2_letterAt_18 : decode cX2_letterAt 18 = .ok (.ldc 134, 2) := by decide +kernel
theorem dX2_letterAt_20 : decode cX2_letterAt 20 = .ok (.invokespecial 136, 3) := by decide +kernel
theorem dX2_letterAt_23 : decode cX2_letterAt 23 = .ok (.athrow, 1) := by decide +kernel
theorem dX2_letterAt_24 : decode cX2_letterAt 24 = .ok (.aload_n 0, 1) := by decide +kernel
theorem dX2_letterAt_25 : decode cX2_letterAt 25 = .ok (.getfield 46, 3) := by decide +kernel
theorem dX2_letterAt_28 : decode cX2_letterAt 28 = .ok (.invokestatic 123, 3) := by decide +kernel
theorem dX2_letterAt_31 : decode cX2_letterAt 31 = .ok (.istore_n 3, 1) := by decide +kernel
theorem dX2_letterAt_32 : decode cX2_letterAt 32 = .ok (.iload_n 2, 1) := by decide +kernel
theorem dX2_letterAt_33 : decode cX2_letterAt 33 = .ok (.iconst 1, 1) := by decide +kernel
theorem dX2_letterAt_34 : decode cX2_letterAt 34 = .ok (.isub, 1) := by decide +kernel
theorem dX2_letterAt_35 : decode cX2_letterAt 35 = .ok (.istore 4, 2) := by decide +kernel
theorem dX2_letterAt_37 : decode cX2_letterAt 37 = .ok (.iload 4, 2) := by decide +kernel
theorem dX2_letterAt_39 : decode cX2_letterAt 39 = .ok (.iload_n 1, 1) := by decide +kernel
theorem dX2_letterAt_40 : decode cX2_letterAt 40 = .ok (.if_icmp .le 14, 3) := by decide +kernel
theorem dX2_letterAt_43 : decode cX2_letterAt 43 = .ok (.iload_n 3, 1) := by decide +kernel
theorem dX2_letterAt_44 : decode cX2_letterAt 44 = .ok (.bipush 7, 2) := by decide +kernel
theorem dX2_letterAt_46 : decode cX2_letterAt 46 = .ok (.idiv, 1) := by decide +kernel
theorem dX2_letterAt_47 : decode cX2_letterAt 47 = .ok (.istore_n 3, 1) := by decide +kernel
theorem dX2_letterAt_48 : decode cX2_letterAt 48 = .ok (.iinc 4 (-1), 3) := by decide +kernel
theorem dX2_letterAt_51 : decode cX2_letterAt 51 = .ok (.goto (-14), 3) := by decide +kernel
theorem dX2_letterAt_54 : decode cX2_letterAt 54 = .ok (.iload_n 3, 1) := by decide +kernel
theorem dX2_letterAt_55 : decode cX2_letterAt 55 = .ok (.invokestatic 137, 3) := by decide +kernel
theorem dX2_letterAt_58 : decode cX2_letterAt 58 = .ok (.ireturn, 1) := by decide +kernel
theorem dX2_length_0 : decode cX2_length 0 = .ok (.aload_n 0, 1) := by decide +kernel
theorem dX2_length_1 : decode cX2_length 1 = .ok (.getfield 12, 3) := by decide +kernel
theorem dX2_length_4 : decode cX2_length 4 = .ok (.aload_n 0, 1) := by decide +kernel
theorem dX2_length_5 : decode cX2_length 5 = .ok (.getfield 46, 3) := by decide +kernel
theorem dX2_length_8 : decode cX2_length 8 = .ok (.invokevirtual 101, 3) := by decide +kernel
theorem dX2_length_11 : decode cX2_length 11 = .ok (.ireturn, 1) := by decide +kernel
theorem dX2_slack_0 : decode cX2_slack 0 = .ok (.aload_n 0, 1) := by decide +kernel
theorem dX2_slack_1 : decode cX2_slack 1 = .ok (.getfield 32, 3) := by decide +kernel
theorem dX2_slack_4 : decode cX2_slack 4 = .ok (.aload_n 0, 1) := by decide +kernel
theorem dX2_slack_5 : decode cX2_slack 5 = .ok (.invokevirtual 89, 3) := by decide +kernel
theorem dX2_slack_8 : decode cX2_slack 8 = .ok (.isub, 1) := by decide +kernel
theorem dX2_slack_9 : decode cX2_slack 9 = .ok (.ireturn, 1) := by decide +kernel
theorem dX2_steps_0 : decode cX2_steps 0 = .ok (.aload_n 0, 1) := by decide +kernel
theorem dX2_steps_1 : decode cX2_steps 1 = .ok (.getfield 76, 3) := by decide +kernel
theorem dX2_steps_4 : decode cX2_steps 4 = .ok (.ireturn, 1) := by decide +kernel
theorem dX2_lengthByTrying_0 : decode cX2_lengthByTrying 0 = .ok (.iload_n 1, 1) := by decide +kernel
theorem dX2_lengthByTrying_1 : decode cX2_lengthByTrying 1 = .ok (.ifCond .lt 9, 3) := by decide +kernel
theorem dX2_lengthByTrying_4 : decode cX2_lengthByTrying 4 = .ok (.iload_n 1, 1) := by decide +kernel
theorem dX2_lengthByTrying_5 : decode cX2_lengthByTrying 5 = .ok (.bipush 8, 2) := by decide +kernel
theorem dX2_lengthByTrying_7 : decode cX2_lengthByTrying 7 = .ok (.if_icmp .le 13, 3) := by decide +kernel
theorem dX2_lengthByTrying_10 : decode cX2_lengthByTrying 10 = .ok (.new 79, 3) := by decide +kernel
theorem dX2_lengthByTrying_13 : decode cX2_lengthByTrying 13 = .ok (.dup, 1) := by decide +kernel
theorem dX2_lengthByTrying_14 : decode cX2_lengthByTrying 14 = .ok (.ldc 140, 2) := by decide +kernel
theorem dX2_lengthByTrying_16 : decode cX2_lengthByTrying 16 = .ok (.invokespecial 83, 3) := by decide +kernel
theorem dX2_lengthByTrying_19 : decode cX2_lengthByTrying 19 = .ok (.athrow, 1) := by decide +kernel
theorem dX2_lengthByTrying_20 : decode cX2_lengthByTrying 20 = .ok (.aload_n 0, 1) := by decide +kernel
theorem dX2_lengthByTrying_21 : decode cX2_lengthByTrying 21 = .ok (.getfield 28, 3) := by decide +kernel
theorem dX2_lengthByTrying_24 : decode cX2_lengthByTrying 24 = .ok (.aload_n 0, 1) := by decide +kernel
theorem dX2_lengthByTrying_25 : decode cX2_lengthByTrying 25 = .ok (.getfield 40, 3) := by decide +kernel
theorem dX2_lengthByTrying_28 : decode cX2_lengthByTrying 28 = .ok (.iconst 0, 1) := by decide +kernel
theorem dX2_lengthByTrying_29 : decode cX2_lengthByTrying 29 = .ok (.invokestatic 43, 3) := by decide +kernel
theorem dX2_lengthByTrying_32 : decode cX2_lengthByTrying 32 = .ok (.aload_n 0, 1) := by decide +kernel
theorem dX2_lengthByTrying_33 : decode cX2_lengthByTrying 33 = .ok (.getfield 46, 3) := by decide +kernel
theorem dX2_lengthByTrying_36 : decode cX2_lengthByTrying 36 = .ok (.iconst 0, 1) := by decide +kernel
theorem dX2_lengthByTrying_37 : decode cX2_lengthByTrying 37 = .ok (.iload_n 1, 1) := by decide +kernel
theorem dX2_lengthByTrying_38 : decode cX2_lengthByTrying 38 = .ok (.invokestatic 142, 3) := by decide +kernel
theorem dX2_lengthByTrying_41 : decode cX2_lengthByTrying 41 = .ok (.istore_n 2, 1) := by decide +kernel
theorem dX2_lengthByTrying_42 : decode cX2_lengthByTrying 42 = .ok (.iload_n 2, 1) := by decide +kernel
theorem dX2_lengthByTrying_43 : decode cX2_lengthByTrying 43 = .ok (.iload_n 1, 1) := by decide +kernel
theorem dX2_lengthByTrying_44 : decode cX2_lengthByTrying 44 = .ok (.if_icmp .le 7, 3) := by decide +kernel
theorem dX2_lengthByTrying_47 : decode cX2_lengthByTrying 47 = .ok (.iconst (-1), 1) := by decide +kernel
theorem dX2_lengthByTrying_48 : decode cX2_lengthByTrying 48 = .ok (.goto 4, 3) := by decide +kernel
theorem dX2_lengthByTrying_51 : decode cX2_lengthByTrying 51 = .ok (.iload_n 2, 1) := by decide +kernel
theorem dX2_lengthByTrying_52 : decode cX2_lengthByTrying 52 = .ok (.ireturn, 1) := by decide +kernel
theorem dX2_cableAt_0 : decode cX2_cableAt 0 = .ok (.iload_n 1, 1) := by decide +kernel
theorem dX2_cableAt_1 : decode cX2_cableAt 1 = .ok (.ifCond .lt 11, 3) := by decide +kernel
theorem dX2_cableAt_4 : decode cX2_cableAt 4 = .ok (.iload_n 1, 1) := by decide +kernel
theorem dX2_cableAt_5 : decode cX2_cableAt 5 = .ok (.aload_n 0, 1) := by decide +kernel
theorem dX2_cableAt_6 : decode cX2_cableAt 6 = .ok (.invokevirtual 89, 3) := by decide +kernel
theorem dX2_cableAt_9 : decode cX2_cableAt 9 = .ok (.if_icmp .le 13, 3) := by decide +kernel
theorem dX2_cableAt_12 : decode cX2_cableAt 12 = .ok (.new 132, 3) := by decide +kernel
theorem dX2_cableAt_15 : decode cX2_cableAt 15 = .ok (.dup, 1) := by decide +kernel
theorem dX2_cableAt_16 : decode cX2_cableAt 16 = .ok (.ldc 146, 2) := by decide +kernel
theorem dX2_cableAt_18 : decode cX2_cableAt 18 = .ok (.invokespecial 136, 3) := by decide +kernel
theorem dX2_cableAt_21 : decode cX2_cableAt 21 = .ok (.athrow, 1) := by decide +kernel
theorem dX2_cableAt_22 : decode cX2_cableAt 22 = .ok (.aload_n 0, 1) := by decide +kernel
theorem dX2_cableAt_23 : decode cX2_cableAt 23 = .ok (.iload_n 1, 1) := by decide +kernel
theorem dX2_cableAt_24 : decode cX2_cableAt 24 = .ok (.invokevirtual 111, 3) := by decide +kernel
theorem dX2_cableAt_27 : decode cX2_cableAt 27 = .ok (.invokestatic 114, 3) := by decide +kernel
theorem dX2_cableAt_30 : decode cX2_cableAt 30 = .ok (.istore_n 2, 1) := by decide +kernel
theorem dX2_cableAt_31 : decode cX2_cableAt 31 = .ok (.bipush 10, 2) := by decide +kernel
theorem dX2_cableAt_33 : decode cX2_cableAt 33 = .ok (.iload_n 2, 1) := by decide +kernel
theorem dX2_cableAt_34 : decode cX2_cableAt 34 = .ok (.invokestatic 117, 3) := by decide +kernel
theorem dX2_cableAt_37 : decode cX2_cableAt 37 = .ok (.imul, 1) := by decide +kernel
theorem dX2_cableAt_38 : decode cX2_cableAt 38 = .ok (.iload_n 2, 1) := by decide +kernel
theorem dX2_cableAt_39 : decode cX2_cableAt 39 = .ok (.invokestatic 120, 3) := by decide +kernel
theorem dX2_cableAt_42 : decode cX2_cableAt 42 = .ok (.iadd, 1) := by decide +kernel
theorem dX2_cableAt_43 : decode cX2_cableAt 43 = .ok (.ireturn, 1) := by decide +kernel
theorem dX2_bends_0 : decode cX2_bends 0 = .ok (.iconst 0, 1) := by decide +kernel
theorem dX2_bends_1 : decode cX2_bends 1 = .ok (.istore_n 1, 1) := by decide +kernel
theorem dX2_bends_2 : decode cX2_bends 2 = .ok (.aload_n 0, 1) := by decide +kernel
theorem dX2_bends_3 : decode cX2_bends 3 = .ok (.getfield 46, 3) := by decide +kernel
theorem dX2_bends_6 : decode cX2_bends 6 = .ok (.istore_n 2, 1) := by decide +kernel
theorem dX2_bends_7 : decode cX2_bends 7 = .ok (.aload_n 0, 1) := by decide +kernel
theorem dX2_bends_8 : decode cX2_bends 8 = .ok (.iload_n 2, 1) := by decide +kernel
theorem dX2_bends_9 : decode cX2_bends 9 = .ok (.invokevirtual 148, 3) := by decide +kernel
theorem dX2_bends_12 : decode cX2_bends 12 = .ok (.istore_n 3, 1) := by decide +kernel
theorem dX2_bends_13 : decode cX2_bends 13 = .ok (.aload_n 0, 1) := by decide +kernel
theorem dX2_bends_14 : decode cX2_bends 14 = .ok (.invokevirtual 89, 3) := by decide +kernel
theorem dX2_bends_17 : decode cX2_bends 17 = .ok (.istore 4, 2) := by decide +kernel
theorem dX2_bends_19 : decode cX2_bends 19 = .ok (.iload 4, 2) := by decide +kernel
theorem dX2_bends_21 : decode cX2_bends 21 = .ok (.iconst 1, 1) := by decide +kernel
theorem dX2_bends_22 : decode cX2_bends 22 = .ok (.if_icmp .le 38, 3) := by decide +kernel
theorem dX2_bends_25 : decode cX2_bends 25 = .ok (.aload_n 0, 1) := by decide +kernel
theorem dX2_bends_26 : decode cX2_bends 26 = .ok (.getfield 28, 3) := by decide +kernel
theorem dX2_bends_29 : decode cX2_bends 29 = .ok (.iload_n 2, 1) := by decide +kernel
theorem dX2_bends_30 : decode cX2_bends 30 = .ok (.iload_n 3, 1) := by decide +kernel
theorem dX2_bends_31 : decode cX2_bends 31 = .ok (.invokevirtual 151, 3) := by decide +kernel
theorem dX2_bends_34 : decode cX2_bends 34 = .ok (.istore_n 2, 1) := by decide +kernel
theorem dX2_bends_35 : decode cX2_bends 35 = .ok (.aload_n 0, 1) := by decide +kernel
theorem dX2_bends_36 : decode cX2_bends 36 = .ok (.iload_n 2, 1) := by decide +kernel
theorem dX2_bends_37 : decode cX2_bends 37 = .ok (.invokevirtual 148, 3) := by decide +kernel
theorem dX2_bends_40 : decode cX2_bends 40 = .ok (.istore 5, 2) := by decide +kernel
theorem dX2_bends_42 : decode cX2_bends 42 = .ok (.iload 5, 2) := by decide +kernel
theorem dX2_bends_44 : decode cX2_bends 44 = .ok (.iload_n 3, 1) := by decide +kernel
theorem dX2_bends_45 : decode cX2_bends 45 = .ok (.if_icmp .eq 6, 3) := by decide +kernel
theorem dX2_bends_48 : decode cX2_bends 48 = .ok (.iinc 1 1, 3) := by decide +kernel
theorem dX2_bends_51 : decode cX2_bends 51 = .ok (.iload 5, 2) := by decide +kernel
theorem dX2_bends_53 : decode cX2_bends 53 = .ok (.istore_n 3, 1) := by decide +kernel
theorem dX2_bends_54 : decode cX2_bends 54 = .ok (.iinc 4 (-1), 3) := by decide +kernel
theorem dX2_bends_57 : decode cX2_bends 57 = .ok (.goto (-38), 3) := by decide +kernel
theorem dX2_bends_60 : decode cX2_bends 60 = .ok (.iload_n 1, 1) := by decide +kernel
theorem dX2_bends_61 : decode cX2_bends 61 = .ok (.ireturn, 1) := by decide +kernel
theorem dX2_least_0 : decode cX2_least 0 = .ok (.aload_n 0, 1) := by decide +kernel
theorem dX2_least_1 : decode cX2_least 1 = .ok (.iload_n 1, 1) := by decide +kernel
theorem dX2_least_2 : decode cX2_least 2 = .ok (.iload_n 2, 1) := by decide +kernel
theorem dX2_least_3 : decode cX2_least 3 = .ok (.invokevirtual 52, 3) := by decide +kernel
theorem dX2_least_6 : decode cX2_least 6 = .ok (.aload_n 0, 1) := by decide +kernel
theorem dX2_least_7 : decode cX2_least 7 = .ok (.iload_n 1, 1) := by decide +kernel
theorem dX2_least_8 : decode cX2_least 8 = .ok (.iload_n 2, 1) := by decide +kernel
theorem dX2_least_9 : decode cX2_least 9 = .ok (.invokestatic 36, 3) := by decide +kernel
theorem dX2_least_12 : decode cX2_least 12 = .ok (.invokevirtual 154, 3) := by decide +kernel
theorem dX2_least_15 : decode cX2_least 15 = .ok (.ireturn, 1) := by decide +kernel
theorem dX2_missing_0 : decode cX2_missing 0 = .ok (.aload_n 0, 1) := by decide +kernel
theorem dX2_missing_1 : decode cX2_missing 1 = .ok (.iload_n 1, 1) := by decide +kernel
theorem dX2_missing_2 : decode cX2_missing 2 = .ok (.iload_n 2, 1) := by decide +kernel
theorem dX2_missing_3 : decode cX2_missing 3 = .ok (.invokevirtual 52, 3) := by decide +kernel
theorem dX2_missing_6 : decode cX2_missing 6 = .ok (.aload_n 0, 1) := by decide +kernel
theorem dX2_missing_7 : decode cX2_missing 7 = .ok (.iload_n 1, 1) := by decide +kernel
theorem dX2_missing_8 : decode cX2_missing 8 = .ok (.iload_n 2, 1) := by decide +kernel
theorem dX2_missing_9 : decode cX2_missing 9 = .ok (.invokestatic 36, 3) := by decide +kernel
theorem dX2_missing_12 : decode cX2_missing 12 = .ok (.invokevirtual 154, 3) := by decide +kernel
theorem dX2_missing_15 : decode cX2_missing 15 = .ok (.istore_n 3, 1) := by decide +kernel
theorem dX2_missing_16 : decode cX2_missing 16 = .ok (.iload_n 3, 1) := by decide +kernel
theorem dX2_missing_17 : decode cX2_missing 17 = .ok (.iconst (-1), 1) := by decide +kernel
theorem dX2_missing_18 : decode cX2_missing 18 = .ok (.if_icmp .ne 7, 3) := by decide +kernel
theorem dX2_missing_21 : decode cX2_missing 21 = .ok (.iconst (-1), 1) := by decide +kernel
theorem dX2_missing_22 : decode cX2_missing 22 = .ok (.goto 13, 3) := by decide +kernel
theorem dX2_missing_25 : decode cX2_missing 25 = .ok (.iconst 0, 1) := by decide +kernel
theorem dX2_missing_26 : decode cX2_missing 26 = .ok (.iload_n 3, 1) := by decide +kernel
theorem dX2_missing_27 : decode cX2_missing 27 = .ok (.aload_n 0, 1) := by decide +kernel
theorem dX2_missing_28 : decode cX2_missing 28 = .ok (.getfield 32, 3) := by decide +kernel
theorem dX2_missing_31 : decode cX2_missing 31 = .ok (.isub, 1) := by decide +kernel
theorem dX2_missing_32 : decode cX2_missing 32 = .ok (.invokestatic 157, 3) := by decide +kernel
theorem dX2_missing_35 : decode cX2_missing 35 = .ok (.ireturn, 1) := by decide +kernel
theorem dX2_words_0 : decode cX2_words 0 = .ok (.aload_n 0, 1) := by decide +kernel
theorem dX2_words_1 : decode cX2_words 1 = .ok (.iload_n 1, 1) := by decide +kernel
theorem dX2_words_2 : decode cX2_words 2 = .ok (.iload_n 2, 1) := by decide +kernel
theorem dX2_words_3 : decode cX2_words 3 = .ok (.invokevirtual 52, 3) := by decide +kernel
theorem dX2_words_6 : decode cX2_words 6 = .ok (.iload_n 1, 1) := by decide +kernel
theorem dX2_words_7 : decode cX2_words 7 = .ok (.iload_n 2, 1) := by decide +kernel
theorem dX2_words_8 : decode cX2_words 8 = .ok (.invokestatic 36, 3) := by decide +kernel
theorem dX2_words_11 : decode cX2_words 11 = .ok (.istore_n 3, 1) := by decide +kernel
theorem dX2_words_12 : decode cX2_words 12 = .ok (.iconst 0, 1) := by decide +kernel
theorem dX2_words_13 : decode cX2_words 13 = .ok (.istore 4, 2) := by decide +kernel
theorem dX2_words_15 : decode cX2_words 15 = .ok (.iconst 0, 1) := by decide +kernel
theorem dX2_words_16 : decode cX2_words 16 = .ok (.istore 5, 2) := by decide +kernel
theorem dX2_words_18 : decode cX2_words 18 = .ok (.iload 5, 2) := by decide +kernel
theorem dX2_words_20 : decode cX2_words 20 = .ok (.sipush 343, 3) := by decide +kernel
theorem dX2_words_23 : decode cX2_words 23 = .ok (.if_icmp .ge 32, 3) := by decide +kernel
theorem dX2_words_26 : decode cX2_words 26 = .ok (.aload_n 0, 1) := by decide +kernel
theorem dX2_words_27 : decode cX2_words 27 = .ok (.aload_n 0, 1) := by decide +kernel
theorem dX2_words_28 : decode cX2_words 28 = .ok (.getfield 12, 3) := by decide +kernel
theorem dX2_words_31 : decode cX2_words 31 = .ok (.iload_n 3, 1) := by decide +kernel
theorem dX2_words_32 : decode cX2_words 32 = .ok (.iload 5, 2) := by decide +kernel
theorem dX2_words_34 : decode cX2_words 34 = .ok (.invokestatic 43, 3) := by decide +kernel
theorem dX2_words_37 : decode cX2_words 37 = .ok (.invokevirtual 101, 3) := by decide +kernel
theorem dX2_words_40 : decode cX2_words 40 = .ok (.invokevirtual 160, 3) := by decide +kernel
theorem dX2_words_43 : decode cX2_words 43 = .ok (.ifCond .eq 6, 3) := by decide +kernel
theorem dX2_words_46 : decode cX2_words 46 = .ok (.iinc 4 1, 3) := by decide +kernel
theorem dX2_words_49 : decode cX2_words 49 = .ok (.iinc 5 1, 3) := by decide +kernel
theorem dX2_words_52 : decode cX2_words 52 = .ok (.goto (-34), 3) := by decide +kernel
theorem dX2_words_55 : decode cX2_words 55 = .ok (.iload 4, 2) := by decide +kernel
theorem dX2_words_57 : decode cX2_words 57 = .ok (.ireturn, 1) := by decide +kernel
theorem dX2_squares_0 : decode cX2_squares 0 = .ok (.iconst 0, 1) := by decide +kernel
theorem dX2_squares_1 : decode cX2_squares 1 = .ok (.istore_n 1, 1) := by decide +kernel
theorem dX2_squares_2 : decode cX2_squares 2 = .ok (.iconst 0, 1) := by decide +kernel
theorem dX2_squares_3 : decode cX2_squares 3 = .ok (.istore_n 2, 1) := by decide +kernel
theorem dX2_squares_4 : decode cX2_squares 4 = .ok (.iload_n 2, 1) := by decide +kernel
theorem dX2_squares_5 : decode cX2_squares 5 = .ok (.bipush 49, 2) := by decide +kernel
theorem dX2_squares_7 : decode cX2_squares 7 = .ok (.if_icmp .ge 24, 3) := by decide +kernel
theorem dX2_squares_10 : decode cX2_squares 10 = .ok (.aload_n 0, 1) := by decide +kernel
theorem dX2_squares_11 : decode cX2_squares 11 = .ok (.aload_n 0, 1) := by decide +kernel
theorem dX2_squares_12 : decode cX2_squares 12 = .ok (.iload_n 2, 1) := by decide +kernel
theorem dX2_squares_13 : decode cX2_squares 13 = .ok (.invokevirtual 154, 3) := by decide +kernel
theorem dX2_squares_16 : decode cX2_squares 16 = .ok (.invokevirtual 160, 3) := by decide +kernel
theorem dX2_squares_19 : decode cX2_squares 19 = .ok (.ifCond .eq 6, 3) := by decide +kernel
theorem dX2_squares_22 : decode cX2_squares 22 = .ok (.iinc 1 1, 3) := by decide +kernel
theorem dX2_squares_25 : decode cX2_squares 25 = .ok (.iinc 2 1, 3) := by decide +kernel
theorem dX2_squares_28 : decode cX2_squares 28 = .ok (.goto (-24), 3) := by decide +kernel
theorem dX2_squares_31 : decode cX2_squares 31 = .ok (.iload_n 1, 1) := by decide +kernel
theorem dX2_squares_32 : decode cX2_squares 32 = .ok (.ireturn, 1) := by decide +kernel
theorem dX2_measureLengths_0 : decode cX2_measureLengths 0 = .ok (.aload_n 0, 1) := by decide +kernel
theorem dX2_measureLengths_1 : decode cX2_measureLengths 1 = .ok (.getfield 12, 3) := by decide +kernel
theorem dX2_measureLengths_4 : decode cX2_measureLengths 4 = .ok (.aload_n 0, 1) := by decide +kernel
theorem dX2_measureLengths_5 : decode cX2_measureLengths 5 = .ok (.getfield 40, 3) := by decide +kernel
theorem dX2_measureLengths_8 : decode cX2_measureLengths 8 = .ok (.iconst 0, 1) := by decide +kernel
theorem dX2_measureLengths_9 : decode cX2_measureLengths 9 = .ok (.invokestatic 43, 3) := by decide +kernel
theorem dX2_measureLengths_12 : decode cX2_measureLengths 12 = .ok (.invokevirtual 163, 3) := by decide +kernel
theorem dX2_measureLengths_15 : decode cX2_measureLengths 15 = .ok (.iconst 0, 1) := by decide +kernel
theorem dX2_measureLengths_16 : decode cX2_measureLengths 16 = .ok (.istore_n 1, 1) := by decide +kernel
theorem dX2_measureLengths_17 : decode cX2_measureLengths 17 = .ok (.iload_n 1, 1) := by decide +kernel
theorem dX2_measureLengths_18 : decode cX2_measureLengths 18 = .ok (.sipush 16807, 3) := by decide +kernel
theorem dX2_measureLengths_21 : decode cX2_measureLengths 21 = .ok (.if_icmp .ge 59, 3) := by decide +kernel
theorem dX2_measureLengths_24 : decode cX2_measureLengths 24 = .ok (.iload_n 1, 1) := by decide +kernel
theorem dX2_measureLengths_25 : decode cX2_measureLengths 25 = .ok (.aload_n 0, 1) := by decide +kernel
theorem dX2_measureLengths_26 : decode cX2_measureLengths 26 = .ok (.getfield 12, 3) := by decide +kernel
theorem dX2_measureLengths_29 : decode cX2_measureLengths 29 = .ok (.invokevirtual 167, 3) := by decide +kernel
theorem dX2_measureLengths_32 : decode cX2_measureLengths 32 = .ok (.if_icmp .ge 48, 3) := by decide +kernel
theorem dX2_measureLengths_35 : decode cX2_measureLengths 35 = .ok (.aload_n 0, 1) := by decide +kernel
theorem dX2_measureLengths_36 : decode cX2_measureLengths 36 = .ok (.getfield 12, 3) := by decide +kernel
theorem dX2_measureLengths_39 : decode cX2_measureLengths 39 = .ok (.iload_n 1, 1) := by decide +kernel
theorem dX2_measureLengths_40 : decode cX2_measureLengths 40 = .ok (.invokevirtual 170, 3) := by decide +kernel
theorem dX2_measureLengths_43 : decode cX2_measureLengths 43 = .ok (.istore_n 2, 1) := by decide +kernel
theorem dX2_measureLengths_44 : decode cX2_measureLengths 44 = .ok (.iconst 0, 1) := by decide +kernel
theorem dX2_measureLengths_45 : decode cX2_measureLengths 45 = .ok (.istore_n 3, 1) := by decide +kernel
theorem dX2_measureLengths_46 : decode cX2_measureLengths 46 = .ok (.iload_n 3, 1) := by decide +kernel
theorem dX2_measureLengths_47 : decode cX2_measureLengths 47 = .ok (.iconst 4, 1) := by decide +kernel
theorem dX2_measureLengths_48 : decode cX2_measureLengths 48 = .ok (.if_icmp .ge 26, 3) := by decide +kernel
theorem dX2_measureLengths_51 : decode cX2_measureLengths 51 = .ok (.aload_n 0, 1) := by decide +kernel
theorem dX2_measureLengths_52 : decode cX2_measureLengths 52 = .ok (.getfield 12, 3) := by decide +kernel
theorem dX2_measureLengths_55 : decode cX2_measureLengths 55 = .ok (.aload_n 0, 1) := by decide +kernel
theorem dX2_measureLengths_56 : decode cX2_measureLengths 56 = .ok (.getfield 28, 3) := by decide +kernel
theorem dX2_measureLengths_59 : decode cX2_measureLengths 59 = .ok (.iload_n 2, 1) := by decide +kernel
theorem dX2_measureLengths_60 : decode cX2_measureLengths 60 = .ok (.iload_n 3, 1) := by decide +kernel
theorem dX2_measureLengths_61 : decode cX2_measureLengths 61 = .ok (.invokevirtual 151, 3) := by decide +kernel
theorem dX2_measureLengths_64 : decode cX2_measureLengths 64 = .ok (.iload_n 2, 1) := by decide +kernel
theorem dX2_measureLengths_65 : decode cX2_measureLengths 65 = .ok (.invokevirtual 173, 3) := by decide +kernel
theorem dX2_measureLengths_68 : decode cX2_measureLengths 68 = .ok (.iinc 3 1, 3) := by decide +kernel
theorem dX2_measureLengths_71 : decode cX2_measureLengths 71 = .ok (.goto (-25), 3) := by decide +kernel
theorem dX2_measureLengths_74 : decode cX2_measureLengths 74 = .ok (.iinc 1 1, 3) := by decide +kernel
theorem dX2_measureLengths_77 : decode cX2_measureLengths 77 = .ok (.goto (-60), 3) := by decide +kernel
theorem dX2_measureLengths_80 : decode cX2_measureLengths 80 = .ok (.return_, 1) := by decide +kernel
theorem dX2_nearestPlaceOf_0 : decode cX2_nearestPlaceOf 0 = .ok (.aload_n 0, 1) := by decide +kernel
theorem dX2_nearestPlaceOf_1 : decode cX2_nearestPlaceOf 1 = .ok (.getfield 16, 3) := by decide +kernel
theorem dX2_nearestPlaceOf_4 : decode cX2_nearestPlaceOf 4 = .ok (.aload_n 0, 1) := by decide +kernel
theorem dX2_nearestPlaceOf_5 : decode cX2_nearestPlaceOf 5 = .ok (.getfield 46, 3) := by decide +kernel
theorem dX2_nearestPlaceOf_8 : decode cX2_nearestPlaceOf 8 = .ok (.invokevirtual 163, 3) := by decide +kernel
theorem dX2_nearestPlaceOf_11 : decode cX2_nearestPlaceOf 11 = .ok (.iconst 0, 1) := by decide +kernel
theorem dX2_nearestPlaceOf_12 : decode cX2_nearestPlaceOf 12 = .ok (.istore_n 2, 1) := by decide +kernel
theorem dX2_nearestPlaceOf_13 : decode cX2_nearestPlaceOf 13 = .ok (.iload_n 2, 1) := by decide +kernel
theorem dX2_nearestPlaceOf_14 : decode cX2_nearestPlaceOf 14 = .ok (.sipush 16807, 3) := by decide +kernel
theorem dX2_nearestPlaceOf_17 : decode cX2_nearestPlaceOf 17 = .ok (.if_icmp .ge 69, 3) := by decide +kernel
theorem dX2_nearestPlaceOf_20 : decode cX2_nearestPlaceOf 20 = .ok (.iload_n 2, 1) := by decide +kernel
theorem dX2_nearestPlaceOf_21 : decode cX2_nearestPlaceOf 21 = .ok (.aload_n 0, 1) := by decide +kernel
theorem dX2_nearestPlaceOf_22 : decode cX2_nearestPlaceOf 22 = .ok (.getfield 16, 3) := by decide +kernel
theorem dX2_nearestPlaceOf_25 : decode cX2_nearestPlaceOf 25 = .ok (.invokevirtual 167, 3) := by decide +kernel
theorem dX2_nearestPlaceOf_28 : decode cX2_nearestPlaceOf 28 = .ok (.if_icmp .ge 58, 3) := by decide +kernel
theorem dX2_nearestPlaceOf_31 : decode cX2_nearestPlaceOf 31 = .ok (.aload_n 0, 1) := by decide +kernel
theorem dX2_nearestPlaceOf_32 : decode cX2_nearestPlaceOf 32 = .ok (.getfield 16, 3) := by decide +kernel
theorem dX2_nearestPlaceOf_35 : decode cX2_nearestPlaceOf 35 = .ok (.iload_n 2, 1) := by decide +kernel
theorem dX2_nearestPlaceOf_36 : decode cX2_nearestPlaceOf 36 = .ok (.invokevirtual 170, 3) := by decide +kernel
theorem dX2_nearestPlaceOf_39 : decode cX2_nearestPlaceOf 39 = .ok (.istore_n 3, 1) := by decide +kernel
theorem dX2_nearestPlaceOf_40 : decode cX2_nearestPlaceOf 40 = .ok (.iload_n 3, 1) := by decide +kernel
theorem dX2_nearestPlaceOf_41 : decode cX2_nearestPlaceOf 41 = .ok (.invokestatic 114, 3) := by decide +kernel
theorem dX2_nearestPlaceOf_44 : decode cX2_nearestPlaceOf 44 = .ok (.iload_n 1, 1) := by decide +kernel
theorem dX2_nearestPlaceOf_45 : decode cX2_nearestPlaceOf 45 = .ok (.if_icmp .ne 5, 3) := by decide +kernel
theorem dX2_nearestPlaceOf_48 : decode cX2_nearestPlaceOf 48 = .ok (.iload_n 3, 1) := by decide +kernel
theorem dX2_nearestPlaceOf_49 : decode cX2_nearestPlaceOf 49 = .ok (.ireturn, 1) := by decide +kernel
theorem dX2_nearestPlaceOf_50 : decode cX2_nearestPlaceOf 50 = .ok (.iconst 0, 1) := by decide +kernel
theorem dX2_nearestPlaceOf_51 : decode cX2_nearestPlaceOf 51 = .ok (.istore 4, 2) := by decide +kernel
theorem dX2_nearestPlaceOf_53 : decode cX2_nearestPlaceOf 53 = .ok (.iload 4, 2) := by decide +kernel
theorem dX2_nearestPlaceOf_55 : decode cX2_nearestPlaceOf 55 = .ok (.iconst 4, 1) := by decide +kernel
theorem dX2_nearestPlaceOf_56 : decode cX2_nearestPlaceOf 56 = .ok (.if_icmp .ge 24, 3) := by decide +kernel
theorem dX2_nearestPlaceOf_59 : decode cX2_nearestPlaceOf 59 = .ok (.aload_n 0, 1) := by decide +kernel
theorem dX2_nearestPlaceOf_60 : decode cX2_nearestPlaceOf 60 = .ok (.getfield 16, 3) := by decide +kernel
theorem dX2_nearestPlaceOf_63 : decode cX2_nearestPlaceOf 63 = .ok (.aload_n 0, 1) := by decide +kernel
theorem dX2_nearestPlaceOf_64 : decode cX2_nearestPlaceOf 64 = .ok (.iload_n 3, 1) := by decide +kernel
theorem dX2_nearestPlaceOf_65 : decode cX2_nearestPlaceOf 65 = .ok (.iload 4, 2) := by decide +kernel
theorem dX2_nearestPlaceOf_67 : decode cX2_nearestPlaceOf 67 = .ok (.invokevirtual 84, 3) := by decide +kernel
theorem dX2_nearestPlaceOf_70 : decode cX2_nearestPlaceOf 70 = .ok (.iload_n 3, 1) := by decide +kernel
theorem dX2_nearestPlaceOf_71 : decode cX2_nearestPlaceOf 71 = .ok (.invokevirtual 173, 3) := by decide +kernel
theorem dX2_nearestPlaceOf_74 : decode cX2_nearestPlaceOf 74 = .ok (.iinc 4 1, 3) := by decide +kernel
theorem dX2_nearestPlaceOf_77 : decode cX2_nearestPlaceOf 77 = .ok (.goto (-24), 3) := by decide +kernel
theorem dX2_nearestPlaceOf_80 : decode cX2_nearestPlaceOf 80 = .ok (.iinc 2 1, 3) := by decide +kernel
theorem dX2_nearestPlaceOf_83 : decode cX2_nearestPlaceOf 83 = .ok (.goto (-70), 3) := by decide +kernel
theorem dX2_nearestPlaceOf_86 : decode cX2_nearestPlaceOf 86 = .ok (.iconst (-1), 1) := by decide +kernel
theorem dX2_nearestPlaceOf_87 : decode cX2_nearestPlaceOf 87 = .ok (.ireturn, 1) := by decide +kernel
theorem dX2_afterStep_0 : decode cX2_afterStep 0 = .ok (.aload_n 0, 1) := by decide +kernel
theorem dX2_afterStep_1 : decode cX2_afterStep 1 = .ok (.getfield 28, 3) := by decide +kernel
theorem dX2_afterStep_4 : decode cX2_afterStep 4 = .ok (.iload_n 1, 1) := by decide +kernel
theorem dX2_afterStep_5 : decode cX2_afterStep 5 = .ok (.iload_n 2, 1) := by decide +kernel
theorem dX2_afterStep_6 : decode cX2_afterStep 6 = .ok (.invokevirtual 151, 3) := by decide +kernel
theorem dX2_afterStep_9 : decode cX2_afterStep 9 = .ok (.istore_n 3, 1) := by decide +kernel
theorem dX2_afterStep_10 : decode cX2_afterStep 10 = .ok (.aload_n 0, 1) := by decide +kernel
theorem dX2_afterStep_11 : decode cX2_afterStep 11 = .ok (.aload_n 0, 1) := by decide +kernel
theorem dX2_afterStep_12 : decode cX2_afterStep 12 = .ok (.getfield 12, 3) := by decide +kernel
theorem dX2_afterStep_15 : decode cX2_afterStep 15 = .ok (.iload_n 3, 1) := by decide +kernel
theorem dX2_afterStep_16 : decode cX2_afterStep 16 = .ok (.invokevirtual 101, 3) := by decide +kernel
theorem dX2_afterStep_19 : decode cX2_afterStep 19 = .ok (.invokevirtual 160, 3) := by decide +kernel
theorem dX2_afterStep_22 : decode cX2_afterStep 22 = .ok (.ifCond .eq 7, 3) := by decide +kernel
theorem dX2_afterStep_25 : decode cX2_afterStep 25 = .ok (.iload_n 3, 1) := by decide +kernel
theorem dX2_afterStep_26 : decode cX2_afterStep 26 = .ok (.goto 4, 3) := by decide +kernel
theorem dX2_afterStep_29 : decode cX2_afterStep 29 = .ok (.iconst (-1), 1) := by decide +kernel
theorem dX2_afterStep_30 : decode cX2_afterStep 30 = .ok (.ireturn, 1) := by decide +kernel
theorem dX2_isWithinLimit_0 : decode cX2_isWithinLimit 0 = .ok (.iload_n 1, 1) := by decide +kernel
theorem dX2_isWithinLimit_1 : decode cX2_isWithinLimit 1 = .ok (.iconst (-1), 1) := by decide +kernel
theorem dX2_isWithinLimit_2 : decode cX2_isWithinLimit 2 = .ok (.if_icmp .eq 15, 3) := by decide +kernel
theorem dX2_isWithinLimit_5 : decode cX2_isWithinLimit 5 = .ok (.iload_n 1, 1) := by decide +kernel
theorem dX2_isWithinLimit_6 : decode cX2_isWithinLimit 6 = .ok (.aload_n 0, 1) := by decide +kernel
theorem dX2_isWithinLimit_7 : decode cX2_isWithinLimit 7 = .ok (.getfield 32, 3) := by decide +kernel
theorem dX2_isWithinLimit_10 : decode cX2_isWithinLimit 10 = .ok (.if_icmp .gt 7, 3) := by decide +kernel
theorem dX2_isWithinLimit_13 : decode cX2_isWithinLimit 13 = .ok (.iconst 1, 1) := by decide +kernel
theorem dX2_isWithinLimit_14 : decode cX2_isWithinLimit 14 = .ok (.goto 4, 3) := by decide +kernel
theorem dX2_isWithinLimit_17 : decode cX2_isWithinLimit 17 = .ok (.iconst 0, 1) := by decide +kernel
theorem dX2_isWithinLimit_18 : decode cX2_isWithinLimit 18 = .ok (.ireturn, 1) := by decide +kernel
theorem dX2_leastLengthOf_0 : decode cX2_leastLengthOf 0 = .ok (.iconst (-1), 1) := by decide +kernel
theorem dX2_leastLengthOf_1 : decode cX2_leastLengthOf 1 = .ok (.istore_n 2, 1) := by decide +kernel
theorem dX2_leastLengthOf_2 : decode cX2_leastLengthOf 2 = .ok (.iconst 0, 1) := by decide +kernel
theorem dX2_leastLengthOf_3 : decode cX2_leastLengthOf 3 = .ok (.istore_n 3, 1) := by decide +kernel
theorem dX2_leastLengthOf_4 : decode cX2_leastLengthOf 4 = .ok (.iload_n 3, 1) := by decide +kernel
theorem dX2_leastLengthOf_5 : decode cX2_leastLengthOf 5 = .ok (.sipush 343, 3) := by decide +kernel
theorem dX2_leastLengthOf_8 : decode cX2_leastLengthOf 8 = .ok (.if_icmp .ge 43, 3) := by decide +kernel
theorem dX2_leastLengthOf_11 : decode cX2_leastLengthOf 11 = .ok (.aload_n 0, 1) := by decide +kernel
theorem dX2_leastLengthOf_12 : decode cX2_leastLengthOf 12 = .ok (.getfield 12, 3) := by decide +kernel
theorem dX2_leastLengthOf_15 : decode cX2_leastLengthOf 15 = .ok (.iload_n 1, 1) := by decide +kernel
theorem dX2_leastLengthOf_16 : decode cX2_leastLengthOf 16 = .ok (.iload_n 3, 1) := by decide +kernel
theorem dX2_leastLengthOf_17 : decode cX2_leastLengthOf 17 = .ok (.invokestatic 43, 3) := by decide +kernel
theorem dX2_leastLengthOf_20 : decode cX2_leastLengthOf 20 = .ok (.invokevirtual 101, 3) := by decide +kernel
theorem dX2_leastLengthOf_23 : decode cX2_leastLengthOf 23 = .ok (.istore 4, 2) := by decide +kernel
theorem dX2_leastLengthOf_25 : decode cX2_leastLengthOf 25 = .ok (.iload 4, 2) := by decide +kernel
theorem dX2_leastLengthOf_27 : decode cX2_leastLengthOf 27 = .ok (.iconst (-1), 1) := by decide +kernel
theorem dX2_leastLengthOf_28 : decode cX2_leastLengthOf 28 = .ok (.if_icmp .eq 17, 3) := by decide +kernel
theorem dX2_leastLengthOf_31 : decode cX2_leastLengthOf 31 = .ok (.iload_n 2, 1) := by decide +kernel
theorem dX2_leastLengthOf_32 : decode cX2_leastLengthOf 32 = .ok (.iconst (-1), 1) := by decide +kernel
theorem dX2_leastLengthOf_33 : decode cX2_leastLengthOf 33 = .ok (.if_icmp .eq 9, 3) := by decide +kernel
theorem dX2_leastLengthOf_36 : decode cX2_leastLengthOf 36 = .ok (.iload 4, 2) := by decide +kernel
theorem dX2_leastLengthOf_38 : decode cX2_leastLengthOf 38 = .ok (.iload_n 2, 1) := by decide +kernel
theorem dX2_leastLengthOf_39 : decode cX2_leastLengthOf 39 = .ok (.if_icmp .ge 6, 3) := by decide +kernel
theorem dX2_leastLengthOf_42 : decode cX2_leastLengthOf 42 = .ok (.iload 4, 2) := by decide +kernel
theorem dX2_leastLengthOf_44 : decode cX2_leastLengthOf 44 = .ok (.istore_n 2, 1) := by decide +kernel
theorem dX2_leastLengthOf_45 : decode cX2_leastLengthOf 45 = .ok (.iinc 3 1, 3) := by decide +kernel
theorem dX2_leastLengthOf_48 : decode cX2_leastLengthOf 48 = .ok (.goto (-44), 3) := by decide +kernel
theorem dX2_leastLengthOf_51 : decode cX2_leastLengthOf 51 = .ok (.iload_n 2, 1) := by decide +kernel
theorem dX2_leastLengthOf_52 : decode cX2_leastLengthOf 52 = .ok (.ireturn, 1) := by decide +kernel
theorem dX2_alongCable_0 : decode cX2_alongCable 0 = .ok (.aload_n 0, 1) := by decide +kernel
theorem dX2_alongCable_1 : decode cX2_alongCable 1 = .ok (.getfield 46, 3) := by decide +kernel
theorem dX2_alongCable_4 : decode cX2_alongCable 4 = .ok (.istore_n 2, 1) := by decide +kernel
theorem dX2_alongCable_5 : decode cX2_alongCable 5 = .ok (.iconst 0, 1) := by decide +kernel
theorem dX2_alongCable_6 : decode cX2_alongCable 6 = .ok (.istore_n 3, 1) := by decide +kernel
theorem dX2_alongCable_7 : decode cX2_alongCable 7 = .ok (.iload_n 3, 1) := by decide +kernel
theorem dX2_alongCable_8 : decode cX2_alongCable 8 = .ok (.iload_n 1, 1) := by decide +kernel
theorem dX2_alongCable_9 : decode cX2_alongCable 9 = .ok (.if_icmp .ge 23, 3) := by decide +kernel
theorem dX2_alongCable_12 : decode cX2_alongCable 12 = .ok (.aload_n 0, 1) := by decide +kernel
theorem dX2_alongCable_13 : decode cX2_alongCable 13 = .ok (.getfield 28, 3) := by decide +kernel
theorem dX2_alongCable_16 : decode cX2_alongCable 16 = .ok (.iload_n 2, 1) := by decide +kernel
theorem dX2_alongCable_17 : decode cX2_alongCable 17 = .ok (.aload_n 0, 1) := by decide +kernel
theorem dX2_alongCable_18 : decode cX2_alongCable 18 = .ok (.iload_n 2, 1) := by decide +kernel
theorem dX2_alongCable_19 : decode cX2_alongCable 19 = .ok (.invokevirtual 148, 3) := by decide +kernel
theorem dX2_alongCable_22 : decode cX2_alongCable 22 = .ok (.invokevirtual 151, 3) := by decide +kernel
theorem dX2_alongCable_25 : decode cX2_alongCable 25 = .ok (.istore_n 2, 1) := by decide +kernel
theorem dX2_alongCable_26 : decode cX2_alongCable 26 = .ok (.iinc 3 1, 3) := by decide +kernel
theorem dX2_alongCable_29 : decode cX2_alongCable 29 = .ok (.goto (-22), 3) := by decide +kernel
theorem dX2_alongCable_32 : decode cX2_alongCable 32 = .ok (.iload_n 2, 1) := by decide +kernel
theorem dX2_alongCable_33 : decode cX2_alongCable 33 = .ok (.ireturn, 1) := by decide +kernel
theorem dX2_cableDirection_0 : decode cX2_cableDirection 0 = .ok (.aload_n 0, 1) := by decide +kernel
theorem dX2_cableDirection_1 : decode cX2_cableDirection 1 = .ok (.getfield 12, 3) := by decide +kernel
theorem dX2_cableDirection_4 : decode cX2_cableDirection 4 = .ok (.iload_n 1, 1) := by decide +kernel
theorem dX2_cableDirection_5 : decode cX2_cableDirection 5 = .ok (.invokevirtual 101, 3) := by decide +kernel
theorem dX2_cableDirection_8 : decode cX2_cableDirection 8 = .ok (.istore_n 2, 1) := by decide +kernel
theorem dX2_cableDirection_9 : decode cX2_cableDirection 9 = .ok (.iload_n 2, 1) := by decide +kernel
theorem dX2_cableDirection_10 : decode cX2_cableDirection 10 = .ok (.iconst 1, 1) := by decide +kernel
theorem dX2_cableDirection_11 : decode cX2_cableDirection 11 = .ok (.if_icmp .ge 5, 3) := by decide +kernel
theorem dX2_cableDirection_14 : decode cX2_cableDirection 14 = .ok (.iconst (-1), 1) := by decide +kernel
theorem dX2_cableDirection_15 : decode cX2_cableDirection 15 = .ok (.ireturn, 1) := by decide +kernel
theorem dX2_cableDirection_16 : decode cX2_cableDirection 16 = .ok (.iconst 0, 1) := by decide +kernel
theorem dX2_cableDirection_17 : decode cX2_cableDirection 17 = .ok (.istore_n 3, 1) := by decide +kernel
theorem dX2_cableDirection_18 : decode cX2_cableDirection 18 = .ok (.iload_n 3, 1) := by decide +kernel
theorem dX2_cableDirection_19 : decode cX2_cableDirection 19 = .ok (.iconst 4, 1) := by decide +kernel
theorem dX2_cableDirection_20 : decode cX2_cableDirection 20 = .ok (.if_icmp .ge 33, 3) := by decide +kernel
theorem dX2_cableDirection_23 : decode cX2_cableDirection 23 = .ok (.aload_n 0, 1) := by decide +kernel
theorem dX2_cableDirection_24 : decode cX2_cableDirection 24 = .ok (.getfield 12, 3) := by decide +kernel
theorem dX2_cableDirection_27 : decode cX2_cableDirection 27 = .ok (.aload_n 0, 1) := by decide +kernel
theorem dX2_cableDirection_28 : decode cX2_cableDirection 28 = .ok (.getfield 28, 3) := by decide +kernel
theorem dX2_cableDirection_31 : decode cX2_cableDirection 31 = .ok (.iload_n 1, 1) := by decide +kernel
theorem dX2_cableDirection_32 : decode cX2_cableDirection 32 = .ok (.iload_n 3, 1) := by decide +kernel
theorem dX2_cableDirection_33 : decode cX2_cableDirection 33 = .ok (.invokevirtual 151, 3) := by decide +kernel
theorem dX2_cableDirection_36 : decode cX2_cableDirection 36 = .ok (.invokevirtual 101, 3) := by decide +kernel
theorem dX2_cableDirection_39 : decode cX2_cableDirection 39 = .ok (.iload_n 2, 1) := by decide +kernel
theorem dX2_cableDirection_40 : decode cX2_cableDirection 40 = .ok (.iconst 1, 1) := by decide +kernel
theorem dX2_cableDirection_41 : decode cX2_cableDirection 41 = .ok (.isub, 1) := by decide +kernel
theorem dX2_cableDirection_42 : decode cX2_cableDirection 42 = .ok (.if_icmp .ne 5, 3) := by decide +kernel
theorem dX2_cableDirection_45 : decode cX2_cableDirection 45 = .ok (.iload_n 3, 1) := by decide +kernel
theorem dX2_cableDirection_46 : decode cX2_cableDirection 46 = .ok (.ireturn, 1) := by decide +kernel
theorem dX2_cableDirection_47 : decode cX2_cableDirection 47 = .ok (.iinc 3 1, 3) := by decide +kernel
theorem dX2_cableDirection_50 : decode cX2_cableDirection 50 = .ok (.goto (-32), 3) := by decide +kernel
theorem dX2_cableDirection_53 : decode cX2_cableDirection 53 = .ok (.iconst (-1), 1) := by decide +kernel
theorem dX2_cableDirection_54 : decode cX2_cableDirection 54 = .ok (.ireturn, 1) := by decide +kernel
theorem dX2_fewestByTrying_0 : decode cX2_fewestByTrying 0 = .ok (.iload_n 1, 1) := by decide +kernel
theorem dX2_fewestByTrying_1 : decode cX2_fewestByTrying 1 = .ok (.iconst (-1), 1) := by decide +kernel
theorem dX2_fewestByTrying_2 : decode cX2_fewestByTrying 2 = .ok (.if_icmp .eq 21, 3) := by decide +kernel
theorem dX2_fewestByTrying_5 : decode cX2_fewestByTrying 5 = .ok (.iload_n 3, 1) := by decide +kernel
theorem dX2_fewestByTrying_6 : decode cX2_fewestByTrying 6 = .ok (.iload_n 1, 1) := by decide +kernel
theorem dX2_fewestByTrying_7 : decode cX2_fewestByTrying 7 = .ok (.invokestatic 114, 3) := by decide +kernel
theorem dX2_fewestByTrying_10 : decode cX2_fewestByTrying 10 = .ok (.iload_n 2, 1) := by decide +kernel
theorem dX2_fewestByTrying_11 : decode cX2_fewestByTrying 11 = .ok (.invokestatic 114, 3) := by decide +kernel
theorem dX2_fewestByTrying_14 : decode cX2_fewestByTrying 14 = .ok (.invokestatic 176, 3) := by decide +kernel
theorem dX2_fewestByTrying_17 : decode cX2_fewestByTrying 17 = .ok (.iadd, 1) := by decide +kernel
theorem dX2_fewestByTrying_18 : decode cX2_fewestByTrying 18 = .ok (.iload 4, 2) := by decide +kernel
theorem dX2_fewestByTrying_20 : decode cX2_fewestByTrying 20 = .ok (.if_icmp .le 8, 3) := by decide +kernel
theorem dX2_fewestByTrying_23 : decode cX2_fewestByTrying 23 = .ok (.iload 4, 2) := by decide +kernel
theorem dX2_fewestByTrying_25 : decode cX2_fewestByTrying 25 = .ok (.iconst 1, 1) := by decide +kernel
theorem dX2_fewestByTrying_26 : decode cX2_fewestByTrying 26 = .ok (.iadd, 1) := by decide +kernel
theorem dX2_fewestByTrying_27 : decode cX2_fewestByTrying 27 = .ok (.ireturn, 1) := by decide +kernel
theorem dX2_fewestByTrying_28 : decode cX2_fewestByTrying 28 = .ok (.iload_n 1, 1) := by decide +kernel
theorem dX2_fewestByTrying_29 : decode cX2_fewestByTrying 29 = .ok (.iload_n 2, 1) := by decide +kernel
theorem dX2_fewestByTrying_30 : decode cX2_fewestByTrying 30 = .ok (.if_icmp .ne 5, 3) := by decide +kernel
theorem dX2_fewestByTrying_33 : decode cX2_fewestByTrying 33 = .ok (.iload_n 3, 1) := by decide +kernel
theorem dX2_fewestByTrying_34 : decode cX2_fewestByTrying 34 = .ok (.ireturn, 1) := by decide +kernel
theorem dX2_fewestByTrying_35 : decode cX2_fewestByTrying 35 = .ok (.iload 4, 2) := by decide +kernel
theorem dX2_fewestByTrying_37 : decode cX2_fewestByTrying 37 = .ok (.iconst 1, 1) := by decide +kernel
theorem dX2_fewestByTrying_38 : decode cX2_fewestByTrying 38 = .ok (.iadd, 1) := by decide +kernel
theorem dX2_fewestByTrying_39 : decode cX2_fewestByTrying 39 = .ok (.istore 5, 2) := by decide +kernel
theorem dX2_fewestByTrying_41 : decode cX2_fewestByTrying 41 = .ok (.iconst 0, 1) := by decide +kernel
theorem dX2_fewestByTrying_42 : decode cX2_fewestByTrying 42 = .ok (.istore 6, 2) := by decide +kernel
theorem dX2_fewestByTrying_44 : decode cX2_fewestByTrying 44 = .ok (.iload 6, 2) := by decide +kernel
theorem dX2_fewestByTrying_46 : decode cX2_fewestByTrying 46 = .ok (.iconst 4, 1) := by decide +kernel
theorem dX2_fewestByTrying_47 : decode cX2_fewestByTrying 47 = .ok (.if_icmp .ge 30, 3) := by decide +kernel
theorem dX2_fewestByTrying_50 : decode cX2_fewestByTrying 50 = .ok (.aload_n 0, 1) := by decide +kernel
theorem dX2_fewestByTrying_51 : decode cX2_fewestByTrying 51 = .ok (.aload_n 0, 1) := by decide +kernel
theorem dX2_fewestByTrying_52 : decode cX2_fewestByTrying 52 = .ok (.iload_n 1, 1) := by decide +kernel
theorem dX2_fewestByTrying_53 : decode cX2_fewestByTrying 53 = .ok (.iload 6, 2) := by decide +kernel
theorem dX2_fewestByTrying_55 : decode cX2_fewestByTrying 55 = .ok (.invokevirtual 151, 3) := by decide +kernel
theorem dX2_fewestByTrying_58 : decode cX2_fewestByTrying 58 = .ok (.iload_n 2, 1) := by decide +kernel
theorem dX2_fewestByTrying_59 : decode cX2_fewestByTrying 59 = .ok (.iload_n 3, 1) := by decide +kernel
theorem dX2_fewestByTrying_60 : decode cX2_fewestByTrying 60 = .ok (.iconst 1, 1) := by decide +kernel
theorem dX2_fewestByTrying_61 : decode cX2_fewestByTrying 61 = .ok (.iadd, 1) := by decide +kernel
theorem dX2_fewestByTrying_62 : decode cX2_fewestByTrying 62 = .ok (.iload 5, 2) := by decide +kernel
theorem dX2_fewestByTrying_64 : decode cX2_fewestByTrying 64 = .ok (.iconst 1, 1) := by decide +kernel
theorem dX2_fewestByTrying_65 : decode cX2_fewestByTrying 65 = .ok (.isub, 1) := by decide +kernel
theorem dX2_fewestByTrying_66 : decode cX2_fewestByTrying 66 = .ok (.invokestatic 142, 3) := by decide +kernel
theorem dX2_fewestByTrying_69 : decode cX2_fewestByTrying 69 = .ok (.istore 5, 2) := by decide +kernel
theorem dX2_fewestByTrying_71 : decode cX2_fewestByTrying 71 = .ok (.iinc 6 1, 3) := by decide +kernel
theorem dX2_fewestByTrying_74 : decode cX2_fewestByTrying 74 = .ok (.goto (-30), 3) := by decide +kernel
theorem dX2_fewestByTrying_77 : decode cX2_fewestByTrying 77 = .ok (.iload 5, 2) := by decide +kernel
theorem dX2_fewestByTrying_79 : decode cX2_fewestByTrying 79 = .ok (.ireturn, 1) := by decide +kernel
theorem dX2_requireSquare_0 : decode cX2_requireSquare 0 = .ok (.aload_n 0, 1) := by decide +kernel
theorem dX2_requireSquare_1 : decode cX2_requireSquare 1 = .ok (.getfield 28, 3) := by decide +kernel
theorem dX2_requireSquare_4 : decode cX2_requireSquare 4 = .ok (.iload_n 1, 1) := by decide +kernel
theorem dX2_requireSquare_5 : decode cX2_requireSquare 5 = .ok (.iload_n 2, 1) := by decide +kernel
theorem dX2_requireSquare_6 : decode cX2_requireSquare 6 = .ok (.invokevirtual 179, 3) := by decide +kernel
theorem dX2_requireSquare_9 : decode cX2_requireSquare 9 = .ok (.ifCond .ne 13, 3) := by decide +kernel
theorem dX2_requireSquare_12 : decode cX2_requireSquare 12 = .ok (.new 132, 3) := by decide +kernel
theorem dX2_requireSquare_15 : decode cX2_requireSquare 15 = .ok (.dup, 1) := by decide +kernel
theorem dX2_requireSquare_16 : decode cX2_requireSquare 16 = .ok (.ldc 183, 2) := by decide +kernel
theorem dX2_requireSquare_18 : decode cX2_requireSquare 18 = .ok (.invokespecial 136, 3) := by decide +kernel
theorem dX2_requireSquare_21 : decode cX2_requireSquare 21 = .ok (.athrow, 1) := by decide +kernel
theorem dX2_requireSquare_22 : decode cX2_requireSquare 22 = .ok (.return_, 1) := by decide +kernel
theorem dX2_between_0 : decode cX2_between 0 = .ok (.iload_n 0, 1) := by decide +kernel
theorem dX2_between_1 : decode cX2_between 1 = .ok (.iload_n 1, 1) := by decide +kernel
theorem dX2_between_2 : decode cX2_between 2 = .ok (.iload_n 2, 1) := by decide +kernel
theorem dX2_between_3 : decode cX2_between 3 = .ok (.invokestatic 106, 3) := by decide +kernel
theorem dX2_between_6 : decode cX2_between 6 = .ok (.invokestatic 157, 3) := by decide +kernel
theorem dX2_between_9 : decode cX2_between 9 = .ok (.ireturn, 1) := by decide +kernel
theorem dX2_squareAt_0 : decode cX2_squareAt 0 = .ok (.iload_n 0, 1) := by decide +kernel
theorem dX2_squareAt_1 : decode cX2_squareAt 1 = .ok (.bipush 7, 2) := by decide +kernel
theorem dX2_squareAt_3 : decode cX2_squareAt 3 = .ok (.imul, 1) := by decide +kernel
theorem dX2_squareAt_4 : decode cX2_squareAt 4 = .ok (.iload_n 1, 1) := by decide +kernel
theorem dX2_squareAt_5 : decode cX2_squareAt 5 = .ok (.iadd, 1) := by decide +kernel
theorem dX2_squareAt_6 : decode cX2_squareAt 6 = .ok (.ireturn, 1) := by decide +kernel
theorem dX2_columnOf_0 : decode cX2_columnOf 0 = .ok (.iload_n 0, 1) := by decide +kernel
theorem dX2_columnOf_1 : decode cX2_columnOf 1 = .ok (.bipush 7, 2) := by decide +kernel
theorem dX2_columnOf_3 : decode cX2_columnOf 3 = .ok (.idiv, 1) := by decide +kernel
theorem dX2_columnOf_4 : decode cX2_columnOf 4 = .ok (.ireturn, 1) := by decide +kernel
theorem dX2_rowOf_0 : decode cX2_rowOf 0 = .ok (.iload_n 0, 1) := by decide +kernel
theorem dX2_rowOf_1 : decode cX2_rowOf 1 = .ok (.bipush 7, 2) := by decide +kernel
theorem dX2_rowOf_3 : decode cX2_rowOf 3 = .ok (.irem, 1) := by decide +kernel
theorem dX2_rowOf_4 : decode cX2_rowOf 4 = .ok (.ireturn, 1) := by decide +kernel
theorem dX2_apart_0 : decode cX2_apart 0 = .ok (.iload_n 0, 1) := by decide +kernel
theorem dX2_apart_1 : decode cX2_apart 1 = .ok (.invokestatic 117, 3) := by decide +kernel
theorem dX2_apart_4 : decode cX2_apart 4 = .ok (.iload_n 1, 1) := by decide +kernel
theorem dX2_apart_5 : decode cX2_apart 5 = .ok (.invokestatic 117, 3) := by decide +kernel
theorem dX2_apart_8 : decode cX2_apart 8 = .ok (.isub, 1) := by decide +kernel
theorem dX2_apart_9 : decode cX2_apart 9 = .ok (.invokestatic 185, 3) := by decide +kernel
theorem dX2_apart_12 : decode cX2_apart 12 = .ok (.iload_n 0, 1) := by decide +kernel
theorem dX2_apart_13 : decode cX2_apart 13 = .ok (.invokestatic 120, 3) := by decide +kernel
theorem dX2_apart_16 : decode cX2_apart 16 = .ok (.iload_n 1, 1) := by decide +kernel
theorem dX2_apart_17 : decode cX2_apart 17 = .ok (.invokestatic 120, 3) := by decide +kernel
theorem dX2_apart_20 : decode cX2_apart 20 = .ok (.isub, 1) := by decide +kernel
theorem dX2_apart_21 : decode cX2_apart 21 = .ok (.invokestatic 185, 3) := by decide +kernel
theorem dX2_apart_24 : decode cX2_apart 24 = .ok (.iadd, 1) := by decide +kernel
theorem dX2_apart_25 : decode cX2_apart 25 = .ok (.ireturn, 1) := by decide +kernel
theorem dX2_placeOf_0 : decode cX2_placeOf 0 = .ok (.iload_n 0, 1) := by decide +kernel
theorem dX2_placeOf_1 : decode cX2_placeOf 1 = .ok (.sipush 343, 3) := by decide +kernel
theorem dX2_placeOf_4 : decode cX2_placeOf 4 = .ok (.imul, 1) := by decide +kernel
theorem dX2_placeOf_5 : decode cX2_placeOf 5 = .ok (.iload_n 1, 1) := by decide +kernel
theorem dX2_placeOf_6 : decode cX2_placeOf 6 = .ok (.iadd, 1) := by decide +kernel
theorem dX2_placeOf_7 : decode cX2_placeOf 7 = .ok (.ireturn, 1) := by decide +kernel
theorem dX2_squareOf_0 : decode cX2_squareOf 0 = .ok (.iload_n 0, 1) := by decide +kernel
theorem dX2_squareOf_1 : decode cX2_squareOf 1 = .ok (.sipush 343, 3) := by decide +kernel
theorem dX2_squareOf_4 : decode cX2_squareOf 4 = .ok (.idiv, 1) := by decide +kernel
theorem dX2_squareOf_5 : decode cX2_squareOf 5 = .ok (.ireturn, 1) := by decide +kernel
theorem dX2_wordOf_0 : decode cX2_wordOf 0 = .ok (.iload_n 0, 1) := by decide +kernel
theorem dX2_wordOf_1 : decode cX2_wordOf 1 = .ok (.sipush 343, 3) := by decide +kernel
theorem dX2_wordOf_4 : decode cX2_wordOf 4 = .ok (.irem, 1) := by decide +kernel
theorem dX2_wordOf_5 : decode cX2_wordOf 5 = .ok (.ireturn, 1) := by decide +kernel
theorem dX2_lettersOf_0 : decode cX2_lettersOf 0 = .ok (.iconst 0, 1) := by decide +kernel
theorem dX2_lettersOf_1 : decode cX2_lettersOf 1 = .ok (.istore_n 1, 1) := by decide +kernel
theorem dX2_lettersOf_2 : decode cX2_lettersOf 2 = .ok (.iload_n 0, 1) := by decide +kernel
theorem dX2_lettersOf_3 : decode cX2_lettersOf 3 = .ok (.istore_n 2, 1) := by decide +kernel
theorem dX2_lettersOf_4 : decode cX2_lettersOf 4 = .ok (.iload_n 2, 1) := by decide +kernel
theorem dX2_lettersOf_5 : decode cX2_lettersOf 5 = .ok (.ifCond .le 19, 3) := by decide +kernel
theorem dX2_lettersOf_8 : decode cX2_lettersOf 8 = .ok (.iload_n 1, 1) := by decide +kernel
theorem dX2_lettersOf_9 : decode cX2_lettersOf 9 = .ok (.iconst 3, 1) := by decide +kernel
theorem dX2_lettersOf_10 : decode cX2_lettersOf 10 = .ok (.if_icmp .ge 14, 3) := by decide +kernel
theorem dX2_lettersOf_13 : decode cX2_lettersOf 13 = .ok (.iload_n 2, 1) := by decide +kernel
theorem dX2_lettersOf_14 : decode cX2_lettersOf 14 = .ok (.bipush 7, 2) := by decide +kernel
theorem dX2_lettersOf_16 : decode cX2_lettersOf 16 = .ok (.idiv, 1) := by decide +kernel
theorem dX2_lettersOf_17 : decode cX2_lettersOf 17 = .ok (.istore_n 2, 1) := by decide +kernel
theorem dX2_lettersOf_18 : decode cX2_lettersOf 18 = .ok (.iinc 1 1, 3) := by decide +kernel
theorem dX2_lettersOf_21 : decode cX2_lettersOf 21 = .ok (.goto (-17), 3) := by decide +kernel
theorem dX2_lettersOf_24 : decode cX2_lettersOf 24 = .ok (.iload_n 1, 1) := by decide +kernel
theorem dX2_lettersOf_25 : decode cX2_lettersOf 25 = .ok (.ireturn, 1) := by decide +kernel
theorem dX2_lastLetterOf_0 : decode cX2_lastLetterOf 0 = .ok (.iload_n 0, 1) := by decide +kernel
theorem dX2_lastLetterOf_1 : decode cX2_lastLetterOf 1 = .ok (.bipush 7, 2) := by decide +kernel
theorem dX2_lastLetterOf_3 : decode cX2_lastLetterOf 3 = .ok (.irem, 1) := by decide +kernel
theorem dX2_lastLetterOf_4 : decode cX2_lastLetterOf 4 = .ok (.iconst 1, 1) := by decide +kernel
theorem dX2_lastLetterOf_5 : decode cX2_lastLetterOf 5 = .ok (.isub, 1) := by decide +kernel
theorem dX2_lastLetterOf_6 : decode cX2_lastLetterOf 6 = .ok (.ireturn, 1) := by decide +kernel
theorem dX2_oppositeOf_0 : decode cX2_oppositeOf 0 = .ok (.iload_n 0, 1) := by decide +kernel
theorem dX2_oppositeOf_1 : decode cX2_oppositeOf 1 = .ok (.iconst 1, 1) := by decide +kernel
theorem dX2_oppositeOf_2 : decode cX2_oppositeOf 2 = .ok (.ixor, 1) := by decide +kernel
theorem dX2_oppositeOf_3 : decode cX2_oppositeOf 3 = .ok (.ireturn, 1) := by decide +kernel
theorem dX2_withLetter_0 : decode cX2_withLetter 0 = .ok (.iload_n 0, 1) := by decide +kernel
theorem dX2_withLetter_1 : decode cX2_withLetter 1 = .ok (.invokestatic 137, 3) := by decide +kernel
theorem dX2_withLetter_4 : decode cX2_withLetter 4 = .ok (.iload_n 1, 1) := by decide +kernel
theorem dX2_withLetter_5 : decode cX2_withLetter 5 = .ok (.invokestatic 188, 3) := by decide +kernel
theorem dX2_withLetter_8 : decode cX2_withLetter 8 = .ok (.if_icmp .ne 8, 3) := by decide +kernel
theorem dX2_withLetter_11 : decode cX2_withLetter 11 = .ok (.iload_n 0, 1) := by decide +kernel
theorem dX2_withLetter_12 : decode cX2_withLetter 12 = .ok (.bipush 7, 2) := by decide +kernel
theorem dX2_withLetter_14 : decode cX2_withLetter 14 = .ok (.idiv, 1) := by decide +kernel
theorem dX2_withLetter_15 : decode cX2_withLetter 15 = .ok (.ireturn, 1) := by decide +kernel
theorem dX2_withLetter_16 : decode cX2_withLetter 16 = .ok (.iload_n 0, 1) := by decide +kernel
theorem dX2_withLetter_17 : decode cX2_withLetter 17 = .ok (.bipush 7, 2) := by decide +kernel
theorem dX2_withLetter_19 : decode cX2_withLetter 19 = .ok (.imul, 1) := by decide +kernel
theorem dX2_withLetter_20 : decode cX2_withLetter 20 = .ok (.iload_n 1, 1) := by decide +kernel
theorem dX2_withLetter_21 : decode cX2_withLetter 21 = .ok (.iadd, 1) := by decide +kernel
theorem dX2_withLetter_22 : decode cX2_withLetter 22 = .ok (.iconst 1, 1) := by decide +kernel
theorem dX2_withLetter_23 : decode cX2_withLetter 23 = .ok (.iadd, 1) := by decide +kernel
theorem dX2_withLetter_24 : decode cX2_withLetter 24 = .ok (.ireturn, 1) := by decide +kernel
theorem dJ9_abs_0f7a4_0 : decode cJ9_abs_0f7a4 0 = .ok (.iload_n 0, 1) := by decide +kernel
theorem dJ9_abs_0f7a4_1 : decode cJ9_abs_0f7a4 1 = .ok (.ifCond .ge 8, 3) := by decide +kernel
theorem dJ9_abs_0f7a4_4 : decode cJ9_abs_0f7a4 4 = .ok (.iload_n 0, 1) := by decide +kernel
theorem dJ9_abs_0f7a4_5 : decode cJ9_abs_0f7a4 5 = .ok (.ineg, 1) := by decide +kernel
theorem dJ9_abs_0f7a4_6 : decode cJ9_abs_0f7a4 6 = .ok (.goto 4, 3) := by decide +kernel
theorem dJ9_abs_0f7a4_9 : decode cJ9_abs_0f7a4 9 = .ok (.iload_n 0, 1) := by decide +kernel
theorem dJ9_abs_0f7a4_10 : decode cJ9_abs_0f7a4 10 = .ok (.ireturn, 1) := by decide +kernel
theorem dJ9_max_7cf53_0 : decode cJ9_max_7cf53 0 = .ok (.iload_n 0, 1) := by decide +kernel
theorem dJ9_max_7cf53_1 : decode cJ9_max_7cf53 1 = .ok (.iload_n 1, 1) := by decide +kernel
theorem dJ9_max_7cf53_2 : decode cJ9_max_7cf53 2 = .ok (.if_icmp .lt 7, 3) := by decide +kernel
theorem dJ9_max_7cf53_5 : decode cJ9_max_7cf53 5 = .ok (.iload_n 0, 1) := by decide +kernel
theorem dJ9_max_7cf53_6 : decode cJ9_max_7cf53 6 = .ok (.goto 4, 3) := by decide +kernel
theorem dJ9_max_7cf53_9 : decode cJ9_max_7cf53 9 = .ok (.iload_n 1, 1) := by decide +kernel
theorem dJ9_max_7cf53_10 : decode cJ9_max_7cf53 10 = .ok (.ireturn, 1) := by decide +kernel
theorem dJ9_min_7cf53_0 : decode cJ9_min_7cf53 0 = .ok (.iload_n 0, 1) := by decide +kernel
theorem dJ9_min_7cf53_1 : decode cJ9_min_7cf53 1 = .ok (.iload_n 1, 1) := by decide +kernel
theorem dJ9_min_7cf53_2 : decode cJ9_min_7cf53 2 = .ok (.if_icmp .gt 7, 3) := by decide +kernel
theorem dJ9_min_7cf53_5 : decode cJ9_min_7cf53 5 = .ok (.iload_n 0, 1) := by decide +kernel
theorem dJ9_min_7cf53_6 : decode cJ9_min_7cf53 6 = .ok (.goto 4, 3) := by decide +kernel
theorem dJ9_min_7cf53_9 : decode cJ9_min_7cf53 9 = .ok (.iload_n 1, 1) := by decide +kernel
theorem dJ9_min_7cf53_10 : decode cJ9_min_7cf53 10 = .ok (.ireturn, 1) := by decide +kernel
theorem dJ7_fill_53178_0 : decode cJ7_fill_53178 0 = .ok (.iconst 0, 1) := by decide +kernel
theorem dJ7_fill_53178_1 : decode cJ7_fill_53178 1 = .ok (.istore_n 2, 1) := by decide +kernel
theorem dJ7_fill_53178_2 : decode cJ7_fill_53178 2 = .ok (.aload_n 0, 1) := by decide +kernel
theorem dJ7_fill_53178_3 : decode cJ7_fill_53178 3 = .ok (.arraylength, 1) := by decide +kernel
theorem dJ7_fill_53178_4 : decode cJ7_fill_53178 4 = .ok (.istore_n 3, 1) := by decide +kernel
theorem dJ7_fill_53178_5 : decode cJ7_fill_53178 5 = .ok (.iload_n 2, 1) := by decide +kernel
theorem dJ7_fill_53178_6 : decode cJ7_fill_53178 6 = .ok (.iload_n 3, 1) := by decide +kernel
theorem dJ7_fill_53178_7 : decode cJ7_fill_53178 7 = .ok (.if_icmp .ge 13, 3) := by decide +kernel
theorem dJ7_fill_53178_10 : decode cJ7_fill_53178 10 = .ok (.aload_n 0, 1) := by decide +kernel
theorem dJ7_fill_53178_11 : decode cJ7_fill_53178 11 = .ok (.iload_n 2, 1) := by decide +kernel
theorem dJ7_fill_53178_12 : decode cJ7_fill_53178 12 = .ok (.iload_n 1, 1) := by decide +kernel
theorem dJ7_fill_53178_13 : decode cJ7_fill_53178 13 = .ok (.iastore, 1) := by decide +kernel
theorem dJ7_fill_53178_14 : decode cJ7_fill_53178 14 = .ok (.iinc 2 1, 3) := by decide +kernel
theorem dJ7_fill_53178_17 : decode cJ7_fill_53178 17 = .ok (.goto (-12), 3) := by decide +kernel
theorem dJ7_fill_53178_20 : decode cJ7_fill_53178 20 = .ok (.return_, 1) := by decide +kernel
