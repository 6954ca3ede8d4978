theorem dX3_init_0 : decode cX3_init 0 = .ok (.aload_n 0, 1) := by decide +kernel
theorem dX3_init_1 : decode cX3_init 1 = .ok (.invokespecial 1, 3) := by decide +kernel
theorem dX3_init_4 : decode cX3_init 4 = .ok (.aload_n 0, 1) := by decide +kernel
theorem dX3_init_5 : decode cX3_init 5 = .ok (.iconst 3, 1) := by decide +kernel
theorem dX3_init_6 : decode cX3_init 6 = .ok (.newarray .int, 2) := by decide +kernel
theorem dX3_init_8 : decode cX3_init 8 = .ok (.putfield 7, 3) := by decide +kernel
theorem dX3_init_11 : decode cX3_init 11 = .ok (.aload_n 0, 1) := by decide +kernel
theorem dX3_init_12 : decode cX3_init 12 = .ok (.iconst 3, 1) := by decide +kernel
theorem dX3_init_13 : decode cX3_init 13 = .ok (.newarray .int, 2) := by decide +kernel
theorem dX3_init_15 : decode cX3_init 15 = .ok (.putfield 13, 3) := by decide +kernel
theorem dX3_init_18 : decode cX3_init 18 = .ok (.aload_n 0, 1) := by decide +kernel
theorem dX3_init_19 : decode cX3_init 19 = .ok (.sipush 16807, 3) := by decide +kernel
theorem dX3_init_22 : decode cX3_init 22 = .ok (.newarray .int, 2) := by decide +kernel
theorem dX3_init_24 : decode cX3_init 24 = .ok (.putfield 16, 3) := by decide +kernel
theorem dX3_init_27 : decode cX3_init 27 = .ok (.aload_n 0, 1) := by decide +kernel
theorem dX3_init_28 : decode cX3_init 28 = .ok (.sipush 16807, 3) := by decide +kernel
theorem dX3_init_31 : decode cX3_init 31 = .ok (.newarray .int, 2) := by decide +kernel
theorem dX3_init_33 : decode cX3_init 33 = .ok (.putfield 19, 3) := by decide +kernel
theorem dX3_init_36 : decode cX3_init 36 = .ok (.aload_n 0, 1) := by decide +kernel
theorem dX3_init_37 : decode cX3_init 37 = .ok (.sipush 16807, 3) := by decide +kernel
theorem dX3_init_40 : decode cX3_init 40 = .ok (.newarray .int, 2) := by decide +kernel
theorem dX3_init_42 : decode cX3_init 42 = .ok (.putfield 22, 3) := by decide +kernel
theorem dX3_init_45 : decode cX3_init 45 = .ok (.aload_n 0, 1) := by decide +kernel
theorem dX3_init_46 : decode cX3_init 46 = .ok (.iload_n 1, 1) := by decide +kernel
theorem dX3_init_47 : decode cX3_init 47 = .ok (.iconst 3, 1) := by decide +kernel
theorem dX3_init_48 : decode cX3_init 48 = .ok (.bipush 7, 2) := by decide +kernel
theorem dX3_init_50 : decode cX3_init 50 = .ok (.invokestatic 25, 3) := by decide +kernel
theorem dX3_init_53 : decode cX3_init 53 = .ok (.putfield 29, 3) := by decide +kernel
theorem dX3_init_56 : decode cX3_init 56 = .ok (.aload_n 0, 1) := by decide +kernel
theorem dX3_init_57 : decode cX3_init 57 = .ok (.iload_n 2, 1) := by decide +kernel
theorem dX3_init_58 : decode cX3_init 58 = .ok (.iconst 3, 1) := by decide +kernel
theorem dX3_init_59 : decode cX3_init 59 = .ok (.bipush 7, 2) := by decide +kernel
theorem dX3_init_61 : decode cX3_init 61 = .ok (.invokestatic 25, 3) := by decide +kernel
theorem dX3_init_64 : decode cX3_init 64 = .ok (.putfield 33, 3) := by decide +kernel
theorem dX3_init_67 : decode cX3_init 67 = .ok (.aload_n 0, 1) := by decide +kernel
theorem dX3_init_68 : decode cX3_init 68 = .ok (.iload_n 3, 1) := by decide +kernel
theorem dX3_init_69 : decode cX3_init 69 = .ok (.iconst 1, 1) := by decide +kernel
theorem dX3_init_70 : decode cX3_init 70 = .ok (.bipush 60, 2) := by decide +kernel
theorem dX3_init_72 : decode cX3_init 72 = .ok (.invokestatic 25, 3) := by decide +kernel
theorem dX3_init_75 : decode cX3_init 75 = .ok (.putfield 36, 3) := by decide +kernel
theorem dX3_init_78 : decode cX3_init 78 = .ok (.aload_n 0, 1) := by decide +kernel
theorem dX3_init_79 : decode cX3_init 79 = .ok (.invokevirtual 39, 3) := by decide +kernel
theorem dX3_init_82 : decode cX3_init 82 = .ok (.return_, 1) := by decide +kernel
theorem dX3_bounded_0 : decode cX3_bounded 0 = .ok (.iload_n 0, 1) := by decide +kernel
theorem dX3_bounded_1 : decode cX3_bounded 1 = .ok (.iload_n 1, 1) := by decide +kernel
theorem dX3_bounded_2 : decode cX3_bounded 2 = .ok (.if_icmp .ge 7, 3) := by decide +kernel
theorem dX3_bounded_5 : decode cX3_bounded 5 = .ok (.iload_n 1, 1) := by decide +kernel
theorem dX3_bounded_6 : decode cX3_bounded 6 = .ok (.goto 13, 3) := by decide +kernel
theorem dX3_bounded_9 : decode cX3_bounded 9 = .ok (.iload_n 0, 1) := by decide +kernel
theorem dX3_bounded_10 : decode cX3_bounded 10 = .ok (.iload_n 2, 1) := by decide +kernel
theorem dX3_bounded_11 : decode cX3_bounded 11 = .ok (.if_icmp .le 7, 3) := by decide +kernel
theorem dX3_bounded_14 : decode cX3_bounded 14 = .ok (.iload_n 2, 1) := by decide +kernel
theorem dX3_bounded_15 : decode cX3_bounded 15 = .ok (.goto 4, 3) := by decide +kernel
theorem dX3_bounded_18 : decode cX3_bounded 18 = .ok (.iload_n 0, 1) := by decide +kernel
theorem dX3_bounded_19 : decode cX3_bounded 19 = .ok (.ireturn, 1) := by decide +kernel
theorem dX3_thrown_0 : decode cX3_thrown 0 = .ok (.aload_n 0, 1) := by decide +kernel
theorem dX3_thrown_1 : decode cX3_thrown 1 = .ok (.getfield 42, 3) := by decide +kernel
theorem dX3_thrown_4 : decode cX3_thrown 4 = .ok (.ireturn, 1) := by decide +kernel
theorem dX3_holds_0 : decode cX3_holds 0 = .ok (.aload_n 0, 1) := by decide +kernel
theorem dX3_holds_1 : decode cX3_holds 1 = .ok (.iload_n 1, 1) := by decide +kernel
theorem dX3_holds_2 : decode cX3_holds 2 = .ok (.putfield 42, 3) := by decide +kernel
theorem dX3_holds_5 : decode cX3_holds 5 = .ok (.iload_n 1, 1) := by decide +kernel
theorem dX3_holds_6 : decode cX3_holds 6 = .ok (.ifCond .ne 7, 3) := by decide +kernel
theorem dX3_holds_9 : decode cX3_holds 9 = .ok (.iconst 1, 1) := by decide +kernel
theorem dX3_holds_10 : decode cX3_holds 10 = .ok (.goto 4, 3) := by decide +kernel
theorem dX3_holds_13 : decode cX3_holds 13 = .ok (.iconst 0, 1) := by decide +kernel
theorem dX3_holds_14 : decode cX3_holds 14 = .ok (.ireturn, 1) := by decide +kernel
theorem dX3_in_0 : decode cX3_in 0 = .ok (.iload_n 0, 1) := by decide +kernel
theorem dX3_in_1 : decode cX3_in 1 = .ok (.iload_n 1, 1) := by decide +kernel
theorem dX3_in_2 : decode cX3_in 2 = .ok (.if_icmp .lt 12, 3) := by decide +kernel
theorem dX3_in_5 : decode cX3_in 5 = .ok (.iload_n 0, 1) := by decide +kernel
theorem dX3_in_6 : decode cX3_in 6 = .ok (.iload_n 2, 1) := by decide +kernel
theorem dX3_in_7 : decode cX3_in 7 = .ok (.if_icmp .gt 7, 3) := by decide +kernel
theorem dX3_in_10 : decode cX3_in 10 = .ok (.iconst 1, 1) := by decide +kernel
theorem dX3_in_11 : decode cX3_in 11 = .ok (.goto 4, 3) := by decide +kernel
theorem dX3_in_14 : decode cX3_in 14 = .ok (.iconst 0, 1) := by decide +kernel
theorem dX3_in_15 : decode cX3_in 15 = .ok (.ireturn, 1) := by decide +kernel
theorem dX3_isSquare_0 : decode cX3_isSquare 0 = .ok (.iload_n 1, 1) := by decide +kernel
theorem dX3_isSquare_1 : decode cX3_isSquare 1 = .ok (.iconst 0, 1) := by decide +kernel
theorem dX3_isSquare_2 : decode cX3_isSquare 2 = .ok (.aload_n 0, 1) := by decide +kernel
theorem dX3_isSquare_3 : decode cX3_isSquare 3 = .ok (.getfield 29, 3) := by decide +kernel
theorem dX3_isSquare_6 : decode cX3_isSquare 6 = .ok (.iconst 1, 1) := by decide +kernel
theorem dX3_isSquare_7 : decode cX3_isSquare 7 = .ok (.isub, 1) := by decide +kernel
theorem dX3_isSquare_8 : decode cX3_isSquare 8 = .ok (.invokestatic 45, 3) := by decide +kernel
theorem dX3_isSquare_11 : decode cX3_isSquare 11 = .ok (.ifCond .eq 21, 3) := by decide +kernel
theorem dX3_isSquare_14 : decode cX3_isSquare 14 = .ok (.iload_n 2, 1) := by decide +kernel
theorem dX3_isSquare_15 : decode cX3_isSquare 15 = .ok (.iconst 0, 1) := by decide +kernel
theorem dX3_isSquare_16 : decode cX3_isSquare 16 = .ok (.aload_n 0, 1) := by decide +kernel
theorem dX3_isSquare_17 : decode cX3_isSquare 17 = .ok (.getfield 33, 3) := by decide +kernel
theorem dX3_isSquare_20 : decode cX3_isSquare 20 = .ok (.iconst 1, 1) := by decide +kernel
theorem dX3_isSquare_21 : decode cX3_isSquare 21 = .ok (.isub, 1) := by decide +kernel
theorem dX3_isSquare_22 : decode cX3_isSquare 22 = .ok (.invokestatic 45, 3) := by decide +kernel
theorem dX3_isSquare_25 : decode cX3_isSquare 25 = .ok (.ifCond .eq 7, 3) := by decide +kernel
theorem dX3_isSquare_28 : decode cX3_isSquare 28 = .ok (.iconst 1, 1) := by decide +kernel
theorem dX3_isSquare_29 : decode cX3_isSquare 29 = .ok (.goto 4, 3) := by decide +kernel
theorem dX3_isSquare_32 : decode cX3_isSquare 32 = .ok (.iconst 0, 1) := by decide +kernel
theorem dX3_isSquare_33 : decode cX3_isSquare 33 = .ok (.ireturn, 1) := by decide +kernel
theorem dX3_squareOf_0 : decode cX3_squareOf 0 = .ok (.bipush 7, 2) := by decide +kernel
theorem dX3_squareOf_2 : decode cX3_squareOf 2 = .ok (.iload_n 1, 1) := by decide +kernel
theorem dX3_squareOf_3 : decode cX3_squareOf 3 = .ok (.imul, 1) := by decide +kernel
theorem dX3_squareOf_4 : decode cX3_squareOf 4 = .ok (.iload_n 0, 1) := by decide +kernel
theorem dX3_squareOf_5 : decode cX3_squareOf 5 = .ok (.iadd, 1) := by decide +kernel
theorem dX3_squareOf_6 : decode cX3_squareOf 6 = .ok (.ireturn, 1) := by decide +kernel
theorem dX3_isPillar_0 : decode cX3_isPillar 0 = .ok (.iconst 0, 1) := by decide +kernel
theorem dX3_isPillar_1 : decode cX3_isPillar 1 = .ok (.istore_n 2, 1) := by decide +kernel
theorem dX3_isPillar_2 : decode cX3_isPillar 2 = .ok (.iload_n 2, 1) := by decide +kernel
theorem dX3_isPillar_3 : decode cX3_isPillar 3 = .ok (.aload_n 0, 1) := by decide +kernel
theorem dX3_isPillar_4 : decode cX3_isPillar 4 = .ok (.getfield 49, 3) := by decide +kernel
theorem dX3_isPillar_7 : decode cX3_isPillar 7 = .ok (.if_icmp .ge 30, 3) := by decide +kernel
theorem dX3_isPillar_10 : decode cX3_isPillar 10 = .ok (.aload_n 0, 1) := by decide +kernel
theorem dX3_isPillar_11 : decode cX3_isPillar 11 = .ok (.getfield 7, 3) := by decide +kernel
theorem dX3_isPillar_14 : decode cX3_isPillar 14 = .ok (.iload_n 2, 1) := by decide +kernel
theorem dX3_isPillar_15 : decode cX3_isPillar 15 = .ok (.iaload, 1) := by decide +kernel
theorem dX3_isPillar_16 : decode cX3_isPillar 16 = .ok (.aload_n 0, 1) := by decide +kernel
theorem dX3_isPillar_17 : decode cX3_isPillar 17 = .ok (.getfield 13, 3) := by decide +kernel
theorem dX3_isPillar_20 : decode cX3_isPillar 20 = .ok (.iload_n 2, 1) := by decide +kernel
theorem dX3_isPillar_21 : decode cX3_isPillar 21 = .ok (.iaload, 1) := by decide +kernel
theorem dX3_isPillar_22 : decode cX3_isPillar 22 = .ok (.invokestatic 52, 3) := by decide +kernel
theorem dX3_isPillar_25 : decode cX3_isPillar 25 = .ok (.iload_n 1, 1) := by decide +kernel
theorem dX3_isPillar_26 : decode cX3_isPillar 26 = .ok (.if_icmp .ne 5, 3) := by decide +kernel
theorem dX3_isPillar_29 : decode cX3_isPillar 29 = .ok (.iconst 1, 1) := by decide +kernel
theorem dX3_isPillar_30 : decode cX3_isPillar 30 = .ok (.ireturn, 1) := by decide +kernel
theorem dX3_isPillar_31 : decode cX3_isPillar 31 = .ok (.iinc 2 1, 3) := by decide +kernel
theorem dX3_isPillar_34 : decode cX3_isPillar 34 = .ok (.goto (-32), 3) := by decide +kernel
theorem dX3_isPillar_37 : decode cX3_isPillar 37 = .ok (.iconst 0, 1) := by decide +kernel
theorem dX3_isPillar_38 : decode cX3_isPillar 38 = .ok (.ireturn, 1) := by decide +kernel
theorem dX3_joined_0 : decode cX3_joined 0 = .ok (.iload_n 0, 1) := by decide +kernel
theorem dX3_joined_1 : decode cX3_joined 1 = .ok (.bipush 7, 2) := by decide +kernel
theorem dX3_joined_3 : decode cX3_joined 3 = .ok (.irem, 1) := by decide +kernel
theorem dX3_joined_4 : decode cX3_joined 4 = .ok (.ifCond .le 22, 3) := by decide +kernel
theorem dX3_joined_7 : decode cX3_joined 7 = .ok (.iload_n 0, 1) := by decide +kernel
theorem dX3_joined_8 : decode cX3_joined 8 = .ok (.bipush 7, 2) := by decide +kernel
theorem dX3_joined_10 : decode cX3_joined 10 = .ok (.irem, 1) := by decide +kernel
theorem dX3_joined_11 : decode cX3_joined 11 = .ok (.iconst 1, 1) := by decide +kernel
theorem dX3_joined_12 : decode cX3_joined 12 = .ok (.isub, 1) := by decide +kernel
theorem dX3_joined_13 : decode cX3_joined 13 = .ok (.iconst 1, 1) := by decide +kernel
theorem dX3_joined_14 : decode cX3_joined 14 = .ok (.ixor, 1) := by decide +kernel
theorem dX3_joined_15 : decode cX3_joined 15 = .ok (.iload_n 1, 1) := by decide +kernel
theorem dX3_joined_16 : decode cX3_joined 16 = .ok (.if_icmp .ne 10, 3) := by decide +kernel
theorem dX3_joined_19 : decode cX3_joined 19 = .ok (.iload_n 0, 1) := by decide +kernel
theorem dX3_joined_20 : decode cX3_joined 20 = .ok (.bipush 7, 2) := by decide +kernel
theorem dX3_joined_22 : decode cX3_joined 22 = .ok (.idiv, 1) := by decide +kernel
theorem dX3_joined_23 : decode cX3_joined 23 = .ok (.goto 11, 3) := by decide +kernel
theorem dX3_joined_26 : decode cX3_joined 26 = .ok (.bipush 7, 2) := by decide +kernel
theorem dX3_joined_28 : decode cX3_joined 28 = .ok (.iload_n 0, 1) := by decide +kernel
theorem dX3_joined_29 : decode cX3_joined 29 = .ok (.imul, 1) := by decide +kernel
theorem dX3_joined_30 : decode cX3_joined 30 = .ok (.iload_n 1, 1) := by decide +kernel
theorem dX3_joined_31 : decode cX3_joined 31 = .ok (.iadd, 1) := by decide +kernel
theorem dX3_joined_32 : decode cX3_joined 32 = .ok (.iconst 1, 1) := by decide +kernel
theorem dX3_joined_33 : decode cX3_joined 33 = .ok (.iadd, 1) := by decide +kernel
theorem dX3_joined_34 : decode cX3_joined 34 = .ok (.ireturn, 1) := by decide +kernel
theorem dX3_size_0 : decode cX3_size 0 = .ok (.iconst 0, 1) := by decide +kernel
theorem dX3_size_1 : decode cX3_size 1 = .ok (.istore_n 1, 1) := by decide +kernel
theorem dX3_size_2 : decode cX3_size 2 = .ok (.iload_n 0, 1) := by decide +kernel
theorem dX3_size_3 : decode cX3_size 3 = .ok (.istore_n 2, 1) := by decide +kernel
theorem dX3_size_4 : decode cX3_size 4 = .ok (.iload_n 2, 1) := by decide +kernel
theorem dX3_size_5 : decode cX3_size 5 = .ok (.ifCond .le 14, 3) := by decide +kernel
theorem dX3_size_8 : decode cX3_size 8 = .ok (.iinc 1 1, 3) := by decide +kernel
theorem dX3_size_11 : decode cX3_size 11 = .ok (.iload_n 2, 1) := by decide +kernel
theorem dX3_size_12 : decode cX3_size 12 = .ok (.bipush 7, 2) := by decide +kernel
theorem dX3_size_14 : decode cX3_size 14 = .ok (.idiv, 1) := by decide +kernel
theorem dX3_size_15 : decode cX3_size 15 = .ok (.istore_n 2, 1) := by decide +kernel
theorem dX3_size_16 : decode cX3_size 16 = .ok (.goto (-12), 3) := by decide +kernel
theorem dX3_size_19 : decode cX3_size 19 = .ok (.iload_n 1, 1) := by decide +kernel
theorem dX3_size_20 : decode cX3_size 20 = .ok (.ireturn, 1) := by decide +kernel
theorem dX3_pillarBelow_0 : decode cX3_pillarBelow 0 = .ok (.iconst (-1), 1) := by decide +kernel
theorem dX3_pillarBelow_1 : decode cX3_pillarBelow 1 = .ok (.istore_n 3, 1) := by decide +kernel
theorem dX3_pillarBelow_2 : decode cX3_pillarBelow 2 = .ok (.iconst 0, 1) := by decide +kernel
theorem dX3_pillarBelow_3 : decode cX3_pillarBelow 3 = .ok (.istore 4, 2) := by decide +kernel
theorem dX3_pillarBelow_5 : decode cX3_pillarBelow 5 = .ok (.iload 4, 2) := by decide +kernel
theorem dX3_pillarBelow_7 : decode cX3_pillarBelow 7 = .ok (.aload_n 0, 1) := by decide +kernel
theorem dX3_pillarBelow_8 : decode cX3_pillarBelow 8 = .ok (.getfield 49, 3) := by decide +kernel
theorem dX3_pillarBelow_11 : decode cX3_pillarBelow 11 = .ok (.if_icmp .ge 71, 3) := by decide +kernel
theorem dX3_pillarBelow_14 : decode cX3_pillarBelow 14 = .ok (.aload_n 0, 1) := by decide +kernel
theorem dX3_pillarBelow_15 : decode cX3_pillarBelow 15 = .ok (.getfield 7, 3) := by decide +kernel
theorem dX3_pillarBelow_18 : decode cX3_pillarBelow 18 = .ok (.iload 4, 2) := by decide +kernel
theorem dX3_pillarBelow_20 : decode cX3_pillarBelow 20 = .ok (.iaload, 1) := by decide +kernel
theorem dX3_pillarBelow_21 : decode cX3_pillarBelow 21 = .ok (.iload_n 1, 1) := by decide +kernel
theorem dX3_pillarBelow_22 : decode cX3_pillarBelow 22 = .ok (.if_icmp .ne 18, 3) := by decide +kernel
theorem dX3_pillarBelow_25 : decode cX3_pillarBelow 25 = .ok (.aload_n 0, 1) := by decide +kernel
theorem dX3_pillarBelow_26 : decode cX3_pillarBelow 26 = .ok (.getfield 13, 3) := by decide +kernel
theorem dX3_pillarBelow_29 : decode cX3_pillarBelow 29 = .ok (.iload 4, 2) := by decide +kernel
theorem dX3_pillarBelow_31 : decode cX3_pillarBelow 31 = .ok (.iaload, 1) := by decide +kernel
theorem dX3_pillarBelow_32 : decode cX3_pillarBelow 32 = .ok (.iload_n 2, 1) := by decide +kernel
theorem dX3_pillarBelow_33 : decode cX3_pillarBelow 33 = .ok (.if_icmp .le 7, 3) := by decide +kernel
theorem dX3_pillarBelow_36 : decode cX3_pillarBelow 36 = .ok (.iconst 1, 1) := by decide +kernel
theorem dX3_pillarBelow_37 : decode cX3_pillarBelow 37 = .ok (.goto 4, 3) := by decide +kernel
theorem dX3_pillarBelow_40 : decode cX3_pillarBelow 40 = .ok (.iconst 0, 1) := by decide +kernel
theorem dX3_pillarBelow_41 : decode cX3_pillarBelow 41 = .ok (.istore 5, 2) := by decide +kernel
theorem dX3_pillarBelow_43 : decode cX3_pillarBelow 43 = .ok (.iload 5, 2) := by decide +kernel
theorem dX3_pillarBelow_45 : decode cX3_pillarBelow 45 = .ok (.ifCond .eq 29, 3) := by decide +kernel
theorem dX3_pillarBelow_48 : decode cX3_pillarBelow 48 = .ok (.iload_n 3, 1) := by decide +kernel
theorem dX3_pillarBelow_49 : decode cX3_pillarBelow 49 = .ok (.iconst (-1), 1) := by decide +kernel
theorem dX3_pillarBelow_50 : decode cX3_pillarBelow 50 = .ok (.if_icmp .eq 19, 3) := by decide +kernel
theorem dX3_pillarBelow_53 : decode cX3_pillarBelow 53 = .ok (.aload_n 0, 1) := by decide +kernel
theorem dX3_pillarBelow_54 : decode cX3_pillarBelow 54 = .ok (.getfield 13, 3) := by decide +kernel
theorem dX3_pillarBelow_57 : decode cX3_pillarBelow 57 = .ok (.iload 4, 2) := by decide +kernel
theorem dX3_pillarBelow_59 : decode cX3_pillarBelow 59 = .ok (.iaload, 1) := by decide +kernel
theorem dX3_pillarBelow_60 : decode cX3_pillarBelow 60 = .ok (.aload_n 0, 1) := by decide +kernel
theorem dX3_pillarBelow_61 : decode cX3_pillarBelow 61 = .ok (.getfield 13, 3) := by decide +kernel
theorem dX3_pillarBelow_64 : decode cX3_pillarBelow 64 = .ok (.iload_n 3, 1) := by decide +kernel
theorem dX3_pillarBelow_65 : decode cX3_pillarBelow 65 = .ok (.iaload, 1) := by decide +kernel
theorem dX3_pillarBelow_66 : decode cX3_pillarBelow 66 = .ok (.if_icmp .ge 8, 3) := by decide +kernel
theorem dX3_pillarBelow_69 : decode cX3_pillarBelow 69 = .ok (.iload 4, 2) := by decide +kernel
theorem dX3_pillarBelow_71 : decode cX3_pillarBelow 71 = .ok (.goto 4, 3) := by decide +kernel
theorem dX3_pillarBelow_74 : decode cX3_pillarBelow 74 = .ok (.iload_n 3, 1) := by decide +kernel
theorem dX3_pillarBelow_75 : decode cX3_pillarBelow 75 = .ok (.istore_n 3, 1) := by decide +kernel
theorem dX3_pillarBelow_76 : decode cX3_pillarBelow 76 = .ok (.iinc 4 1, 3) := by decide +kernel
theorem dX3_pillarBelow_79 : decode cX3_pillarBelow 79 = .ok (.goto (-74), 3) := by decide +kernel
theorem dX3_pillarBelow_82 : decode cX3_pillarBelow 82 = .ok (.iload_n 3, 1) := by decide +kernel
theorem dX3_pillarBelow_83 : decode cX3_pillarBelow 83 = .ok (.ireturn, 1) := by decide +kernel
theorem dX3_pillarAbove_0 : decode cX3_pillarAbove 0 = .ok (.iconst (-1), 1) := by decide +kernel
theorem dX3_pillarAbove_1 : decode cX3_pillarAbove 1 = .ok (.istore 4, 2) := by decide +kernel
theorem dX3_pillarAbove_3 : decode cX3_pillarAbove 3 = .ok (.iconst 0, 1) := by decide +kernel
theorem dX3_pillarAbove_4 : decode cX3_pillarAbove 4 = .ok (.istore 5, 2) := by decide +kernel
theorem dX3_pillarAbove_6 : decode cX3_pillarAbove 6 = .ok (.iload 5, 2) := by decide +kernel
theorem dX3_pillarAbove_8 : decode cX3_pillarAbove 8 = .ok (.aload_n 0, 1) := by decide +kernel
theorem dX3_pillarAbove_9 : decode cX3_pillarAbove 9 = .ok (.getfield 49, 3) := by decide +kernel
theorem dX3_pillarAbove_12 : decode cX3_pillarAbove 12 = .ok (.if_icmp .ge 86, 3) := by decide +kernel
theorem dX3_pillarAbove_15 : decode cX3_pillarAbove 15 = .ok (.aload_n 0, 1) := by decide +kernel
theorem dX3_pillarAbove_16 : decode cX3_pillarAbove 16 = .ok (.getfield 7, 3) := by decide +kernel
theorem dX3_pillarAbove_19 : decode cX3_pillarAbove 19 = .ok (.iload 5, 2) := by decide +kernel
theorem dX3_pillarAbove_21 : decode cX3_pillarAbove 21 = .ok (.iaload, 1) := by decide +kernel
theorem dX3_pillarAbove_22 : decode cX3_pillarAbove 22 = .ok (.iload_n 1, 1) := by decide +kernel
theorem dX3_pillarAbove_23 : decode cX3_pillarAbove 23 = .ok (.if_icmp .ne 29, 3) := by decide +kernel
theorem dX3_pillarAbove_26 : decode cX3_pillarAbove 26 = .ok (.aload_n 0, 1) := by decide +kernel
theorem dX3_pillarAbove_27 : decode cX3_pillarAbove 27 = .ok (.getfield 13, 3) := by decide +kernel
theorem dX3_pillarAbove_30 : decode cX3_pillarAbove 30 = .ok (.iload 5, 2) := by decide +kernel
theorem dX3_pillarAbove_32 : decode cX3_pillarAbove 32 = .ok (.iaload, 1) := by decide +kernel
theorem dX3_pillarAbove_33 : decode cX3_pillarAbove 33 = .ok (.iload_n 2, 1) := by decide +kernel
theorem dX3_pillarAbove_34 : decode cX3_pillarAbove 34 = .ok (.if_icmp .le 18, 3) := by decide +kernel
theorem dX3_pillarAbove_37 : decode cX3_pillarAbove 37 = .ok (.aload_n 0, 1) := by decide +kernel
theorem dX3_pillarAbove_38 : decode cX3_pillarAbove 38 = .ok (.getfield 13, 3) := by decide +kernel
theorem dX3_pillarAbove_41 : decode cX3_pillarAbove 41 = .ok (.iload 5, 2) := by decide +kernel
theorem dX3_pillarAbove_43 : decode cX3_pillarAbove 43 = .ok (.iaload, 1) := by decide +kernel
theorem dX3_pillarAbove_44 : decode cX3_pillarAbove 44 = .ok (.iload_n 3, 1) := by decide +kernel
theorem dX3_pillarAbove_45 : decode cX3_pillarAbove 45 = .ok (.if_icmp .ge 7, 3) := by decide +kernel
theorem dX3_pillarAbove_48 : decode cX3_pillarAbove 48 = .ok (.iconst 1, 1) := by decide +kernel
theorem dX3_pillarAbove_49 : decode cX3_pillarAbove 49 = .ok (.goto 4, 3) := by decide +kernel
theorem dX3_pillarAbove_52 : decode cX3_pillarAbove 52 = .ok (.iconst 0, 1) := by decide +kernel
theorem dX3_pillarAbove_53 : decode cX3_pillarAbove 53 = .ok (.istore 6, 2) := by decide +kernel
theorem dX3_pillarAbove_55 : decode cX3_pillarAbove 55 = .ok (.iload 6, 2) := by decide +kernel
theorem dX3_pillarAbove_57 : decode cX3_pillarAbove 57 = .ok (.ifCond .eq 31, 3) := by decide +kernel
theorem dX3_pillarAbove_60 : decode cX3_pillarAbove 60 = .ok (.iload 4, 2) := by decide +kernel
theorem dX3_pillarAbove_62 : decode cX3_pillarAbove 62 = .ok (.iconst (-1), 1) := by decide +kernel
theorem dX3_pillarAbove_63 : decode cX3_pillarAbove 63 = .ok (.if_icmp .eq 20, 3) := by decide +kernel
theorem dX3_pillarAbove_66 : decode cX3_pillarAbove 66 = .ok (.aload_n 0, 1) := by decide +kernel
theorem dX3_pillarAbove_67 : decode cX3_pillarAbove 67 = .ok (.getfield 13, 3) := by decide +kernel
theorem dX3_pillarAbove_70 : decode cX3_pillarAbove 70 = .ok (.iload 5, 2) := by decide +kernel
theorem dX3_pillarAbove_72 : decode cX3_pillarAbove 72 = .ok (.iaload, 1) := by decide +kernel
theorem dX3_pillarAbove_73 : decode cX3_pillarAbove 73 = .ok (.aload_n 0, 1) := by decide +kernel
theorem dX3_pillarAbove_74 : decode cX3_pillarAbove 74 = .ok (.getfield 13, 3) := by decide +kernel
theorem dX3_pillarAbove_77 : decode cX3_pillarAbove 77 = .ok (.iload 4, 2) := by decide +kernel
theorem dX3_pillarAbove_79 : decode cX3_pillarAbove 79 = .ok (.iaload, 1) := by decide +kernel
theorem dX3_pillarAbove_80 : decode cX3_pillarAbove 80 = .ok (.if_icmp .le 8, 3) := by decide +kernel
theorem dX3_pillarAbove_83 : decode cX3_pillarAbove 83 = .ok (.iload 5, 2) := by decide +kernel
theorem dX3_pillarAbove_85 : decode cX3_pillarAbove 85 = .ok (.goto 5, 3) := by decide +kernel
theorem dX3_pillarAbove_88 : decode cX3_pillarAbove 88 = .ok (.iload 4, 2) := by decide +kernel
theorem dX3_pillarAbove_90 : decode cX3_pillarAbove 90 = .ok (.istore 4, 2) := by decide +kernel
theorem dX3_pillarAbove_92 : decode cX3_pillarAbove 92 = .ok (.iinc 5 1, 3) := by decide +kernel
theorem dX3_pillarAbove_95 : decode cX3_pillarAbove 95 = .ok (.goto (-89), 3) := by decide +kernel
theorem dX3_pillarAbove_98 : decode cX3_pillarAbove 98 = .ok (.iload 4, 2) := by decide +kernel
theorem dX3_pillarAbove_100 : decode cX3_pillarAbove 100 = .ok (.ireturn, 1) := by decide +kernel
theorem dX3_goesRight_0 : decode cX3_goesRight 0 = .ok (.iload_n 1, 1) := by decide +kernel
theorem dX3_goesRight_1 : decode cX3_goesRight 1 = .ok (.istore 4, 2) := by decide +kernel
theorem dX3_goesRight_3 : decode cX3_goesRight 3 = .ok (.aload_n 0, 1) := by decide +kernel
theorem dX3_goesRight_4 : decode cX3_goesRight 4 = .ok (.iload_n 2, 1) := by decide +kernel
theorem dX3_goesRight_5 : decode cX3_goesRight 5 = .ok (.iload_n 3, 1) := by decide +kernel
theorem dX3_goesRight_6 : decode cX3_goesRight 6 = .ok (.invokevirtual 56, 3) := by decide +kernel
theorem dX3_goesRight_9 : decode cX3_goesRight 9 = .ok (.istore 5, 2) := by decide +kernel
theorem dX3_goesRight_11 : decode cX3_goesRight 11 = .ok (.iload 5, 2) := by decide +kernel
theorem dX3_goesRight_13 : decode cX3_goesRight 13 = .ok (.iconst (-1), 1) := by decide +kernel
theorem dX3_goesRight_14 : decode cX3_goesRight 14 = .ok (.if_icmp .eq 31, 3) := by decide +kernel
theorem dX3_goesRight_17 : decode cX3_goesRight 17 = .ok (.iload 4, 2) := by decide +kernel
theorem dX3_goesRight_19 : decode cX3_goesRight 19 = .ok (.iconst 2, 1) := by decide +kernel
theorem dX3_goesRight_20 : decode cX3_goesRight 20 = .ok (.iload 5, 2) := by decide +kernel
theorem dX3_goesRight_22 : decode cX3_goesRight 22 = .ok (.imul, 1) := by decide +kernel
theorem dX3_goesRight_23 : decode cX3_goesRight 23 = .ok (.invokestatic 59, 3) := by decide +kernel
theorem dX3_goesRight_26 : decode cX3_goesRight 26 = .ok (.istore 4, 2) := by decide +kernel
theorem dX3_goesRight_28 : decode cX3_goesRight 28 = .ok (.aload_n 0, 1) := by decide +kernel
theorem dX3_goesRight_29 : decode cX3_goesRight 29 = .ok (.iload_n 2, 1) := by decide +kernel
theorem dX3_goesRight_30 : decode cX3_goesRight 30 = .ok (.aload_n 0, 1) := by decide +kernel
theorem dX3_goesRight_31 : decode cX3_goesRight 31 = .ok (.getfield 13, 3) := by decide +kernel
theorem dX3_goesRight_34 : decode cX3_goesRight 34 = .ok (.iload 5, 2) := by decide +kernel
theorem dX3_goesRight_36 : decode cX3_goesRight 36 = .ok (.iaload, 1) := by decide +kernel
theorem dX3_goesRight_37 : decode cX3_goesRight 37 = .ok (.invokevirtual 56, 3) := by decide +kernel
theorem dX3_goesRight_40 : decode cX3_goesRight 40 = .ok (.istore 5, 2) := by decide +kernel
theorem dX3_goesRight_42 : decode cX3_goesRight 42 = .ok (.goto (-31), 3) := by decide +kernel
theorem dX3_goesRight_45 : decode cX3_goesRight 45 = .ok (.iload 4, 2) := by decide +kernel
theorem dX3_goesRight_47 : decode cX3_goesRight 47 = .ok (.ireturn, 1) := by decide +kernel
theorem dX3_goesLeft_0 : decode cX3_goesLeft 0 = .ok (.iload_n 1, 1) := by decide +kernel
theorem dX3_goesLeft_1 : decode cX3_goesLeft 1 = .ok (.istore 4, 2) := by decide +kernel
theorem dX3_goesLeft_3 : decode cX3_goesLeft 3 = .ok (.aload_n 0, 1) := by decide +kernel
theorem dX3_goesLeft_4 : decode cX3_goesLeft 4 = .ok (.iload_n 2, 1) := by decide +kernel
theorem dX3_goesLeft_5 : decode cX3_goesLeft 5 = .ok (.iload_n 3, 1) := by decide +kernel
theorem dX3_goesLeft_6 : decode cX3_goesLeft 6 = .ok (.bipush 7, 2) := by decide +kernel
theorem dX3_goesLeft_8 : decode cX3_goesLeft 8 = .ok (.invokevirtual 62, 3) := by decide +kernel
theorem dX3_goesLeft_11 : decode cX3_goesLeft 11 = .ok (.istore 5, 2) := by decide +kernel
theorem dX3_goesLeft_13 : decode cX3_goesLeft 13 = .ok (.iload 5, 2) := by decide +kernel
theorem dX3_goesLeft_15 : decode cX3_goesLeft 15 = .ok (.iconst (-1), 1) := by decide +kernel
theorem dX3_goesLeft_16 : decode cX3_goesLeft 16 = .ok (.if_icmp .eq 34, 3) := by decide +kernel
theorem dX3_goesLeft_19 : decode cX3_goesLeft 19 = .ok (.iload 4, 2) := by decide +kernel
theorem dX3_goesLeft_21 : decode cX3_goesLeft 21 = .ok (.iconst 2, 1) := by decide +kernel
theorem dX3_goesLeft_22 : decode cX3_goesLeft 22 = .ok (.iload 5, 2) := by decide +kernel
theorem dX3_goesLeft_24 : decode cX3_goesLeft 24 = .ok (.imul, 1) := by decide +kernel
theorem dX3_goesLeft_25 : decode cX3_goesLeft 25 = .ok (.iconst 1, 1) := by decide +kernel
theorem dX3_goesLeft_26 : decode cX3_goesLeft 26 = .ok (.iadd, 1) := by decide +kernel
theorem dX3_goesLeft_27 : decode cX3_goesLeft 27 = .ok (.invokestatic 59, 3) := by decide +kernel
theorem dX3_goesLeft_30 : decode cX3_goesLeft 30 = .ok (.istore 4, 2) := by decide +kernel
theorem dX3_goesLeft_32 : decode cX3_goesLeft 32 = .ok (.aload_n 0, 1) := by decide +kernel
theorem dX3_goesLeft_33 : decode cX3_goesLeft 33 = .ok (.iload_n 2, 1) := by decide +kernel
theorem dX3_goesLeft_34 : decode cX3_goesLeft 34 = .ok (.iload_n 3, 1) := by decide +kernel
theorem dX3_goesLeft_35 : decode cX3_goesLeft 35 = .ok (.aload_n 0, 1) := by decide +kernel
theorem dX3_goesLeft_36 : decode cX3_goesLeft 36 = .ok (.getfield 13, 3) := by decide +kernel
theorem dX3_goesLeft_39 : decode cX3_goesLeft 39 = .ok (.iload 5, 2) := by decide +kernel
theorem dX3_goesLeft_41 : decode cX3_goesLeft 41 = .ok (.iaload, 1) := by decide +kernel
theorem dX3_goesLeft_42 : decode cX3_goesLeft 42 = .ok (.invokevirtual 62, 3) := by decide +kernel
theorem dX3_goesLeft_45 : decode cX3_goesLeft 45 = .ok (.istore 5, 2) := by decide +kernel
theorem dX3_goesLeft_47 : decode cX3_goesLeft 47 = .ok (.goto (-34), 3) := by decide +kernel
theorem dX3_goesLeft_50 : decode cX3_goesLeft 50 = .ok (.iload 4, 2) := by decide +kernel
theorem dX3_goesLeft_52 : decode cX3_goesLeft 52 = .ok (.ireturn, 1) := by decide +kernel
theorem dX3_after_0 : decode cX3_after 0 = .ok (.iload_n 1, 1) := by decide +kernel
theorem dX3_after_1 : decode cX3_after 1 = .ok (.sipush 343, 3) := by decide +kernel
theorem dX3_after_4 : decode cX3_after 4 = .ok (.idiv, 1) := by decide +kernel
theorem dX3_after_5 : decode cX3_after 5 = .ok (.istore_n 3, 1) := by decide +kernel
theorem dX3_after_6 : decode cX3_after 6 = .ok (.iload_n 1, 1) := by decide +kernel
theorem dX3_after_7 : decode cX3_after 7 = .ok (.sipush 343, 3) := by decide +kernel
theorem dX3_after_10 : decode cX3_after 10 = .ok (.irem, 1) := by decide +kernel
theorem dX3_after_11 : decode cX3_after 11 = .ok (.istore 4, 2) := by decide +kernel
theorem dX3_after_13 : decode cX3_after 13 = .ok (.iload_n 3, 1) := by decide +kernel
theorem dX3_after_14 : decode cX3_after 14 = .ok (.bipush 7, 2) := by decide +kernel
theorem dX3_after_16 : decode cX3_after 16 = .ok (.irem, 1) := by decide +kernel
theorem dX3_after_17 : decode cX3_after 17 = .ok (.iload_n 2, 1) := by decide +kernel
theorem dX3_after_18 : decode cX3_after 18 = .ok (.iconst 1, 1) := by decide +kernel
theorem dX3_after_19 : decode cX3_after 19 = .ok (.if_icmp .ne 7, 3) := by decide +kernel
theorem dX3_after_22 : decode cX3_after 22 = .ok (.iconst 1, 1) := by decide +kernel
theorem dX3_after_23 : decode cX3_after 23 = .ok (.goto 13, 3) := by decide +kernel
theorem dX3_after_26 : decode cX3_after 26 = .ok (.iload_n 2, 1) := by decide +kernel
theorem dX3_after_27 : decode cX3_after 27 = .ok (.iconst 3, 1) := by decide +kernel
theorem dX3_after_28 : decode cX3_after 28 = .ok (.if_icmp .ne 7, 3) := by decide +kernel
theorem dX3_after_31 : decode cX3_after 31 = .ok (.iconst (-1), 1) := by decide +kernel
theorem dX3_after_32 : decode cX3_after 32 = .ok (.goto 4, 3) := by decide +kernel
theorem dX3_after_35 : decode cX3_after 35 = .ok (.iconst 0, 1) := by decide +kernel
theorem dX3_after_36 : decode cX3_after 36 = .ok (.iadd, 1) := by decide +kernel
theorem dX3_after_37 : decode cX3_after 37 = .ok (.istore 5, 2) := by decide +kernel
theorem dX3_after_39 : decode cX3_after 39 = .ok (.iload_n 3, 1) := by decide +kernel
theorem dX3_after_40 : decode cX3_after 40 = .ok (.bipush 7, 2) := by decide +kernel
theorem dX3_after_42 : decode cX3_after 42 = .ok (.idiv, 1) := by decide +kernel
theorem dX3_after_43 : decode cX3_after 43 = .ok (.iload_n 2, 1) := by decide +kernel
theorem dX3_after_44 : decode cX3_after 44 = .ok (.iconst 2, 1) := by decide +kernel
theorem dX3_after_45 : decode cX3_after 45 = .ok (.if_icmp .ne 7, 3) := by decide +kernel
theorem dX3_after_48 : decode cX3_after 48 = .ok (.iconst 1, 1) := by decide +kernel
theorem dX3_after_49 : decode cX3_after 49 = .ok (.goto 12, 3) := by decide +kernel
theorem dX3_after_52 : decode cX3_after 52 = .ok (.iload_n 2, 1) := by decide +kernel
theorem dX3_after_53 : decode cX3_after 53 = .ok (.ifCond .ne 7, 3) := by decide +kernel
theorem dX3_after_56 : decode cX3_after 56 = .ok (.iconst (-1), 1) := by decide +kernel
theorem dX3_after_57 : decode cX3_after 57 = .ok (.goto 4, 3) := by decide +kernel
theorem dX3_after_60 : decode cX3_after 60 = .ok (.iconst 0, 1) := by decide +kernel
theorem dX3_after_61 : decode cX3_after 61 = .ok (.iadd, 1) := by decide +kernel
theorem dX3_after_62 : decode cX3_after 62 = .ok (.istore 6, 2) := by decide +kernel
theorem dX3_after_64 : decode cX3_after 64 = .ok (.aload_n 0, 1) := by decide +kernel
theorem dX3_after_65 : decode cX3_after 65 = .ok (.iload 5, 2) := by decide +kernel
theorem dX3_after_67 : decode cX3_after 67 = .ok (.iload 6, 2) := by decide +kernel
theorem dX3_after_69 : decode cX3_after 69 = .ok (.invokevirtual 65, 3) := by decide +kernel
theorem dX3_after_72 : decode cX3_after 72 = .ok (.ifCond .eq 17, 3) := by decide +kernel
theorem dX3_after_75 : decode cX3_after 75 = .ok (.aload_n 0, 1) := by decide +kernel
theorem dX3_after_76 : decode cX3_after 76 = .ok (.iload 5, 2) := by decide +kernel
theorem dX3_after_78 : decode cX3_after 78 = .ok (.iload 6, 2) := by decide +kernel
theorem dX3_after_80 : decode cX3_after 80 = .ok (.invokestatic 52, 3) := by decide +kernel
theorem dX3_after_83 : decode cX3_after 83 = .ok (.invokevirtual 69, 3) := by decide +kernel
theorem dX3_after_86 : decode cX3_after 86 = .ok (.ifCond .eq 5, 3) := by decide +kernel
theorem dX3_after_89 : decode cX3_after 89 = .ok (.iconst (-1), 1) := by decide +kernel
theorem dX3_after_90 : decode cX3_after 90 = .ok (.ireturn, 1) := by decide +kernel
theorem dX3_after_91 : decode cX3_after 91 = .ok (.iload_n 2, 1) := by decide +kernel
theorem dX3_after_92 : decode cX3_after 92 = .ok (.iconst 1, 1) := by decide +kernel
theorem dX3_after_93 : decode cX3_after 93 = .ok (.if_icmp .ne 18, 3) := by decide +kernel
theorem dX3_after_96 : decode cX3_after 96 = .ok (.aload_n 0, 1) := by decide +kernel
theorem dX3_after_97 : decode cX3_after 97 = .ok (.iload 4, 2) := by decide +kernel
theorem dX3_after_99 : decode cX3_after 99 = .ok (.iload 5, 2) := by decide +kernel
theorem dX3_after_101 : decode cX3_after 101 = .ok (.iconst 1, 1) := by decide +kernel
theorem dX3_after_102 : decode cX3_after 102 = .ok (.isub, 1) := by decide +kernel
theorem dX3_after_103 : decode cX3_after 103 = .ok (.iload 6, 2) := by decide +kernel
theorem dX3_after_105 : decode cX3_after 105 = .ok (.invokevirtual 73, 3) := by decide +kernel
theorem dX3_after_108 : decode cX3_after 108 = .ok (.goto 23, 3) := by decide +kernel
theorem dX3_after_111 : decode cX3_after 111 = .ok (.iload_n 2, 1) := by decide +kernel
theorem dX3_after_112 : decode cX3_after 112 = .ok (.iconst 3, 1) := by decide +kernel
theorem dX3_after_113 : decode cX3_after 113 = .ok (.if_icmp .ne 16, 3) := by decide +kernel
theorem dX3_after_116 : decode cX3_after 116 = .ok (.aload_n 0, 1) := by decide +kernel
theorem dX3_after_117 : decode cX3_after 117 = .ok (.iload 4, 2) := by decide +kernel
theorem dX3_after_119 : decode cX3_after 119 = .ok (.iload 5, 2) := by decide +kernel
theorem dX3_after_121 : decode cX3_after 121 = .ok (.iload 6, 2) := by decide +kernel
theorem dX3_after_123 : decode cX3_after 123 = .ok (.invokevirtual 76, 3) := by decide +kernel
theorem dX3_after_126 : decode cX3_after 126 = .ok (.goto 5, 3) := by decide +kernel
theorem dX3_after_129 : decode cX3_after 129 = .ok (.iload 4, 2) := by decide +kernel
theorem dX3_after_131 : decode cX3_after 131 = .ok (.istore 7, 2) := by decide +kernel
theorem dX3_after_133 : decode cX3_after 133 = .ok (.iload 7, 2) := by decide +kernel
theorem dX3_after_135 : decode cX3_after 135 = .ok (.sipush 343, 3) := by decide +kernel
theorem dX3_after_138 : decode cX3_after 138 = .ok (.if_icmp .ge 20, 3) := by decide +kernel
theorem dX3_after_141 : decode cX3_after 141 = .ok (.sipush 343, 3) := by decide +kernel
theorem dX3_after_144 : decode cX3_after 144 = .ok (.iload 5, 2) := by decide +kernel
theorem dX3_after_146 : decode cX3_after 146 = .ok (.iload 6, 2) := by decide +kernel
theorem dX3_after_148 : decode cX3_after 148 = .ok (.invokestatic 52, 3) := by decide +kernel
theorem dX3_after_151 : decode cX3_after 151 = .ok (.imul, 1) := by decide +kernel
theorem dX3_after_152 : decode cX3_after 152 = .ok (.iload 7, 2) := by decide +kernel
theorem dX3_after_154 : decode cX3_after 154 = .ok (.iadd, 1) := by decide +kernel
theorem dX3_after_155 : decode cX3_after 155 = .ok (.goto 4, 3) := by decide +kernel
theorem dX3_after_158 : decode cX3_after 158 = .ok (.iconst (-1), 1) := by decide +kernel
theorem dX3_after_159 : decode cX3_after 159 = .ok (.ireturn, 1) := by decide +kernel
theorem dX3_searches_0 : decode cX3_searches 0 = .ok (.iconst 0, 1) := by decide +kernel
theorem dX3_searches_1 : decode cX3_searches 1 = .ok (.istore_n 1, 1) := by decide +kernel
theorem dX3_searches_2 : decode cX3_searches 2 = .ok (.iload_n 1, 1) := by decide +kernel
theorem dX3_searches_3 : decode cX3_searches 3 = .ok (.sipush 16807, 3) := by decide +kernel
theorem dX3_searches_6 : decode cX3_searches 6 = .ok (.if_icmp .ge 16, 3) := by decide +kernel
theorem dX3_searches_9 : decode cX3_searches 9 = .ok (.aload_n 0, 1) := by decide +kernel
theorem dX3_searches_10 : decode cX3_searches 10 = .ok (.getfield 16, 3) := by decide +kernel
theorem dX3_searches_13 : decode cX3_searches 13 = .ok (.iload_n 1, 1) := by decide +kernel
theorem dX3_searches_14 : decode cX3_searches 14 = .ok (.iconst (-1), 1) := by decide +kernel
theorem dX3_searches_15 : decode cX3_searches 15 = .ok (.iastore, 1) := by decide +kernel
theorem dX3_searches_16 : decode cX3_searches 16 = .ok (.iinc 1 1, 3) := by decide +kernel
theorem dX3_searches_19 : decode cX3_searches 19 = .ok (.goto (-17), 3) := by decide +kernel
theorem dX3_searches_22 : decode cX3_searches 22 = .ok (.iconst 1, 1) := by decide +kernel
theorem dX3_searches_23 : decode cX3_searches 23 = .ok (.istore_n 1, 1) := by decide +kernel
theorem dX3_searches_24 : decode cX3_searches 24 = .ok (.aload_n 0, 1) := by decide +kernel
theorem dX3_searches_25 : decode cX3_searches 25 = .ok (.getfield 19, 3) := by decide +kernel
theorem dX3_searches_28 : decode cX3_searches 28 = .ok (.iconst 0, 1) := by decide +kernel
theorem dX3_searches_29 : decode cX3_searches 29 = .ok (.sipush 343, 3) := by decide +kernel
theorem dX3_searches_32 : decode cX3_searches 32 = .ok (.aload_n 0, 1) := by decide +kernel
theorem dX3_searches_33 : decode cX3_searches 33 = .ok (.getfield 79, 3) := by decide +kernel
theorem dX3_searches_36 : decode cX3_searches 36 = .ok (.imul, 1) := by decide +kernel
theorem dX3_searches_37 : decode cX3_searches 37 = .ok (.iastore, 1) := by decide +kernel
theorem dX3_searches_38 : decode cX3_searches 38 = .ok (.aload_n 0, 1) := by decide +kernel
theorem dX3_searches_39 : decode cX3_searches 39 = .ok (.getfield 16, 3) := by decide +kernel
theorem dX3_searches_42 : decode cX3_searches 42 = .ok (.aload_n 0, 1) := by decide +kernel
theorem dX3_searches_43 : decode cX3_searches 43 = .ok (.getfield 19, 3) := by decide +kernel
theorem dX3_searches_46 : decode cX3_searches 46 = .ok (.iconst 0, 1) := by decide +kernel
theorem dX3_searches_47 : decode cX3_searches 47 = .ok (.iaload, 1) := by decide +kernel
theorem dX3_searches_48 : decode cX3_searches 48 = .ok (.iconst 0, 1) := by decide +kernel
theorem dX3_searches_49 : decode cX3_searches 49 = .ok (.iastore, 1) := by decide +kernel
theorem dX3_searches_50 : decode cX3_searches 50 = .ok (.iconst 0, 1) := by decide +kernel
theorem dX3_searches_51 : decode cX3_searches 51 = .ok (.istore_n 2, 1) := by decide +kernel
theorem dX3_searches_52 : decode cX3_searches 52 = .ok (.iload_n 2, 1) := by decide +kernel
theorem dX3_searches_53 : decode cX3_searches 53 = .ok (.iload_n 1, 1) := by decide +kernel
theorem dX3_searches_54 : decode cX3_searches 54 = .ok (.if_icmp .ge 83, 3) := by decide +kernel
theorem dX3_searches_57 : decode cX3_searches 57 = .ok (.iconst 0, 1) := by decide +kernel
theorem dX3_searches_58 : decode cX3_searches 58 = .ok (.istore_n 3, 1) := by decide +kernel
theorem dX3_searches_59 : decode cX3_searches 59 = .ok (.iload_n 3, 1) := by decide +kernel
theorem dX3_searches_60 : decode cX3_searches 60 = .ok (.iconst 4, 1) := by decide +kernel
theorem dX3_searches_61 : decode cX3_searches 61 = .ok (.if_icmp .ge 70, 3) := by decide +kernel
theorem dX3_searches_64 : decode cX3_searches 64 = .ok (.aload_n 0, 1) := by decide +kernel
theorem dX3_searches_65 : decode cX3_searches 65 = .ok (.aload_n 0, 1) := by decide +kernel
theorem dX3_searches_66 : decode cX3_searches 66 = .ok (.getfield 19, 3) := by decide +kernel
theorem dX3_searches_69 : decode cX3_searches 69 = .ok (.iload_n 2, 1) := by decide +kernel
theorem dX3_searches_70 : decode cX3_searches 70 = .ok (.iaload, 1) := by decide +kernel
theorem dX3_searches_71 : decode cX3_searches 71 = .ok (.iload_n 3, 1) := by decide +kernel
theorem dX3_searches_72 : decode cX3_searches 72 = .ok (.invokevirtual 82, 3) := by decide +kernel
theorem dX3_searches_75 : decode cX3_searches 75 = .ok (.istore 4, 2) := by decide +kernel
theorem dX3_searches_77 : decode cX3_searches 77 = .ok (.iload 4, 2) := by decide +kernel
theorem dX3_searches_79 : decode cX3_searches 79 = .ok (.iconst (-1), 1) := by decide +kernel
theorem dX3_searches_80 : decode cX3_searches 80 = .ok (.if_icmp .eq 45, 3) := by decide +kernel
theorem dX3_searches_83 : decode cX3_searches 83 = .ok (.aload_n 0, 1) := by decide +kernel
theorem dX3_searches_84 : decode cX3_searches 84 = .ok (.getfield 16, 3) := by decide +kernel
theorem dX3_searches_87 : decode cX3_searches 87 = .ok (.iload 4, 2) := by decide +kernel
theorem dX3_searches_89 : decode cX3_searches 89 = .ok (.iaload, 1) := by decide +kernel
theorem dX3_searches_90 : decode cX3_searches 90 = .ok (.iconst (-1), 1) := by decide +kernel
theorem dX3_searches_91 : decode cX3_searches 91 = .ok (.if_icmp .ne 34, 3) := by decide +kernel
theorem dX3_searches_94 : decode cX3_searches 94 = .ok (.aload_n 0, 1) := by decide +kernel
theorem dX3_searches_95 : decode cX3_searches 95 = .ok (.getfield 16, 3) := by decide +kernel
theorem dX3_searches_98 : decode cX3_searches 98 = .ok (.iload 4, 2) := by decide +kernel
theorem dX3_searches_100 : decode cX3_searches 100 = .ok (.aload_n 0, 1) := by decide +kernel
theorem dX3_searches_101 : decode cX3_searches 101 = .ok (.getfield 16, 3) := by decide +kernel
theorem dX3_searches_104 : decode cX3_searches 104 = .ok (.aload_n 0, 1) := by decide +kernel
theorem dX3_searches_105 : decode cX3_searches 105 = .ok (.getfield 19, 3) := by decide +kernel
theorem dX3_searches_108 : decode cX3_searches 108 = .ok (.iload_n 2, 1) := by decide +kernel
theorem dX3_searches_109 : decode cX3_searches 109 = .ok (.iaload, 1) := by decide +kernel
theorem dX3_searches_110 : decode cX3_searches 110 = .ok (.iaload, 1) := by decide +kernel
theorem dX3_searches_111 : decode cX3_searches 111 = .ok (.iconst 1, 1) := by decide +kernel
theorem dX3_searches_112 : decode cX3_searches 112 = .ok (.iadd, 1) := by decide +kernel
theorem dX3_searches_113 : decode cX3_searches 113 = .ok (.iastore, 1) := by decide +kernel
theorem dX3_searches_114 : decode cX3_searches 114 = .ok (.aload_n 0, 1) := by decide +kernel
theorem dX3_searches_115 : decode cX3_searches 115 = .ok (.getfield 19, 3) := by decide +kernel
theorem dX3_searches_118 : decode cX3_searches 118 = .ok (.iload_n 1, 1) := by decide +kernel
theorem dX3_searches_119 : decode cX3_searches 119 = .ok (.iload 4, 2) := by decide +kernel
theorem dX3_searches_121 : decode cX3_searches 121 = .ok (.iastore, 1) := by decide +kernel
theorem dX3_searches_122 : decode cX3_searches 122 = .ok (.iinc 1 1, 3) := by decide +kernel
theorem dX3_searches_125 : decode cX3_searches 125 = .ok (.iinc 3 1, 3) := by decide +kernel
theorem dX3_searches_128 : decode cX3_searches 128 = .ok (.goto (-69), 3) := by decide +kernel
theorem dX3_searches_131 : decode cX3_searches 131 = .ok (.iinc 2 1, 3) := by decide +kernel
theorem dX3_searches_134 : decode cX3_searches 134 = .ok (.goto (-82), 3) := by decide +kernel
theorem dX3_searches_137 : decode cX3_searches 137 = .ok (.return_, 1) := by decide +kernel
theorem dX3_place_0 : decode cX3_place 0 = .ok (.sipush 343, 3) := by decide +kernel
theorem dX3_place_3 : decode cX3_place 3 = .ok (.aload_n 0, 1) := by decide +kernel
theorem dX3_place_4 : decode cX3_place 4 = .ok (.getfield 85, 3) := by decide +kernel
theorem dX3_place_7 : decode cX3_place 7 = .ok (.imul, 1) := by decide +kernel
theorem dX3_place_8 : decode cX3_place 8 = .ok (.aload_n 0, 1) := by decide +kernel
theorem dX3_place_9 : decode cX3_place 9 = .ok (.getfield 88, 3) := by decide +kernel
theorem dX3_place_12 : decode cX3_place 12 = .ok (.iadd, 1) := by decide +kernel
theorem dX3_place_13 : decode cX3_place 13 = .ok (.ireturn, 1) := by decide +kernel
theorem dX3_puts_0 : decode cX3_puts 0 = .ok (.aload_n 0, 1) := by decide +kernel
theorem dX3_puts_1 : decode cX3_puts 1 = .ok (.iload_n 1, 1) := by decide +kernel
theorem dX3_puts_2 : decode cX3_puts 2 = .ok (.sipush 343, 3) := by decide +kernel
theorem dX3_puts_5 : decode cX3_puts 5 = .ok (.idiv, 1) := by decide +kernel
theorem dX3_puts_6 : decode cX3_puts 6 = .ok (.putfield 85, 3) := by decide +kernel
theorem dX3_puts_9 : decode cX3_puts 9 = .ok (.aload_n 0, 1) := by decide +kernel
theorem dX3_puts_10 : decode cX3_puts 10 = .ok (.iload_n 1, 1) := by decide +kernel
theorem dX3_puts_11 : decode cX3_puts 11 = .ok (.sipush 343, 3) := by decide +kernel
theorem dX3_puts_14 : decode cX3_puts 14 = .ok (.irem, 1) := by decide +kernel
theorem dX3_puts_15 : decode cX3_puts 15 = .ok (.putfield 88, 3) := by decide +kernel
theorem dX3_puts_18 : decode cX3_puts 18 = .ok (.aload_n 0, 1) := by decide +kernel
theorem dX3_puts_19 : decode cX3_puts 19 = .ok (.dup, 1) := by decide +kernel
theorem dX3_puts_20 : decode cX3_puts 20 = .ok (.getfield 91, 3) := by decide +kernel
theorem dX3_puts_23 : decode cX3_puts 23 = .ok (.iconst 1, 1) := by decide +kernel
theorem dX3_puts_24 : decode cX3_puts 24 = .ok (.iadd, 1) := by decide +kernel
theorem dX3_puts_25 : decode cX3_puts 25 = .ok (.putfield 91, 3) := by decide +kernel
theorem dX3_puts_28 : decode cX3_puts 28 = .ok (.return_, 1) := by decide +kernel
theorem dX3_pillar_0 : decode cX3_pillar 0 = .ok (.aload_n 0, 1) := by decide +kernel
theorem dX3_pillar_1 : decode cX3_pillar 1 = .ok (.iload_n 1, 1) := by decide +kernel
theorem dX3_pillar_2 : decode cX3_pillar 2 = .ok (.iload_n 2, 1) := by decide +kernel
theorem dX3_pillar_3 : decode cX3_pillar 3 = .ok (.invokevirtual 65, 3) := by decide +kernel
theorem dX3_pillar_6 : decode cX3_pillar 6 = .ok (.istore_n 3, 1) := by decide +kernel
theorem dX3_pillar_7 : decode cX3_pillar 7 = .ok (.iload_n 1, 1) := by decide +kernel
theorem dX3_pillar_8 : decode cX3_pillar 8 = .ok (.iload_n 2, 1) := by decide +kernel
theorem dX3_pillar_9 : decode cX3_pillar 9 = .ok (.invokestatic 52, 3) := by decide +kernel
theorem dX3_pillar_12 : decode cX3_pillar 12 = .ok (.istore 4, 2) := by decide +kernel
theorem dX3_pillar_14 : decode cX3_pillar 14 = .ok (.aload_n 0, 1) := by decide +kernel
theorem dX3_pillar_15 : decode cX3_pillar 15 = .ok (.getfield 49, 3) := by decide +kernel
theorem dX3_pillar_18 : decode cX3_pillar 18 = .ok (.iconst 3, 1) := by decide +kernel
theorem dX3_pillar_19 : decode cX3_pillar 19 = .ok (.if_icmp .eq 39, 3) := by decide +kernel
theorem dX3_pillar_22 : decode cX3_pillar 22 = .ok (.aload_n 0, 1) := by decide +kernel
theorem dX3_pillar_23 : decode cX3_pillar 23 = .ok (.getfield 85, 3) := by decide +kernel
theorem dX3_pillar_26 : decode cX3_pillar 26 = .ok (.aload_n 0, 1) := by decide +kernel
theorem dX3_pillar_27 : decode cX3_pillar 27 = .ok (.getfield 79, 3) := by decide +kernel
theorem dX3_pillar_30 : decode cX3_pillar 30 = .ok (.if_icmp .ne 28, 3) := by decide +kernel
theorem dX3_pillar_33 : decode cX3_pillar 33 = .ok (.aload_n 0, 1) := by decide +kernel
theorem dX3_pillar_34 : decode cX3_pillar 34 = .ok (.getfield 88, 3) := by decide +kernel
theorem dX3_pillar_37 : decode cX3_pillar 37 = .ok (.ifCond .ne 21, 3) := by decide +kernel
theorem dX3_pillar_40 : decode cX3_pillar 40 = .ok (.iload 4, 2) := by decide +kernel
theorem dX3_pillar_42 : decode cX3_pillar 42 = .ok (.aload_n 0, 1) := by decide +kernel
theorem dX3_pillar_43 : decode cX3_pillar 43 = .ok (.getfield 79, 3) := by decide +kernel
theorem dX3_pillar_46 : decode cX3_pillar 46 = .ok (.if_icmp .eq 12, 3) := by decide +kernel
theorem dX3_pillar_49 : decode cX3_pillar 49 = .ok (.aload_n 0, 1) := by decide +kernel
theorem dX3_pillar_50 : decode cX3_pillar 50 = .ok (.iload 4, 2) := by decide +kernel
theorem dX3_pillar_52 : decode cX3_pillar 52 = .ok (.invokevirtual 69, 3) := by decide +kernel
theorem dX3_pillar_55 : decode cX3_pillar 55 = .ok (.ifCond .eq 7, 3) := by decide +kernel
theorem dX3_pillar_58 : decode cX3_pillar 58 = .ok (.iconst 1, 1) := by decide +kernel
theorem dX3_pillar_59 : decode cX3_pillar 59 = .ok (.goto 4, 3) := by decide +kernel
theorem dX3_pillar_62 : decode cX3_pillar 62 = .ok (.iconst 0, 1) := by decide +kernel
theorem dX3_pillar_63 : decode cX3_pillar 63 = .ok (.istore 5, 2) := by decide +kernel
theorem dX3_pillar_65 : decode cX3_pillar 65 = .ok (.aload_n 0, 1) := by decide +kernel
theorem dX3_pillar_66 : decode cX3_pillar 66 = .ok (.iload_n 3, 1) := by decide +kernel
theorem dX3_pillar_67 : decode cX3_pillar 67 = .ok (.ifCond .ne 7, 3) := by decide +kernel
theorem dX3_pillar_70 : decode cX3_pillar 70 = .ok (.iconst 1, 1) := by decide +kernel
theorem dX3_pillar_71 : decode cX3_pillar 71 = .ok (.goto 13, 3) := by decide +kernel
theorem dX3_pillar_74 : decode cX3_pillar 74 = .ok (.iload 5, 2) := by decide +kernel
theorem dX3_pillar_76 : decode cX3_pillar 76 = .ok (.ifCond .eq 7, 3) := by decide +kernel
theorem dX3_pillar_79 : decode cX3_pillar 79 = .ok (.iconst 2, 1) := by decide +kernel
theorem dX3_pillar_80 : decode cX3_pillar 80 = .ok (.goto 4, 3) := by decide +kernel
theorem dX3_pillar_83 : decode cX3_pillar 83 = .ok (.iconst 0, 1) := by decide +kernel
theorem dX3_pillar_84 : decode cX3_pillar 84 = .ok (.invokevirtual 94, 3) := by decide +kernel
theorem dX3_pillar_87 : decode cX3_pillar 87 = .ok (.ifCond .ne 5, 3) := by decide +kernel
theorem dX3_pillar_90 : decode cX3_pillar 90 = .ok (.iconst 0, 1) := by decide +kernel
theorem dX3_pillar_91 : decode cX3_pillar 91 = .ok (.ireturn, 1) := by decide +kernel
theorem dX3_pillar_92 : decode cX3_pillar 92 = .ok (.aload_n 0, 1) := by decide +kernel
theorem dX3_pillar_93 : decode cX3_pillar 93 = .ok (.getfield 7, 3) := by decide +kernel
theorem dX3_pillar_96 : decode cX3_pillar 96 = .ok (.aload_n 0, 1) := by decide +kernel
theorem dX3_pillar_97 : decode cX3_pillar 97 = .ok (.getfield 49, 3) := by decide +kernel
theorem dX3_pillar_100 : decode cX3_pillar 100 = .ok (.iload_n 1, 1) := by decide +kernel
theorem dX3_pillar_101 : decode cX3_pillar 101 = .ok (.iastore, 1) := by decide +kernel
theorem dX3_pillar_102 : decode cX3_pillar 102 = .ok (.aload_n 0, 1) := by decide +kernel
theorem dX3_pillar_103 : decode cX3_pillar 103 = .ok (.getfield 13, 3) := by decide +kernel
theorem dX3_pillar_106 : decode cX3_pillar 106 = .ok (.aload_n 0, 1) := by decide +kernel
theorem dX3_pillar_107 : decode cX3_pillar 107 = .ok (.getfield 49, 3) := by decide +kernel
theorem dX3_pillar_110 : decode cX3_pillar 110 = .ok (.iload_n 2, 1) := by decide +kernel
theorem dX3_pillar_111 : decode cX3_pillar 111 = .ok (.iastore, 1) := by decide +kernel
theorem dX3_pillar_112 : decode cX3_pillar 112 = .ok (.aload_n 0, 1) := by decide +kernel
theorem dX3_pillar_113 : decode cX3_pillar 113 = .ok (.dup, 1) := by decide +kernel
theorem dX3_pillar_114 : decode cX3_pillar 114 = .ok (.getfield 49, 3) := by decide +kernel
theorem dX3_pillar_117 : decode cX3_pillar 117 = .ok (.iconst 1, 1) := by decide +kernel
theorem dX3_pillar_118 : decode cX3_pillar 118 = .ok (.iadd, 1) := by decide +kernel
theorem dX3_pillar_119 : decode cX3_pillar 119 = .ok (.putfield 49, 3) := by decide +kernel
theorem dX3_pillar_122 : decode cX3_pillar 122 = .ok (.aload_n 0, 1) := by decide +kernel
theorem dX3_pillar_123 : decode cX3_pillar 123 = .ok (.invokevirtual 39, 3) := by decide +kernel
theorem dX3_pillar_126 : decode cX3_pillar 126 = .ok (.aload_n 0, 1) := by decide +kernel
theorem dX3_pillar_127 : decode cX3_pillar 127 = .ok (.getfield 49, 3) := by decide +kernel
theorem dX3_pillar_130 : decode cX3_pillar 130 = .ok (.iconst 1, 1) := by decide +kernel
theorem dX3_pillar_131 : decode cX3_pillar 131 = .ok (.isub, 1) := by decide +kernel
theorem dX3_pillar_132 : decode cX3_pillar 132 = .ok (.ireturn, 1) := by decide +kernel
theorem dX3_base_0 : decode cX3_base 0 = .ok (.aload_n 0, 1) := by decide +kernel
theorem dX3_base_1 : decode cX3_base 1 = .ok (.iload_n 1, 1) := by decide +kernel
theorem dX3_base_2 : decode cX3_base 2 = .ok (.iload_n 2, 1) := by decide +kernel
theorem dX3_base_3 : decode cX3_base 3 = .ok (.invokevirtual 65, 3) := by decide +kernel
theorem dX3_base_6 : decode cX3_base 6 = .ok (.istore_n 3, 1) := by decide +kernel
theorem dX3_base_7 : decode cX3_base 7 = .ok (.aload_n 0, 1) := by decide +kernel
theorem dX3_base_8 : decode cX3_base 8 = .ok (.iload_n 3, 1) := by decide +kernel
theorem dX3_base_9 : decode cX3_base 9 = .ok (.ifCond .ne 7, 3) := by decide +kernel
theorem dX3_base_12 : decode cX3_base 12 = .ok (.iconst 1, 1) := by decide +kernel
theorem dX3_base_13 : decode cX3_base 13 = .ok (.goto 20, 3) := by decide +kernel
theorem dX3_base_16 : decode cX3_base 16 = .ok (.aload_n 0, 1) := by decide +kernel
theorem dX3_base_17 : decode cX3_base 17 = .ok (.iload_n 1, 1) := by decide +kernel
theorem dX3_base_18 : decode cX3_base 18 = .ok (.iload_n 2, 1) := by decide +kernel
theorem dX3_base_19 : decode cX3_base 19 = .ok (.invokestatic 52, 3) := by decide +kernel
theorem dX3_base_22 : decode cX3_base 22 = .ok (.invokevirtual 69, 3) := by decide +kernel
theorem dX3_base_25 : decode cX3_base 25 = .ok (.ifCond .eq 7, 3) := by decide +kernel
theorem dX3_base_28 : decode cX3_base 28 = .ok (.iconst 2, 1) := by decide +kernel
theorem dX3_base_29 : decode cX3_base 29 = .ok (.goto 4, 3) := by decide +kernel
theorem dX3_base_32 : decode cX3_base 32 = .ok (.iconst 0, 1) := by decide +kernel
theorem dX3_base_33 : decode cX3_base 33 = .ok (.invokevirtual 94, 3) := by decide +kernel
theorem dX3_base_36 : decode cX3_base 36 = .ok (.ifCond .eq 34, 3) := by decide +kernel
theorem dX3_base_39 : decode cX3_base 39 = .ok (.aload_n 0, 1) := by decide +kernel
theorem dX3_base_40 : decode cX3_base 40 = .ok (.iload_n 1, 1) := by decide +kernel
theorem dX3_base_41 : decode cX3_base 41 = .ok (.iload_n 2, 1) := by decide +kernel
theorem dX3_base_42 : decode cX3_base 42 = .ok (.invokestatic 52, 3) := by decide +kernel
theorem dX3_base_45 : decode cX3_base 45 = .ok (.putfield 79, 3) := by decide +kernel
theorem dX3_base_48 : decode cX3_base 48 = .ok (.aload_n 0, 1) := by decide +kernel
theorem dX3_base_49 : decode cX3_base 49 = .ok (.aload_n 0, 1) := by decide +kernel
theorem dX3_base_50 : decode cX3_base 50 = .ok (.getfield 79, 3) := by decide +kernel
theorem dX3_base_53 : decode cX3_base 53 = .ok (.putfield 85, 3) := by decide +kernel
theorem dX3_base_56 : decode cX3_base 56 = .ok (.aload_n 0, 1) := by decide +kernel
theorem dX3_base_57 : decode cX3_base 57 = .ok (.iconst 0, 1) := by decide +kernel
theorem dX3_base_58 : decode cX3_base 58 = .ok (.putfield 88, 3) := by decide +kernel
theorem dX3_base_61 : decode cX3_base 61 = .ok (.aload_n 0, 1) := by decide +kernel
theorem dX3_base_62 : decode cX3_base 62 = .ok (.iconst 0, 1) := by decide +kernel
theorem dX3_base_63 : decode cX3_base 63 = .ok (.putfield 91, 3) := by decide +kernel
theorem dX3_base_66 : decode cX3_base 66 = .ok (.aload_n 0, 1) := by decide +kernel
theorem dX3_base_67 : decode cX3_base 67 = .ok (.invokevirtual 39, 3) := by decide +kernel
theorem dX3_base_70 : decode cX3_base 70 = .ok (.return_, 1) := by decide +kernel
theorem dX3_isAble_0 : decode cX3_isAble 0 = .ok (.iload_n 1, 1) := by decide +kernel
theorem dX3_isAble_1 : decode cX3_isAble 1 = .ok (.iconst (-1), 1) := by decide +kernel
theorem dX3_isAble_2 : decode cX3_isAble 2 = .ok (.if_icmp .eq 30, 3) := by decide +kernel
theorem dX3_isAble_5 : decode cX3_isAble 5 = .ok (.aload_n 0, 1) := by decide +kernel
theorem dX3_isAble_6 : decode cX3_isAble 6 = .ok (.getfield 16, 3) := by decide +kernel
theorem dX3_isAble_9 : decode cX3_isAble 9 = .ok (.iload_n 1, 1) := by decide +kernel
theorem dX3_isAble_10 : decode cX3_isAble 10 = .ok (.iaload, 1) := by decide +kernel
theorem dX3_isAble_11 : decode cX3_isAble 11 = .ok (.iconst (-1), 1) := by decide +kernel
theorem dX3_isAble_12 : decode cX3_isAble 12 = .ok (.if_icmp .eq 20, 3) := by decide +kernel
theorem dX3_isAble_15 : decode cX3_isAble 15 = .ok (.aload_n 0, 1) := by decide +kernel
theorem dX3_isAble_16 : decode cX3_isAble 16 = .ok (.getfield 16, 3) := by decide +kernel
theorem dX3_isAble_19 : decode cX3_isAble 19 = .ok (.iload_n 1, 1) := by decide +kernel
theorem dX3_isAble_20 : decode cX3_isAble 20 = .ok (.iaload, 1) := by decide +kernel
theorem dX3_isAble_21 : decode cX3_isAble 21 = .ok (.aload_n 0, 1) := by decide +kernel
theorem dX3_isAble_22 : decode cX3_isAble 22 = .ok (.getfield 36, 3) := by decide +kernel
theorem dX3_isAble_25 : decode cX3_isAble 25 = .ok (.if_icmp .gt 7, 3) := by decide +kernel
theorem dX3_isAble_28 : decode cX3_isAble 28 = .ok (.iconst 1, 1) := by decide +kernel
theorem dX3_isAble_29 : decode cX3_isAble 29 = .ok (.goto 4, 3) := by decide +kernel
theorem dX3_isAble_32 : decode cX3_isAble 32 = .ok (.iconst 0, 1) := by decide +kernel
theorem dX3_isAble_33 : decode cX3_isAble 33 = .ok (.ireturn, 1) := by decide +kernel
theorem dX3_step_0 : decode cX3_step 0 = .ok (.iload_n 1, 1) := by decide +kernel
theorem dX3_step_1 : decode cX3_step 1 = .ok (.iconst 0, 1) := by decide +kernel
theorem dX3_step_2 : decode cX3_step 2 = .ok (.iconst 3, 1) := by decide +kernel
theorem dX3_step_3 : decode cX3_step 3 = .ok (.invokestatic 45, 3) := by decide +kernel
theorem dX3_step_6 : decode cX3_step 6 = .ok (.istore_n 2, 1) := by decide +kernel
theorem dX3_step_7 : decode cX3_step 7 = .ok (.iload_n 2, 1) := by decide +kernel
theorem dX3_step_8 : decode cX3_step 8 = .ok (.ifCond .eq 15, 3) := by decide +kernel
theorem dX3_step_11 : decode cX3_step 11 = .ok (.aload_n 0, 1) := by decide +kernel
theorem dX3_step_12 : decode cX3_step 12 = .ok (.aload_n 0, 1) := by decide +kernel
theorem dX3_step_13 : decode cX3_step 13 = .ok (.invokevirtual 97, 3) := by decide +kernel
theorem dX3_step_16 : decode cX3_step 16 = .ok (.iload_n 1, 1) := by decide +kernel
theorem dX3_step_17 : decode cX3_step 17 = .ok (.invokevirtual 82, 3) := by decide +kernel
theorem dX3_step_20 : decode cX3_step 20 = .ok (.goto 4, 3) := by decide +kernel
theorem dX3_step_23 : decode cX3_step 23 = .ok (.iconst (-1), 1) := by decide +kernel
theorem dX3_step_24 : decode cX3_step 24 = .ok (.istore_n 3, 1) := by decide +kernel
theorem dX3_step_25 : decode cX3_step 25 = .ok (.aload_n 0, 1) := by decide +kernel
theorem dX3_step_26 : decode cX3_step 26 = .ok (.iload_n 2, 1) := by decide +kernel
theorem dX3_step_27 : decode cX3_step 27 = .ok (.ifCond .ne 7, 3) := by decide +kernel
theorem dX3_step_30 : decode cX3_step 30 = .ok (.iconst 1, 1) := by decide +kernel
theorem dX3_step_31 : decode cX3_step 31 = .ok (.goto 16, 3) := by decide +kernel
theorem dX3_step_34 : decode cX3_step 34 = .ok (.aload_n 0, 1) := by decide +kernel
theorem dX3_step_35 : decode cX3_step 35 = .ok (.iload_n 3, 1) := by decide +kernel
theorem dX3_step_36 : decode cX3_step 36 = .ok (.invokevirtual 101, 3) := by decide +kernel
theorem dX3_step_39 : decode cX3_step 39 = .ok (.ifCond .eq 7, 3) := by decide +kernel
theorem dX3_step_42 : decode cX3_step 42 = .ok (.iconst 0, 1) := by decide +kernel
theorem dX3_step_43 : decode cX3_step 43 = .ok (.goto 4, 3) := by decide +kernel
theorem dX3_step_46 : decode cX3_step 46 = .ok (.iconst 2, 1) := by decide +kernel
theorem dX3_step_47 : decode cX3_step 47 = .ok (.invokevirtual 94, 3) := by decide +kernel
theorem dX3_step_50 : decode cX3_step 50 = .ok (.ifCond .ne 5, 3) := by decide +kernel
theorem dX3_step_53 : decode cX3_step 53 = .ok (.iconst 0, 1) := by decide +kernel
theorem dX3_step_54 : decode cX3_step 54 = .ok (.ireturn, 1) := by decide +kernel
theorem dX3_step_55 : decode cX3_step 55 = .ok (.aload_n 0, 1) := by decide +kernel
theorem dX3_step_56 : decode cX3_step 56 = .ok (.iload_n 3, 1) := by decide +kernel
theorem dX3_step_57 : decode cX3_step 57 = .ok (.invokevirtual 104, 3) := by decide +kernel
theorem dX3_step_60 : decode cX3_step 60 = .ok (.aload_n 0, 1) := by decide +kernel
theorem dX3_step_61 : decode cX3_step 61 = .ok (.getfield 16, 3) := by decide +kernel
theorem dX3_step_64 : decode cX3_step 64 = .ok (.iload_n 3, 1) := by decide +kernel
theorem dX3_step_65 : decode cX3_step 65 = .ok (.iaload, 1) := by decide +kernel
theorem dX3_step_66 : decode cX3_step 66 = .ok (.ireturn, 1) := by decide +kernel
theorem dX3_sought_0 : decode cX3_sought 0 = .ok (.iconst 0, 1) := by decide +kernel
theorem dX3_sought_1 : decode cX3_sought 1 = .ok (.istore_n 2, 1) := by decide +kernel
theorem dX3_sought_2 : decode cX3_sought 2 = .ok (.iload_n 2, 1) := by decide +kernel
theorem dX3_sought_3 : decode cX3_sought 3 = .ok (.sipush 16807, 3) := by decide +kernel
theorem dX3_sought_6 : decode cX3_sought 6 = .ok (.if_icmp .ge 16, 3) := by decide +kernel
theorem dX3_sought_9 : decode cX3_sought 9 = .ok (.aload_n 0, 1) := by decide +kernel
theorem dX3_sought_10 : decode cX3_sought 10 = .ok (.getfield 22, 3) := by decide +kernel
theorem dX3_sought_13 : decode cX3_sought 13 = .ok (.iload_n 2, 1) := by decide +kernel
theorem dX3_sought_14 : decode cX3_sought 14 = .ok (.iconst (-1), 1) := by decide +kernel
theorem dX3_sought_15 : decode cX3_sought 15 = .ok (.iastore, 1) := by decide +kernel
theorem dX3_sought_16 : decode cX3_sought 16 = .ok (.iinc 2 1, 3) := by decide +kernel
theorem dX3_sought_19 : decode cX3_sought 19 = .ok (.goto (-17), 3) := by decide +kernel
theorem dX3_sought_22 : decode cX3_sought 22 = .ok (.iconst 1, 1) := by decide +kernel
theorem dX3_sought_23 : decode cX3_sought 23 = .ok (.istore_n 2, 1) := by decide +kernel
theorem dX3_sought_24 : decode cX3_sought 24 = .ok (.aload_n 0, 1) := by decide +kernel
theorem dX3_sought_25 : decode cX3_sought 25 = .ok (.getfield 19, 3) := by decide +kernel
theorem dX3_sought_28 : decode cX3_sought 28 = .ok (.iconst 0, 1) := by decide +kernel
theorem dX3_sought_29 : decode cX3_sought 29 = .ok (.aload_n 0, 1) := by decide +kernel
theorem dX3_sought_30 : decode cX3_sought 30 = .ok (.invokevirtual 97, 3) := by decide +kernel
theorem dX3_sought_33 : decode cX3_sought 33 = .ok (.iastore, 1) := by decide +kernel
theorem dX3_sought_34 : decode cX3_sought 34 = .ok (.aload_n 0, 1) := by decide +kernel
theorem dX3_sought_35 : decode cX3_sought 35 = .ok (.getfield 22, 3) := by decide +kernel
theorem dX3_sought_38 : decode cX3_sought 38 = .ok (.aload_n 0, 1) := by decide +kernel
theorem dX3_sought_39 : decode cX3_sought 39 = .ok (.getfield 19, 3) := by decide +kernel
theorem dX3_sought_42 : decode cX3_sought 42 = .ok (.iconst 0, 1) := by decide +kernel
theorem dX3_sought_43 : decode cX3_sought 43 = .ok (.iaload, 1) := by decide +kernel
theorem dX3_sought_44 : decode cX3_sought 44 = .ok (.aload_n 0, 1) := by decide +kernel
theorem dX3_sought_45 : decode cX3_sought 45 = .ok (.getfield 19, 3) := by decide +kernel
theorem dX3_sought_48 : decode cX3_sought 48 = .ok (.iconst 0, 1) := by decide +kernel
theorem dX3_sought_49 : decode cX3_sought 49 = .ok (.iaload, 1) := by decide +kernel
theorem dX3_sought_50 : decode cX3_sought 50 = .ok (.iastore, 1) := by decide +kernel
theorem dX3_sought_51 : decode cX3_sought 51 = .ok (.iconst 0, 1) := by decide +kernel
theorem dX3_sought_52 : decode cX3_sought 52 = .ok (.istore_n 3, 1) := by decide +kernel
theorem dX3_sought_53 : decode cX3_sought 53 = .ok (.iload_n 3, 1) := by decide +kernel
theorem dX3_sought_54 : decode cX3_sought 54 = .ok (.iload_n 2, 1) := by decide +kernel
theorem dX3_sought_55 : decode cX3_sought 55 = .ok (.if_icmp .ge 103, 3) := by decide +kernel
theorem dX3_sought_58 : decode cX3_sought 58 = .ok (.aload_n 0, 1) := by decide +kernel
theorem dX3_sought_59 : decode cX3_sought 59 = .ok (.getfield 19, 3) := by decide +kernel
theorem dX3_sought_62 : decode cX3_sought 62 = .ok (.iload_n 3, 1) := by decide +kernel
theorem dX3_sought_63 : decode cX3_sought 63 = .ok (.iaload, 1) := by decide +kernel
theorem dX3_sought_64 : decode cX3_sought 64 = .ok (.sipush 343, 3) := by decide +kernel
theorem dX3_sought_67 : decode cX3_sought 67 = .ok (.idiv, 1) := by decide +kernel
theorem dX3_sought_68 : decode cX3_sought 68 = .ok (.iload_n 1, 1) := by decide +kernel
theorem dX3_sought_69 : decode cX3_sought 69 = .ok (.if_icmp .ne 10, 3) := by decide +kernel
theorem dX3_sought_72 : decode cX3_sought 72 = .ok (.aload_n 0, 1) := by decide +kernel
theorem dX3_sought_73 : decode cX3_sought 73 = .ok (.getfield 19, 3) := by decide +kernel
theorem dX3_sought_76 : decode cX3_sought 76 = .ok (.iload_n 3, 1) := by decide +kernel
theorem dX3_sought_77 : decode cX3_sought 77 = .ok (.iaload, 1) := by decide +kernel
theorem dX3_sought_78 : decode cX3_sought 78 = .ok (.ireturn, 1) := by decide +kernel
theorem dX3_sought_79 : decode cX3_sought 79 = .ok (.iconst 0, 1) := by decide +kernel
theorem dX3_sought_80 : decode cX3_sought 80 = .ok (.istore 4, 2) := by decide +kernel
theorem dX3_sought_82 : decode cX3_sought 82 = .ok (.iload 4, 2) := by decide +kernel
theorem dX3_sought_84 : decode cX3_sought 84 = .ok (.iconst 4, 1) := by decide +kernel
theorem dX3_sought_85 : decode cX3_sought 85 = .ok (.if_icmp .ge 67, 3) := by decide +kernel
theorem dX3_sought_88 : decode cX3_sought 88 = .ok (.aload_n 0, 1) := by decide +kernel
theorem dX3_sought_89 : decode cX3_sought 89 = .ok (.aload_n 0, 1) := by decide +kernel
theorem dX3_sought_90 : decode cX3_sought 90 = .ok (.getfield 19, 3) := by decide +kernel
theorem dX3_sought_93 : decode cX3_sought 93 = .ok (.iload_n 3, 1) := by decide +kernel
theorem dX3_sought_94 : decode cX3_sought 94 = .ok (.iaload, 1) := by decide +kernel
theorem dX3_sought_95 : decode cX3_sought 95 = .ok (.iload 4, 2) := by decide +kernel
theorem dX3_sought_97 : decode cX3_sought 97 = .ok (.invokevirtual 82, 3) := by decide +kernel
theorem dX3_sought_100 : decode cX3_sought 100 = .ok (.istore 5, 2) := by decide +kernel
theorem dX3_sought_102 : decode cX3_sought 102 = .ok (.aload_n 0, 1) := by decide +kernel
theorem dX3_sought_103 : decode cX3_sought 103 = .ok (.iload 5, 2) := by decide +kernel
theorem dX3_sought_105 : decode cX3_sought 105 = .ok (.invokevirtual 101, 3) := by decide +kernel
theorem dX3_sought_108 : decode cX3_sought 108 = .ok (.ifCond .eq 38, 3) := by decide +kernel
theorem dX3_sought_111 : decode cX3_sought 111 = .ok (.aload_n 0, 1) := by decide +kernel
theorem dX3_sought_112 : decode cX3_sought 112 = .ok (.getfield 22, 3) := by decide +kernel
theorem dX3_sought_115 : decode cX3_sought 115 = .ok (.iload 5, 2) := by decide +kernel
theorem dX3_sought_117 : decode cX3_sought 117 = .ok (.iaload, 1) := by decide +kernel
theorem dX3_sought_118 : decode cX3_sought 118 = .ok (.iconst (-1), 1) := by decide +kernel
theorem dX3_sought_119 : decode cX3_sought 119 = .ok (.if_icmp .ne 27, 3) := by decide +kernel
theorem dX3_sought_122 : decode cX3_sought 122 = .ok (.aload_n 0, 1) := by decide +kernel
theorem dX3_sought_123 : decode cX3_sought 123 = .ok (.getfield 22, 3) := by decide +kernel
theorem dX3_sought_126 : decode cX3_sought 126 = .ok (.iload 5, 2) := by decide +kernel
theorem dX3_sought_128 : decode cX3_sought 128 = .ok (.aload_n 0, 1) := by decide +kernel
theorem dX3_sought_129 : decode cX3_sought 129 = .ok (.getfield 19, 3) := by decide +kernel
theorem dX3_sought_132 : decode cX3_sought 132 = .ok (.iload_n 3, 1) := by decide +kernel
theorem dX3_sought_133 : decode cX3_sought 133 = .ok (.iaload, 1) := by decide +kernel
theorem dX3_sought_134 : decode cX3_sought 134 = .ok (.iastore, 1) := by decide +kernel
theorem dX3_sought_135 : decode cX3_sought 135 = .ok (.aload_n 0, 1) := by decide +kernel
theorem dX3_sought_136 : decode cX3_sought 136 = .ok (.getfield 19, 3) := by decide +kernel
theorem dX3_sought_139 : decode cX3_sought 139 = .ok (.iload_n 2, 1) := by decide +kernel
theorem dX3_sought_140 : decode cX3_sought 140 = .ok (.iload 5, 2) := by decide +kernel
theorem dX3_sought_142 : decode cX3_sought 142 = .ok (.iastore, 1) := by decide +kernel
theorem dX3_sought_143 : decode cX3_sought 143 = .ok (.iinc 2 1, 3) := by decide +kernel
theorem dX3_sought_146 : decode cX3_sought 146 = .ok (.iinc 4 1, 3) := by decide +kernel
theorem dX3_sought_149 : decode cX3_sought 149 = .ok (.goto (-67), 3) := by decide +kernel
theorem dX3_sought_152 : decode cX3_sought 152 = .ok (.iinc 3 1, 3) := by decide +kernel
theorem dX3_sought_155 : decode cX3_sought 155 = .ok (.goto (-102), 3) := by decide +kernel
theorem dX3_sought_158 : decode cX3_sought 158 = .ok (.iconst (-1), 1) := by decide +kernel
theorem dX3_sought_159 : decode cX3_sought 159 = .ok (.ireturn, 1) := by decide +kernel
theorem dX3_go_0 : decode cX3_go 0 = .ok (.aload_n 0, 1) := by decide +kernel
theorem dX3_go_1 : decode cX3_go 1 = .ok (.iload_n 1, 1) := by decide +kernel
theorem dX3_go_2 : decode cX3_go 2 = .ok (.iload_n 2, 1) := by decide +kernel
theorem dX3_go_3 : decode cX3_go 3 = .ok (.invokevirtual 65, 3) := by decide +kernel
theorem dX3_go_6 : decode cX3_go 6 = .ok (.istore_n 3, 1) := by decide +kernel
theorem dX3_go_7 : decode cX3_go 7 = .ok (.iload_n 3, 1) := by decide +kernel
theorem dX3_go_8 : decode cX3_go 8 = .ok (.ifCond .eq 15, 3) := by decide +kernel
theorem dX3_go_11 : decode cX3_go 11 = .ok (.aload_n 0, 1) := by decide +kernel
theorem dX3_go_12 : decode cX3_go 12 = .ok (.iload_n 1, 1) := by decide +kernel
theorem dX3_go_13 : decode cX3_go 13 = .ok (.iload_n 2, 1) := by decide +kernel
theorem dX3_go_14 : decode cX3_go 14 = .ok (.invokestatic 52, 3) := by decide +kernel
theorem dX3_go_17 : decode cX3_go 17 = .ok (.invokevirtual 108, 3) := by decide +kernel
theorem dX3_go_20 : decode cX3_go 20 = .ok (.goto 4, 3) := by decide +kernel
theorem dX3_go_23 : decode cX3_go 23 = .ok (.iconst (-1), 1) := by decide +kernel
theorem dX3_go_24 : decode cX3_go 24 = .ok (.istore 4, 2) := by decide +kernel
theorem dX3_go_26 : decode cX3_go 26 = .ok (.aload_n 0, 1) := by decide +kernel
theorem dX3_go_27 : decode cX3_go 27 = .ok (.iload_n 3, 1) := by decide +kernel
theorem dX3_go_28 : decode cX3_go 28 = .ok (.ifCond .ne 7, 3) := by decide +kernel
theorem dX3_go_31 : decode cX3_go 31 = .ok (.iconst 1, 1) := by decide +kernel
theorem dX3_go_32 : decode cX3_go 32 = .ok (.goto 14, 3) := by decide +kernel
theorem dX3_go_35 : decode cX3_go 35 = .ok (.iload 4, 2) := by decide +kernel
theorem dX3_go_37 : decode cX3_go 37 = .ok (.iconst (-1), 1) := by decide +kernel
theorem dX3_go_38 : decode cX3_go 38 = .ok (.if_icmp .ne 7, 3) := by decide +kernel
theorem dX3_go_41 : decode cX3_go 41 = .ok (.iconst 2, 1) := by decide +kernel
theorem dX3_go_42 : decode cX3_go 42 = .ok (.goto 4, 3) := by decide +kernel
theorem dX3_go_45 : decode cX3_go 45 = .ok (.iconst 0, 1) := by decide +kernel
theorem dX3_go_46 : decode cX3_go 46 = .ok (.invokevirtual 94, 3) := by decide +kernel
theorem dX3_go_49 : decode cX3_go 49 = .ok (.ifCond .ne 5, 3) := by decide +kernel
theorem dX3_go_52 : decode cX3_go 52 = .ok (.iconst 0, 1) := by decide +kernel
theorem dX3_go_53 : decode cX3_go 53 = .ok (.ireturn, 1) := by decide +kernel
theorem dX3_go_54 : decode cX3_go 54 = .ok (.iconst 0, 1) := by decide +kernel
theorem dX3_go_55 : decode cX3_go 55 = .ok (.istore 5, 2) := by decide +kernel
theorem dX3_go_57 : decode cX3_go 57 = .ok (.iload 4, 2) := by decide +kernel
theorem dX3_go_59 : decode cX3_go 59 = .ok (.istore 6, 2) := by decide +kernel
theorem dX3_go_61 : decode cX3_go 61 = .ok (.aload_n 0, 1) := by decide +kernel
theorem dX3_go_62 : decode cX3_go 62 = .ok (.getfield 22, 3) := by decide +kernel
theorem dX3_go_65 : decode cX3_go 65 = .ok (.iload 6, 2) := by decide +kernel
theorem dX3_go_67 : decode cX3_go 67 = .ok (.iaload, 1) := by decide +kernel
theorem dX3_go_68 : decode cX3_go 68 = .ok (.iload 6, 2) := by decide +kernel
theorem dX3_go_70 : decode cX3_go 70 = .ok (.if_icmp .eq 18, 3) := by decide +kernel
theorem dX3_go_73 : decode cX3_go 73 = .ok (.iinc 5 1, 3) := by decide +kernel
theorem dX3_go_76 : decode cX3_go 76 = .ok (.aload_n 0, 1) := by decide +kernel
theorem dX3_go_77 : decode cX3_go 77 = .ok (.getfield 22, 3) := by decide +kernel
theorem dX3_go_80 : decode cX3_go 80 = .ok (.iload 6, 2) := by decide +kernel
theorem dX3_go_82 : decode cX3_go 82 = .ok (.iaload, 1) := by decide +kernel
theorem dX3_go_83 : decode cX3_go 83 = .ok (.istore 6, 2) := by decide +kernel
theorem dX3_go_85 : decode cX3_go 85 = .ok (.goto (-24), 3) := by decide +kernel
theorem dX3_go_88 : decode cX3_go 88 = .ok (.aload_n 0, 1) := by decide +kernel
theorem dX3_go_89 : decode cX3_go 89 = .ok (.iload 4, 2) := by decide +kernel
theorem dX3_go_91 : decode cX3_go 91 = .ok (.sipush 343, 3) := by decide +kernel
theorem dX3_go_94 : decode cX3_go 94 = .ok (.idiv, 1) := by decide +kernel
theorem dX3_go_95 : decode cX3_go 95 = .ok (.putfield 85, 3) := by decide +kernel
theorem dX3_go_98 : decode cX3_go 98 = .ok (.aload_n 0, 1) := by decide +kernel
theorem dX3_go_99 : decode cX3_go 99 = .ok (.iload 4, 2) := by decide +kernel
theorem dX3_go_101 : decode cX3_go 101 = .ok (.sipush 343, 3) := by decide +kernel
theorem dX3_go_104 : decode cX3_go 104 = .ok (.irem, 1) := by decide +kernel
theorem dX3_go_105 : decode cX3_go 105 = .ok (.putfield 88, 3) := by decide +kernel
theorem dX3_go_108 : decode cX3_go 108 = .ok (.aload_n 0, 1) := by decide +kernel
theorem dX3_go_109 : decode cX3_go 109 = .ok (.dup, 1) := by decide +kernel
theorem dX3_go_110 : decode cX3_go 110 = .ok (.getfield 91, 3) := by decide +kernel
theorem dX3_go_113 : decode cX3_go 113 = .ok (.iload 5, 2) := by decide +kernel
theorem dX3_go_115 : decode cX3_go 115 = .ok (.iadd, 1) := by decide +kernel
theorem dX3_go_116 : decode cX3_go 116 = .ok (.putfield 91, 3) := by decide +kernel
theorem dX3_go_119 : decode cX3_go 119 = .ok (.iload 5, 2) := by decide +kernel
theorem dX3_go_121 : decode cX3_go 121 = .ok (.ireturn, 1) := by decide +kernel
theorem dX3_along_0 : decode cX3_along 0 = .ok (.iconst 0, 1) := by decide +kernel
theorem dX3_along_1 : decode cX3_along 1 = .ok (.istore_n 2, 1) := by decide +kernel
theorem dX3_along_2 : decode cX3_along 2 = .ok (.iload_n 2, 1) := by decide +kernel
theorem dX3_along_3 : decode cX3_along 3 = .ok (.iconst 4, 1) := by decide +kernel
theorem dX3_along_4 : decode cX3_along 4 = .ok (.if_icmp .ge 49, 3) := by decide +kernel
theorem dX3_along_7 : decode cX3_along 7 = .ok (.aload_n 0, 1) := by decide +kernel
theorem dX3_along_8 : decode cX3_along 8 = .ok (.getfield 16, 3) := by decide +kernel
theorem dX3_along_11 : decode cX3_along 11 = .ok (.iload_n 1, 1) := by decide +kernel
theorem dX3_along_12 : decode cX3_along 12 = .ok (.iaload, 1) := by decide +kernel
theorem dX3_along_13 : decode cX3_along 13 = .ok (.ifCond .le 40, 3) := by decide +kernel
theorem dX3_along_16 : decode cX3_along 16 = .ok (.aload_n 0, 1) := by decide +kernel
theorem dX3_along_17 : decode cX3_along 17 = .ok (.iload_n 1, 1) := by decide +kernel
theorem dX3_along_18 : decode cX3_along 18 = .ok (.iload_n 2, 1) := by decide +kernel
theorem dX3_along_19 : decode cX3_along 19 = .ok (.invokevirtual 82, 3) := by decide +kernel
theorem dX3_along_22 : decode cX3_along 22 = .ok (.istore_n 3, 1) := by decide +kernel
theorem dX3_along_23 : decode cX3_along 23 = .ok (.iload_n 3, 1) := by decide +kernel
theorem dX3_along_24 : decode cX3_along 24 = .ok (.iconst (-1), 1) := by decide +kernel
theorem dX3_along_25 : decode cX3_along 25 = .ok (.if_icmp .eq 22, 3) := by decide +kernel
theorem dX3_along_28 : decode cX3_along 28 = .ok (.aload_n 0, 1) := by decide +kernel
theorem dX3_along_29 : decode cX3_along 29 = .ok (.getfield 16, 3) := by decide +kernel
theorem dX3_along_32 : decode cX3_along 32 = .ok (.iload_n 3, 1) := by decide +kernel
theorem dX3_along_33 : decode cX3_along 33 = .ok (.iaload, 1) := by decide +kernel
theorem dX3_along_34 : decode cX3_along 34 = .ok (.aload_n 0, 1) := by decide +kernel
theorem dX3_along_35 : decode cX3_along 35 = .ok (.getfield 16, 3) := by decide +kernel
theorem dX3_along_38 : decode cX3_along 38 = .ok (.iload_n 1, 1) := by decide +kernel
theorem dX3_along_39 : decode cX3_along 39 = .ok (.iaload, 1) := by decide +kernel
theorem dX3_along_40 : decode cX3_along 40 = .ok (.iconst 1, 1) := by decide +kernel
theorem dX3_along_41 : decode cX3_along 41 = .ok (.isub, 1) := by decide +kernel
theorem dX3_along_42 : decode cX3_along 42 = .ok (.if_icmp .ne 5, 3) := by decide +kernel
theorem dX3_along_45 : decode cX3_along 45 = .ok (.iload_n 2, 1) := by decide +kernel
theorem dX3_along_46 : decode cX3_along 46 = .ok (.ireturn, 1) := by decide +kernel
theorem dX3_along_47 : decode cX3_along 47 = .ok (.iinc 2 1, 3) := by decide +kernel
theorem dX3_along_50 : decode cX3_along 50 = .ok (.goto (-48), 3) := by decide +kernel
theorem dX3_along_53 : decode cX3_along 53 = .ok (.iconst (-1), 1) := by decide +kernel
theorem dX3_along_54 : decode cX3_along 54 = .ok (.ireturn, 1) := by decide +kernel
theorem dX3_back_0 : decode cX3_back 0 = .ok (.aload_n 0, 1) := by decide +kernel
theorem dX3_back_1 : decode cX3_back 1 = .ok (.iload_n 1, 1) := by decide +kernel
theorem dX3_back_2 : decode cX3_back 2 = .ok (.iconst 1, 1) := by decide +kernel
theorem dX3_back_3 : decode cX3_back 3 = .ok (.bipush 60, 2) := by decide +kernel
theorem dX3_back_5 : decode cX3_back 5 = .ok (.invokestatic 45, 3) := by decide +kernel
theorem dX3_back_8 : decode cX3_back 8 = .ok (.ifCond .eq 7, 3) := by decide +kernel
theorem dX3_back_11 : decode cX3_back 11 = .ok (.iconst 0, 1) := by decide +kernel
theorem dX3_back_12 : decode cX3_back 12 = .ok (.goto 4, 3) := by decide +kernel
theorem dX3_back_15 : decode cX3_back 15 = .ok (.iconst 1, 1) := by decide +kernel
theorem dX3_back_16 : decode cX3_back 16 = .ok (.invokevirtual 94, 3) := by decide +kernel
theorem dX3_back_19 : decode cX3_back 19 = .ok (.ifCond .ne 5, 3) := by decide +kernel
theorem dX3_back_22 : decode cX3_back 22 = .ok (.iconst 0, 1) := by decide +kernel
theorem dX3_back_23 : decode cX3_back 23 = .ok (.ireturn, 1) := by decide +kernel
theorem dX3_back_24 : decode cX3_back 24 = .ok (.iconst 0, 1) := by decide +kernel
theorem dX3_back_25 : decode cX3_back 25 = .ok (.istore_n 2, 1) := by decide +kernel
theorem dX3_back_26 : decode cX3_back 26 = .ok (.iload_n 2, 1) := by decide +kernel
theorem dX3_back_27 : decode cX3_back 27 = .ok (.iload_n 1, 1) := by decide +kernel
theorem dX3_back_28 : decode cX3_back 28 = .ok (.if_icmp .ge 41, 3) := by decide +kernel
theorem dX3_back_31 : decode cX3_back 31 = .ok (.aload_n 0, 1) := by decide +kernel
theorem dX3_back_32 : decode cX3_back 32 = .ok (.getfield 16, 3) := by decide +kernel
theorem dX3_back_35 : decode cX3_back 35 = .ok (.aload_n 0, 1) := by decide +kernel
theorem dX3_back_36 : decode cX3_back 36 = .ok (.invokevirtual 97, 3) := by decide +kernel
theorem dX3_back_39 : decode cX3_back 39 = .ok (.iaload, 1) := by decide +kernel
theorem dX3_back_40 : decode cX3_back 40 = .ok (.ifCond .le 29, 3) := by decide +kernel
theorem dX3_back_43 : decode cX3_back 43 = .ok (.aload_n 0, 1) := by decide +kernel
theorem dX3_back_44 : decode cX3_back 44 = .ok (.aload_n 0, 1) := by decide +kernel
theorem dX3_back_45 : decode cX3_back 45 = .ok (.aload_n 0, 1) := by decide +kernel
theorem dX3_back_46 : decode cX3_back 46 = .ok (.invokevirtual 97, 3) := by decide +kernel
theorem dX3_back_49 : decode cX3_back 49 = .ok (.aload_n 0, 1) := by decide +kernel
theorem dX3_back_50 : decode cX3_back 50 = .ok (.aload_n 0, 1) := by decide +kernel
theorem dX3_back_51 : decode cX3_back 51 = .ok (.invokevirtual 97, 3) := by decide +kernel
theorem dX3_back_54 : decode cX3_back 54 = .ok (.invokevirtual 112, 3) := by decide +kernel
theorem dX3_back_57 : decode cX3_back 57 = .ok (.invokevirtual 82, 3) := by decide +kernel
theorem dX3_back_60 : decode cX3_back 60 = .ok (.invokevirtual 104, 3) := by decide +kernel
theorem dX3_back_63 : decode cX3_back 63 = .ok (.iinc 2 1, 3) := by decide +kernel
theorem dX3_back_66 : decode cX3_back 66 = .ok (.goto (-40), 3) := by decide +kernel
theorem dX3_back_69 : decode cX3_back 69 = .ok (.iload_n 2, 1) := by decide +kernel
theorem dX3_back_70 : decode cX3_back 70 = .ok (.ireturn, 1) := by decide +kernel
theorem dX3_column_0 : decode cX3_column 0 = .ok (.aload_n 0, 1) := by decide +kernel
theorem dX3_column_1 : decode cX3_column 1 = .ok (.iconst 0, 1) := by decide +kernel
theorem dX3_column_2 : decode cX3_column 2 = .ok (.putfield 42, 3) := by decide +kernel
theorem dX3_column_5 : decode cX3_column 5 = .ok (.aload_n 0, 1) := by decide +kernel
theorem dX3_column_6 : decode cX3_column 6 = .ok (.getfield 85, 3) := by decide +kernel
theorem dX3_column_9 : decode cX3_column 9 = .ok (.bipush 7, 2) := by decide +kernel
theorem dX3_column_11 : decode cX3_column 11 = .ok (.irem, 1) := by decide +kernel
theorem dX3_column_12 : decode cX3_column 12 = .ok (.ireturn, 1) := by decide +kernel
theorem dX3_row_0 : decode cX3_row 0 = .ok (.aload_n 0, 1) := by decide +kernel
theorem dX3_row_1 : decode cX3_row 1 = .ok (.iconst 0, 1) := by decide +kernel
theorem dX3_row_2 : decode cX3_row 2 = .ok (.putfield 42, 3) := by decide +kernel
theorem dX3_row_5 : decode cX3_row 5 = .ok (.aload_n 0, 1) := by decide +kernel
theorem dX3_row_6 : decode cX3_row 6 = .ok (.getfield 85, 3) := by decide +kernel
theorem dX3_row_9 : decode cX3_row 9 = .ok (.bipush 7, 2) := by decide +kernel
theorem dX3_row_11 : decode cX3_row 11 = .ok (.idiv, 1) := by decide +kernel
theorem dX3_row_12 : decode cX3_row 12 = .ok (.ireturn, 1) := by decide +kernel
theorem dX3_letters_0 : decode cX3_letters 0 = .ok (.aload_n 0, 1) := by decide +kernel
theorem dX3_letters_1 : decode cX3_letters 1 = .ok (.iconst 0, 1) := by decide +kernel
theorem dX3_letters_2 : decode cX3_letters 2 = .ok (.putfield 42, 3) := by decide +kernel
theorem dX3_letters_5 : decode cX3_letters 5 = .ok (.aload_n 0, 1) := by decide +kernel
theorem dX3_letters_6 : decode cX3_letters 6 = .ok (.getfield 88, 3) := by decide +kernel
theorem dX3_letters_9 : decode cX3_letters 9 = .ok (.invokestatic 115, 3) := by decide +kernel
theorem dX3_letters_12 : decode cX3_letters 12 = .ok (.ireturn, 1) := by decide +kernel
theorem dX3_letterAt_0 : decode cX3_letterAt 0 = .ok (.aload_n 0, 1) := by decide +kernel
theorem dX3_letterAt_1 : decode cX3_letterAt 1 = .ok (.iload_n 1, 1) := by decide +kernel
theorem dX3_letterAt_2 : decode cX3_letterAt 2 = .ok (.iconst 0, 1) := by decide +kernel
theorem dX3_letterAt_3 : decode cX3_letterAt 3 = .ok (.aload_n 0, 1) := by decide +kernel
theorem dX3_letterAt_4 : decode cX3_letterAt 4 = .ok (.getfield 88, 3) := by decide +kernel
theorem dX3_letterAt_7 : decode cX3_letterAt 7 = .ok (.invokestatic 115, 3) := by decide +kernel
theorem dX3_letterAt_10 : decode cX3_letterAt 10 = .ok (.iconst 1, 1) := by decide +kernel
theorem dX3_letterAt_11 : decode cX3_letterAt 11 = .ok (.isub, 1) := by decide +kernel
theorem dX3_letterAt_12 : decode cX3_letterAt 12 = .ok (.invokestatic 45, 3) := by decide +kernel
theorem dX3_letterAt_15 : decode cX3_letterAt 15 = .ok (.ifCond .eq 7, 3) := by decide +kernel
theorem dX3_letterAt_18 : decode cX3_letterAt 18 = .ok (.iconst 0, 1) := by decide +kernel
theorem dX3_letterAt_19 : decode cX3_letterAt 19 = .ok (.goto 4, 3) := by decide +kernel
theorem dX3_letterAt_22 : decode cX3_letterAt 22 = .ok (.iconst 1, 1) := by decide +kernel
theorem dX3_letterAt_23 : decode cX3_letterAt 23 = .ok (.invokevirtual 94, 3) := by decide +kernel
theorem dX3_letterAt_26 : decode cX3_letterAt 26 = .ok (.ifCond .ne 5, 3) := by decide +kernel
theorem dX3_letterAt_29 : decode cX3_letterAt 29 = .ok (.iconst 0, 1) := by decide +kernel
theorem dX3_letterAt_30 : decode cX3_letterAt 30 = .ok (.ireturn, 1) := by decide +kernel
theorem dX3_letterAt_31 : decode cX3_letterAt 31 = .ok (.aload_n 0, 1) := by decide +kernel
theorem dX3_letterAt_32 : decode cX3_letterAt 32 = .ok (.getfield 88, 3) := by decide +kernel
theorem dX3_letterAt_35 : decode cX3_letterAt 35 = .ok (.istore_n 2, 1) := by decide +kernel
theorem dX3_letterAt_36 : decode cX3_letterAt 36 = .ok (.aload_n 0, 1) := by decide +kernel
theorem dX3_letterAt_37 : decode cX3_letterAt 37 = .ok (.getfield 88, 3) := by decide +kernel
theorem dX3_letterAt_40 : decode cX3_letterAt 40 = .ok (.invokestatic 115, 3) := by decide +kernel
theorem dX3_letterAt_43 : decode cX3_letterAt 43 = .ok (.iconst 1, 1) := by decide +kernel
theorem dX3_letterAt_44 : decode cX3_letterAt 44 = .ok (.isub, 1) := by decide +kernel
theorem dX3_letterAt_45 : decode cX3_letterAt 45 = .ok (.istore_n 3, 1) := by decide +kernel
theorem dX3_letterAt_46 : decode cX3_letterAt 46 = .ok (.iload_n 3, 1) := by decide +kernel
theorem dX3_letterAt_47 : decode cX3_letterAt 47 = .ok (.iload_n 1, 1) := by decide +kernel
theorem dX3_letterAt_48 : decode cX3_letterAt 48 = .ok (.if_icmp .le 14, 3) := by decide +kernel
theorem dX3_letterAt_51 : decode cX3_letterAt 51 = .ok (.iload_n 2, 1) := by decide +kernel
theorem dX3_letterAt_52 : decode cX3_letterAt 52 = .ok (.bipush 7, 2) := by decide +kernel
theorem dX3_letterAt_54 : decode cX3_letterAt 54 = .ok (.idiv, 1) := by decide +kernel
theorem dX3_letterAt_55 : decode cX3_letterAt 55 = .ok (.istore_n 2, 1) := by decide +kernel
theorem dX3_letterAt_56 : decode cX3_letterAt 56 = .ok (.iinc 3 (-1), 3) := by decide +kernel
theorem dX3_letterAt_59 : decode cX3_letterAt 59 = .ok (.goto (-13), 3) := by decide +kernel
theorem dX3_letterAt_62 : decode cX3_letterAt 62 = .ok (.iload_n 2, 1) := by decide +kernel
theorem dX3_letterAt_63 : decode cX3_letterAt 63 = .ok (.bipush 7, 2) := by decide +kernel
theorem dX3_letterAt_65 : decode cX3_letterAt 65 = .ok (.irem, 1) := by decide +kernel
theorem dX3_letterAt_66 : decode cX3_letterAt 66 = .ok (.iconst 1, 1) := by decide +kernel
theorem dX3_letterAt_67 : decode cX3_letterAt 67 = .ok (.isub, 1) := by decide +kernel
theorem dX3_letterAt_68 : decode cX3_letterAt 68 = .ok (.ireturn, 1) := by decide +kernel
theorem dX3_length_0 : decode cX3_length 0 = .ok (.aload_n 0, 1) := by decide +kernel
theorem dX3_length_1 : decode cX3_length 1 = .ok (.iconst 0, 1) := by decide +kernel
theorem dX3_length_2 : decode cX3_length 2 = .ok (.putfield 42, 3) := by decide +kernel
theorem dX3_length_5 : decode cX3_length 5 = .ok (.aload_n 0, 1) := by decide +kernel
theorem dX3_length_6 : decode cX3_length 6 = .ok (.getfield 16, 3) := by decide +kernel
theorem dX3_length_9 : decode cX3_length 9 = .ok (.aload_n 0, 1) := by decide +kernel
theorem dX3_length_10 : decode cX3_length 10 = .ok (.invokevirtual 97, 3) := by decide +kernel
theorem dX3_length_13 : decode cX3_length 13 = .ok (.iaload, 1) := by decide +kernel
theorem dX3_length_14 : decode cX3_length 14 = .ok (.ireturn, 1) := by decide +kernel
theorem dX3_slack_0 : decode cX3_slack 0 = .ok (.aload_n 0, 1) := by decide +kernel
theorem dX3_slack_1 : decode cX3_slack 1 = .ok (.iconst 0, 1) := by decide +kernel
theorem dX3_slack_2 : decode cX3_slack 2 = .ok (.putfield 42, 3) := by decide +kernel
theorem dX3_slack_5 : decode cX3_slack 5 = .ok (.aload_n 0, 1) := by decide +kernel
theorem dX3_slack_6 : decode cX3_slack 6 = .ok (.getfield 36, 3) := by decide +kernel
theorem dX3_slack_9 : decode cX3_slack 9 = .ok (.aload_n 0, 1) := by decide +kernel
theorem dX3_slack_10 : decode cX3_slack 10 = .ok (.getfield 16, 3) := by decide +kernel
theorem dX3_slack_13 : decode cX3_slack 13 = .ok (.aload_n 0, 1) := by decide +kernel
theorem dX3_slack_14 : decode cX3_slack 14 = .ok (.invokevirtual 97, 3) := by decide +kernel
theorem dX3_slack_17 : decode cX3_slack 17 = .ok (.iaload, 1) := by decide +kernel
theorem dX3_slack_18 : decode cX3_slack 18 = .ok (.isub, 1) := by decide +kernel
theorem dX3_slack_19 : decode cX3_slack 19 = .ok (.ireturn, 1) := by decide +kernel
theorem dX3_steps_0 : decode cX3_steps 0 = .ok (.aload_n 0, 1) := by decide +kernel
theorem dX3_steps_1 : decode cX3_steps 1 = .ok (.iconst 0, 1) := by decide +kernel
theorem dX3_steps_2 : decode cX3_steps 2 = .ok (.putfield 42, 3) := by decide +kernel
theorem dX3_steps_5 : decode cX3_steps 5 = .ok (.aload_n 0, 1) := by decide +kernel
theorem dX3_steps_6 : decode cX3_steps 6 = .ok (.getfield 91, 3) := by decide +kernel
theorem dX3_steps_9 : decode cX3_steps 9 = .ok (.ireturn, 1) := by decide +kernel
theorem dX3_lengthByTrying_0 : decode cX3_lengthByTrying 0 = .ok (.aload_n 0, 1) := by decide +kernel
theorem dX3_lengthByTrying_1 : decode cX3_lengthByTrying 1 = .ok (.iload_n 1, 1) := by decide +kernel
theorem dX3_lengthByTrying_2 : decode cX3_lengthByTrying 2 = .ok (.iconst 0, 1) := by decide +kernel
theorem dX3_lengthByTrying_3 : decode cX3_lengthByTrying 3 = .ok (.bipush 8, 2) := by decide +kernel
theorem dX3_lengthByTrying_5 : decode cX3_lengthByTrying 5 = .ok (.invokestatic 45, 3) := by decide +kernel
theorem dX3_lengthByTrying_8 : decode cX3_lengthByTrying 8 = .ok (.ifCond .eq 7, 3) := by decide +kernel
theorem dX3_lengthByTrying_11 : decode cX3_lengthByTrying 11 = .ok (.iconst 0, 1) := by decide +kernel
theorem dX3_lengthByTrying_12 : decode cX3_lengthByTrying 12 = .ok (.goto 4, 3) := by decide +kernel
theorem dX3_lengthByTrying_15 : decode cX3_lengthByTrying 15 = .ok (.iconst 1, 1) := by decide +kernel
theorem dX3_lengthByTrying_16 : decode cX3_lengthByTrying 16 = .ok (.invokevirtual 94, 3) := by decide +kernel
theorem dX3_lengthByTrying_19 : decode cX3_lengthByTrying 19 = .ok (.ifCond .ne 7, 3) := by decide +kernel
theorem dX3_lengthByTrying_22 : decode cX3_lengthByTrying 22 = .ok (.iconst 0, 1) := by decide +kernel
theorem dX3_lengthByTrying_23 : decode cX3_lengthByTrying 23 = .ok (.goto 29, 3) := by decide +kernel
theorem dX3_lengthByTrying_26 : decode cX3_lengthByTrying 26 = .ok (.aload_n 0, 1) := by decide +kernel
theorem dX3_lengthByTrying_27 : decode cX3_lengthByTrying 27 = .ok (.getfield 16, 3) := by decide +kernel
theorem dX3_lengthByTrying_30 : decode cX3_lengthByTrying 30 = .ok (.aload_n 0, 1) := by decide +kernel
theorem dX3_lengthByTrying_31 : decode cX3_lengthByTrying 31 = .ok (.invokevirtual 97, 3) := by decide +kernel
theorem dX3_lengthByTrying_34 : decode cX3_lengthByTrying 34 = .ok (.iaload, 1) := by decide +kernel
theorem dX3_lengthByTrying_35 : decode cX3_lengthByTrying 35 = .ok (.iload_n 1, 1) := by decide +kernel
theorem dX3_lengthByTrying_36 : decode cX3_lengthByTrying 36 = .ok (.if_icmp .gt 15, 3) := by decide +kernel
theorem dX3_lengthByTrying_39 : decode cX3_lengthByTrying 39 = .ok (.aload_n 0, 1) := by decide +kernel
theorem dX3_lengthByTrying_40 : decode cX3_lengthByTrying 40 = .ok (.getfield 16, 3) := by decide +kernel
theorem dX3_lengthByTrying_43 : decode cX3_lengthByTrying 43 = .ok (.aload_n 0, 1) := by decide +kernel
theorem dX3_lengthByTrying_44 : decode cX3_lengthByTrying 44 = .ok (.invokevirtual 97, 3) := by decide +kernel
theorem dX3_lengthByTrying_47 : decode cX3_lengthByTrying 47 = .ok (.iaload, 1) := by decide +kernel
theorem dX3_lengthByTrying_48 : decode cX3_lengthByTrying 48 = .ok (.goto 4, 3) := by decide +kernel
theorem dX3_lengthByTrying_51 : decode cX3_lengthByTrying 51 = .ok (.iconst (-1), 1) := by decide +kernel
theorem dX3_lengthByTrying_52 : decode cX3_lengthByTrying 52 = .ok (.ireturn, 1) := by decide +kernel
theorem dX3_cableAt_0 : decode cX3_cableAt 0 = .ok (.aload_n 0, 1) := by decide +kernel
theorem dX3_cableAt_1 : decode cX3_cableAt 1 = .ok (.iload_n 1, 1) := by decide +kernel
theorem dX3_cableAt_2 : decode cX3_cableAt 2 = .ok (.iconst 0, 1) := by decide +kernel
theorem dX3_cableAt_3 : decode cX3_cableAt 3 = .ok (.aload_n 0, 1) := by decide +kernel
theorem dX3_cableAt_4 : decode cX3_cableAt 4 = .ok (.getfield 16, 3) := by decide +kernel
theorem dX3_cableAt_7 : decode cX3_cableAt 7 = .ok (.aload_n 0, 1) := by decide +kernel
theorem dX3_cableAt_8 : decode cX3_cableAt 8 = .ok (.invokevirtual 97, 3) := by decide +kernel
theorem dX3_cableAt_11 : decode cX3_cableAt 11 = .ok (.iaload, 1) := by decide +kernel
theorem dX3_cableAt_12 : decode cX3_cableAt 12 = .ok (.invokestatic 45, 3) := by decide +kernel
theorem dX3_cableAt_15 : decode cX3_cableAt 15 = .ok (.ifCond .eq 7, 3) := by decide +kernel
theorem dX3_cableAt_18 : decode cX3_cableAt 18 = .ok (.iconst 0, 1) := by decide +kernel
theorem dX3_cableAt_19 : decode cX3_cableAt 19 = .ok (.goto 4, 3) := by decide +kernel
theorem dX3_cableAt_22 : decode cX3_cableAt 22 = .ok (.iconst 1, 1) := by decide +kernel
theorem dX3_cableAt_23 : decode cX3_cableAt 23 = .ok (.invokevirtual 94, 3) := by decide +kernel
theorem dX3_cableAt_26 : decode cX3_cableAt 26 = .ok (.ifCond .ne 5, 3) := by decide +kernel
theorem dX3_cableAt_29 : decode cX3_cableAt 29 = .ok (.iconst 0, 1) := by decide +kernel
theorem dX3_cableAt_30 : decode cX3_cableAt 30 = .ok (.ireturn, 1) := by decide +kernel
theorem dX3_cableAt_31 : decode cX3_cableAt 31 = .ok (.aload_n 0, 1) := by decide +kernel
theorem dX3_cableAt_32 : decode cX3_cableAt 32 = .ok (.invokevirtual 97, 3) := by decide +kernel
theorem dX3_cableAt_35 : decode cX3_cableAt 35 = .ok (.istore_n 2, 1) := by decide +kernel
theorem dX3_cableAt_36 : decode cX3_cableAt 36 = .ok (.iconst 0, 1) := by decide +kernel
theorem dX3_cableAt_37 : decode cX3_cableAt 37 = .ok (.istore_n 3, 1) := by decide +kernel
theorem dX3_cableAt_38 : decode cX3_cableAt 38 = .ok (.iload_n 3, 1) := by decide +kernel
theorem dX3_cableAt_39 : decode cX3_cableAt 39 = .ok (.iload_n 1, 1) := by decide +kernel
theorem dX3_cableAt_40 : decode cX3_cableAt 40 = .ok (.if_icmp .ge 20, 3) := by decide +kernel
theorem dX3_cableAt_43 : decode cX3_cableAt 43 = .ok (.aload_n 0, 1) := by decide +kernel
theorem dX3_cableAt_44 : decode cX3_cableAt 44 = .ok (.iload_n 2, 1) := by decide +kernel
theorem dX3_cableAt_45 : decode cX3_cableAt 45 = .ok (.aload_n 0, 1) := by decide +kernel
theorem dX3_cableAt_46 : decode cX3_cableAt 46 = .ok (.iload_n 2, 1) := by decide +kernel
theorem dX3_cableAt_47 : decode cX3_cableAt 47 = .ok (.invokevirtual 112, 3) := by decide +kernel
theorem dX3_cableAt_50 : decode cX3_cableAt 50 = .ok (.invokevirtual 82, 3) := by decide +kernel
theorem dX3_cableAt_53 : decode cX3_cableAt 53 = .ok (.istore_n 2, 1) := by decide +kernel
theorem dX3_cableAt_54 : decode cX3_cableAt 54 = .ok (.iinc 3 1, 3) := by decide +kernel
theorem dX3_cableAt_57 : decode cX3_cableAt 57 = .ok (.goto (-19), 3) := by decide +kernel
theorem dX3_cableAt_60 : decode cX3_cableAt 60 = .ok (.bipush 10, 2) := by decide +kernel
theorem dX3_cableAt_62 : decode cX3_cableAt 62 = .ok (.iload_n 2, 1) := by decide +kernel
theorem dX3_cableAt_63 : decode cX3_cableAt 63 = .ok (.sipush 343, 3) := by decide +kernel
theorem dX3_cableAt_66 : decode cX3_cableAt 66 = .ok (.idiv, 1) := by decide +kernel
theorem dX3_cableAt_67 : decode cX3_cableAt 67 = .ok (.bipush 7, 2) := by decide +kernel
theorem dX3_cableAt_69 : decode cX3_cableAt 69 = .ok (.irem, 1) := by decide +kernel
theorem dX3_cableAt_70 : decode cX3_cableAt 70 = .ok (.imul, 1) := by decide +kernel
theorem dX3_cableAt_71 : decode cX3_cableAt 71 = .ok (.iload_n 2, 1) := by decide +kernel
theorem dX3_cableAt_72 : decode cX3_cableAt 72 = .ok (.sipush 343, 3) := by decide +kernel
theorem dX3_cableAt_75 : decode cX3_cableAt 75 = .ok (.idiv, 1) := by decide +kernel
theorem dX3_cableAt_76 : decode cX3_cableAt 76 = .ok (.bipush 7, 2) := by decide +kernel
theorem dX3_cableAt_78 : decode cX3_cableAt 78 = .ok (.idiv, 1) := by decide +kernel
theorem dX3_cableAt_79 : decode cX3_cableAt 79 = .ok (.iadd, 1) := by decide +kernel
theorem dX3_cableAt_80 : decode cX3_cableAt 80 = .ok (.ireturn, 1) := by decide +kernel
theorem dX3_bends_0 : decode cX3_bends 0 = .ok (.aload_n 0, 1) := by decide +kernel
theorem dX3_bends_1 : decode cX3_bends 1 = .ok (.iconst 0, 1) := by decide +kernel
theorem dX3_bends_2 : decode cX3_bends 2 = .ok (.putfield 42, 3) := by decide +kernel
theorem dX3_bends_5 : decode cX3_bends 5 = .ok (.iconst 0, 1) := by decide +kernel
theorem dX3_bends_6 : decode cX3_bends 6 = .ok (.istore_n 1, 1) := by decide +kernel
theorem dX3_bends_7 : decode cX3_bends 7 = .ok (.iconst (-1), 1) := by decide +kernel
theorem dX3_bends_8 : decode cX3_bends 8 = .ok (.istore_n 2, 1) := by decide +kernel
theorem dX3_bends_9 : decode cX3_bends 9 = .ok (.aload_n 0, 1) := by decide +kernel
theorem dX3_bends_10 : decode cX3_bends 10 = .ok (.invokevirtual 97, 3) := by decide +kernel
theorem dX3_bends_13 : decode cX3_bends 13 = .ok (.istore_n 3, 1) := by decide +kernel
theorem dX3_bends_14 : decode cX3_bends 14 = .ok (.aload_n 0, 1) := by decide +kernel
theorem dX3_bends_15 : decode cX3_bends 15 = .ok (.getfield 16, 3) := by decide +kernel
theorem dX3_bends_18 : decode cX3_bends 18 = .ok (.iload_n 3, 1) := by decide +kernel
theorem dX3_bends_19 : decode cX3_bends 19 = .ok (.iaload, 1) := by decide +kernel
theorem dX3_bends_20 : decode cX3_bends 20 = .ok (.ifCond .le 42, 3) := by decide +kernel
theorem dX3_bends_23 : decode cX3_bends 23 = .ok (.aload_n 0, 1) := by decide +kernel
theorem dX3_bends_24 : decode cX3_bends 24 = .ok (.iload_n 3, 1) := by decide +kernel
theorem dX3_bends_25 : decode cX3_bends 25 = .ok (.invokevirtual 112, 3) := by decide +kernel
theorem dX3_bends_28 : decode cX3_bends 28 = .ok (.istore 4, 2) := by decide +kernel
theorem dX3_bends_30 : decode cX3_bends 30 = .ok (.iload_n 1, 1) := by decide +kernel
theorem dX3_bends_31 : decode cX3_bends 31 = .ok (.iload_n 2, 1) := by decide +kernel
theorem dX3_bends_32 : decode cX3_bends 32 = .ok (.iconst (-1), 1) := by decide +kernel
theorem dX3_bends_33 : decode cX3_bends 33 = .ok (.if_icmp .eq 13, 3) := by decide +kernel
theorem dX3_bends_36 : decode cX3_bends 36 = .ok (.iload_n 2, 1) := by decide +kernel
theorem dX3_bends_37 : decode cX3_bends 37 = .ok (.iload 4, 2) := by decide +kernel
theorem dX3_bends_39 : decode cX3_bends 39 = .ok (.if_icmp .eq 7, 3) := by decide +kernel
theorem dX3_bends_42 : decode cX3_bends 42 = .ok (.iconst 1, 1) := by decide +kernel
theorem dX3_bends_43 : decode cX3_bends 43 = .ok (.goto 4, 3) := by decide +kernel
theorem dX3_bends_46 : decode cX3_bends 46 = .ok (.iconst 0, 1) := by decide +kernel
theorem dX3_bends_47 : decode cX3_bends 47 = .ok (.iadd, 1) := by decide +kernel
theorem dX3_bends_48 : decode cX3_bends 48 = .ok (.istore_n 1, 1) := by decide +kernel
theorem dX3_bends_49 : decode cX3_bends 49 = .ok (.iload 4, 2) := by decide +kernel
theorem dX3_bends_51 : decode cX3_bends 51 = .ok (.istore_n 2, 1) := by decide +kernel
theorem dX3_bends_52 : decode cX3_bends 52 = .ok (.aload_n 0, 1) := by decide +kernel
theorem dX3_bends_53 : decode cX3_bends 53 = .ok (.iload_n 3, 1) := by decide +kernel
theorem dX3_bends_54 : decode cX3_bends 54 = .ok (.iload_n 2, 1) := by decide +kernel
theorem dX3_bends_55 : decode cX3_bends 55 = .ok (.invokevirtual 82, 3) := by decide +kernel
theorem dX3_bends_58 : decode cX3_bends 58 = .ok (.istore_n 3, 1) := by decide +kernel
theorem dX3_bends_59 : decode cX3_bends 59 = .ok (.goto (-45), 3) := by decide +kernel
theorem dX3_bends_62 : decode cX3_bends 62 = .ok (.iload_n 1, 1) := by decide +kernel
theorem dX3_bends_63 : decode cX3_bends 63 = .ok (.ireturn, 1) := by decide +kernel
theorem dX3_leastOf_0 : decode cX3_leastOf 0 = .ok (.iconst (-1), 1) := by decide +kernel
theorem dX3_leastOf_1 : decode cX3_leastOf 1 = .ok (.istore_n 2, 1) := by decide +kernel
theorem dX3_leastOf_2 : decode cX3_leastOf 2 = .ok (.sipush 343, 3) := by decide +kernel
theorem dX3_leastOf_5 : decode cX3_leastOf 5 = .ok (.iload_n 1, 1) := by decide +kernel
theorem dX3_leastOf_6 : decode cX3_leastOf 6 = .ok (.imul, 1) := by decide +kernel
theorem dX3_leastOf_7 : decode cX3_leastOf 7 = .ok (.istore_n 3, 1) := by decide +kernel
theorem dX3_leastOf_8 : decode cX3_leastOf 8 = .ok (.iload_n 3, 1) := by decide +kernel
theorem dX3_leastOf_9 : decode cX3_leastOf 9 = .ok (.sipush 343, 3) := by decide +kernel
theorem dX3_leastOf_12 : decode cX3_leastOf 12 = .ok (.iload_n 1, 1) := by decide +kernel
theorem dX3_leastOf_13 : decode cX3_leastOf 13 = .ok (.imul, 1) := by decide +kernel
theorem dX3_leastOf_14 : decode cX3_leastOf 14 = .ok (.sipush 343, 3) := by decide +kernel
theorem dX3_leastOf_17 : decode cX3_leastOf 17 = .ok (.iadd, 1) := by decide +kernel
theorem dX3_leastOf_18 : decode cX3_leastOf 18 = .ok (.if_icmp .ge 45, 3) := by decide +kernel
theorem dX3_leastOf_21 : decode cX3_leastOf 21 = .ok (.aload_n 0, 1) := by decide +kernel
theorem dX3_leastOf_22 : decode cX3_leastOf 22 = .ok (.getfield 16, 3) := by decide +kernel
theorem dX3_leastOf_25 : decode cX3_leastOf 25 = .ok (.iload_n 3, 1) := by decide +kernel
theorem dX3_leastOf_26 : decode cX3_leastOf 26 = .ok (.iaload, 1) := by decide +kernel
theorem dX3_leastOf_27 : decode cX3_leastOf 27 = .ok (.iconst (-1), 1) := by decide +kernel
theorem dX3_leastOf_28 : decode cX3_leastOf 28 = .ok (.if_icmp .eq 27, 3) := by decide +kernel
theorem dX3_leastOf_31 : decode cX3_leastOf 31 = .ok (.iload_n 2, 1) := by decide +kernel
theorem dX3_leastOf_32 : decode cX3_leastOf 32 = .ok (.iconst (-1), 1) := by decide +kernel
theorem dX3_leastOf_33 : decode cX3_leastOf 33 = .ok (.if_icmp .eq 13, 3) := by decide +kernel
theorem dX3_leastOf_36 : decode cX3_leastOf 36 = .ok (.aload_n 0, 1) := by decide +kernel
theorem dX3_leastOf_37 : decode cX3_leastOf 37 = .ok (.getfield 16, 3) := by decide +kernel
theorem dX3_leastOf_40 : decode cX3_leastOf 40 = .ok (.iload_n 3, 1) := by decide +kernel
theorem dX3_leastOf_41 : decode cX3_leastOf 41 = .ok (.iaload, 1) := by decide +kernel
theorem dX3_leastOf_42 : decode cX3_leastOf 42 = .ok (.iload_n 2, 1) := by decide +kernel
theorem dX3_leastOf_43 : decode cX3_leastOf 43 = .ok (.if_icmp .ge 12, 3) := by decide +kernel
theorem dX3_leastOf_46 : decode cX3_leastOf 46 = .ok (.aload_n 0, 1) := by decide +kernel
theorem dX3_leastOf_47 : decode cX3_leastOf 47 = .ok (.getfield 16, 3) := by decide +kernel
theorem dX3_leastOf_50 : decode cX3_leastOf 50 = .ok (.iload_n 3, 1) := by decide +kernel
theorem dX3_leastOf_51 : decode cX3_leastOf 51 = .ok (.iaload, 1) := by decide +kernel
theorem dX3_leastOf_52 : decode cX3_leastOf 52 = .ok (.goto 4, 3) := by decide +kernel
theorem dX3_leastOf_55 : decode cX3_leastOf 55 = .ok (.iload_n 2, 1) := by decide +kernel
theorem dX3_leastOf_56 : decode cX3_leastOf 56 = .ok (.istore_n 2, 1) := by decide +kernel
theorem dX3_leastOf_57 : decode cX3_leastOf 57 = .ok (.iinc 3 1, 3) := by decide +kernel
theorem dX3_leastOf_60 : decode cX3_leastOf 60 = .ok (.goto (-52), 3) := by decide +kernel
theorem dX3_leastOf_63 : decode cX3_leastOf 63 = .ok (.iload_n 2, 1) := by decide +kernel
theorem dX3_leastOf_64 : decode cX3_leastOf 64 = .ok (.ireturn, 1) := by decide +kernel
theorem dX3_least_0 : decode cX3_least 0 = .ok (.aload_n 0, 1) := by decide +kernel
theorem dX3_least_1 : decode cX3_least 1 = .ok (.aload_n 0, 1) := by decide +kernel
theorem dX3_least_2 : decode cX3_least 2 = .ok (.iload_n 1, 1) := by decide +kernel
theorem dX3_least_3 : decode cX3_least 3 = .ok (.iload_n 2, 1) := by decide +kernel
theorem dX3_least_4 : decode cX3_least 4 = .ok (.invokevirtual 65, 3) := by decide +kernel
theorem dX3_least_7 : decode cX3_least 7 = .ok (.ifCond .eq 7, 3) := by decide +kernel
theorem dX3_least_10 : decode cX3_least 10 = .ok (.iconst 0, 1) := by decide +kernel
theorem dX3_least_11 : decode cX3_least 11 = .ok (.goto 4, 3) := by decide +kernel
theorem dX3_least_14 : decode cX3_least 14 = .ok (.iconst 1, 1) := by decide +kernel
theorem dX3_least_15 : decode cX3_least 15 = .ok (.invokevirtual 94, 3) := by decide +kernel
theorem dX3_least_18 : decode cX3_least 18 = .ok (.ifCond .eq 15, 3) := by decide +kernel
theorem dX3_least_21 : decode cX3_least 21 = .ok (.aload_n 0, 1) := by decide +kernel
theorem dX3_least_22 : decode cX3_least 22 = .ok (.iload_n 1, 1) := by decide +kernel
theorem dX3_least_23 : decode cX3_least 23 = .ok (.iload_n 2, 1) := by decide +kernel
theorem dX3_least_24 : decode cX3_least 24 = .ok (.invokestatic 52, 3) := by decide +kernel
theorem dX3_least_27 : decode cX3_least 27 = .ok (.invokevirtual 118, 3) := by decide +kernel
theorem dX3_least_30 : decode cX3_least 30 = .ok (.goto 4, 3) := by decide +kernel
theorem dX3_least_33 : decode cX3_least 33 = .ok (.iconst 0, 1) := by decide +kernel
theorem dX3_least_34 : decode cX3_least 34 = .ok (.ireturn, 1) := by decide +kernel
theorem dX3_missing_0 : decode cX3_missing 0 = .ok (.aload_n 0, 1) := by decide +kernel
theorem dX3_missing_1 : decode cX3_missing 1 = .ok (.aload_n 0, 1) := by decide +kernel
theorem dX3_missing_2 : decode cX3_missing 2 = .ok (.iload_n 1, 1) := by decide +kernel
theorem dX3_missing_3 : decode cX3_missing 3 = .ok (.iload_n 2, 1) := by decide +kernel
theorem dX3_missing_4 : decode cX3_missing 4 = .ok (.invokevirtual 65, 3) := by decide +kernel
theorem dX3_missing_7 : decode cX3_missing 7 = .ok (.ifCond .eq 7, 3) := by decide +kernel
theorem dX3_missing_10 : decode cX3_missing 10 = .ok (.iconst 0, 1) := by decide +kernel
theorem dX3_missing_11 : decode cX3_missing 11 = .ok (.goto 4, 3) := by decide +kernel
theorem dX3_missing_14 : decode cX3_missing 14 = .ok (.iconst 1, 1) := by decide +kernel
theorem dX3_missing_15 : decode cX3_missing 15 = .ok (.invokevirtual 94, 3) := by decide +kernel
theorem dX3_missing_18 : decode cX3_missing 18 = .ok (.ifCond .ne 5, 3) := by decide +kernel
theorem dX3_missing_21 : decode cX3_missing 21 = .ok (.iconst 0, 1) := by decide +kernel
theorem dX3_missing_22 : decode cX3_missing 22 = .ok (.ireturn, 1) := by decide +kernel
theorem dX3_missing_23 : decode cX3_missing 23 = .ok (.aload_n 0, 1) := by decide +kernel
theorem dX3_missing_24 : decode cX3_missing 24 = .ok (.iload_n 1, 1) := by decide +kernel
theorem dX3_missing_25 : decode cX3_missing 25 = .ok (.iload_n 2, 1) := by decide +kernel
theorem dX3_missing_26 : decode cX3_missing 26 = .ok (.invokestatic 52, 3) := by decide +kernel
theorem dX3_missing_29 : decode cX3_missing 29 = .ok (.invokevirtual 118, 3) := by decide +kernel
theorem dX3_missing_32 : decode cX3_missing 32 = .ok (.istore_n 3, 1) := by decide +kernel
theorem dX3_missing_33 : decode cX3_missing 33 = .ok (.iload_n 3, 1) := by decide +kernel
theorem dX3_missing_34 : decode cX3_missing 34 = .ok (.iconst (-1), 1) := by decide +kernel
theorem dX3_missing_35 : decode cX3_missing 35 = .ok (.if_icmp .eq 11, 3) := by decide +kernel
theorem dX3_missing_38 : decode cX3_missing 38 = .ok (.iload_n 3, 1) := by decide +kernel
theorem dX3_missing_39 : decode cX3_missing 39 = .ok (.aload_n 0, 1) := by decide +kernel
theorem dX3_missing_40 : decode cX3_missing 40 = .ok (.getfield 36, 3) := by decide +kernel
theorem dX3_missing_43 : decode cX3_missing 43 = .ok (.if_icmp .le 21, 3) := by decide +kernel
theorem dX3_missing_46 : decode cX3_missing 46 = .ok (.iload_n 3, 1) := by decide +kernel
theorem dX3_missing_47 : decode cX3_missing 47 = .ok (.iload_n 3, 1) := by decide +kernel
theorem dX3_missing_48 : decode cX3_missing 48 = .ok (.iconst (-1), 1) := by decide +kernel
theorem dX3_missing_49 : decode cX3_missing 49 = .ok (.if_icmp .ne 7, 3) := by decide +kernel
theorem dX3_missing_52 : decode cX3_missing 52 = .ok (.iconst 0, 1) := by decide +kernel
theorem dX3_missing_53 : decode cX3_missing 53 = .ok (.goto 7, 3) := by decide +kernel
theorem dX3_missing_56 : decode cX3_missing 56 = .ok (.aload_n 0, 1) := by decide +kernel
theorem dX3_missing_57 : decode cX3_missing 57 = .ok (.getfield 36, 3) := by decide +kernel
theorem dX3_missing_60 : decode cX3_missing 60 = .ok (.isub, 1) := by decide +kernel
theorem dX3_missing_61 : decode cX3_missing 61 = .ok (.goto 4, 3) := by decide +kernel
theorem dX3_missing_64 : decode cX3_missing 64 = .ok (.iconst 0, 1) := by decide +kernel
theorem dX3_missing_65 : decode cX3_missing 65 = .ok (.ireturn, 1) := by decide +kernel
theorem dX3_words_0 : decode cX3_words 0 = .ok (.aload_n 0, 1) := by decide +kernel
theorem dX3_words_1 : decode cX3_words 1 = .ok (.aload_n 0, 1) := by decide +kernel
theorem dX3_words_2 : decode cX3_words 2 = .ok (.iload_n 1, 1) := by decide +kernel
theorem dX3_words_3 : decode cX3_words 3 = .ok (.iload_n 2, 1) := by decide +kernel
theorem dX3_words_4 : decode cX3_words 4 = .ok (.invokevirtual 65, 3) := by decide +kernel
theorem dX3_words_7 : decode cX3_words 7 = .ok (.ifCond .eq 7, 3) := by decide +kernel
theorem dX3_words_10 : decode cX3_words 10 = .ok (.iconst 0, 1) := by decide +kernel
theorem dX3_words_11 : decode cX3_words 11 = .ok (.goto 4, 3) := by decide +kernel
theorem dX3_words_14 : decode cX3_words 14 = .ok (.iconst 1, 1) := by decide +kernel
theorem dX3_words_15 : decode cX3_words 15 = .ok (.invokevirtual 94, 3) := by decide +kernel
theorem dX3_words_18 : decode cX3_words 18 = .ok (.ifCond .ne 5, 3) := by decide +kernel
theorem dX3_words_21 : decode cX3_words 21 = .ok (.iconst 0, 1) := by decide +kernel
theorem dX3_words_22 : decode cX3_words 22 = .ok (.ireturn, 1) := by decide +kernel
theorem dX3_words_23 : decode cX3_words 23 = .ok (.iconst 0, 1) := by decide +kernel
theorem dX3_words_24 : decode cX3_words 24 = .ok (.istore_n 3, 1) := by decide +kernel
theorem dX3_words_25 : decode cX3_words 25 = .ok (.sipush 343, 3) := by decide +kernel
theorem dX3_words_28 : decode cX3_words 28 = .ok (.iload_n 1, 1) := by decide +kernel
theorem dX3_words_29 : decode cX3_words 29 = .ok (.iload_n 2, 1) := by decide +kernel
theorem dX3_words_30 : decode cX3_words 30 = .ok (.invokestatic 52, 3) := by decide +kernel
theorem dX3_words_33 : decode cX3_words 33 = .ok (.imul, 1) := by decide +kernel
theorem dX3_words_34 : decode cX3_words 34 = .ok (.istore 4, 2) := by decide +kernel
theorem dX3_words_36 : decode cX3_words 36 = .ok (.iload 4, 2) := by decide +kernel
theorem dX3_words_38 : decode cX3_words 38 = .ok (.istore 5, 2) := by decide +kernel
theorem dX3_words_40 : decode cX3_words 40 = .ok (.iload 5, 2) := by decide +kernel
theorem dX3_words_42 : decode cX3_words 42 = .ok (.iload 4, 2) := by decide +kernel
theorem dX3_words_44 : decode cX3_words 44 = .ok (.sipush 343, 3) := by decide +kernel
theorem dX3_words_47 : decode cX3_words 47 = .ok (.iadd, 1) := by decide +kernel
theorem dX3_words_48 : decode cX3_words 48 = .ok (.if_icmp .ge 26, 3) := by decide +kernel
theorem dX3_words_51 : decode cX3_words 51 = .ok (.iload_n 3, 1) := by decide +kernel
theorem dX3_words_52 : decode cX3_words 52 = .ok (.aload_n 0, 1) := by decide +kernel
theorem dX3_words_53 : decode cX3_words 53 = .ok (.iload 5, 2) := by decide +kernel
theorem dX3_words_55 : decode cX3_words 55 = .ok (.invokevirtual 101, 3) := by decide +kernel
theorem dX3_words_58 : decode cX3_words 58 = .ok (.ifCond .eq 7, 3) := by decide +kernel
theorem dX3_words_61 : decode cX3_words 61 = .ok (.iconst 1, 1) := by decide +kernel
theorem dX3_words_62 : decode cX3_words 62 = .ok (.goto 4, 3) := by decide +kernel
theorem dX3_words_65 : decode cX3_words 65 = .ok (.iconst 0, 1) := by decide +kernel
theorem dX3_words_66 : decode cX3_words 66 = .ok (.iadd, 1) := by decide +kernel
theorem dX3_words_67 : decode cX3_words 67 = .ok (.istore_n 3, 1) := by decide +kernel
theorem dX3_words_68 : decode cX3_words 68 = .ok (.iinc 5 1, 3) := by decide +kernel
theorem dX3_words_71 : decode cX3_words 71 = .ok (.goto (-31), 3) := by decide +kernel
theorem dX3_words_74 : decode cX3_words 74 = .ok (.iload_n 3, 1) := by decide +kernel
theorem dX3_words_75 : decode cX3_words 75 = .ok (.ireturn, 1) := by decide +kernel
theorem dX3_squares_0 : decode cX3_squares 0 = .ok (.aload_n 0, 1) := by decide +kernel
theorem dX3_squares_1 : decode cX3_squares 1 = .ok (.iconst 0, 1) := by decide +kernel
theorem dX3_squares_2 : decode cX3_squares 2 = .ok (.putfield 42, 3) := by decide +kernel
theorem dX3_squares_5 : decode cX3_squares 5 = .ok (.iconst 0, 1) := by decide +kernel
theorem dX3_squares_6 : decode cX3_squares 6 = .ok (.istore_n 1, 1) := by decide +kernel
theorem dX3_squares_7 : decode cX3_squares 7 = .ok (.iconst 0, 1) := by decide +kernel
theorem dX3_squares_8 : decode cX3_squares 8 = .ok (.istore_n 2, 1) := by decide +kernel
theorem dX3_squares_9 : decode cX3_squares 9 = .ok (.iload_n 2, 1) := by decide +kernel
theorem dX3_squares_10 : decode cX3_squares 10 = .ok (.bipush 49, 2) := by decide +kernel
theorem dX3_squares_12 : decode cX3_squares 12 = .ok (.if_icmp .ge 36, 3) := by decide +kernel
theorem dX3_squares_15 : decode cX3_squares 15 = .ok (.aload_n 0, 1) := by decide +kernel
theorem dX3_squares_16 : decode cX3_squares 16 = .ok (.iload_n 2, 1) := by decide +kernel
theorem dX3_squares_17 : decode cX3_squares 17 = .ok (.invokevirtual 118, 3) := by decide +kernel
theorem dX3_squares_20 : decode cX3_squares 20 = .ok (.istore_n 3, 1) := by decide +kernel
theorem dX3_squares_21 : decode cX3_squares 21 = .ok (.iload_n 1, 1) := by decide +kernel
theorem dX3_squares_22 : decode cX3_squares 22 = .ok (.iload_n 3, 1) := by decide +kernel
theorem dX3_squares_23 : decode cX3_squares 23 = .ok (.iconst (-1), 1) := by decide +kernel
theorem dX3_squares_24 : decode cX3_squares 24 = .ok (.if_icmp .eq 15, 3) := by decide +kernel
theorem dX3_squares_27 : decode cX3_squares 27 = .ok (.iload_n 3, 1) := by decide +kernel
theorem dX3_squares_28 : decode cX3_squares 28 = .ok (.aload_n 0, 1) := by decide +kernel
theorem dX3_squares_29 : decode cX3_squares 29 = .ok (.getfield 36, 3) := by decide +kernel
theorem dX3_squares_32 : decode cX3_squares 32 = .ok (.if_icmp .gt 7, 3) := by decide +kernel
theorem dX3_squares_35 : decode cX3_squares 35 = .ok (.iconst 1, 1) := by decide +kernel
theorem dX3_squares_36 : decode cX3_squares 36 = .ok (.goto 4, 3) := by decide +kernel
theorem dX3_squares_39 : decode cX3_squares 39 = .ok (.iconst 0, 1) := by decide +kernel
theorem dX3_squares_40 : decode cX3_squares 40 = .ok (.iadd, 1) := by decide +kernel
theorem dX3_squares_41 : decode cX3_squares 41 = .ok (.istore_n 1, 1) := by decide +kernel
theorem dX3_squares_42 : decode cX3_squares 42 = .ok (.iinc 2 1, 3) := by decide +kernel
theorem dX3_squares_45 : decode cX3_squares 45 = .ok (.goto (-36), 3) := by decide +kernel
theorem dX3_squares_48 : decode cX3_squares 48 = .ok (.iload_n 1, 1) := by decide +kernel
theorem dX3_squares_49 : decode cX3_squares 49 = .ok (.ireturn, 1) := by decide +kernel
