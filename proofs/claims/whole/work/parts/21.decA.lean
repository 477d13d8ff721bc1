/-! Decode rows. -/
theorem dJ9_abs_0f7a4_0 : decode cJ9_abs_0f7a4 0 = .ok (.iload_n 0, 1) := by decide +kernel
theorem dJ9_abs_0f7a4_1 : decode cJ9_abs_0f7a4 1 = .ok (.ifCond .ge 8, 3) := by decide +kernel
theorem dJ9_abs_0f7a4_4 : decode cJ9_abs_0f7a4 4 = .ok (.iload_n 0, 1) := by decide +kernel
theorem dJ9_abs_0f7a4_5 : decode cJ9_abs_0f7a4 5 = .ok (.ineg, 1) := by decide +kernel
theorem dJ9_abs_0f7a4_6 : decode cJ9_abs_0f7a4 6 = .ok (.goto 4, 3) := by decide +kernel
theorem dJ9_abs_0f7a4_9 : decode cJ9_abs_0f7a4 9 = .ok (.iload_n 0, 1) := by decide +kernel
theorem dJ9_abs_0f7a4_10 : decode cJ9_abs_0f7a4 10 = .ok (.ireturn, 1) := by decide +kernel
theorem dJ9_max_7cf53_0 : decode cJ9_max_7cf53 0 = .ok (.iload_n 0, 1) := by decide +kernel
theorem dJ9_max_7cf53_1 : decode cJ9_max_7cf53 1 = .ok (.iload_n 1, 1) := by decide +kernel
theorem dJ9_max_7cf53_2 : decode cJ9_max_7cf53 2 = .ok (.if_icmp .lt 7, 3) := by decide +kernel
theorem dJ9_max_7cf53_5 : decode cJ9_max_7cf53 5 = .ok (.iload_n 0, 1) := by decide +kernel
theorem dJ9_max_7cf53_6 : decode cJ9_max_7cf53 6 = .ok (.goto 4, 3) := by decide +kernel
theorem dJ9_max_7cf53_9 : decode cJ9_max_7cf53 9 = .ok (.iload_n 1, 1) := by decide +kernel
theorem dJ9_max_7cf53_10 : decode cJ9_max_7cf53 10 = .ok (.ireturn, 1) := by decide +kernel
theorem dJ9_min_7cf53_0 : decode cJ9_min_7cf53 0 = .ok (.iload_n 0, 1) := by decide +kernel
theorem dJ9_min_7cf53_1 : decode cJ9_min_7cf53 1 = .ok (.iload_n 1, 1) := by decide +kernel
theorem dJ9_min_7cf53_2 : decode cJ9_min_7cf53 2 = .ok (.if_icmp .gt 7, 3) := by decide +kernel
theorem dJ9_min_7cf53_5 : decode cJ9_min_7cf53 5 = .ok (.iload_n 0, 1) := by decide +kernel
theorem dJ9_min_7cf53_6 : decode cJ9_min_7cf53 6 = .ok (.goto 4, 3) := by decide +kernel
theorem dJ9_min_7cf53_9 : decode cJ9_min_7cf53 9 = .ok (.iload_n 1, 1) := by decide +kernel
theorem dJ9_min_7cf53_10 : decode cJ9_min_7cf53 10 = .ok (.ireturn, 1) := by decide +kernel
theorem dJ13_bitCount_95d88_0 : decode cJ13_bitCount_95d88 0 = .ok (.lload_n 0, 1) := by decide +kernel
theorem dJ13_bitCount_95d88_1 : decode cJ13_bitCount_95d88 1 = .ok (.lload_n 0, 1) := by decide +kernel
theorem dJ13_bitCount_95d88_2 : decode cJ13_bitCount_95d88 2 = .ok (.iconst 1, 1) := by decide +kernel
theorem dJ13_bitCount_95d88_3 : decode cJ13_bitCount_95d88 3 = .ok (.lushr, 1) := by decide +kernel
theorem dJ13_bitCount_95d88_4 : decode cJ13_bitCount_95d88 4 = .ok (.ldc2_w 314, 3) := by decide +kernel
theorem dJ13_bitCount_95d88_7 : decode cJ13_bitCount_95d88 7 = .ok (.land, 1) := by decide +kernel
theorem dJ13_bitCount_95d88_8 : decode cJ13_bitCount_95d88 8 = .ok (.lsub, 1) := by decide +kernel
theorem dJ13_bitCount_95d88_9 : decode cJ13_bitCount_95d88 9 = .ok (.lstore_n 0, 1) := by decide +kernel
theorem dJ13_bitCount_95d88_10 : decode cJ13_bitCount_95d88 10 = .ok (.lload_n 0, 1) := by decide +kernel
theorem dJ13_bitCount_95d88_11 : decode cJ13_bitCount_95d88 11 = .ok (.ldc2_w 316, 3) := by decide +kernel
theorem dJ13_bitCount_95d88_14 : decode cJ13_bitCount_95d88 14 = .ok (.land, 1) := by decide +kernel
theorem dJ13_bitCount_95d88_15 : decode cJ13_bitCount_95d88 15 = .ok (.lload_n 0, 1) := by decide +kernel
theorem dJ13_bitCount_95d88_16 : decode cJ13_bitCount_95d88 16 = .ok (.iconst 2, 1) := by decide +kernel
theorem dJ13_bitCount_95d88_17 : decode cJ13_bitCount_95d88 17 = .ok (.lushr, 1) := by decide +kernel
theorem dJ13_bitCount_95d88_18 : decode cJ13_bitCount_95d88 18 = .ok (.ldc2_w 316, 3) := by decide +kernel
theorem dJ13_bitCount_95d88_21 : decode cJ13_bitCount_95d88 21 = .ok (.land, 1) := by decide +kernel
theorem dJ13_bitCount_95d88_22 : decode cJ13_bitCount_95d88 22 = .ok (.ladd, 1) := by decide +kernel
theorem dJ13_bitCount_95d88_23 : decode cJ13_bitCount_95d88 23 = .ok (.lstore_n 0, 1) := by decide +kernel
theorem dJ13_bitCount_95d88_24 : decode cJ13_bitCount_95d88 24 = .ok (.lload_n 0, 1) := by decide +kernel
theorem dJ13_bitCount_95d88_25 : decode cJ13_bitCount_95d88 25 = .ok (.lload_n 0, 1) := by decide +kernel
theorem dJ13_bitCount_95d88_26 : decode cJ13_bitCount_95d88 26 = .ok (.iconst 4, 1) := by decide +kernel
theorem dJ13_bitCount_95d88_27 : decode cJ13_bitCount_95d88 27 = .ok (.lushr, 1) := by decide +kernel
theorem dJ13_bitCount_95d88_28 : decode cJ13_bitCount_95d88 28 = .ok (.ladd, 1) := by decide +kernel
theorem dJ13_bitCount_95d88_29 : decode cJ13_bitCount_95d88 29 = .ok (.ldc2_w 318, 3) := by decide +kernel
theorem dJ13_bitCount_95d88_32 : decode cJ13_bitCount_95d88 32 = .ok (.land, 1) := by decide +kernel
theorem dJ13_bitCount_95d88_33 : decode cJ13_bitCount_95d88 33 = .ok (.lstore_n 0, 1) := by decide +kernel
theorem dJ13_bitCount_95d88_34 : decode cJ13_bitCount_95d88 34 = .ok (.lload_n 0, 1) := by decide +kernel
theorem dJ13_bitCount_95d88_35 : decode cJ13_bitCount_95d88 35 = .ok (.lload_n 0, 1) := by decide +kernel
theorem dJ13_bitCount_95d88_36 : decode cJ13_bitCount_95d88 36 = .ok (.bipush 8, 2) := by decide +kernel
theorem dJ13_bitCount_95d88_38 : decode cJ13_bitCount_95d88 38 = .ok (.lushr, 1) := by decide +kernel
theorem dJ13_bitCount_95d88_39 : decode cJ13_bitCount_95d88 39 = .ok (.ladd, 1) := by decide +kernel
theorem dJ13_bitCount_95d88_40 : decode cJ13_bitCount_95d88 40 = .ok (.lstore_n 0, 1) := by decide +kernel
theorem dJ13_bitCount_95d88_41 : decode cJ13_bitCount_95d88 41 = .ok (.lload_n 0, 1) := by decide +kernel
theorem dJ13_bitCount_95d88_42 : decode cJ13_bitCount_95d88 42 = .ok (.lload_n 0, 1) := by decide +kernel
theorem dJ13_bitCount_95d88_43 : decode cJ13_bitCount_95d88 43 = .ok (.bipush 16, 2) := by decide +kernel
theorem dJ13_bitCount_95d88_45 : decode cJ13_bitCount_95d88 45 = .ok (.lushr, 1) := by decide +kernel
theorem dJ13_bitCount_95d88_46 : decode cJ13_bitCount_95d88 46 = .ok (.ladd, 1) := by decide +kernel
theorem dJ13_bitCount_95d88_47 : decode cJ13_bitCount_95d88 47 = .ok (.lstore_n 0, 1) := by decide +kernel
theorem dJ13_bitCount_95d88_48 : decode cJ13_bitCount_95d88 48 = .ok (.lload_n 0, 1) := by decide +kernel
theorem dJ13_bitCount_95d88_49 : decode cJ13_bitCount_95d88 49 = .ok (.lload_n 0, 1) := by decide +kernel
theorem dJ13_bitCount_95d88_50 : decode cJ13_bitCount_95d88 50 = .ok (.bipush 32, 2) := by decide +kernel
theorem dJ13_bitCount_95d88_52 : decode cJ13_bitCount_95d88 52 = .ok (.lushr, 1) := by decide +kernel
theorem dJ13_bitCount_95d88_53 : decode cJ13_bitCount_95d88 53 = .ok (.ladd, 1) := by decide +kernel
theorem dJ13_bitCount_95d88_54 : decode cJ13_bitCount_95d88 54 = .ok (.lstore_n 0, 1) := by decide +kernel
theorem dJ13_bitCount_95d88_55 : decode cJ13_bitCount_95d88 55 = .ok (.lload_n 0, 1) := by decide +kernel
theorem dJ13_bitCount_95d88_56 : decode cJ13_bitCount_95d88 56 = .ok (.l2i, 1) := by decide +kernel
theorem dJ13_bitCount_95d88_57 : decode cJ13_bitCount_95d88 57 = .ok (.bipush 127, 2) := by decide +kernel
theorem dJ13_bitCount_95d88_59 : decode cJ13_bitCount_95d88 59 = .ok (.iand, 1) := by decide +kernel
theorem dJ13_bitCount_95d88_60 : decode cJ13_bitCount_95d88 60 = .ok (.ireturn, 1) := by decide +kernel
theorem dX0_init_0 : decode cX0_init 0 = .ok (.aload_n 0, 1) := by decide +kernel
theorem dX0_init_1 : decode cX0_init 1 = .ok (.invokespecial 3, 3) := by decide +kernel
theorem dX0_init_4 : decode cX0_init 4 = .ok (.aload_n 0, 1) := by decide +kernel
theorem dX0_init_5 : decode cX0_init 5 = .ok (.aload_n 1, 1) := by decide +kernel
theorem dX0_init_6 : decode cX0_init 6 = .ok (.putfield 9, 3) := by decide +kernel
theorem dX0_init_9 : decode cX0_init 9 = .ok (.aload_n 0, 1) := by decide +kernel
theorem dX0_init_10 : decode cX0_init 10 = .ok (.aload_n 2, 1) := by decide +kernel
theorem dX0_init_11 : decode cX0_init 11 = .ok (.putfield 15, 3) := by decide +kernel
theorem dX0_init_14 : decode cX0_init 14 = .ok (.aload_n 0, 1) := by decide +kernel
theorem dX0_init_15 : decode cX0_init 15 = .ok (.bipush 64, 2) := by decide +kernel
theorem dX0_init_17 : decode cX0_init 17 = .ok (.newarray .int, 2) := by decide +kernel
theorem dX0_init_19 : decode cX0_init 19 = .ok (.putfield 19, 3) := by decide +kernel
theorem dX0_init_22 : decode cX0_init 22 = .ok (.aload_n 0, 1) := by decide +kernel
theorem dX0_init_23 : decode cX0_init 23 = .ok (.bipush 7, 2) := by decide +kernel
theorem dX0_init_25 : decode cX0_init 25 = .ok (.newarray .long, 2) := by decide +kernel
theorem dX0_init_27 : decode cX0_init 27 = .ok (.putfield 23, 3) := by decide +kernel
theorem dX0_init_30 : decode cX0_init 30 = .ok (.aload_n 0, 1) := by decide +kernel
theorem dX0_init_31 : decode cX0_init 31 = .ok (.iconst 2, 1) := by decide +kernel
theorem dX0_init_32 : decode cX0_init 32 = .ok (.newarray .long, 2) := by decide +kernel
theorem dX0_init_34 : decode cX0_init 34 = .ok (.putfield 27, 3) := by decide +kernel
theorem dX0_init_37 : decode cX0_init 37 = .ok (.aload_n 0, 1) := by decide +kernel
theorem dX0_init_38 : decode cX0_init 38 = .ok (.iconst (-1), 1) := by decide +kernel
theorem dX0_init_39 : decode cX0_init 39 = .ok (.putfield 30, 3) := by decide +kernel
theorem dX0_init_42 : decode cX0_init 42 = .ok (.aload_n 0, 1) := by decide +kernel
theorem dX0_init_43 : decode cX0_init 43 = .ok (.iconst 1, 1) := by decide +kernel
theorem dX0_init_44 : decode cX0_init 44 = .ok (.putfield 34, 3) := by decide +kernel
theorem dX0_init_47 : decode cX0_init 47 = .ok (.return_, 1) := by decide +kernel
theorem dX0_setUp_0 : decode cX0_setUp 0 = .ok (.iconst 0, 1) := by decide +kernel
theorem dX0_setUp_1 : decode cX0_setUp 1 = .ok (.istore_n 1, 1) := by decide +kernel
theorem dX0_setUp_2 : decode cX0_setUp 2 = .ok (.iload_n 1, 1) := by decide +kernel
theorem dX0_setUp_3 : decode cX0_setUp 3 = .ok (.bipush 8, 2) := by decide +kernel
theorem dX0_setUp_5 : decode cX0_setUp 5 = .ok (.if_icmp .ge 51, 3) := by decide +kernel
theorem dX0_setUp_8 : decode cX0_setUp 8 = .ok (.aload_n 0, 1) := by decide +kernel
theorem dX0_setUp_9 : decode cX0_setUp 9 = .ok (.iload_n 1, 1) := by decide +kernel
theorem dX0_setUp_10 : decode cX0_setUp 10 = .ok (.getstatic 37, 3) := by decide +kernel
theorem dX0_setUp_13 : decode cX0_setUp 13 = .ok (.iload_n 1, 1) := by decide +kernel
theorem dX0_setUp_14 : decode cX0_setUp 14 = .ok (.iaload, 1) := by decide +kernel
theorem dX0_setUp_15 : decode cX0_setUp 15 = .ok (.invokevirtual 40, 3) := by decide +kernel
theorem dX0_setUp_18 : decode cX0_setUp 18 = .ok (.aload_n 0, 1) := by decide +kernel
theorem dX0_setUp_19 : decode cX0_setUp 19 = .ok (.bipush 8, 2) := by decide +kernel
theorem dX0_setUp_21 : decode cX0_setUp 21 = .ok (.iload_n 1, 1) := by decide +kernel
theorem dX0_setUp_22 : decode cX0_setUp 22 = .ok (.iadd, 1) := by decide +kernel
theorem dX0_setUp_23 : decode cX0_setUp 23 = .ok (.iconst 1, 1) := by decide +kernel
theorem dX0_setUp_24 : decode cX0_setUp 24 = .ok (.invokevirtual 40, 3) := by decide +kernel
theorem dX0_setUp_27 : decode cX0_setUp 27 = .ok (.aload_n 0, 1) := by decide +kernel
theorem dX0_setUp_28 : decode cX0_setUp 28 = .ok (.bipush 48, 2) := by decide +kernel
theorem dX0_setUp_30 : decode cX0_setUp 30 = .ok (.iload_n 1, 1) := by decide +kernel
theorem dX0_setUp_31 : decode cX0_setUp 31 = .ok (.iadd, 1) := by decide +kernel
theorem dX0_setUp_32 : decode cX0_setUp 32 = .ok (.iconst (-1), 1) := by decide +kernel
theorem dX0_setUp_33 : decode cX0_setUp 33 = .ok (.invokevirtual 40, 3) := by decide +kernel
theorem dX0_setUp_36 : decode cX0_setUp 36 = .ok (.aload_n 0, 1) := by decide +kernel
theorem dX0_setUp_37 : decode cX0_setUp 37 = .ok (.bipush 56, 2) := by decide +kernel
theorem dX0_setUp_39 : decode cX0_setUp 39 = .ok (.iload_n 1, 1) := by decide +kernel
theorem dX0_setUp_40 : decode cX0_setUp 40 = .ok (.iadd, 1) := by decide +kernel
theorem dX0_setUp_41 : decode cX0_setUp 41 = .ok (.getstatic 37, 3) := by decide +kernel
theorem dX0_setUp_44 : decode cX0_setUp 44 = .ok (.iload_n 1, 1) := by decide +kernel
theorem dX0_setUp_45 : decode cX0_setUp 45 = .ok (.iaload, 1) := by decide +kernel
theorem dX0_setUp_46 : decode cX0_setUp 46 = .ok (.ineg, 1) := by decide +kernel
theorem dX0_setUp_47 : decode cX0_setUp 47 = .ok (.invokevirtual 40, 3) := by decide +kernel
theorem dX0_setUp_50 : decode cX0_setUp 50 = .ok (.iinc 1 1, 3) := by decide +kernel
theorem dX0_setUp_53 : decode cX0_setUp 53 = .ok (.goto (-51), 3) := by decide +kernel
theorem dX0_setUp_56 : decode cX0_setUp 56 = .ok (.aload_n 0, 1) := by decide +kernel
theorem dX0_setUp_57 : decode cX0_setUp 57 = .ok (.bipush 15, 2) := by decide +kernel
theorem dX0_setUp_59 : decode cX0_setUp 59 = .ok (.putfield 44, 3) := by decide +kernel
theorem dX0_setUp_62 : decode cX0_setUp 62 = .ok (.return_, 1) := by decide +kernel
theorem dX0_clear_0 : decode cX0_clear 0 = .ok (.iconst 0, 1) := by decide +kernel
theorem dX0_clear_1 : decode cX0_clear 1 = .ok (.istore_n 1, 1) := by decide +kernel
theorem dX0_clear_2 : decode cX0_clear 2 = .ok (.iload_n 1, 1) := by decide +kernel
theorem dX0_clear_3 : decode cX0_clear 3 = .ok (.bipush 64, 2) := by decide +kernel
theorem dX0_clear_5 : decode cX0_clear 5 = .ok (.if_icmp .ge 16, 3) := by decide +kernel
theorem dX0_clear_8 : decode cX0_clear 8 = .ok (.aload_n 0, 1) := by decide +kernel
theorem dX0_clear_9 : decode cX0_clear 9 = .ok (.getfield 19, 3) := by decide +kernel
theorem dX0_clear_12 : decode cX0_clear 12 = .ok (.iload_n 1, 1) := by decide +kernel
theorem dX0_clear_13 : decode cX0_clear 13 = .ok (.iconst 0, 1) := by decide +kernel
theorem dX0_clear_14 : decode cX0_clear 14 = .ok (.iastore, 1) := by decide +kernel
theorem dX0_clear_15 : decode cX0_clear 15 = .ok (.iinc 1 1, 3) := by decide +kernel
theorem dX0_clear_18 : decode cX0_clear 18 = .ok (.goto (-16), 3) := by decide +kernel
theorem dX0_clear_21 : decode cX0_clear 21 = .ok (.iconst 0, 1) := by decide +kernel
theorem dX0_clear_22 : decode cX0_clear 22 = .ok (.istore_n 1, 1) := by decide +kernel
theorem dX0_clear_23 : decode cX0_clear 23 = .ok (.iload_n 1, 1) := by decide +kernel
theorem dX0_clear_24 : decode cX0_clear 24 = .ok (.aload_n 0, 1) := by decide +kernel
theorem dX0_clear_25 : decode cX0_clear 25 = .ok (.getfield 23, 3) := by decide +kernel
theorem dX0_clear_28 : decode cX0_clear 28 = .ok (.arraylength, 1) := by decide +kernel
theorem dX0_clear_29 : decode cX0_clear 29 = .ok (.if_icmp .ge 16, 3) := by decide +kernel
theorem dX0_clear_32 : decode cX0_clear 32 = .ok (.aload_n 0, 1) := by decide +kernel
theorem dX0_clear_33 : decode cX0_clear 33 = .ok (.getfield 23, 3) := by decide +kernel
theorem dX0_clear_36 : decode cX0_clear 36 = .ok (.iload_n 1, 1) := by decide +kernel
theorem dX0_clear_37 : decode cX0_clear 37 = .ok (.lconst 0, 1) := by decide +kernel
theorem dX0_clear_38 : decode cX0_clear 38 = .ok (.lastore, 1) := by decide +kernel
theorem dX0_clear_39 : decode cX0_clear 39 = .ok (.iinc 1 1, 3) := by decide +kernel
theorem dX0_clear_42 : decode cX0_clear 42 = .ok (.goto (-19), 3) := by decide +kernel
theorem dX0_clear_45 : decode cX0_clear 45 = .ok (.aload_n 0, 1) := by decide +kernel
theorem dX0_clear_46 : decode cX0_clear 46 = .ok (.getfield 27, 3) := by decide +kernel
theorem dX0_clear_49 : decode cX0_clear 49 = .ok (.iconst 0, 1) := by decide +kernel
theorem dX0_clear_50 : decode cX0_clear 50 = .ok (.lconst 0, 1) := by decide +kernel
theorem dX0_clear_51 : decode cX0_clear 51 = .ok (.lastore, 1) := by decide +kernel
theorem dX0_clear_52 : decode cX0_clear 52 = .ok (.aload_n 0, 1) := by decide +kernel
theorem dX0_clear_53 : decode cX0_clear 53 = .ok (.getfield 27, 3) := by decide +kernel
theorem dX0_clear_56 : decode cX0_clear 56 = .ok (.iconst 1, 1) := by decide +kernel
theorem dX0_clear_57 : decode cX0_clear 57 = .ok (.lconst 0, 1) := by decide +kernel
theorem dX0_clear_58 : decode cX0_clear 58 = .ok (.lastore, 1) := by decide +kernel
theorem dX0_clear_59 : decode cX0_clear 59 = .ok (.aload_n 0, 1) := by decide +kernel
theorem dX0_clear_60 : decode cX0_clear 60 = .ok (.iconst 0, 1) := by decide +kernel
theorem dX0_clear_61 : decode cX0_clear 61 = .ok (.putfield 47, 3) := by decide +kernel
theorem dX0_clear_64 : decode cX0_clear 64 = .ok (.aload_n 0, 1) := by decide +kernel
theorem dX0_clear_65 : decode cX0_clear 65 = .ok (.iconst 0, 1) := by decide +kernel
theorem dX0_clear_66 : decode cX0_clear 66 = .ok (.putfield 44, 3) := by decide +kernel
theorem dX0_clear_69 : decode cX0_clear 69 = .ok (.aload_n 0, 1) := by decide +kernel
theorem dX0_clear_70 : decode cX0_clear 70 = .ok (.iconst (-1), 1) := by decide +kernel
theorem dX0_clear_71 : decode cX0_clear 71 = .ok (.putfield 30, 3) := by decide +kernel
theorem dX0_clear_74 : decode cX0_clear 74 = .ok (.aload_n 0, 1) := by decide +kernel
theorem dX0_clear_75 : decode cX0_clear 75 = .ok (.iconst 0, 1) := by decide +kernel
theorem dX0_clear_76 : decode cX0_clear 76 = .ok (.putfield 50, 3) := by decide +kernel
theorem dX0_clear_79 : decode cX0_clear 79 = .ok (.aload_n 0, 1) := by decide +kernel
theorem dX0_clear_80 : decode cX0_clear 80 = .ok (.iconst 1, 1) := by decide +kernel
theorem dX0_clear_81 : decode cX0_clear 81 = .ok (.putfield 34, 3) := by decide +kernel
theorem dX0_clear_84 : decode cX0_clear 84 = .ok (.aload_n 0, 1) := by decide +kernel
theorem dX0_clear_85 : decode cX0_clear 85 = .ok (.iconst 0, 1) := by decide +kernel
theorem dX0_clear_86 : decode cX0_clear 86 = .ok (.putfield 53, 3) := by decide +kernel
theorem dX0_clear_89 : decode cX0_clear 89 = .ok (.return_, 1) := by decide +kernel
theorem dX0_takeOver_0 : decode cX0_takeOver 0 = .ok (.aload_n 1, 1) := by decide +kernel
theorem dX0_takeOver_1 : decode cX0_takeOver 1 = .ok (.getfield 19, 3) := by decide +kernel
theorem dX0_takeOver_4 : decode cX0_takeOver 4 = .ok (.iconst 0, 1) := by decide +kernel
theorem dX0_takeOver_5 : decode cX0_takeOver 5 = .ok (.aload_n 0, 1) := by decide +kernel
theorem dX0_takeOver_6 : decode cX0_takeOver 6 = .ok (.getfield 19, 3) := by decide +kernel
theorem dX0_takeOver_9 : decode cX0_takeOver 9 = .ok (.iconst 0, 1) := by decide +kernel
theorem dX0_takeOver_10 : decode cX0_takeOver 10 = .ok (.aload_n 0, 1) := by decide +kernel
theorem dX0_takeOver_11 : decode cX0_takeOver 11 = .ok (.getfield 19, 3) := by decide +kernel
theorem dX0_takeOver_14 : decode cX0_takeOver 14 = .ok (.arraylength, 1) := by decide +kernel
theorem dX0_takeOver_15 : decode cX0_takeOver 15 = .ok (.invokestatic 56, 3) := by decide +kernel
theorem dX0_takeOver_18 : decode cX0_takeOver 18 = .ok (.aload_n 1, 1) := by decide +kernel
theorem dX0_takeOver_19 : decode cX0_takeOver 19 = .ok (.getfield 23, 3) := by decide +kernel
theorem dX0_takeOver_22 : decode cX0_takeOver 22 = .ok (.iconst 0, 1) := by decide +kernel
theorem dX0_takeOver_23 : decode cX0_takeOver 23 = .ok (.aload_n 0, 1) := by decide +kernel
theorem dX0_takeOver_24 : decode cX0_takeOver 24 = .ok (.getfield 23, 3) := by decide +kernel
theorem dX0_takeOver_27 : decode cX0_takeOver 27 = .ok (.iconst 0, 1) := by decide +kernel
theorem dX0_takeOver_28 : decode cX0_takeOver 28 = .ok (.aload_n 0, 1) := by decide +kernel
theorem dX0_takeOver_29 : decode cX0_takeOver 29 = .ok (.getfield 23, 3) := by decide +kernel
theorem dX0_takeOver_32 : decode cX0_takeOver 32 = .ok (.arraylength, 1) := by decide +kernel
theorem dX0_takeOver_33 : decode cX0_takeOver 33 = .ok (.invokestatic 56, 3) := by decide +kernel
theorem dX0_takeOver_36 : decode cX0_takeOver 36 = .ok (.aload_n 1, 1) := by decide +kernel
theorem dX0_takeOver_37 : decode cX0_takeOver 37 = .ok (.getfield 27, 3) := by decide +kernel
theorem dX0_takeOver_40 : decode cX0_takeOver 40 = .ok (.iconst 0, 1) := by decide +kernel
theorem dX0_takeOver_41 : decode cX0_takeOver 41 = .ok (.aload_n 0, 1) := by decide +kernel
theorem dX0_takeOver_42 : decode cX0_takeOver 42 = .ok (.getfield 27, 3) := by decide +kernel
theorem dX0_takeOver_45 : decode cX0_takeOver 45 = .ok (.iconst 0, 1) := by decide +kernel
theorem dX0_takeOver_46 : decode cX0_takeOver 46 = .ok (.aload_n 0, 1) := by decide +kernel
theorem dX0_takeOver_47 : decode cX0_takeOver 47 = .ok (.getfield 27, 3) := by decide +kernel
theorem dX0_takeOver_50 : decode cX0_takeOver 50 = .ok (.arraylength, 1) := by decide +kernel
theorem dX0_takeOver_51 : decode cX0_takeOver 51 = .ok (.invokestatic 56, 3) := by decide +kernel
theorem dX0_takeOver_54 : decode cX0_takeOver 54 = .ok (.aload_n 0, 1) := by decide +kernel
theorem dX0_takeOver_55 : decode cX0_takeOver 55 = .ok (.aload_n 1, 1) := by decide +kernel
theorem dX0_takeOver_56 : decode cX0_takeOver 56 = .ok (.getfield 47, 3) := by decide +kernel
theorem dX0_takeOver_59 : decode cX0_takeOver 59 = .ok (.putfield 47, 3) := by decide +kernel
theorem dX0_takeOver_62 : decode cX0_takeOver 62 = .ok (.aload_n 0, 1) := by decide +kernel
theorem dX0_takeOver_63 : decode cX0_takeOver 63 = .ok (.aload_n 1, 1) := by decide +kernel
theorem dX0_takeOver_64 : decode cX0_takeOver 64 = .ok (.getfield 44, 3) := by decide +kernel
theorem dX0_takeOver_67 : decode cX0_takeOver 67 = .ok (.putfield 44, 3) := by decide +kernel
theorem dX0_takeOver_70 : decode cX0_takeOver 70 = .ok (.aload_n 0, 1) := by decide +kernel
theorem dX0_takeOver_71 : decode cX0_takeOver 71 = .ok (.aload_n 1, 1) := by decide +kernel
theorem dX0_takeOver_72 : decode cX0_takeOver 72 = .ok (.getfield 30, 3) := by decide +kernel
theorem dX0_takeOver_75 : decode cX0_takeOver 75 = .ok (.putfield 30, 3) := by decide +kernel
theorem dX0_takeOver_78 : decode cX0_takeOver 78 = .ok (.aload_n 0, 1) := by decide +kernel
theorem dX0_takeOver_79 : decode cX0_takeOver 79 = .ok (.aload_n 1, 1) := by decide +kernel
theorem dX0_takeOver_80 : decode cX0_takeOver 80 = .ok (.getfield 50, 3) := by decide +kernel
theorem dX0_takeOver_83 : decode cX0_takeOver 83 = .ok (.putfield 50, 3) := by decide +kernel
theorem dX0_takeOver_86 : decode cX0_takeOver 86 = .ok (.aload_n 0, 1) := by decide +kernel
theorem dX0_takeOver_87 : decode cX0_takeOver 87 = .ok (.aload_n 1, 1) := by decide +kernel
theorem dX0_takeOver_88 : decode cX0_takeOver 88 = .ok (.getfield 34, 3) := by decide +kernel
theorem dX0_takeOver_91 : decode cX0_takeOver 91 = .ok (.putfield 34, 3) := by decide +kernel
theorem dX0_takeOver_94 : decode cX0_takeOver 94 = .ok (.aload_n 0, 1) := by decide +kernel
theorem dX0_takeOver_95 : decode cX0_takeOver 95 = .ok (.aload_n 1, 1) := by decide +kernel
theorem dX0_takeOver_96 : decode cX0_takeOver 96 = .ok (.getfield 53, 3) := by decide +kernel
theorem dX0_takeOver_99 : decode cX0_takeOver 99 = .ok (.putfield 53, 3) := by decide +kernel
theorem dX0_takeOver_102 : decode cX0_takeOver 102 = .ok (.return_, 1) := by decide +kernel
theorem dX0_put_0 : decode cX0_put 0 = .ok (.lconst 1, 1) := by decide +kernel
theorem dX0_put_1 : decode cX0_put 1 = .ok (.iload_n 1, 1) := by decide +kernel
theorem dX0_put_2 : decode cX0_put 2 = .ok (.lshl, 1) := by decide +kernel
theorem dX0_put_3 : decode cX0_put 3 = .ok (.lstore_n 3, 1) := by decide +kernel
theorem dX0_put_4 : decode cX0_put 4 = .ok (.aload_n 0, 1) := by decide +kernel
theorem dX0_put_5 : decode cX0_put 5 = .ok (.getfield 19, 3) := by decide +kernel
theorem dX0_put_8 : decode cX0_put 8 = .ok (.iload_n 1, 1) := by decide +kernel
theorem dX0_put_9 : decode cX0_put 9 = .ok (.iload_n 2, 1) := by decide +kernel
theorem dX0_put_10 : decode cX0_put 10 = .ok (.iastore, 1) := by decide +kernel
theorem dX0_put_11 : decode cX0_put 11 = .ok (.aload_n 0, 1) := by decide +kernel
theorem dX0_put_12 : decode cX0_put 12 = .ok (.getfield 23, 3) := by decide +kernel
theorem dX0_put_15 : decode cX0_put 15 = .ok (.iload_n 2, 1) := by decide +kernel
theorem dX0_put_16 : decode cX0_put 16 = .ok (.invokestatic 62, 3) := by decide +kernel
theorem dX0_put_19 : decode cX0_put 19 = .ok (.dup2, 1) := by decide +kernel
theorem dX0_put_20 : decode cX0_put 20 = .ok (.laload, 1) := by decide +kernel
theorem dX0_put_21 : decode cX0_put 21 = .ok (.lload_n 3, 1) := by decide +kernel
theorem dX0_put_22 : decode cX0_put 22 = .ok (.lor, 1) := by decide +kernel
theorem dX0_put_23 : decode cX0_put 23 = .ok (.lastore, 1) := by decide +kernel
theorem dX0_put_24 : decode cX0_put 24 = .ok (.aload_n 0, 1) := by decide +kernel
theorem dX0_put_25 : decode cX0_put 25 = .ok (.getfield 27, 3) := by decide +kernel
theorem dX0_put_28 : decode cX0_put 28 = .ok (.iload_n 2, 1) := by decide +kernel
theorem dX0_put_29 : decode cX0_put 29 = .ok (.ifCond .le 7, 3) := by decide +kernel
theorem dX0_put_32 : decode cX0_put 32 = .ok (.iconst 0, 1) := by decide +kernel
theorem dX0_put_33 : decode cX0_put 33 = .ok (.goto 4, 3) := by decide +kernel
theorem dX0_put_36 : decode cX0_put 36 = .ok (.iconst 1, 1) := by decide +kernel
theorem dX0_put_37 : decode cX0_put 37 = .ok (.dup2, 1) := by decide +kernel
theorem dX0_put_38 : decode cX0_put 38 = .ok (.laload, 1) := by decide +kernel
theorem dX0_put_39 : decode cX0_put 39 = .ok (.lload_n 3, 1) := by decide +kernel
theorem dX0_put_40 : decode cX0_put 40 = .ok (.lor, 1) := by decide +kernel
theorem dX0_put_41 : decode cX0_put 41 = .ok (.lastore, 1) := by decide +kernel
theorem dX0_put_42 : decode cX0_put 42 = .ok (.aload_n 0, 1) := by decide +kernel
theorem dX0_put_43 : decode cX0_put 43 = .ok (.dup, 1) := by decide +kernel
theorem dX0_put_44 : decode cX0_put 44 = .ok (.getfield 53, 3) := by decide +kernel
theorem dX0_put_47 : decode cX0_put 47 = .ok (.aload_n 0, 1) := by decide +kernel
theorem dX0_put_48 : decode cX0_put 48 = .ok (.getfield 15, 3) := by decide +kernel
theorem dX0_put_51 : decode cX0_put 51 = .ok (.iload_n 2, 1) := by decide +kernel
theorem dX0_put_52 : decode cX0_put 52 = .ok (.iload_n 1, 1) := by decide +kernel
theorem dX0_put_53 : decode cX0_put 53 = .ok (.invokevirtual 68, 3) := by decide +kernel
theorem dX0_put_56 : decode cX0_put 56 = .ok (.iadd, 1) := by decide +kernel
theorem dX0_put_57 : decode cX0_put 57 = .ok (.putfield 53, 3) := by decide +kernel
theorem dX0_put_60 : decode cX0_put 60 = .ok (.return_, 1) := by decide +kernel
theorem dX0_lift_0 : decode cX0_lift 0 = .ok (.lconst 1, 1) := by decide +kernel
theorem dX0_lift_1 : decode cX0_lift 1 = .ok (.iload_n 1, 1) := by decide +kernel
theorem dX0_lift_2 : decode cX0_lift 2 = .ok (.lshl, 1) := by decide +kernel
theorem dX0_lift_3 : decode cX0_lift 3 = .ok (.ldc2_w 74, 3) := by decide +kernel
theorem dX0_lift_6 : decode cX0_lift 6 = .ok (.lxor, 1) := by decide +kernel
theorem dX0_lift_7 : decode cX0_lift 7 = .ok (.lstore_n 2, 1) := by decide +kernel
theorem dX0_lift_8 : decode cX0_lift 8 = .ok (.aload_n 0, 1) := by decide +kernel
theorem dX0_lift_9 : decode cX0_lift 9 = .ok (.getfield 19, 3) := by decide +kernel
theorem dX0_lift_12 : decode cX0_lift 12 = .ok (.iload_n 1, 1) := by decide +kernel
theorem dX0_lift_13 : decode cX0_lift 13 = .ok (.iaload, 1) := by decide +kernel
theorem dX0_lift_14 : decode cX0_lift 14 = .ok (.istore 4, 2) := by decide +kernel
theorem dX0_lift_16 : decode cX0_lift 16 = .ok (.aload_n 0, 1) := by decide +kernel
theorem dX0_lift_17 : decode cX0_lift 17 = .ok (.getfield 19, 3) := by decide +kernel
theorem dX0_lift_20 : decode cX0_lift 20 = .ok (.iload_n 1, 1) := by decide +kernel
theorem dX0_lift_21 : decode cX0_lift 21 = .ok (.iconst 0, 1) := by decide +kernel
theorem dX0_lift_22 : decode cX0_lift 22 = .ok (.iastore, 1) := by decide +kernel
theorem dX0_lift_23 : decode cX0_lift 23 = .ok (.aload_n 0, 1) := by decide +kernel
theorem dX0_lift_24 : decode cX0_lift 24 = .ok (.getfield 23, 3) := by decide +kernel
theorem dX0_lift_27 : decode cX0_lift 27 = .ok (.iload 4, 2) := by decide +kernel
theorem dX0_lift_29 : decode cX0_lift 29 = .ok (.invokestatic 62, 3) := by decide +kernel
theorem dX0_lift_32 : decode cX0_lift 32 = .ok (.dup2, 1) := by decide +kernel
theorem dX0_lift_33 : decode cX0_lift 33 = .ok (.laload, 1) := by decide +kernel
theorem dX0_lift_34 : decode cX0_lift 34 = .ok (.lload_n 2, 1) := by decide +kernel
theorem dX0_lift_35 : decode cX0_lift 35 = .ok (.land, 1) := by decide +kernel
theorem dX0_lift_36 : decode cX0_lift 36 = .ok (.lastore, 1) := by decide +kernel
theorem dX0_lift_37 : decode cX0_lift 37 = .ok (.aload_n 0, 1) := by decide +kernel
theorem dX0_lift_38 : decode cX0_lift 38 = .ok (.getfield 27, 3) := by decide +kernel
theorem dX0_lift_41 : decode cX0_lift 41 = .ok (.iload 4, 2) := by decide +kernel
theorem dX0_lift_43 : decode cX0_lift 43 = .ok (.ifCond .le 7, 3) := by decide +kernel
theorem dX0_lift_46 : decode cX0_lift 46 = .ok (.iconst 0, 1) := by decide +kernel
theorem dX0_lift_47 : decode cX0_lift 47 = .ok (.goto 4, 3) := by decide +kernel
theorem dX0_lift_50 : decode cX0_lift 50 = .ok (.iconst 1, 1) := by decide +kernel
theorem dX0_lift_51 : decode cX0_lift 51 = .ok (.dup2, 1) := by decide +kernel
theorem dX0_lift_52 : decode cX0_lift 52 = .ok (.laload, 1) := by decide +kernel
theorem dX0_lift_53 : decode cX0_lift 53 = .ok (.lload_n 2, 1) := by decide +kernel
theorem dX0_lift_54 : decode cX0_lift 54 = .ok (.land, 1) := by decide +kernel
theorem dX0_lift_55 : decode cX0_lift 55 = .ok (.lastore, 1) := by decide +kernel
theorem dX0_lift_56 : decode cX0_lift 56 = .ok (.aload_n 0, 1) := by decide +kernel
theorem dX0_lift_57 : decode cX0_lift 57 = .ok (.dup, 1) := by decide +kernel
theorem dX0_lift_58 : decode cX0_lift 58 = .ok (.getfield 53, 3) := by decide +kernel
theorem dX0_lift_61 : decode cX0_lift 61 = .ok (.aload_n 0, 1) := by decide +kernel
theorem dX0_lift_62 : decode cX0_lift 62 = .ok (.getfield 15, 3) := by decide +kernel
theorem dX0_lift_65 : decode cX0_lift 65 = .ok (.iload 4, 2) := by decide +kernel
theorem dX0_lift_67 : decode cX0_lift 67 = .ok (.iload_n 1, 1) := by decide +kernel
theorem dX0_lift_68 : decode cX0_lift 68 = .ok (.invokevirtual 68, 3) := by decide +kernel
theorem dX0_lift_71 : decode cX0_lift 71 = .ok (.isub, 1) := by decide +kernel
theorem dX0_lift_72 : decode cX0_lift 72 = .ok (.putfield 53, 3) := by decide +kernel
theorem dX0_lift_75 : decode cX0_lift 75 = .ok (.iload 4, 2) := by decide +kernel
theorem dX0_lift_77 : decode cX0_lift 77 = .ok (.ireturn, 1) := by decide +kernel
theorem dX0_everyone_0 : decode cX0_everyone 0 = .ok (.aload_n 0, 1) := by decide +kernel
theorem dX0_everyone_1 : decode cX0_everyone 1 = .ok (.getfield 27, 3) := by decide +kernel
theorem dX0_everyone_4 : decode cX0_everyone 4 = .ok (.iconst 0, 1) := by decide +kernel
theorem dX0_everyone_5 : decode cX0_everyone 5 = .ok (.laload, 1) := by decide +kernel
theorem dX0_everyone_6 : decode cX0_everyone 6 = .ok (.aload_n 0, 1) := by decide +kernel
theorem dX0_everyone_7 : decode cX0_everyone 7 = .ok (.getfield 27, 3) := by decide +kernel
theorem dX0_everyone_10 : decode cX0_everyone 10 = .ok (.iconst 1, 1) := by decide +kernel
theorem dX0_everyone_11 : decode cX0_everyone 11 = .ok (.laload, 1) := by decide +kernel
theorem dX0_everyone_12 : decode cX0_everyone 12 = .ok (.lor, 1) := by decide +kernel
theorem dX0_everyone_13 : decode cX0_everyone 13 = .ok (.lreturn, 1) := by decide +kernel
theorem dX0_kingOf_0 : decode cX0_kingOf 0 = .ok (.aload_n 0, 1) := by decide +kernel
theorem dX0_kingOf_1 : decode cX0_kingOf 1 = .ok (.getfield 23, 3) := by decide +kernel
theorem dX0_kingOf_4 : decode cX0_kingOf 4 = .ok (.bipush 6, 2) := by decide +kernel
theorem dX0_kingOf_6 : decode cX0_kingOf 6 = .ok (.laload, 1) := by decide +kernel
theorem dX0_kingOf_7 : decode cX0_kingOf 7 = .ok (.aload_n 0, 1) := by decide +kernel
theorem dX0_kingOf_8 : decode cX0_kingOf 8 = .ok (.getfield 27, 3) := by decide +kernel
theorem dX0_kingOf_11 : decode cX0_kingOf 11 = .ok (.iload_n 1, 1) := by decide +kernel
theorem dX0_kingOf_12 : decode cX0_kingOf 12 = .ok (.laload, 1) := by decide +kernel
theorem dX0_kingOf_13 : decode cX0_kingOf 13 = .ok (.land, 1) := by decide +kernel
theorem dX0_kingOf_14 : decode cX0_kingOf 14 = .ok (.invokestatic 76, 3) := by decide +kernel
theorem dX0_kingOf_17 : decode cX0_kingOf 17 = .ok (.ireturn, 1) := by decide +kernel
theorem dX0_isInCheck_0 : decode cX0_isInCheck 0 = .ok (.aload_n 0, 1) := by decide +kernel
theorem dX0_isInCheck_1 : decode cX0_isInCheck 1 = .ok (.aload_n 0, 1) := by decide +kernel
theorem dX0_isInCheck_2 : decode cX0_isInCheck 2 = .ok (.iload_n 1, 1) := by decide +kernel
theorem dX0_isInCheck_3 : decode cX0_isInCheck 3 = .ok (.invokevirtual 80, 3) := by decide +kernel
theorem dX0_isInCheck_6 : decode cX0_isInCheck 6 = .ok (.iconst 1, 1) := by decide +kernel
theorem dX0_isInCheck_7 : decode cX0_isInCheck 7 = .ok (.iload_n 1, 1) := by decide +kernel
theorem dX0_isInCheck_8 : decode cX0_isInCheck 8 = .ok (.isub, 1) := by decide +kernel
theorem dX0_isInCheck_9 : decode cX0_isInCheck 9 = .ok (.aload_n 0, 1) := by decide +kernel
theorem dX0_isInCheck_10 : decode cX0_isInCheck 10 = .ok (.invokevirtual 83, 3) := by decide +kernel
theorem dX0_isInCheck_13 : decode cX0_isInCheck 13 = .ok (.invokevirtual 87, 3) := by decide +kernel
theorem dX0_isInCheck_16 : decode cX0_isInCheck 16 = .ok (.ireturn, 1) := by decide +kernel
theorem dX0_isStruck_0 : decode cX0_isStruck 0 = .ok (.aload_n 0, 1) := by decide +kernel
theorem dX0_isStruck_1 : decode cX0_isStruck 1 = .ok (.getfield 27, 3) := by decide +kernel
theorem dX0_isStruck_4 : decode cX0_isStruck 4 = .ok (.iload_n 2, 1) := by decide +kernel
theorem dX0_isStruck_5 : decode cX0_isStruck 5 = .ok (.laload, 1) := by decide +kernel
theorem dX0_isStruck_6 : decode cX0_isStruck 6 = .ok (.lload_n 3, 1) := by decide +kernel
theorem dX0_isStruck_7 : decode cX0_isStruck 7 = .ok (.land, 1) := by decide +kernel
theorem dX0_isStruck_8 : decode cX0_isStruck 8 = .ok (.lstore 5, 2) := by decide +kernel
theorem dX0_isStruck_10 : decode cX0_isStruck 10 = .ok (.aload_n 0, 1) := by decide +kernel
theorem dX0_isStruck_11 : decode cX0_isStruck 11 = .ok (.getfield 9, 3) := by decide +kernel
theorem dX0_isStruck_14 : decode cX0_isStruck 14 = .ok (.getfield 91, 3) := by decide +kernel
theorem dX0_isStruck_17 : decode cX0_isStruck 17 = .ok (.iconst 1, 1) := by decide +kernel
theorem dX0_isStruck_18 : decode cX0_isStruck 18 = .ok (.iload_n 2, 1) := by decide +kernel
theorem dX0_isStruck_19 : decode cX0_isStruck 19 = .ok (.isub, 1) := by decide +kernel
theorem dX0_isStruck_20 : decode cX0_isStruck 20 = .ok (.bipush 64, 2) := by decide +kernel
theorem dX0_isStruck_22 : decode cX0_isStruck 22 = .ok (.imul, 1) := by decide +kernel
theorem dX0_isStruck_23 : decode cX0_isStruck 23 = .ok (.iload_n 1, 1) := by decide +kernel
theorem dX0_isStruck_24 : decode cX0_isStruck 24 = .ok (.iadd, 1) := by decide +kernel
theorem dX0_isStruck_25 : decode cX0_isStruck 25 = .ok (.laload, 1) := by decide +kernel
theorem dX0_isStruck_26 : decode cX0_isStruck 26 = .ok (.aload_n 0, 1) := by decide +kernel
theorem dX0_isStruck_27 : decode cX0_isStruck 27 = .ok (.getfield 23, 3) := by decide +kernel
theorem dX0_isStruck_30 : decode cX0_isStruck 30 = .ok (.iconst 1, 1) := by decide +kernel
theorem dX0_isStruck_31 : decode cX0_isStruck 31 = .ok (.laload, 1) := by decide +kernel
theorem dX0_isStruck_32 : decode cX0_isStruck 32 = .ok (.land, 1) := by decide +kernel
theorem dX0_isStruck_33 : decode cX0_isStruck 33 = .ok (.aload_n 0, 1) := by decide +kernel
theorem dX0_isStruck_34 : decode cX0_isStruck 34 = .ok (.getfield 9, 3) := by decide +kernel
theorem dX0_isStruck_37 : decode cX0_isStruck 37 = .ok (.getfield 96, 3) := by decide +kernel
theorem dX0_isStruck_40 : decode cX0_isStruck 40 = .ok (.iload_n 1, 1) := by decide +kernel
theorem dX0_isStruck_41 : decode cX0_isStruck 41 = .ok (.laload, 1) := by decide +kernel
theorem dX0_isStruck_42 : decode cX0_isStruck 42 = .ok (.aload_n 0, 1) := by decide +kernel
theorem dX0_isStruck_43 : decode cX0_isStruck 43 = .ok (.getfield 23, 3) := by decide +kernel
theorem dX0_isStruck_46 : decode cX0_isStruck 46 = .ok (.iconst 2, 1) := by decide +kernel
theorem dX0_isStruck_47 : decode cX0_isStruck 47 = .ok (.laload, 1) := by decide +kernel
theorem dX0_isStruck_48 : decode cX0_isStruck 48 = .ok (.land, 1) := by decide +kernel
theorem dX0_isStruck_49 : decode cX0_isStruck 49 = .ok (.lor, 1) := by decide +kernel
theorem dX0_isStruck_50 : decode cX0_isStruck 50 = .ok (.aload_n 0, 1) := by decide +kernel
theorem dX0_isStruck_51 : decode cX0_isStruck 51 = .ok (.getfield 9, 3) := by decide +kernel
theorem dX0_isStruck_54 : decode cX0_isStruck 54 = .ok (.getfield 99, 3) := by decide +kernel
theorem dX0_isStruck_57 : decode cX0_isStruck 57 = .ok (.iload_n 1, 1) := by decide +kernel
theorem dX0_isStruck_58 : decode cX0_isStruck 58 = .ok (.laload, 1) := by decide +kernel
theorem dX0_isStruck_59 : decode cX0_isStruck 59 = .ok (.aload_n 0, 1) := by decide +kernel
theorem dX0_isStruck_60 : decode cX0_isStruck 60 = .ok (.getfield 23, 3) := by decide +kernel
theorem dX0_isStruck_63 : decode cX0_isStruck 63 = .ok (.bipush 6, 2) := by decide +kernel
theorem dX0_isStruck_65 : decode cX0_isStruck 65 = .ok (.laload, 1) := by decide +kernel
theorem dX0_isStruck_66 : decode cX0_isStruck 66 = .ok (.land, 1) := by decide +kernel
theorem dX0_isStruck_67 : decode cX0_isStruck 67 = .ok (.lor, 1) := by decide +kernel
theorem dX0_isStruck_68 : decode cX0_isStruck 68 = .ok (.lstore 7, 2) := by decide +kernel
theorem dX0_isStruck_70 : decode cX0_isStruck 70 = .ok (.lload 7, 2) := by decide +kernel
theorem dX0_isStruck_72 : decode cX0_isStruck 72 = .ok (.lload 5, 2) := by decide +kernel
theorem dX0_isStruck_74 : decode cX0_isStruck 74 = .ok (.land, 1) := by decide +kernel
theorem dX0_isStruck_75 : decode cX0_isStruck 75 = .ok (.lconst 0, 1) := by decide +kernel
theorem dX0_isStruck_76 : decode cX0_isStruck 76 = .ok (.lcmp, 1) := by decide +kernel
theorem dX0_isStruck_77 : decode cX0_isStruck 77 = .ok (.ifCond .eq 5, 3) := by decide +kernel
theorem dX0_isStruck_80 : decode cX0_isStruck 80 = .ok (.iconst 1, 1) := by decide +kernel
theorem dX0_isStruck_81 : decode cX0_isStruck 81 = .ok (.ireturn, 1) := by decide +kernel
theorem dX0_isStruck_82 : decode cX0_isStruck 82 = .ok (.lload 5, 2) := by decide +kernel
theorem dX0_isStruck_84 : decode cX0_isStruck 84 = .ok (.aload_n 0, 1) := by decide +kernel
theorem dX0_isStruck_85 : decode cX0_isStruck 85 = .ok (.getfield 23, 3) := by decide +kernel
theorem dX0_isStruck_88 : decode cX0_isStruck 88 = .ok (.iconst 4, 1) := by decide +kernel
theorem dX0_isStruck_89 : decode cX0_isStruck 89 = .ok (.laload, 1) := by decide +kernel
theorem dX0_isStruck_90 : decode cX0_isStruck 90 = .ok (.aload_n 0, 1) := by decide +kernel
theorem dX0_isStruck_91 : decode cX0_isStruck 91 = .ok (.getfield 23, 3) := by decide +kernel
theorem dX0_isStruck_94 : decode cX0_isStruck 94 = .ok (.iconst 5, 1) := by decide +kernel
theorem dX0_isStruck_95 : decode cX0_isStruck 95 = .ok (.laload, 1) := by decide +kernel
theorem dX0_isStruck_96 : decode cX0_isStruck 96 = .ok (.lor, 1) := by decide +kernel
theorem dX0_isStruck_97 : decode cX0_isStruck 97 = .ok (.land, 1) := by decide +kernel
theorem dX0_isStruck_98 : decode cX0_isStruck 98 = .ok (.lstore 9, 2) := by decide +kernel
theorem dX0_isStruck_100 : decode cX0_isStruck 100 = .ok (.lload 5, 2) := by decide +kernel
theorem dX0_isStruck_102 : decode cX0_isStruck 102 = .ok (.aload_n 0, 1) := by decide +kernel
theorem dX0_isStruck_103 : decode cX0_isStruck 103 = .ok (.getfield 23, 3) := by decide +kernel
theorem dX0_isStruck_106 : decode cX0_isStruck 106 = .ok (.iconst 3, 1) := by decide +kernel
theorem dX0_isStruck_107 : decode cX0_isStruck 107 = .ok (.laload, 1) := by decide +kernel
theorem dX0_isStruck_108 : decode cX0_isStruck 108 = .ok (.aload_n 0, 1) := by decide +kernel
theorem dX0_isStruck_109 : decode cX0_isStruck 109 = .ok (.getfield 23, 3) := by decide +kernel
theorem dX0_isStruck_112 : decode cX0_isStruck 112 = .ok (.iconst 5, 1) := by decide +kernel
theorem dX0_isStruck_113 : decode cX0_isStruck 113 = .ok (.laload, 1) := by decide +kernel
theorem dX0_isStruck_114 : decode cX0_isStruck 114 = .ok (.lor, 1) := by decide +kernel
theorem dX0_isStruck_115 : decode cX0_isStruck 115 = .ok (.land, 1) := by decide +kernel
theorem dX0_isStruck_116 : decode cX0_isStruck 116 = .ok (.lstore 11, 2) := by decide +kernel
theorem dX0_isStruck_118 : decode cX0_isStruck 118 = .ok (.iconst 0, 1) := by decide +kernel
theorem dX0_isStruck_119 : decode cX0_isStruck 119 = .ok (.istore 13, 2) := by decide +kernel
theorem dX0_isStruck_121 : decode cX0_isStruck 121 = .ok (.iload 13, 2) := by decide +kernel
theorem dX0_isStruck_123 : decode cX0_isStruck 123 = .ok (.bipush 8, 2) := by decide +kernel
theorem dX0_isStruck_125 : decode cX0_isStruck 125 = .ok (.if_icmp .ge 69, 3) := by decide +kernel
theorem dX0_isStruck_128 : decode cX0_isStruck 128 = .ok (.aload_n 0, 1) := by decide +kernel
theorem dX0_isStruck_129 : decode cX0_isStruck 129 = .ok (.getfield 9, 3) := by decide +kernel
theorem dX0_isStruck_132 : decode cX0_isStruck 132 = .ok (.getfield 102, 3) := by decide +kernel
theorem dX0_isStruck_135 : decode cX0_isStruck 135 = .ok (.iload 13, 2) := by decide +kernel
theorem dX0_isStruck_137 : decode cX0_isStruck 137 = .ok (.bipush 64, 2) := by decide +kernel
theorem dX0_isStruck_139 : decode cX0_isStruck 139 = .ok (.imul, 1) := by decide +kernel
theorem dX0_isStruck_140 : decode cX0_isStruck 140 = .ok (.iload_n 1, 1) := by decide +kernel
theorem dX0_isStruck_141 : decode cX0_isStruck 141 = .ok (.iadd, 1) := by decide +kernel
theorem dX0_isStruck_142 : decode cX0_isStruck 142 = .ok (.laload, 1) := by decide +kernel
theorem dX0_isStruck_143 : decode cX0_isStruck 143 = .ok (.iload 13, 2) := by decide +kernel
theorem dX0_isStruck_145 : decode cX0_isStruck 145 = .ok (.iconst 2, 1) := by decide +kernel
theorem dX0_isStruck_146 : decode cX0_isStruck 146 = .ok (.iand, 1) := by decide +kernel
theorem dX0_isStruck_147 : decode cX0_isStruck 147 = .ok (.ifCond .eq 8, 3) := by decide +kernel
theorem dX0_isStruck_150 : decode cX0_isStruck 150 = .ok (.lload 11, 2) := by decide +kernel
theorem dX0_isStruck_152 : decode cX0_isStruck 152 = .ok (.goto 5, 3) := by decide +kernel
theorem dX0_isStruck_155 : decode cX0_isStruck 155 = .ok (.lload 9, 2) := by decide +kernel
theorem dX0_isStruck_157 : decode cX0_isStruck 157 = .ok (.land, 1) := by decide +kernel
theorem dX0_isStruck_158 : decode cX0_isStruck 158 = .ok (.lstore 14, 2) := by decide +kernel
theorem dX0_isStruck_160 : decode cX0_isStruck 160 = .ok (.lload 14, 2) := by decide +kernel
theorem dX0_isStruck_162 : decode cX0_isStruck 162 = .ok (.lconst 0, 1) := by decide +kernel
theorem dX0_isStruck_163 : decode cX0_isStruck 163 = .ok (.lcmp, 1) := by decide +kernel
theorem dX0_isStruck_164 : decode cX0_isStruck 164 = .ok (.ifCond .eq 24, 3) := by decide +kernel
theorem dX0_isStruck_167 : decode cX0_isStruck 167 = .ok (.aload_n 0, 1) := by decide +kernel
theorem dX0_isStruck_168 : decode cX0_isStruck 168 = .ok (.getfield 9, 3) := by decide +kernel
theorem dX0_isStruck_171 : decode cX0_isStruck 171 = .ok (.iload 13, 2) := by decide +kernel
theorem dX0_isStruck_173 : decode cX0_isStruck 173 = .ok (.iload_n 1, 1) := by decide +kernel
theorem dX0_isStruck_174 : decode cX0_isStruck 174 = .ok (.lload_n 3, 1) := by decide +kernel
theorem dX0_isStruck_175 : decode cX0_isStruck 175 = .ok (.invokevirtual 105, 3) := by decide +kernel
theorem dX0_isStruck_178 : decode cX0_isStruck 178 = .ok (.lload 14, 2) := by decide +kernel
theorem dX0_isStruck_180 : decode cX0_isStruck 180 = .ok (.land, 1) := by decide +kernel
theorem dX0_isStruck_181 : decode cX0_isStruck 181 = .ok (.lconst 0, 1) := by decide +kernel
theorem dX0_isStruck_182 : decode cX0_isStruck 182 = .ok (.lcmp, 1) := by decide +kernel
theorem dX0_isStruck_183 : decode cX0_isStruck 183 = .ok (.ifCond .eq 5, 3) := by decide +kernel
theorem dX0_isStruck_186 : decode cX0_isStruck 186 = .ok (.iconst 1, 1) := by decide +kernel
theorem dX0_isStruck_187 : decode cX0_isStruck 187 = .ok (.ireturn, 1) := by decide +kernel
theorem dX0_isStruck_188 : decode cX0_isStruck 188 = .ok (.iinc 13 1, 3) := by decide +kernel
theorem dX0_isStruck_191 : decode cX0_isStruck 191 = .ok (.goto (-70), 3) := by decide +kernel
theorem dX0_isStruck_194 : decode cX0_isStruck 194 = .ok (.iconst 0, 1) := by decide +kernel
theorem dX0_isStruck_195 : decode cX0_isStruck 195 = .ok (.ireturn, 1) := by decide +kernel
theorem dX0_passers_0 : decode cX0_passers 0 = .ok (.aload_n 0, 1) := by decide +kernel
theorem dX0_passers_1 : decode cX0_passers 1 = .ok (.getfield 30, 3) := by decide +kernel
theorem dX0_passers_4 : decode cX0_passers 4 = .ok (.iconst (-1), 1) := by decide +kernel
theorem dX0_passers_5 : decode cX0_passers 5 = .ok (.if_icmp .ne 5, 3) := by decide +kernel
theorem dX0_passers_8 : decode cX0_passers 8 = .ok (.lconst 0, 1) := by decide +kernel
theorem dX0_passers_9 : decode cX0_passers 9 = .ok (.lreturn, 1) := by decide +kernel
theorem dX0_passers_10 : decode cX0_passers 10 = .ok (.iconst 1, 1) := by decide +kernel
theorem dX0_passers_11 : decode cX0_passers 11 = .ok (.aload_n 0, 1) := by decide +kernel
theorem dX0_passers_12 : decode cX0_passers 12 = .ok (.getfield 47, 3) := by decide +kernel
theorem dX0_passers_15 : decode cX0_passers 15 = .ok (.isub, 1) := by decide +kernel
theorem dX0_passers_16 : decode cX0_passers 16 = .ok (.istore_n 1, 1) := by decide +kernel
theorem dX0_passers_17 : decode cX0_passers 17 = .ok (.aload_n 0, 1) := by decide +kernel
theorem dX0_passers_18 : decode cX0_passers 18 = .ok (.getfield 9, 3) := by decide +kernel
theorem dX0_passers_21 : decode cX0_passers 21 = .ok (.getfield 91, 3) := by decide +kernel
theorem dX0_passers_24 : decode cX0_passers 24 = .ok (.iload_n 1, 1) := by decide +kernel
theorem dX0_passers_25 : decode cX0_passers 25 = .ok (.bipush 64, 2) := by decide +kernel
theorem dX0_passers_27 : decode cX0_passers 27 = .ok (.imul, 1) := by decide +kernel
theorem dX0_passers_28 : decode cX0_passers 28 = .ok (.aload_n 0, 1) := by decide +kernel
theorem dX0_passers_29 : decode cX0_passers 29 = .ok (.getfield 30, 3) := by decide +kernel
theorem dX0_passers_32 : decode cX0_passers 32 = .ok (.iadd, 1) := by decide +kernel
theorem dX0_passers_33 : decode cX0_passers 33 = .ok (.laload, 1) := by decide +kernel
theorem dX0_passers_34 : decode cX0_passers 34 = .ok (.aload_n 0, 1) := by decide +kernel
theorem dX0_passers_35 : decode cX0_passers 35 = .ok (.getfield 23, 3) := by decide +kernel
theorem dX0_passers_38 : decode cX0_passers 38 = .ok (.iconst 1, 1) := by decide +kernel
theorem dX0_passers_39 : decode cX0_passers 39 = .ok (.laload, 1) := by decide +kernel
theorem dX0_passers_40 : decode cX0_passers 40 = .ok (.land, 1) := by decide +kernel
theorem dX0_passers_41 : decode cX0_passers 41 = .ok (.aload_n 0, 1) := by decide +kernel
theorem dX0_passers_42 : decode cX0_passers 42 = .ok (.getfield 27, 3) := by decide +kernel
theorem dX0_passers_45 : decode cX0_passers 45 = .ok (.aload_n 0, 1) := by decide +kernel
theorem dX0_passers_46 : decode cX0_passers 46 = .ok (.getfield 47, 3) := by decide +kernel
theorem dX0_passers_49 : decode cX0_passers 49 = .ok (.laload, 1) := by decide +kernel
theorem dX0_passers_50 : decode cX0_passers 50 = .ok (.land, 1) := by decide +kernel
theorem dX0_passers_51 : decode cX0_passers 51 = .ok (.lstore_n 2, 1) := by decide +kernel
theorem dX0_passers_52 : decode cX0_passers 52 = .ok (.aload_n 0, 1) := by decide +kernel
theorem dX0_passers_53 : decode cX0_passers 53 = .ok (.invokevirtual 83, 3) := by decide +kernel
theorem dX0_passers_56 : decode cX0_passers 56 = .ok (.lconst 1, 1) := by decide +kernel
theorem dX0_passers_57 : decode cX0_passers 57 = .ok (.aload_n 0, 1) := by decide +kernel
theorem dX0_passers_58 : decode cX0_passers 58 = .ok (.getfield 30, 3) := by decide +kernel
theorem dX0_passers_61 : decode cX0_passers 61 = .ok (.aload_n 0, 1) := by decide +kernel
theorem dX0_passers_62 : decode cX0_passers 62 = .ok (.getfield 47, 3) := by decide +kernel
theorem dX0_passers_65 : decode cX0_passers 65 = .ok (.invokestatic 109, 3) := by decide +kernel
theorem dX0_passers_68 : decode cX0_passers 68 = .ok (.isub, 1) := by decide +kernel
theorem dX0_passers_69 : decode cX0_passers 69 = .ok (.lshl, 1) := by decide +kernel
theorem dX0_passers_70 : decode cX0_passers 70 = .ok (.ldc2_w 74, 3) := by decide +kernel
theorem dX0_passers_73 : decode cX0_passers 73 = .ok (.lxor, 1) := by decide +kernel
theorem dX0_passers_74 : decode cX0_passers 74 = .ok (.land, 1) := by decide +kernel
theorem dX0_passers_75 : decode cX0_passers 75 = .ok (.lconst 1, 1) := by decide +kernel
theorem dX0_passers_76 : decode cX0_passers 76 = .ok (.aload_n 0, 1) := by decide +kernel
theorem dX0_passers_77 : decode cX0_passers 77 = .ok (.getfield 30, 3) := by decide +kernel
theorem dX0_passers_80 : decode cX0_passers 80 = .ok (.lshl, 1) := by decide +kernel
theorem dX0_passers_81 : decode cX0_passers 81 = .ok (.lor, 1) := by decide +kernel
theorem dX0_passers_82 : decode cX0_passers 82 = .ok (.lstore 4, 2) := by decide +kernel
theorem dX0_passers_84 : decode cX0_passers 84 = .ok (.lconst 0, 1) := by decide +kernel
theorem dX0_passers_85 : decode cX0_passers 85 = .ok (.lstore 6, 2) := by decide +kernel
theorem dX0_passers_87 : decode cX0_passers 87 = .ok (.lload_n 2, 1) := by decide +kernel
theorem dX0_passers_88 : decode cX0_passers 88 = .ok (.invokestatic 112, 3) := by decide +kernel
theorem dX0_passers_91 : decode cX0_passers 91 = .ok (.istore 8, 2) := by decide +kernel
theorem dX0_passers_93 : decode cX0_passers 93 = .ok (.iload 8, 2) := by decide +kernel
theorem dX0_passers_95 : decode cX0_passers 95 = .ok (.ifCond .le 56, 3) := by decide +kernel
theorem dX0_passers_98 : decode cX0_passers 98 = .ok (.lload_n 2, 1) := by decide +kernel
theorem dX0_passers_99 : decode cX0_passers 99 = .ok (.lload_n 2, 1) := by decide +kernel
theorem dX0_passers_100 : decode cX0_passers 100 = .ok (.lneg, 1) := by decide +kernel
theorem dX0_passers_101 : decode cX0_passers 101 = .ok (.land, 1) := by decide +kernel
theorem dX0_passers_102 : decode cX0_passers 102 = .ok (.lstore 9, 2) := by decide +kernel
theorem dX0_passers_104 : decode cX0_passers 104 = .ok (.lload_n 2, 1) := by decide +kernel
theorem dX0_passers_105 : decode cX0_passers 105 = .ok (.lload 9, 2) := by decide +kernel
theorem dX0_passers_107 : decode cX0_passers 107 = .ok (.ldc2_w 74, 3) := by decide +kernel
theorem dX0_passers_110 : decode cX0_passers 110 = .ok (.lxor, 1) := by decide +kernel
theorem dX0_passers_111 : decode cX0_passers 111 = .ok (.land, 1) := by decide +kernel
theorem dX0_passers_112 : decode cX0_passers 112 = .ok (.lstore_n 2, 1) := by decide +kernel
theorem dX0_passers_113 : decode cX0_passers 113 = .ok (.aload_n 0, 1) := by decide +kernel
theorem dX0_passers_114 : decode cX0_passers 114 = .ok (.aload_n 0, 1) := by decide +kernel
theorem dX0_passers_115 : decode cX0_passers 115 = .ok (.aload_n 0, 1) := by decide +kernel
theorem dX0_passers_116 : decode cX0_passers 116 = .ok (.getfield 47, 3) := by decide +kernel
theorem dX0_passers_119 : decode cX0_passers 119 = .ok (.invokevirtual 80, 3) := by decide +kernel
theorem dX0_passers_122 : decode cX0_passers 122 = .ok (.iload_n 1, 1) := by decide +kernel
theorem dX0_passers_123 : decode cX0_passers 123 = .ok (.lload 4, 2) := by decide +kernel
theorem dX0_passers_125 : decode cX0_passers 125 = .ok (.lload 9, 2) := by decide +kernel
theorem dX0_passers_127 : decode cX0_passers 127 = .ok (.ldc2_w 74, 3) := by decide +kernel
theorem dX0_passers_130 : decode cX0_passers 130 = .ok (.lxor, 1) := by decide +kernel
theorem dX0_passers_131 : decode cX0_passers 131 = .ok (.land, 1) := by decide +kernel
theorem dX0_passers_132 : decode cX0_passers 132 = .ok (.invokevirtual 87, 3) := by decide +kernel
theorem dX0_passers_135 : decode cX0_passers 135 = .ok (.ifCond .ne 10, 3) := by decide +kernel
theorem dX0_passers_138 : decode cX0_passers 138 = .ok (.lload 6, 2) := by decide +kernel
theorem dX0_passers_140 : decode cX0_passers 140 = .ok (.lload 9, 2) := by decide +kernel
theorem dX0_passers_142 : decode cX0_passers 142 = .ok (.lor, 1) := by decide +kernel
theorem dX0_passers_143 : decode cX0_passers 143 = .ok (.lstore 6, 2) := by decide +kernel
theorem dX0_passers_145 : decode cX0_passers 145 = .ok (.iinc 8 (-1), 3) := by decide +kernel
theorem dX0_passers_148 : decode cX0_passers 148 = .ok (.goto (-55), 3) := by decide +kernel
theorem dX0_passers_151 : decode cX0_passers 151 = .ok (.lload 6, 2) := by decide +kernel
theorem dX0_passers_153 : decode cX0_passers 153 = .ok (.lreturn, 1) := by decide +kernel
theorem dX0_takesOn_0 : decode cX0_takesOn 0 = .ok (.iload_n 1, 1) := by decide +kernel
theorem dX0_takesOn_1 : decode cX0_takesOn 1 = .ok (.invokestatic 117, 3) := by decide +kernel
theorem dX0_takesOn_4 : decode cX0_takesOn 4 = .ok (.istore_n 2, 1) := by decide +kernel
theorem dX0_takesOn_5 : decode cX0_takesOn 5 = .ok (.iload_n 2, 1) := by decide +kernel
theorem dX0_takesOn_6 : decode cX0_takesOn 6 = .ok (.aload_n 0, 1) := by decide +kernel
theorem dX0_takesOn_7 : decode cX0_takesOn 7 = .ok (.getfield 30, 3) := by decide +kernel
theorem dX0_takesOn_10 : decode cX0_takesOn 10 = .ok (.if_icmp .ne 23, 3) := by decide +kernel
theorem dX0_takesOn_13 : decode cX0_takesOn 13 = .ok (.aload_n 0, 1) := by decide +kernel
theorem dX0_takesOn_14 : decode cX0_takesOn 14 = .ok (.getfield 19, 3) := by decide +kernel
theorem dX0_takesOn_17 : decode cX0_takesOn 17 = .ok (.iload_n 1, 1) := by decide +kernel
theorem dX0_takesOn_18 : decode cX0_takesOn 18 = .ok (.invokestatic 120, 3) := by decide +kernel
theorem dX0_takesOn_21 : decode cX0_takesOn 21 = .ok (.iaload, 1) := by decide +kernel
theorem dX0_takesOn_22 : decode cX0_takesOn 22 = .ok (.invokestatic 62, 3) := by decide +kernel
theorem dX0_takesOn_25 : decode cX0_takesOn 25 = .ok (.iconst 1, 1) := by decide +kernel
theorem dX0_takesOn_26 : decode cX0_takesOn 26 = .ok (.if_icmp .ne 7, 3) := by decide +kernel
theorem dX0_takesOn_29 : decode cX0_takesOn 29 = .ok (.iconst 1, 1) := by decide +kernel
theorem dX0_takesOn_30 : decode cX0_takesOn 30 = .ok (.goto 4, 3) := by decide +kernel
theorem dX0_takesOn_33 : decode cX0_takesOn 33 = .ok (.iconst 0, 1) := by decide +kernel
theorem dX0_takesOn_34 : decode cX0_takesOn 34 = .ok (.istore_n 3, 1) := by decide +kernel
theorem dX0_takesOn_35 : decode cX0_takesOn 35 = .ok (.iload_n 3, 1) := by decide +kernel
theorem dX0_takesOn_36 : decode cX0_takesOn 36 = .ok (.ifCond .eq 15, 3) := by decide +kernel
theorem dX0_takesOn_39 : decode cX0_takesOn 39 = .ok (.iload_n 2, 1) := by decide +kernel
theorem dX0_takesOn_40 : decode cX0_takesOn 40 = .ok (.aload_n 0, 1) := by decide +kernel
theorem dX0_takesOn_41 : decode cX0_takesOn 41 = .ok (.getfield 47, 3) := by decide +kernel
theorem dX0_takesOn_44 : decode cX0_takesOn 44 = .ok (.invokestatic 109, 3) := by decide +kernel
theorem dX0_takesOn_47 : decode cX0_takesOn 47 = .ok (.isub, 1) := by decide +kernel
theorem dX0_takesOn_48 : decode cX0_takesOn 48 = .ok (.goto 4, 3) := by decide +kernel
theorem dX0_takesOn_51 : decode cX0_takesOn 51 = .ok (.iload_n 2, 1) := by decide +kernel
theorem dX0_takesOn_52 : decode cX0_takesOn 52 = .ok (.ireturn, 1) := by decide +kernel
theorem dX0_worthForMover_0 : decode cX0_worthForMover 0 = .ok (.aload_n 0, 1) := by decide +kernel
theorem dX0_worthForMover_1 : decode cX0_worthForMover 1 = .ok (.getfield 47, 3) := by decide +kernel
theorem dX0_worthForMover_4 : decode cX0_worthForMover 4 = .ok (.ifCond .ne 10, 3) := by decide +kernel
theorem dX0_worthForMover_7 : decode cX0_worthForMover 7 = .ok (.aload_n 0, 1) := by decide +kernel
theorem dX0_worthForMover_8 : decode cX0_worthForMover 8 = .ok (.getfield 53, 3) := by decide +kernel
theorem dX0_worthForMover_11 : decode cX0_worthForMover 11 = .ok (.goto 8, 3) := by decide +kernel
theorem dX0_worthForMover_14 : decode cX0_worthForMover 14 = .ok (.aload_n 0, 1) := by decide +kernel
theorem dX0_worthForMover_15 : decode cX0_worthForMover 15 = .ok (.getfield 53, 3) := by decide +kernel
theorem dX0_worthForMover_18 : decode cX0_worthForMover 18 = .ok (.ineg, 1) := by decide +kernel
theorem dX0_worthForMover_19 : decode cX0_worthForMover 19 = .ok (.ireturn, 1) := by decide +kernel
theorem dX0_gainOf_0 : decode cX0_gainOf 0 = .ok (.iload_n 1, 1) := by decide +kernel
theorem dX0_gainOf_1 : decode cX0_gainOf 1 = .ok (.invokestatic 120, 3) := by decide +kernel
theorem dX0_gainOf_4 : decode cX0_gainOf 4 = .ok (.istore_n 2, 1) := by decide +kernel
theorem dX0_gainOf_5 : decode cX0_gainOf 5 = .ok (.iload_n 1, 1) := by decide +kernel
theorem dX0_gainOf_6 : decode cX0_gainOf 6 = .ok (.invokestatic 117, 3) := by decide +kernel
theorem dX0_gainOf_9 : decode cX0_gainOf 9 = .ok (.istore_n 3, 1) := by decide +kernel
theorem dX0_gainOf_10 : decode cX0_gainOf 10 = .ok (.aload_n 0, 1) := by decide +kernel
theorem dX0_gainOf_11 : decode cX0_gainOf 11 = .ok (.iload_n 1, 1) := by decide +kernel
theorem dX0_gainOf_12 : decode cX0_gainOf 12 = .ok (.invokevirtual 123, 3) := by decide +kernel
theorem dX0_gainOf_15 : decode cX0_gainOf 15 = .ok (.istore 4, 2) := by decide +kernel
theorem dX0_gainOf_17 : decode cX0_gainOf 17 = .ok (.aload_n 0, 1) := by decide +kernel
theorem dX0_gainOf_18 : decode cX0_gainOf 18 = .ok (.getfield 19, 3) := by decide +kernel
theorem dX0_gainOf_21 : decode cX0_gainOf 21 = .ok (.iload_n 2, 1) := by decide +kernel
theorem dX0_gainOf_22 : decode cX0_gainOf 22 = .ok (.iaload, 1) := by decide +kernel
theorem dX0_gainOf_23 : decode cX0_gainOf 23 = .ok (.istore 5, 2) := by decide +kernel
theorem dX0_gainOf_25 : decode cX0_gainOf 25 = .ok (.iload_n 1, 1) := by decide +kernel
theorem dX0_gainOf_26 : decode cX0_gainOf 26 = .ok (.invokestatic 126, 3) := by decide +kernel
theorem dX0_gainOf_29 : decode cX0_gainOf 29 = .ok (.ifCond .ne 8, 3) := by decide +kernel
theorem dX0_gainOf_32 : decode cX0_gainOf 32 = .ok (.iload 5, 2) := by decide +kernel
theorem dX0_gainOf_34 : decode cX0_gainOf 34 = .ok (.goto 10, 3) := by decide +kernel
theorem dX0_gainOf_37 : decode cX0_gainOf 37 = .ok (.iload 5, 2) := by decide +kernel
theorem dX0_gainOf_39 : decode cX0_gainOf 39 = .ok (.iload_n 1, 1) := by decide +kernel
theorem dX0_gainOf_40 : decode cX0_gainOf 40 = .ok (.invokestatic 126, 3) := by decide +kernel
theorem dX0_gainOf_43 : decode cX0_gainOf 43 = .ok (.imul, 1) := by decide +kernel
theorem dX0_gainOf_44 : decode cX0_gainOf 44 = .ok (.istore 6, 2) := by decide +kernel
theorem dX0_gainOf_46 : decode cX0_gainOf 46 = .ok (.aload_n 0, 1) := by decide +kernel
theorem dX0_gainOf_47 : decode cX0_gainOf 47 = .ok (.getfield 15, 3) := by decide +kernel
theorem dX0_gainOf_50 : decode cX0_gainOf 50 = .ok (.iload 6, 2) := by decide +kernel
theorem dX0_gainOf_52 : decode cX0_gainOf 52 = .ok (.iload_n 3, 1) := by decide +kernel
theorem dX0_gainOf_53 : decode cX0_gainOf 53 = .ok (.invokevirtual 68, 3) := by decide +kernel
theorem dX0_gainOf_56 : decode cX0_gainOf 56 = .ok (.aload_n 0, 1) := by decide +kernel
theorem dX0_gainOf_57 : decode cX0_gainOf 57 = .ok (.getfield 15, 3) := by decide +kernel
theorem dX0_gainOf_60 : decode cX0_gainOf 60 = .ok (.iload 5, 2) := by decide +kernel
theorem dX0_gainOf_62 : decode cX0_gainOf 62 = .ok (.iload_n 2, 1) := by decide +kernel
theorem dX0_gainOf_63 : decode cX0_gainOf 63 = .ok (.invokevirtual 68, 3) := by decide +kernel
theorem dX0_gainOf_66 : decode cX0_gainOf 66 = .ok (.isub, 1) := by decide +kernel
theorem dX0_gainOf_67 : decode cX0_gainOf 67 = .ok (.aload_n 0, 1) := by decide +kernel
theorem dX0_gainOf_68 : decode cX0_gainOf 68 = .ok (.getfield 15, 3) := by decide +kernel
theorem dX0_gainOf_71 : decode cX0_gainOf 71 = .ok (.aload_n 0, 1) := by decide +kernel
theorem dX0_gainOf_72 : decode cX0_gainOf 72 = .ok (.getfield 19, 3) := by decide +kernel
theorem dX0_gainOf_75 : decode cX0_gainOf 75 = .ok (.iload 4, 2) := by decide +kernel
theorem dX0_gainOf_77 : decode cX0_gainOf 77 = .ok (.iaload, 1) := by decide +kernel
theorem dX0_gainOf_78 : decode cX0_gainOf 78 = .ok (.iload 4, 2) := by decide +kernel
theorem dX0_gainOf_80 : decode cX0_gainOf 80 = .ok (.invokevirtual 68, 3) := by decide +kernel
theorem dX0_gainOf_83 : decode cX0_gainOf 83 = .ok (.isub, 1) := by decide +kernel
theorem dX0_gainOf_84 : decode cX0_gainOf 84 = .ok (.istore 7, 2) := by decide +kernel
theorem dX0_gainOf_86 : decode cX0_gainOf 86 = .ok (.aload_n 0, 1) := by decide +kernel
theorem dX0_gainOf_87 : decode cX0_gainOf 87 = .ok (.getfield 47, 3) := by decide +kernel
theorem dX0_gainOf_90 : decode cX0_gainOf 90 = .ok (.ifCond .ne 8, 3) := by decide +kernel
theorem dX0_gainOf_93 : decode cX0_gainOf 93 = .ok (.iload 7, 2) := by decide +kernel
theorem dX0_gainOf_95 : decode cX0_gainOf 95 = .ok (.goto 6, 3) := by decide +kernel
theorem dX0_gainOf_98 : decode cX0_gainOf 98 = .ok (.iload 7, 2) := by decide +kernel
theorem dX0_gainOf_100 : decode cX0_gainOf 100 = .ok (.ineg, 1) := by decide +kernel
theorem dX0_gainOf_101 : decode cX0_gainOf 101 = .ok (.ireturn, 1) := by decide +kernel
theorem dX0_isFifty_0 : decode cX0_isFifty 0 = .ok (.aload_n 0, 1) := by decide +kernel
theorem dX0_isFifty_1 : decode cX0_isFifty 1 = .ok (.getfield 50, 3) := by decide +kernel
theorem dX0_isFifty_4 : decode cX0_isFifty 4 = .ok (.bipush 100, 2) := by decide +kernel
theorem dX0_isFifty_6 : decode cX0_isFifty 6 = .ok (.if_icmp .lt 7, 3) := by decide +kernel
theorem dX0_isFifty_9 : decode cX0_isFifty 9 = .ok (.iconst 1, 1) := by decide +kernel
theorem dX0_isFifty_10 : decode cX0_isFifty 10 = .ok (.goto 4, 3) := by decide +kernel
theorem dX0_isFifty_13 : decode cX0_isFifty 13 = .ok (.iconst 0, 1) := by decide +kernel
theorem dX0_isFifty_14 : decode cX0_isFifty 14 = .ok (.ireturn, 1) := by decide +kernel
theorem dX0_isBare_0 : decode cX0_isBare 0 = .ok (.aload_n 0, 1) := by decide +kernel
theorem dX0_isBare_1 : decode cX0_isBare 1 = .ok (.getfield 23, 3) := by decide +kernel
theorem dX0_isBare_4 : decode cX0_isBare 4 = .ok (.iconst 1, 1) := by decide +kernel
theorem dX0_isBare_5 : decode cX0_isBare 5 = .ok (.laload, 1) := by decide +kernel
theorem dX0_isBare_6 : decode cX0_isBare 6 = .ok (.aload_n 0, 1) := by decide +kernel
theorem dX0_isBare_7 : decode cX0_isBare 7 = .ok (.getfield 23, 3) := by decide +kernel
theorem dX0_isBare_10 : decode cX0_isBare 10 = .ok (.iconst 4, 1) := by decide +kernel
theorem dX0_isBare_11 : decode cX0_isBare 11 = .ok (.laload, 1) := by decide +kernel
theorem dX0_isBare_12 : decode cX0_isBare 12 = .ok (.lor, 1) := by decide +kernel
theorem dX0_isBare_13 : decode cX0_isBare 13 = .ok (.aload_n 0, 1) := by decide +kernel
theorem dX0_isBare_14 : decode cX0_isBare 14 = .ok (.getfield 23, 3) := by decide +kernel
theorem dX0_isBare_17 : decode cX0_isBare 17 = .ok (.iconst 5, 1) := by decide +kernel
theorem dX0_isBare_18 : decode cX0_isBare 18 = .ok (.laload, 1) := by decide +kernel
theorem dX0_isBare_19 : decode cX0_isBare 19 = .ok (.lor, 1) := by decide +kernel
theorem dX0_isBare_20 : decode cX0_isBare 20 = .ok (.lconst 0, 1) := by decide +kernel
theorem dX0_isBare_21 : decode cX0_isBare 21 = .ok (.lcmp, 1) := by decide +kernel
theorem dX0_isBare_22 : decode cX0_isBare 22 = .ok (.ifCond .eq 5, 3) := by decide +kernel
theorem dX0_isBare_25 : decode cX0_isBare 25 = .ok (.iconst 0, 1) := by decide +kernel
theorem dX0_isBare_26 : decode cX0_isBare 26 = .ok (.ireturn, 1) := by decide +kernel
theorem dX0_isBare_27 : decode cX0_isBare 27 = .ok (.aload_n 0, 1) := by decide +kernel
theorem dX0_isBare_28 : decode cX0_isBare 28 = .ok (.getfield 23, 3) := by decide +kernel
theorem dX0_isBare_31 : decode cX0_isBare 31 = .ok (.iconst 2, 1) := by decide +kernel
theorem dX0_isBare_32 : decode cX0_isBare 32 = .ok (.laload, 1) := by decide +kernel
theorem dX0_isBare_33 : decode cX0_isBare 33 = .ok (.lconst 0, 1) := by decide +kernel
theorem dX0_isBare_34 : decode cX0_isBare 34 = .ok (.lcmp, 1) := by decide +kernel
theorem dX0_isBare_35 : decode cX0_isBare 35 = .ok (.ifCond .eq 33, 3) := by decide +kernel
theorem dX0_isBare_38 : decode cX0_isBare 38 = .ok (.aload_n 0, 1) := by decide +kernel
theorem dX0_isBare_39 : decode cX0_isBare 39 = .ok (.getfield 23, 3) := by decide +kernel
theorem dX0_isBare_42 : decode cX0_isBare 42 = .ok (.iconst 3, 1) := by decide +kernel
theorem dX0_isBare_43 : decode cX0_isBare 43 = .ok (.laload, 1) := by decide +kernel
theorem dX0_isBare_44 : decode cX0_isBare 44 = .ok (.lconst 0, 1) := by decide +kernel
theorem dX0_isBare_45 : decode cX0_isBare 45 = .ok (.lcmp, 1) := by decide +kernel
theorem dX0_isBare_46 : decode cX0_isBare 46 = .ok (.ifCond .ne 20, 3) := by decide +kernel
theorem dX0_isBare_49 : decode cX0_isBare 49 = .ok (.aload_n 0, 1) := by decide +kernel
theorem dX0_isBare_50 : decode cX0_isBare 50 = .ok (.getfield 23, 3) := by decide +kernel
theorem dX0_isBare_53 : decode cX0_isBare 53 = .ok (.iconst 2, 1) := by decide +kernel
theorem dX0_isBare_54 : decode cX0_isBare 54 = .ok (.laload, 1) := by decide +kernel
theorem dX0_isBare_55 : decode cX0_isBare 55 = .ok (.invokestatic 112, 3) := by decide +kernel
theorem dX0_isBare_58 : decode cX0_isBare 58 = .ok (.iconst 1, 1) := by decide +kernel
theorem dX0_isBare_59 : decode cX0_isBare 59 = .ok (.if_icmp .ne 7, 3) := by decide +kernel
theorem dX0_isBare_62 : decode cX0_isBare 62 = .ok (.iconst 1, 1) := by decide +kernel
theorem dX0_isBare_63 : decode cX0_isBare 63 = .ok (.goto 4, 3) := by decide +kernel
theorem dX0_isBare_66 : decode cX0_isBare 66 = .ok (.iconst 0, 1) := by decide +kernel
theorem dX0_isBare_67 : decode cX0_isBare 67 = .ok (.ireturn, 1) := by decide +kernel
theorem dX0_isBare_68 : decode cX0_isBare 68 = .ok (.aload_n 0, 1) := by decide +kernel
theorem dX0_isBare_69 : decode cX0_isBare 69 = .ok (.getfield 23, 3) := by decide +kernel
theorem dX0_isBare_72 : decode cX0_isBare 72 = .ok (.iconst 3, 1) := by decide +kernel
theorem dX0_isBare_73 : decode cX0_isBare 73 = .ok (.laload, 1) := by decide +kernel
theorem dX0_isBare_74 : decode cX0_isBare 74 = .ok (.ldc2_w 129, 3) := by decide +kernel
theorem dX0_isBare_77 : decode cX0_isBare 77 = .ok (.land, 1) := by decide +kernel
theorem dX0_isBare_78 : decode cX0_isBare 78 = .ok (.lconst 0, 1) := by decide +kernel
theorem dX0_isBare_79 : decode cX0_isBare 79 = .ok (.lcmp, 1) := by decide +kernel
theorem dX0_isBare_80 : decode cX0_isBare 80 = .ok (.ifCond .eq 18, 3) := by decide +kernel
theorem dX0_isBare_83 : decode cX0_isBare 83 = .ok (.aload_n 0, 1) := by decide +kernel
theorem dX0_isBare_84 : decode cX0_isBare 84 = .ok (.getfield 23, 3) := by decide +kernel
theorem dX0_isBare_87 : decode cX0_isBare 87 = .ok (.iconst 3, 1) := by decide +kernel
theorem dX0_isBare_88 : decode cX0_isBare 88 = .ok (.laload, 1) := by decide +kernel
theorem dX0_isBare_89 : decode cX0_isBare 89 = .ok (.ldc2_w 131, 3) := by decide +kernel
theorem dX0_isBare_92 : decode cX0_isBare 92 = .ok (.land, 1) := by decide +kernel
theorem dX0_isBare_93 : decode cX0_isBare 93 = .ok (.lconst 0, 1) := by decide +kernel
theorem dX0_isBare_94 : decode cX0_isBare 94 = .ok (.lcmp, 1) := by decide +kernel
theorem dX0_isBare_95 : decode cX0_isBare 95 = .ok (.ifCond .ne 7, 3) := by decide +kernel
theorem dX0_isBare_98 : decode cX0_isBare 98 = .ok (.iconst 1, 1) := by decide +kernel
theorem dX0_isBare_99 : decode cX0_isBare 99 = .ok (.goto 4, 3) := by decide +kernel
theorem dX0_isBare_102 : decode cX0_isBare 102 = .ok (.iconst 0, 1) := by decide +kernel
theorem dX0_isBare_103 : decode cX0_isBare 103 = .ok (.ireturn, 1) := by decide +kernel
theorem dX1_of_0 : decode cX1_of 0 = .ok (.aload_n 0, 1) := by decide +kernel
theorem dX1_of_1 : decode cX1_of 1 = .ok (.iconst 0, 1) := by decide +kernel
theorem dX1_of_2 : decode cX1_of 2 = .ok (.invokestatic 9, 3) := by decide +kernel
theorem dX1_of_5 : decode cX1_of 5 = .ok (.ifCond .ne 11, 3) := by decide +kernel
theorem dX1_of_8 : decode cX1_of 8 = .ok (.aload_n 0, 1) := by decide +kernel
theorem dX1_of_9 : decode cX1_of 9 = .ok (.iconst 1, 1) := by decide +kernel
theorem dX1_of_10 : decode cX1_of 10 = .ok (.invokestatic 9, 3) := by decide +kernel
theorem dX1_of_13 : decode cX1_of 13 = .ok (.ifCond .eq 5, 3) := by decide +kernel
theorem dX1_of_16 : decode cX1_of 16 = .ok (.iconst 2, 1) := by decide +kernel
theorem dX1_of_17 : decode cX1_of 17 = .ok (.ireturn, 1) := by decide +kernel
theorem dX1_of_18 : decode cX1_of 18 = .ok (.aload_n 0, 1) := by decide +kernel
theorem dX1_of_19 : decode cX1_of 19 = .ok (.getfield 15, 3) := by decide +kernel
theorem dX1_of_22 : decode cX1_of 22 = .ok (.iconst 1, 1) := by decide +kernel
theorem dX1_of_23 : decode cX1_of 23 = .ok (.laload, 1) := by decide +kernel
theorem dX1_of_24 : decode cX1_of 24 = .ok (.ldc2_w 21, 3) := by decide +kernel
theorem dX1_of_27 : decode cX1_of 27 = .ok (.land, 1) := by decide +kernel
theorem dX1_of_28 : decode cX1_of 28 = .ok (.lconst 0, 1) := by decide +kernel
theorem dX1_of_29 : decode cX1_of 29 = .ok (.lcmp, 1) := by decide +kernel
theorem dX1_of_30 : decode cX1_of 30 = .ok (.ifCond .eq 5, 3) := by decide +kernel
theorem dX1_of_33 : decode cX1_of 33 = .ok (.iconst 3, 1) := by decide +kernel
theorem dX1_of_34 : decode cX1_of 34 = .ok (.ireturn, 1) := by decide +kernel
theorem dX1_of_35 : decode cX1_of 35 = .ok (.aload_n 0, 1) := by decide +kernel
theorem dX1_of_36 : decode cX1_of 36 = .ok (.iconst 1, 1) := by decide +kernel
theorem dX1_of_37 : decode cX1_of 37 = .ok (.aload_n 0, 1) := by decide +kernel
theorem dX1_of_38 : decode cX1_of 38 = .ok (.getfield 23, 3) := by decide +kernel
theorem dX1_of_41 : decode cX1_of 41 = .ok (.isub, 1) := by decide +kernel
theorem dX1_of_42 : decode cX1_of 42 = .ok (.invokevirtual 27, 3) := by decide +kernel
theorem dX1_of_45 : decode cX1_of 45 = .ok (.ifCond .eq 5, 3) := by decide +kernel
theorem dX1_of_48 : decode cX1_of 48 = .ok (.iconst 4, 1) := by decide +kernel
theorem dX1_of_49 : decode cX1_of 49 = .ok (.ireturn, 1) := by decide +kernel
theorem dX1_of_50 : decode cX1_of 50 = .ok (.aload_n 0, 1) := by decide +kernel
theorem dX1_of_51 : decode cX1_of 51 = .ok (.iconst 0, 1) := by decide +kernel
theorem dX1_of_52 : decode cX1_of 52 = .ok (.invokestatic 31, 3) := by decide +kernel
theorem dX1_of_55 : decode cX1_of 55 = .ok (.ifCond .ne 11, 3) := by decide +kernel
theorem dX1_of_58 : decode cX1_of 58 = .ok (.aload_n 0, 1) := by decide +kernel
theorem dX1_of_59 : decode cX1_of 59 = .ok (.iconst 1, 1) := by decide +kernel
theorem dX1_of_60 : decode cX1_of 60 = .ok (.invokestatic 31, 3) := by decide +kernel
theorem dX1_of_63 : decode cX1_of 63 = .ok (.ifCond .eq 5, 3) := by decide +kernel
theorem dX1_of_66 : decode cX1_of 66 = .ok (.iconst 5, 1) := by decide +kernel
theorem dX1_of_67 : decode cX1_of 67 = .ok (.ireturn, 1) := by decide +kernel
theorem dX1_of_68 : decode cX1_of 68 = .ok (.aload_n 0, 1) := by decide +kernel
theorem dX1_of_69 : decode cX1_of 69 = .ok (.getfield 34, 3) := by decide +kernel
theorem dX1_of_72 : decode cX1_of 72 = .ok (.iconst (-1), 1) := by decide +kernel
theorem dX1_of_73 : decode cX1_of 73 = .ok (.if_icmp .eq 15, 3) := by decide +kernel
theorem dX1_of_76 : decode cX1_of 76 = .ok (.aload_n 0, 1) := by decide +kernel
theorem dX1_of_77 : decode cX1_of 77 = .ok (.invokestatic 37, 3) := by decide +kernel
theorem dX1_of_80 : decode cX1_of 80 = .ok (.ifCond .eq 8, 3) := by decide +kernel
theorem dX1_of_83 : decode cX1_of 83 = .ok (.bipush 6, 2) := by decide +kernel
theorem dX1_of_85 : decode cX1_of 85 = .ok (.goto 4, 3) := by decide +kernel
theorem dX1_of_88 : decode cX1_of 88 = .ok (.iconst 0, 1) := by decide +kernel
theorem dX1_of_89 : decode cX1_of 89 = .ok (.ireturn, 1) := by decide +kernel
theorem dX1_hasWrongCount_0 : decode cX1_hasWrongCount 0 = .ok (.aload_n 0, 1) := by decide +kernel
theorem dX1_hasWrongCount_1 : decode cX1_hasWrongCount 1 = .ok (.getfield 41, 3) := by decide +kernel
theorem dX1_hasWrongCount_4 : decode cX1_hasWrongCount 4 = .ok (.iload_n 1, 1) := by decide +kernel
theorem dX1_hasWrongCount_5 : decode cX1_hasWrongCount 5 = .ok (.laload, 1) := by decide +kernel
theorem dX1_hasWrongCount_6 : decode cX1_hasWrongCount 6 = .ok (.lstore_n 2, 1) := by decide +kernel
theorem dX1_hasWrongCount_7 : decode cX1_hasWrongCount 7 = .ok (.lload_n 2, 1) := by decide +kernel
theorem dX1_hasWrongCount_8 : decode cX1_hasWrongCount 8 = .ok (.aload_n 0, 1) := by decide +kernel
theorem dX1_hasWrongCount_9 : decode cX1_hasWrongCount 9 = .ok (.getfield 15, 3) := by decide +kernel
theorem dX1_hasWrongCount_12 : decode cX1_hasWrongCount 12 = .ok (.bipush 6, 2) := by decide +kernel
theorem dX1_hasWrongCount_14 : decode cX1_hasWrongCount 14 = .ok (.laload, 1) := by decide +kernel
theorem dX1_hasWrongCount_15 : decode cX1_hasWrongCount 15 = .ok (.land, 1) := by decide +kernel
theorem dX1_hasWrongCount_16 : decode cX1_hasWrongCount 16 = .ok (.invokestatic 44, 3) := by decide +kernel
theorem dX1_hasWrongCount_19 : decode cX1_hasWrongCount 19 = .ok (.iconst 1, 1) := by decide +kernel
theorem dX1_hasWrongCount_20 : decode cX1_hasWrongCount 20 = .ok (.if_icmp .ne 12, 3) := by decide +kernel
theorem dX1_hasWrongCount_23 : decode cX1_hasWrongCount 23 = .ok (.lload_n 2, 1) := by decide +kernel
theorem dX1_hasWrongCount_24 : decode cX1_hasWrongCount 24 = .ok (.invokestatic 44, 3) := by decide +kernel
theorem dX1_hasWrongCount_27 : decode cX1_hasWrongCount 27 = .ok (.bipush 16, 2) := by decide +kernel
theorem dX1_hasWrongCount_29 : decode cX1_hasWrongCount 29 = .ok (.if_icmp .le 7, 3) := by decide +kernel
theorem dX1_hasWrongCount_32 : decode cX1_hasWrongCount 32 = .ok (.iconst 1, 1) := by decide +kernel
theorem dX1_hasWrongCount_33 : decode cX1_hasWrongCount 33 = .ok (.goto 4, 3) := by decide +kernel
theorem dX1_hasWrongCount_36 : decode cX1_hasWrongCount 36 = .ok (.iconst 0, 1) := by decide +kernel
theorem dX1_hasWrongCount_37 : decode cX1_hasWrongCount 37 = .ok (.ireturn, 1) := by decide +kernel
theorem dX1_hasWrongRight_0 : decode cX1_hasWrongRight 0 = .ok (.aload_n 0, 1) := by decide +kernel
theorem dX1_hasWrongRight_1 : decode cX1_hasWrongRight 1 = .ok (.getfield 50, 3) := by decide +kernel
theorem dX1_hasWrongRight_4 : decode cX1_hasWrongRight 4 = .ok (.iconst 2, 1) := by decide +kernel
theorem dX1_hasWrongRight_5 : decode cX1_hasWrongRight 5 = .ok (.iload_n 1, 1) := by decide +kernel
theorem dX1_hasWrongRight_6 : decode cX1_hasWrongRight 6 = .ok (.imul, 1) := by decide +kernel
theorem dX1_hasWrongRight_7 : decode cX1_hasWrongRight 7 = .ok (.ishr, 1) := by decide +kernel
theorem dX1_hasWrongRight_8 : decode cX1_hasWrongRight 8 = .ok (.iconst 3, 1) := by decide +kernel
theorem dX1_hasWrongRight_9 : decode cX1_hasWrongRight 9 = .ok (.iand, 1) := by decide +kernel
theorem dX1_hasWrongRight_10 : decode cX1_hasWrongRight 10 = .ok (.istore_n 2, 1) := by decide +kernel
theorem dX1_hasWrongRight_11 : decode cX1_hasWrongRight 11 = .ok (.bipush 56, 2) := by decide +kernel
theorem dX1_hasWrongRight_13 : decode cX1_hasWrongRight 13 = .ok (.iload_n 1, 1) := by decide +kernel
theorem dX1_hasWrongRight_14 : decode cX1_hasWrongRight 14 = .ok (.imul, 1) := by decide +kernel
theorem dX1_hasWrongRight_15 : decode cX1_hasWrongRight 15 = .ok (.istore_n 3, 1) := by decide +kernel
theorem dX1_hasWrongRight_16 : decode cX1_hasWrongRight 16 = .ok (.iload_n 1, 1) := by decide +kernel
theorem dX1_hasWrongRight_17 : decode cX1_hasWrongRight 17 = .ok (.ifCond .ne 7, 3) := by decide +kernel
theorem dX1_hasWrongRight_20 : decode cX1_hasWrongRight 20 = .ok (.iconst 1, 1) := by decide +kernel
theorem dX1_hasWrongRight_21 : decode cX1_hasWrongRight 21 = .ok (.goto 4, 3) := by decide +kernel
theorem dX1_hasWrongRight_24 : decode cX1_hasWrongRight 24 = .ok (.iconst (-1), 1) := by decide +kernel
theorem dX1_hasWrongRight_25 : decode cX1_hasWrongRight 25 = .ok (.istore 4, 2) := by decide +kernel
theorem dX1_hasWrongRight_27 : decode cX1_hasWrongRight 27 = .ok (.iload_n 2, 1) := by decide +kernel
theorem dX1_hasWrongRight_28 : decode cX1_hasWrongRight 28 = .ok (.ifCond .eq 19, 3) := by decide +kernel
theorem dX1_hasWrongRight_31 : decode cX1_hasWrongRight 31 = .ok (.aload_n 0, 1) := by decide +kernel
theorem dX1_hasWrongRight_32 : decode cX1_hasWrongRight 32 = .ok (.getfield 53, 3) := by decide +kernel
theorem dX1_hasWrongRight_35 : decode cX1_hasWrongRight 35 = .ok (.iload_n 3, 1) := by decide +kernel
theorem dX1_hasWrongRight_36 : decode cX1_hasWrongRight 36 = .ok (.iconst 4, 1) := by decide +kernel
theorem dX1_hasWrongRight_37 : decode cX1_hasWrongRight 37 = .ok (.iadd, 1) := by decide +kernel
theorem dX1_hasWrongRight_38 : decode cX1_hasWrongRight 38 = .ok (.iaload, 1) := by decide +kernel
theorem dX1_hasWrongRight_39 : decode cX1_hasWrongRight 39 = .ok (.iload 4, 2) := by decide +kernel
theorem dX1_hasWrongRight_41 : decode cX1_hasWrongRight 41 = .ok (.bipush 6, 2) := by decide +kernel
theorem dX1_hasWrongRight_43 : decode cX1_hasWrongRight 43 = .ok (.imul, 1) := by decide +kernel
theorem dX1_hasWrongRight_44 : decode cX1_hasWrongRight 44 = .ok (.if_icmp .ne 44, 3) := by decide +kernel
theorem dX1_hasWrongRight_47 : decode cX1_hasWrongRight 47 = .ok (.iload_n 2, 1) := by decide +kernel
theorem dX1_hasWrongRight_48 : decode cX1_hasWrongRight 48 = .ok (.iconst 1, 1) := by decide +kernel
theorem dX1_hasWrongRight_49 : decode cX1_hasWrongRight 49 = .ok (.iand, 1) := by decide +kernel
theorem dX1_hasWrongRight_50 : decode cX1_hasWrongRight 50 = .ok (.ifCond .eq 19, 3) := by decide +kernel
theorem dX1_hasWrongRight_53 : decode cX1_hasWrongRight 53 = .ok (.aload_n 0, 1) := by decide +kernel
theorem dX1_hasWrongRight_54 : decode cX1_hasWrongRight 54 = .ok (.getfield 53, 3) := by decide +kernel
theorem dX1_hasWrongRight_57 : decode cX1_hasWrongRight 57 = .ok (.iload_n 3, 1) := by decide +kernel
theorem dX1_hasWrongRight_58 : decode cX1_hasWrongRight 58 = .ok (.bipush 7, 2) := by decide +kernel
theorem dX1_hasWrongRight_60 : decode cX1_hasWrongRight 60 = .ok (.iadd, 1) := by decide +kernel
theorem dX1_hasWrongRight_61 : decode cX1_hasWrongRight 61 = .ok (.iaload, 1) := by decide +kernel
theorem dX1_hasWrongRight_62 : decode cX1_hasWrongRight 62 = .ok (.iload 4, 2) := by decide +kernel
theorem dX1_hasWrongRight_64 : decode cX1_hasWrongRight 64 = .ok (.iconst 4, 1) := by decide +kernel
theorem dX1_hasWrongRight_65 : decode cX1_hasWrongRight 65 = .ok (.imul, 1) := by decide +kernel
theorem dX1_hasWrongRight_66 : decode cX1_hasWrongRight 66 = .ok (.if_icmp .ne 22, 3) := by decide +kernel
theorem dX1_hasWrongRight_69 : decode cX1_hasWrongRight 69 = .ok (.iload_n 2, 1) := by decide +kernel
theorem dX1_hasWrongRight_70 : decode cX1_hasWrongRight 70 = .ok (.iconst 2, 1) := by decide +kernel
theorem dX1_hasWrongRight_71 : decode cX1_hasWrongRight 71 = .ok (.iand, 1) := by decide +kernel
theorem dX1_hasWrongRight_72 : decode cX1_hasWrongRight 72 = .ok (.ifCond .eq 20, 3) := by decide +kernel
theorem dX1_hasWrongRight_75 : decode cX1_hasWrongRight 75 = .ok (.aload_n 0, 1) := by decide +kernel
theorem dX1_hasWrongRight_76 : decode cX1_hasWrongRight 76 = .ok (.getfield 53, 3) := by decide +kernel
theorem dX1_hasWrongRight_79 : decode cX1_hasWrongRight 79 = .ok (.iload_n 3, 1) := by decide +kernel
theorem dX1_hasWrongRight_80 : decode cX1_hasWrongRight 80 = .ok (.iaload, 1) := by decide +kernel
theorem dX1_hasWrongRight_81 : decode cX1_hasWrongRight 81 = .ok (.iload 4, 2) := by decide +kernel
theorem dX1_hasWrongRight_83 : decode cX1_hasWrongRight 83 = .ok (.iconst 4, 1) := by decide +kernel
theorem dX1_hasWrongRight_84 : decode cX1_hasWrongRight 84 = .ok (.imul, 1) := by decide +kernel
theorem dX1_hasWrongRight_85 : decode cX1_hasWrongRight 85 = .ok (.if_icmp .eq 7, 3) := by decide +kernel
theorem dX1_hasWrongRight_88 : decode cX1_hasWrongRight 88 = .ok (.iconst 1, 1) := by decide +kernel
theorem dX1_hasWrongRight_89 : decode cX1_hasWrongRight 89 = .ok (.goto 4, 3) := by decide +kernel
theorem dX1_hasWrongRight_92 : decode cX1_hasWrongRight 92 = .ok (.iconst 0, 1) := by decide +kernel
theorem dX1_hasWrongRight_93 : decode cX1_hasWrongRight 93 = .ok (.ireturn, 1) := by decide +kernel
theorem dX1_hasWrongPassed_0 : decode cX1_hasWrongPassed 0 = .ok (.aload_n 0, 1) := by decide +kernel
theorem dX1_hasWrongPassed_1 : decode cX1_hasWrongPassed 1 = .ok (.getfield 34, 3) := by decide +kernel
theorem dX1_hasWrongPassed_4 : decode cX1_hasWrongPassed 4 = .ok (.istore_n 1, 1) := by decide +kernel
theorem dX1_hasWrongPassed_5 : decode cX1_hasWrongPassed 5 = .ok (.aload_n 0, 1) := by decide +kernel
theorem dX1_hasWrongPassed_6 : decode cX1_hasWrongPassed 6 = .ok (.getfield 23, 3) := by decide +kernel
theorem dX1_hasWrongPassed_9 : decode cX1_hasWrongPassed 9 = .ok (.invokestatic 57, 3) := by decide +kernel
theorem dX1_hasWrongPassed_12 : decode cX1_hasWrongPassed 12 = .ok (.istore_n 2, 1) := by decide +kernel
theorem dX1_hasWrongPassed_13 : decode cX1_hasWrongPassed 13 = .ok (.aload_n 0, 1) := by decide +kernel
theorem dX1_hasWrongPassed_14 : decode cX1_hasWrongPassed 14 = .ok (.getfield 23, 3) := by decide +kernel
theorem dX1_hasWrongPassed_17 : decode cX1_hasWrongPassed 17 = .ok (.ifCond .ne 7, 3) := by decide +kernel
theorem dX1_hasWrongPassed_20 : decode cX1_hasWrongPassed 20 = .ok (.iconst (-1), 1) := by decide +kernel
theorem dX1_hasWrongPassed_21 : decode cX1_hasWrongPassed 21 = .ok (.goto 4, 3) := by decide +kernel
theorem dX1_hasWrongPassed_24 : decode cX1_hasWrongPassed 24 = .ok (.iconst 1, 1) := by decide +kernel
theorem dX1_hasWrongPassed_25 : decode cX1_hasWrongPassed 25 = .ok (.istore_n 3, 1) := by decide +kernel
theorem dX1_hasWrongPassed_26 : decode cX1_hasWrongPassed 26 = .ok (.iload_n 1, 1) := by decide +kernel
theorem dX1_hasWrongPassed_27 : decode cX1_hasWrongPassed 27 = .ok (.bipush 8, 2) := by decide +kernel
theorem dX1_hasWrongPassed_29 : decode cX1_hasWrongPassed 29 = .ok (.idiv, 1) := by decide +kernel
theorem dX1_hasWrongPassed_30 : decode cX1_hasWrongPassed 30 = .ok (.aload_n 0, 1) := by decide +kernel
theorem dX1_hasWrongPassed_31 : decode cX1_hasWrongPassed 31 = .ok (.getfield 23, 3) := by decide +kernel
theorem dX1_hasWrongPassed_34 : decode cX1_hasWrongPassed 34 = .ok (.ifCond .ne 7, 3) := by decide +kernel
theorem dX1_hasWrongPassed_37 : decode cX1_hasWrongPassed 37 = .ok (.iconst 5, 1) := by decide +kernel
theorem dX1_hasWrongPassed_38 : decode cX1_hasWrongPassed 38 = .ok (.goto 4, 3) := by decide +kernel
theorem dX1_hasWrongPassed_41 : decode cX1_hasWrongPassed 41 = .ok (.iconst 2, 1) := by decide +kernel
theorem dX1_hasWrongPassed_42 : decode cX1_hasWrongPassed 42 = .ok (.if_icmp .ne 35, 3) := by decide +kernel
theorem dX1_hasWrongPassed_45 : decode cX1_hasWrongPassed 45 = .ok (.aload_n 0, 1) := by decide +kernel
theorem dX1_hasWrongPassed_46 : decode cX1_hasWrongPassed 46 = .ok (.getfield 53, 3) := by decide +kernel
theorem dX1_hasWrongPassed_49 : decode cX1_hasWrongPassed 49 = .ok (.iload_n 1, 1) := by decide +kernel
theorem dX1_hasWrongPassed_50 : decode cX1_hasWrongPassed 50 = .ok (.iaload, 1) := by decide +kernel
theorem dX1_hasWrongPassed_51 : decode cX1_hasWrongPassed 51 = .ok (.ifCond .ne 26, 3) := by decide +kernel
theorem dX1_hasWrongPassed_54 : decode cX1_hasWrongPassed 54 = .ok (.aload_n 0, 1) := by decide +kernel
theorem dX1_hasWrongPassed_55 : decode cX1_hasWrongPassed 55 = .ok (.getfield 53, 3) := by decide +kernel
theorem dX1_hasWrongPassed_58 : decode cX1_hasWrongPassed 58 = .ok (.iload_n 1, 1) := by decide +kernel
theorem dX1_hasWrongPassed_59 : decode cX1_hasWrongPassed 59 = .ok (.iload_n 2, 1) := by decide +kernel
theorem dX1_hasWrongPassed_60 : decode cX1_hasWrongPassed 60 = .ok (.iadd, 1) := by decide +kernel
theorem dX1_hasWrongPassed_61 : decode cX1_hasWrongPassed 61 = .ok (.iaload, 1) := by decide +kernel
theorem dX1_hasWrongPassed_62 : decode cX1_hasWrongPassed 62 = .ok (.ifCond .ne 15, 3) := by decide +kernel
theorem dX1_hasWrongPassed_65 : decode cX1_hasWrongPassed 65 = .ok (.aload_n 0, 1) := by decide +kernel
theorem dX1_hasWrongPassed_66 : decode cX1_hasWrongPassed 66 = .ok (.getfield 53, 3) := by decide +kernel
theorem dX1_hasWrongPassed_69 : decode cX1_hasWrongPassed 69 = .ok (.iload_n 1, 1) := by decide +kernel
theorem dX1_hasWrongPassed_70 : decode cX1_hasWrongPassed 70 = .ok (.iload_n 2, 1) := by decide +kernel
theorem dX1_hasWrongPassed_71 : decode cX1_hasWrongPassed 71 = .ok (.isub, 1) := by decide +kernel
theorem dX1_hasWrongPassed_72 : decode cX1_hasWrongPassed 72 = .ok (.iaload, 1) := by decide +kernel
theorem dX1_hasWrongPassed_73 : decode cX1_hasWrongPassed 73 = .ok (.iload_n 3, 1) := by decide +kernel
theorem dX1_hasWrongPassed_74 : decode cX1_hasWrongPassed 74 = .ok (.if_icmp .eq 7, 3) := by decide +kernel
theorem dX1_hasWrongPassed_77 : decode cX1_hasWrongPassed 77 = .ok (.iconst 1, 1) := by decide +kernel
theorem dX1_hasWrongPassed_78 : decode cX1_hasWrongPassed 78 = .ok (.goto 4, 3) := by decide +kernel
theorem dX1_hasWrongPassed_81 : decode cX1_hasWrongPassed 81 = .ok (.iconst 0, 1) := by decide +kernel
theorem dX1_hasWrongPassed_82 : decode cX1_hasWrongPassed 82 = .ok (.ireturn, 1) := by decide +kernel
theorem dX2_init_0 : decode cX2_init 0 = .ok (.aload_n 0, 1) := by decide +kernel
theorem dX2_init_1 : decode cX2_init 1 = .ok (.invokespecial 3, 3) := by decide +kernel
theorem dX2_init_4 : decode cX2_init 4 = .ok (.aload_n 0, 1) := by decide +kernel
theorem dX2_init_5 : decode cX2_init 5 = .ok (.aload_n 1, 1) := by decide +kernel
theorem dX2_init_6 : decode cX2_init 6 = .ok (.putfield 9, 3) := by decide +kernel
theorem dX2_init_9 : decode cX2_init 9 = .ok (.aload_n 0, 1) := by decide +kernel
theorem dX2_init_10 : decode cX2_init 10 = .ok (.aload_n 2, 1) := by decide +kernel
theorem dX2_init_11 : decode cX2_init 11 = .ok (.putfield 15, 3) := by decide +kernel
theorem dX2_init_14 : decode cX2_init 14 = .ok (.aload_n 0, 1) := by decide +kernel
theorem dX2_init_15 : decode cX2_init 15 = .ok (.bipush 16, 2) := by decide +kernel
theorem dX2_init_17 : decode cX2_init 17 = .ok (.newarray .int, 2) := by decide +kernel
theorem dX2_init_19 : decode cX2_init 19 = .ok (.putfield 19, 3) := by decide +kernel
theorem dX2_init_22 : decode cX2_init 22 = .ok (.aload_n 0, 1) := by decide +kernel
theorem dX2_init_23 : decode cX2_init 23 = .ok (.bipush 16, 2) := by decide +kernel
theorem dX2_init_25 : decode cX2_init 25 = .ok (.newarray .long, 2) := by decide +kernel
theorem dX2_init_27 : decode cX2_init 27 = .ok (.putfield 23, 3) := by decide +kernel
theorem dX2_init_30 : decode cX2_init 30 = .ok (.return_, 1) := by decide +kernel
theorem dX2_survey_0 : decode cX2_survey 0 = .ok (.aload_n 0, 1) := by decide +kernel
theorem dX2_survey_1 : decode cX2_survey 1 = .ok (.invokevirtual 27, 3) := by decide +kernel
theorem dX2_survey_4 : decode cX2_survey 4 = .ok (.aload_n 0, 1) := by decide +kernel
theorem dX2_survey_5 : decode cX2_survey 5 = .ok (.aload_n 0, 1) := by decide +kernel
theorem dX2_survey_6 : decode cX2_survey 6 = .ok (.getfield 9, 3) := by decide +kernel
theorem dX2_survey_9 : decode cX2_survey 9 = .ok (.invokevirtual 30, 3) := by decide +kernel
theorem dX2_survey_12 : decode cX2_survey 12 = .ok (.putfield 36, 3) := by decide +kernel
theorem dX2_survey_15 : decode cX2_survey 15 = .ok (.aload_n 0, 1) := by decide +kernel
theorem dX2_survey_16 : decode cX2_survey 16 = .ok (.getfield 39, 3) := by decide +kernel
theorem dX2_survey_19 : decode cX2_survey 19 = .ok (.lstore_n 1, 1) := by decide +kernel
theorem dX2_survey_20 : decode cX2_survey 20 = .ok (.aload_n 0, 1) := by decide +kernel
theorem dX2_survey_21 : decode cX2_survey 21 = .ok (.getfield 39, 3) := by decide +kernel
theorem dX2_survey_24 : decode cX2_survey 24 = .ok (.invokestatic 42, 3) := by decide +kernel
theorem dX2_survey_27 : decode cX2_survey 27 = .ok (.bipush 16, 2) := by decide +kernel
theorem dX2_survey_29 : decode cX2_survey 29 = .ok (.invokestatic 48, 3) := by decide +kernel
theorem dX2_survey_32 : decode cX2_survey 32 = .ok (.istore_n 3, 1) := by decide +kernel
theorem dX2_survey_33 : decode cX2_survey 33 = .ok (.iconst 0, 1) := by decide +kernel
theorem dX2_survey_34 : decode cX2_survey 34 = .ok (.istore 4, 2) := by decide +kernel
theorem dX2_survey_36 : decode cX2_survey 36 = .ok (.iload 4, 2) := by decide +kernel
theorem dX2_survey_38 : decode cX2_survey 38 = .ok (.iload_n 3, 1) := by decide +kernel
theorem dX2_survey_39 : decode cX2_survey 39 = .ok (.if_icmp .ge 59, 3) := by decide +kernel
theorem dX2_survey_42 : decode cX2_survey 42 = .ok (.lload_n 1, 1) := by decide +kernel
theorem dX2_survey_43 : decode cX2_survey 43 = .ok (.invokestatic 54, 3) := by decide +kernel
theorem dX2_survey_46 : decode cX2_survey 46 = .ok (.istore 5, 2) := by decide +kernel
theorem dX2_survey_48 : decode cX2_survey 48 = .ok (.lload_n 1, 1) := by decide +kernel
theorem dX2_survey_49 : decode cX2_survey 49 = .ok (.lload_n 1, 1) := by decide +kernel
theorem dX2_survey_50 : decode cX2_survey 50 = .ok (.lconst 1, 1) := by decide +kernel
theorem dX2_survey_51 : decode cX2_survey 51 = .ok (.lsub, 1) := by decide +kernel
theorem dX2_survey_52 : decode cX2_survey 52 = .ok (.land, 1) := by decide +kernel
theorem dX2_survey_53 : decode cX2_survey 53 = .ok (.lstore_n 1, 1) := by decide +kernel
theorem dX2_survey_54 : decode cX2_survey 54 = .ok (.aload_n 0, 1) := by decide +kernel
theorem dX2_survey_55 : decode cX2_survey 55 = .ok (.getfield 19, 3) := by decide +kernel
theorem dX2_survey_58 : decode cX2_survey 58 = .ok (.iload 4, 2) := by decide +kernel
theorem dX2_survey_60 : decode cX2_survey 60 = .ok (.iload 5, 2) := by decide +kernel
theorem dX2_survey_62 : decode cX2_survey 62 = .ok (.iastore, 1) := by decide +kernel
theorem dX2_survey_63 : decode cX2_survey 63 = .ok (.aload_n 0, 1) := by decide +kernel
theorem dX2_survey_64 : decode cX2_survey 64 = .ok (.getfield 23, 3) := by decide +kernel
theorem dX2_survey_67 : decode cX2_survey 67 = .ok (.iload 4, 2) := by decide +kernel
theorem dX2_survey_69 : decode cX2_survey 69 = .ok (.iload 5, 2) := by decide +kernel
theorem dX2_survey_71 : decode cX2_survey 71 = .ok (.aload_n 0, 1) := by decide +kernel
theorem dX2_survey_72 : decode cX2_survey 72 = .ok (.getfield 57, 3) := by decide +kernel
theorem dX2_survey_75 : decode cX2_survey 75 = .ok (.if_icmp .ne 10, 3) := by decide +kernel
theorem dX2_survey_78 : decode cX2_survey 78 = .ok (.aload_n 0, 1) := by decide +kernel
theorem dX2_survey_79 : decode cX2_survey 79 = .ok (.invokevirtual 61, 3) := by decide +kernel
theorem dX2_survey_82 : decode cX2_survey 82 = .ok (.goto 9, 3) := by decide +kernel
theorem dX2_survey_85 : decode cX2_survey 85 = .ok (.aload_n 0, 1) := by decide +kernel
theorem dX2_survey_86 : decode cX2_survey 86 = .ok (.iload 5, 2) := by decide +kernel
theorem dX2_survey_88 : decode cX2_survey 88 = .ok (.invokevirtual 64, 3) := by decide +kernel
theorem dX2_survey_91 : decode cX2_survey 91 = .ok (.lastore, 1) := by decide +kernel
theorem dX2_survey_92 : decode cX2_survey 92 = .ok (.iinc 4 1, 3) := by decide +kernel
theorem dX2_survey_95 : decode cX2_survey 95 = .ok (.goto (-59), 3) := by decide +kernel
theorem dX2_survey_98 : decode cX2_survey 98 = .ok (.aload_n 0, 1) := by decide +kernel
theorem dX2_survey_99 : decode cX2_survey 99 = .ok (.iload_n 3, 1) := by decide +kernel
theorem dX2_survey_100 : decode cX2_survey 100 = .ok (.putfield 68, 3) := by decide +kernel
theorem dX2_survey_103 : decode cX2_survey 103 = .ok (.return_, 1) := by decide +kernel
theorem dX2_hasNone_0 : decode cX2_hasNone 0 = .ok (.lconst 0, 1) := by decide +kernel
theorem dX2_hasNone_1 : decode cX2_hasNone 1 = .ok (.lstore_n 1, 1) := by decide +kernel
theorem dX2_hasNone_2 : decode cX2_hasNone 2 = .ok (.iconst 0, 1) := by decide +kernel
theorem dX2_hasNone_3 : decode cX2_hasNone 3 = .ok (.istore_n 3, 1) := by decide +kernel
theorem dX2_hasNone_4 : decode cX2_hasNone 4 = .ok (.iload_n 3, 1) := by decide +kernel
theorem dX2_hasNone_5 : decode cX2_hasNone 5 = .ok (.aload_n 0, 1) := by decide +kernel
theorem dX2_hasNone_6 : decode cX2_hasNone 6 = .ok (.getfield 68, 3) := by decide +kernel
theorem dX2_hasNone_9 : decode cX2_hasNone 9 = .ok (.if_icmp .ge 18, 3) := by decide +kernel
theorem dX2_hasNone_12 : decode cX2_hasNone 12 = .ok (.lload_n 1, 1) := by decide +kernel
theorem dX2_hasNone_13 : decode cX2_hasNone 13 = .ok (.aload_n 0, 1) := by decide +kernel
theorem dX2_hasNone_14 : decode cX2_hasNone 14 = .ok (.getfield 23, 3) := by decide +kernel
theorem dX2_hasNone_17 : decode cX2_hasNone 17 = .ok (.iload_n 3, 1) := by decide +kernel
theorem dX2_hasNone_18 : decode cX2_hasNone 18 = .ok (.laload, 1) := by decide +kernel
theorem dX2_hasNone_19 : decode cX2_hasNone 19 = .ok (.lor, 1) := by decide +kernel
theorem dX2_hasNone_20 : decode cX2_hasNone 20 = .ok (.lstore_n 1, 1) := by decide +kernel
theorem dX2_hasNone_21 : decode cX2_hasNone 21 = .ok (.iinc 3 1, 3) := by decide +kernel
theorem dX2_hasNone_24 : decode cX2_hasNone 24 = .ok (.goto (-20), 3) := by decide +kernel
theorem dX2_hasNone_27 : decode cX2_hasNone 27 = .ok (.lload_n 1, 1) := by decide +kernel
theorem dX2_hasNone_28 : decode cX2_hasNone 28 = .ok (.lconst 0, 1) := by decide +kernel
theorem dX2_hasNone_29 : decode cX2_hasNone 29 = .ok (.lcmp, 1) := by decide +kernel
theorem dX2_hasNone_30 : decode cX2_hasNone 30 = .ok (.ifCond .ne 7, 3) := by decide +kernel
theorem dX2_hasNone_33 : decode cX2_hasNone 33 = .ok (.iconst 1, 1) := by decide +kernel
theorem dX2_hasNone_34 : decode cX2_hasNone 34 = .ok (.goto 4, 3) := by decide +kernel
theorem dX2_hasNone_37 : decode cX2_hasNone 37 = .ok (.iconst 0, 1) := by decide +kernel
theorem dX2_hasNone_38 : decode cX2_hasNone 38 = .ok (.ireturn, 1) := by decide +kernel
theorem dX2_count_0 : decode cX2_count 0 = .ok (.iconst 0, 1) := by decide +kernel
theorem dX2_count_1 : decode cX2_count 1 = .ok (.istore_n 1, 1) := by decide +kernel
theorem dX2_count_2 : decode cX2_count 2 = .ok (.iconst 0, 1) := by decide +kernel
theorem dX2_count_3 : decode cX2_count 3 = .ok (.istore_n 2, 1) := by decide +kernel
theorem dX2_count_4 : decode cX2_count 4 = .ok (.iload_n 2, 1) := by decide +kernel
theorem dX2_count_5 : decode cX2_count 5 = .ok (.aload_n 0, 1) := by decide +kernel
theorem dX2_count_6 : decode cX2_count 6 = .ok (.getfield 68, 3) := by decide +kernel
theorem dX2_count_9 : decode cX2_count 9 = .ok (.if_icmp .ge 40, 3) := by decide +kernel
theorem dX2_count_12 : decode cX2_count 12 = .ok (.iload_n 1, 1) := by decide +kernel
theorem dX2_count_13 : decode cX2_count 13 = .ok (.aload_n 0, 1) := by decide +kernel
theorem dX2_count_14 : decode cX2_count 14 = .ok (.getfield 23, 3) := by decide +kernel
theorem dX2_count_17 : decode cX2_count 17 = .ok (.iload_n 2, 1) := by decide +kernel
theorem dX2_count_18 : decode cX2_count 18 = .ok (.laload, 1) := by decide +kernel
theorem dX2_count_19 : decode cX2_count 19 = .ok (.invokestatic 42, 3) := by decide +kernel
theorem dX2_count_22 : decode cX2_count 22 = .ok (.aload_n 0, 1) := by decide +kernel
theorem dX2_count_23 : decode cX2_count 23 = .ok (.aload_n 0, 1) := by decide +kernel
theorem dX2_count_24 : decode cX2_count 24 = .ok (.getfield 19, 3) := by decide +kernel
theorem dX2_count_27 : decode cX2_count 27 = .ok (.iload_n 2, 1) := by decide +kernel
theorem dX2_count_28 : decode cX2_count 28 = .ok (.iaload, 1) := by decide +kernel
theorem dX2_count_29 : decode cX2_count 29 = .ok (.invokevirtual 71, 3) := by decide +kernel
theorem dX2_count_32 : decode cX2_count 32 = .ok (.ifCond .eq 7, 3) := by decide +kernel
theorem dX2_count_35 : decode cX2_count 35 = .ok (.iconst 4, 1) := by decide +kernel
theorem dX2_count_36 : decode cX2_count 36 = .ok (.goto 4, 3) := by decide +kernel
theorem dX2_count_39 : decode cX2_count 39 = .ok (.iconst 1, 1) := by decide +kernel
theorem dX2_count_40 : decode cX2_count 40 = .ok (.imul, 1) := by decide +kernel
theorem dX2_count_41 : decode cX2_count 41 = .ok (.iadd, 1) := by decide +kernel
theorem dX2_count_42 : decode cX2_count 42 = .ok (.istore_n 1, 1) := by decide +kernel
theorem dX2_count_43 : decode cX2_count 43 = .ok (.iinc 2 1, 3) := by decide +kernel
theorem dX2_count_46 : decode cX2_count 46 = .ok (.goto (-42), 3) := by decide +kernel
theorem dX2_count_49 : decode cX2_count 49 = .ok (.iload_n 1, 1) := by decide +kernel
theorem dX2_count_50 : decode cX2_count 50 = .ok (.ireturn, 1) := by decide +kernel
theorem dX2_list_0 : decode cX2_list 0 = .ok (.iload_n 2, 1) := by decide +kernel
theorem dX2_list_1 : decode cX2_list 1 = .ok (.istore 5, 2) := by decide +kernel
theorem dX2_list_3 : decode cX2_list 3 = .ok (.iconst 0, 1) := by decide +kernel
theorem dX2_list_4 : decode cX2_list 4 = .ok (.istore 6, 2) := by decide +kernel
theorem dX2_list_6 : decode cX2_list 6 = .ok (.iload 6, 2) := by decide +kernel
theorem dX2_list_8 : decode cX2_list 8 = .ok (.aload_n 0, 1) := by decide +kernel
theorem dX2_list_9 : decode cX2_list 9 = .ok (.getfield 68, 3) := by decide +kernel
theorem dX2_list_12 : decode cX2_list 12 = .ok (.if_icmp .ge 135, 3) := by decide +kernel
theorem dX2_list_15 : decode cX2_list 15 = .ok (.aload_n 0, 1) := by decide +kernel
theorem dX2_list_16 : decode cX2_list 16 = .ok (.getfield 19, 3) := by decide +kernel
theorem dX2_list_19 : decode cX2_list 19 = .ok (.iload 6, 2) := by decide +kernel
theorem dX2_list_21 : decode cX2_list 21 = .ok (.iaload, 1) := by decide +kernel
theorem dX2_list_22 : decode cX2_list 22 = .ok (.istore 7, 2) := by decide +kernel
theorem dX2_list_24 : decode cX2_list 24 = .ok (.aload_n 0, 1) := by decide +kernel
theorem dX2_list_25 : decode cX2_list 25 = .ok (.iload 7, 2) := by decide +kernel
theorem dX2_list_27 : decode cX2_list 27 = .ok (.invokevirtual 71, 3) := by decide +kernel
theorem dX2_list_30 : decode cX2_list 30 = .ok (.istore 8, 2) := by decide +kernel
theorem dX2_list_32 : decode cX2_list 32 = .ok (.iload 8, 2) := by decide +kernel
theorem dX2_list_34 : decode cX2_list 34 = .ok (.ifCond .eq 7, 3) := by decide +kernel
theorem dX2_list_37 : decode cX2_list 37 = .ok (.iconst 2, 1) := by decide +kernel
theorem dX2_list_38 : decode cX2_list 38 = .ok (.goto 4, 3) := by decide +kernel
theorem dX2_list_41 : decode cX2_list 41 = .ok (.iconst 0, 1) := by decide +kernel
theorem dX2_list_42 : decode cX2_list 42 = .ok (.istore 9, 2) := by decide +kernel
theorem dX2_list_44 : decode cX2_list 44 = .ok (.iload 8, 2) := by decide +kernel
theorem dX2_list_46 : decode cX2_list 46 = .ok (.ifCond .eq 7, 3) := by decide +kernel
theorem dX2_list_49 : decode cX2_list 49 = .ok (.iconst 5, 1) := by decide +kernel
theorem dX2_list_50 : decode cX2_list 50 = .ok (.goto 4, 3) := by decide +kernel
theorem dX2_list_53 : decode cX2_list 53 = .ok (.iconst 0, 1) := by decide +kernel
theorem dX2_list_54 : decode cX2_list 54 = .ok (.istore 10, 2) := by decide +kernel
theorem dX2_list_56 : decode cX2_list 56 = .ok (.aload_n 0, 1) := by decide +kernel
theorem dX2_list_57 : decode cX2_list 57 = .ok (.getfield 23, 3) := by decide +kernel
theorem dX2_list_60 : decode cX2_list 60 = .ok (.iload 6, 2) := by decide +kernel
theorem dX2_list_62 : decode cX2_list 62 = .ok (.laload, 1) := by decide +kernel
theorem dX2_list_63 : decode cX2_list 63 = .ok (.lload_n 3, 1) := by decide +kernel
theorem dX2_list_64 : decode cX2_list 64 = .ok (.land, 1) := by decide +kernel
theorem dX2_list_65 : decode cX2_list 65 = .ok (.lstore 11, 2) := by decide +kernel
theorem dX2_list_67 : decode cX2_list 67 = .ok (.lload 11, 2) := by decide +kernel
theorem dX2_list_69 : decode cX2_list 69 = .ok (.invokestatic 42, 3) := by decide +kernel
theorem dX2_list_72 : decode cX2_list 72 = .ok (.istore 13, 2) := by decide +kernel
theorem dX2_list_74 : decode cX2_list 74 = .ok (.iload 13, 2) := by decide +kernel
theorem dX2_list_76 : decode cX2_list 76 = .ok (.ifCond .le 65, 3) := by decide +kernel
theorem dX2_list_79 : decode cX2_list 79 = .ok (.lload 11, 2) := by decide +kernel
theorem dX2_list_81 : decode cX2_list 81 = .ok (.invokestatic 54, 3) := by decide +kernel
theorem dX2_list_84 : decode cX2_list 84 = .ok (.istore 14, 2) := by decide +kernel
theorem dX2_list_86 : decode cX2_list 86 = .ok (.lload 11, 2) := by decide +kernel
theorem dX2_list_88 : decode cX2_list 88 = .ok (.lload 11, 2) := by decide +kernel
theorem dX2_list_90 : decode cX2_list 90 = .ok (.lconst 1, 1) := by decide +kernel
theorem dX2_list_91 : decode cX2_list 91 = .ok (.lsub, 1) := by decide +kernel
theorem dX2_list_92 : decode cX2_list 92 = .ok (.land, 1) := by decide +kernel
theorem dX2_list_93 : decode cX2_list 93 = .ok (.lstore 11, 2) := by decide +kernel
theorem dX2_list_95 : decode cX2_list 95 = .ok (.iload 9, 2) := by decide +kernel
theorem dX2_list_97 : decode cX2_list 97 = .ok (.istore 15, 2) := by decide +kernel
theorem dX2_list_99 : decode cX2_list 99 = .ok (.iload 15, 2) := by decide +kernel
theorem dX2_list_101 : decode cX2_list 101 = .ok (.iload 10, 2) := by decide +kernel
theorem dX2_list_103 : decode cX2_list 103 = .ok (.if_icmp .gt 32, 3) := by decide +kernel
theorem dX2_list_106 : decode cX2_list 106 = .ok (.iload 5, 2) := by decide +kernel
theorem dX2_list_108 : decode cX2_list 108 = .ok (.aload_n 1, 1) := by decide +kernel
theorem dX2_list_109 : decode cX2_list 109 = .ok (.arraylength, 1) := by decide +kernel
theorem dX2_list_110 : decode cX2_list 110 = .ok (.if_icmp .ge 25, 3) := by decide +kernel
theorem dX2_list_113 : decode cX2_list 113 = .ok (.aload_n 1, 1) := by decide +kernel
theorem dX2_list_114 : decode cX2_list 114 = .ok (.iload 5, 2) := by decide +kernel
theorem dX2_list_116 : decode cX2_list 116 = .ok (.iload 7, 2) := by decide +kernel
theorem dX2_list_118 : decode cX2_list 118 = .ok (.iload 14, 2) := by decide +kernel
theorem dX2_list_120 : decode cX2_list 120 = .ok (.iload 15, 2) := by decide +kernel
theorem dX2_list_122 : decode cX2_list 122 = .ok (.invokestatic 75, 3) := by decide +kernel
theorem dX2_list_125 : decode cX2_list 125 = .ok (.iastore, 1) := by decide +kernel
theorem dX2_list_126 : decode cX2_list 126 = .ok (.iinc 5 1, 3) := by decide +kernel
theorem dX2_list_129 : decode cX2_list 129 = .ok (.iinc 15 1, 3) := by decide +kernel
theorem dX2_list_132 : decode cX2_list 132 = .ok (.goto (-33), 3) := by decide +kernel
theorem dX2_list_135 : decode cX2_list 135 = .ok (.iinc 13 (-1), 3) := by decide +kernel
theorem dX2_list_138 : decode cX2_list 138 = .ok (.goto (-64), 3) := by decide +kernel
theorem dX2_list_141 : decode cX2_list 141 = .ok (.iinc 6 1, 3) := by decide +kernel
theorem dX2_list_144 : decode cX2_list 144 = .ok (.goto (-138), 3) := by decide +kernel
theorem dX2_list_147 : decode cX2_list 147 = .ok (.iload 5, 2) := by decide +kernel
theorem dX2_list_149 : decode cX2_list 149 = .ok (.ireturn, 1) := by decide +kernel
theorem dX2_becomesAnother_0 : decode cX2_becomesAnother 0 = .ok (.aload_n 0, 1) := by decide +kernel
theorem dX2_becomesAnother_1 : decode cX2_becomesAnother 1 = .ok (.getfield 9, 3) := by decide +kernel
theorem dX2_becomesAnother_4 : decode cX2_becomesAnother 4 = .ok (.getfield 79, 3) := by decide +kernel
theorem dX2_becomesAnother_7 : decode cX2_becomesAnother 7 = .ok (.iload_n 1, 1) := by decide +kernel
theorem dX2_becomesAnother_8 : decode cX2_becomesAnother 8 = .ok (.iaload, 1) := by decide +kernel
theorem dX2_becomesAnother_9 : decode cX2_becomesAnother 9 = .ok (.invokestatic 82, 3) := by decide +kernel
theorem dX2_becomesAnother_12 : decode cX2_becomesAnother 12 = .ok (.iconst 1, 1) := by decide +kernel
theorem dX2_becomesAnother_13 : decode cX2_becomesAnother 13 = .ok (.if_icmp .ne 30, 3) := by decide +kernel
theorem dX2_becomesAnother_16 : decode cX2_becomesAnother 16 = .ok (.iload_n 1, 1) := by decide +kernel
theorem dX2_becomesAnother_17 : decode cX2_becomesAnother 17 = .ok (.bipush 8, 2) := by decide +kernel
theorem dX2_becomesAnother_19 : decode cX2_becomesAnother 19 = .ok (.idiv, 1) := by decide +kernel
theorem dX2_becomesAnother_20 : decode cX2_becomesAnother 20 = .ok (.aload_n 0, 1) := by decide +kernel
theorem dX2_becomesAnother_21 : decode cX2_becomesAnother 21 = .ok (.getfield 9, 3) := by decide +kernel
theorem dX2_becomesAnother_24 : decode cX2_becomesAnother 24 = .ok (.getfield 86, 3) := by decide +kernel
theorem dX2_becomesAnother_27 : decode cX2_becomesAnother 27 = .ok (.ifCond .ne 8, 3) := by decide +kernel
theorem dX2_becomesAnother_30 : decode cX2_becomesAnother 30 = .ok (.bipush 6, 2) := by decide +kernel
theorem dX2_becomesAnother_32 : decode cX2_becomesAnother 32 = .ok (.goto 4, 3) := by decide +kernel
theorem dX2_becomesAnother_35 : decode cX2_becomesAnother 35 = .ok (.iconst 1, 1) := by decide +kernel
theorem dX2_becomesAnother_36 : decode cX2_becomesAnother 36 = .ok (.if_icmp .ne 7, 3) := by decide +kernel
theorem dX2_becomesAnother_39 : decode cX2_becomesAnother 39 = .ok (.iconst 1, 1) := by decide +kernel
theorem dX2_becomesAnother_40 : decode cX2_becomesAnother 40 = .ok (.goto 4, 3) := by decide +kernel
theorem dX2_becomesAnother_43 : decode cX2_becomesAnother 43 = .ok (.iconst 0, 1) := by decide +kernel
theorem dX2_becomesAnother_44 : decode cX2_becomesAnother 44 = .ok (.ireturn, 1) := by decide +kernel
theorem dX2_lookAround_0 : decode cX2_lookAround 0 = .ok (.aload_n 0, 1) := by decide +kernel
theorem dX2_lookAround_1 : decode cX2_lookAround 1 = .ok (.getfield 9, 3) := by decide +kernel
theorem dX2_lookAround_4 : decode cX2_lookAround 4 = .ok (.getfield 86, 3) := by decide +kernel
theorem dX2_lookAround_7 : decode cX2_lookAround 7 = .ok (.istore_n 1, 1) := by decide +kernel
theorem dX2_lookAround_8 : decode cX2_lookAround 8 = .ok (.aload_n 0, 1) := by decide +kernel
theorem dX2_lookAround_9 : decode cX2_lookAround 9 = .ok (.aload_n 0, 1) := by decide +kernel
theorem dX2_lookAround_10 : decode cX2_lookAround 10 = .ok (.getfield 9, 3) := by decide +kernel
theorem dX2_lookAround_13 : decode cX2_lookAround 13 = .ok (.getfield 89, 3) := by decide +kernel
theorem dX2_lookAround_16 : decode cX2_lookAround 16 = .ok (.iload_n 1, 1) := by decide +kernel
theorem dX2_lookAround_17 : decode cX2_lookAround 17 = .ok (.laload, 1) := by decide +kernel
theorem dX2_lookAround_18 : decode cX2_lookAround 18 = .ok (.putfield 39, 3) := by decide +kernel
theorem dX2_lookAround_21 : decode cX2_lookAround 21 = .ok (.aload_n 0, 1) := by decide +kernel
theorem dX2_lookAround_22 : decode cX2_lookAround 22 = .ok (.aload_n 0, 1) := by decide +kernel
theorem dX2_lookAround_23 : decode cX2_lookAround 23 = .ok (.getfield 9, 3) := by decide +kernel
theorem dX2_lookAround_26 : decode cX2_lookAround 26 = .ok (.invokevirtual 92, 3) := by decide +kernel
theorem dX2_lookAround_29 : decode cX2_lookAround 29 = .ok (.putfield 95, 3) := by decide +kernel
theorem dX2_lookAround_32 : decode cX2_lookAround 32 = .ok (.aload_n 0, 1) := by decide +kernel
theorem dX2_lookAround_33 : decode cX2_lookAround 33 = .ok (.aload_n 0, 1) := by decide +kernel
theorem dX2_lookAround_34 : decode cX2_lookAround 34 = .ok (.getfield 9, 3) := by decide +kernel
theorem dX2_lookAround_37 : decode cX2_lookAround 37 = .ok (.iload_n 1, 1) := by decide +kernel
theorem dX2_lookAround_38 : decode cX2_lookAround 38 = .ok (.invokevirtual 98, 3) := by decide +kernel
theorem dX2_lookAround_41 : decode cX2_lookAround 41 = .ok (.putfield 57, 3) := by decide +kernel
theorem dX2_lookAround_44 : decode cX2_lookAround 44 = .ok (.aload_n 0, 1) := by decide +kernel
theorem dX2_lookAround_45 : decode cX2_lookAround 45 = .ok (.ldc2_w 101, 3) := by decide +kernel
theorem dX2_lookAround_48 : decode cX2_lookAround 48 = .ok (.putfield 103, 3) := by decide +kernel
theorem dX2_lookAround_51 : decode cX2_lookAround 51 = .ok (.aload_n 0, 1) := by decide +kernel
theorem dX2_lookAround_52 : decode cX2_lookAround 52 = .ok (.lconst 0, 1) := by decide +kernel
theorem dX2_lookAround_53 : decode cX2_lookAround 53 = .ok (.putfield 106, 3) := by decide +kernel
theorem dX2_lookAround_56 : decode cX2_lookAround 56 = .ok (.aload_n 0, 1) := by decide +kernel
theorem dX2_lookAround_57 : decode cX2_lookAround 57 = .ok (.getfield 9, 3) := by decide +kernel
theorem dX2_lookAround_60 : decode cX2_lookAround 60 = .ok (.getfield 109, 3) := by decide +kernel
theorem dX2_lookAround_63 : decode cX2_lookAround 63 = .ok (.astore_n 2, 1) := by decide +kernel
theorem dX2_lookAround_64 : decode cX2_lookAround 64 = .ok (.aload_n 0, 1) := by decide +kernel
theorem dX2_lookAround_65 : decode cX2_lookAround 65 = .ok (.getfield 9, 3) := by decide +kernel
theorem dX2_lookAround_68 : decode cX2_lookAround 68 = .ok (.getfield 89, 3) := by decide +kernel
theorem dX2_lookAround_71 : decode cX2_lookAround 71 = .ok (.iconst 1, 1) := by decide +kernel
theorem dX2_lookAround_72 : decode cX2_lookAround 72 = .ok (.iload_n 1, 1) := by decide +kernel
theorem dX2_lookAround_73 : decode cX2_lookAround 73 = .ok (.isub, 1) := by decide +kernel
theorem dX2_lookAround_74 : decode cX2_lookAround 74 = .ok (.laload, 1) := by decide +kernel
theorem dX2_lookAround_75 : decode cX2_lookAround 75 = .ok (.lstore_n 3, 1) := by decide +kernel
theorem dX2_lookAround_76 : decode cX2_lookAround 76 = .ok (.aload_n 0, 1) := by decide +kernel
theorem dX2_lookAround_77 : decode cX2_lookAround 77 = .ok (.getfield 15, 3) := by decide +kernel
theorem dX2_lookAround_80 : decode cX2_lookAround 80 = .ok (.getfield 112, 3) := by decide +kernel
theorem dX2_lookAround_83 : decode cX2_lookAround 83 = .ok (.aload_n 0, 1) := by decide +kernel
theorem dX2_lookAround_84 : decode cX2_lookAround 84 = .ok (.getfield 57, 3) := by decide +kernel
theorem dX2_lookAround_87 : decode cX2_lookAround 87 = .ok (.laload, 1) := by decide +kernel
theorem dX2_lookAround_88 : decode cX2_lookAround 88 = .ok (.aload_n 2, 1) := by decide +kernel
theorem dX2_lookAround_89 : decode cX2_lookAround 89 = .ok (.iconst 2, 1) := by decide +kernel
theorem dX2_lookAround_90 : decode cX2_lookAround 90 = .ok (.laload, 1) := by decide +kernel
theorem dX2_lookAround_91 : decode cX2_lookAround 91 = .ok (.land, 1) := by decide +kernel
theorem dX2_lookAround_92 : decode cX2_lookAround 92 = .ok (.aload_n 0, 1) := by decide +kernel
theorem dX2_lookAround_93 : decode cX2_lookAround 93 = .ok (.getfield 15, 3) := by decide +kernel
theorem dX2_lookAround_96 : decode cX2_lookAround 96 = .ok (.getfield 117, 3) := by decide +kernel
theorem dX2_lookAround_99 : decode cX2_lookAround 99 = .ok (.iload_n 1, 1) := by decide +kernel
theorem dX2_lookAround_100 : decode cX2_lookAround 100 = .ok (.bipush 64, 2) := by decide +kernel
theorem dX2_lookAround_102 : decode cX2_lookAround 102 = .ok (.imul, 1) := by decide +kernel
theorem dX2_lookAround_103 : decode cX2_lookAround 103 = .ok (.aload_n 0, 1) := by decide +kernel
theorem dX2_lookAround_104 : decode cX2_lookAround 104 = .ok (.getfield 57, 3) := by decide +kernel
theorem dX2_lookAround_107 : decode cX2_lookAround 107 = .ok (.iadd, 1) := by decide +kernel
theorem dX2_lookAround_108 : decode cX2_lookAround 108 = .ok (.laload, 1) := by decide +kernel
theorem dX2_lookAround_109 : decode cX2_lookAround 109 = .ok (.aload_n 2, 1) := by decide +kernel
theorem dX2_lookAround_110 : decode cX2_lookAround 110 = .ok (.iconst 1, 1) := by decide +kernel
theorem dX2_lookAround_111 : decode cX2_lookAround 111 = .ok (.laload, 1) := by decide +kernel
theorem dX2_lookAround_112 : decode cX2_lookAround 112 = .ok (.land, 1) := by decide +kernel
theorem dX2_lookAround_113 : decode cX2_lookAround 113 = .ok (.lor, 1) := by decide +kernel
theorem dX2_lookAround_114 : decode cX2_lookAround 114 = .ok (.lstore 5, 2) := by decide +kernel
theorem dX2_lookAround_116 : decode cX2_lookAround 116 = .ok (.lload 5, 2) := by decide +kernel
theorem dX2_lookAround_118 : decode cX2_lookAround 118 = .ok (.lload_n 3, 1) := by decide +kernel
theorem dX2_lookAround_119 : decode cX2_lookAround 119 = .ok (.land, 1) := by decide +kernel
theorem dX2_lookAround_120 : decode cX2_lookAround 120 = .ok (.lstore 5, 2) := by decide +kernel
theorem dX2_lookAround_122 : decode cX2_lookAround 122 = .ok (.lload 5, 2) := by decide +kernel
theorem dX2_lookAround_124 : decode cX2_lookAround 124 = .ok (.lconst 0, 1) := by decide +kernel
theorem dX2_lookAround_125 : decode cX2_lookAround 125 = .ok (.lcmp, 1) := by decide +kernel
theorem dX2_lookAround_126 : decode cX2_lookAround 126 = .ok (.ifCond .eq 25, 3) := by decide +kernel
theorem dX2_lookAround_129 : decode cX2_lookAround 129 = .ok (.aload_n 0, 1) := by decide +kernel
theorem dX2_lookAround_130 : decode cX2_lookAround 130 = .ok (.lload 5, 2) := by decide +kernel
theorem dX2_lookAround_132 : decode cX2_lookAround 132 = .ok (.lload 5, 2) := by decide +kernel
theorem dX2_lookAround_134 : decode cX2_lookAround 134 = .ok (.lconst 1, 1) := by decide +kernel
theorem dX2_lookAround_135 : decode cX2_lookAround 135 = .ok (.lsub, 1) := by decide +kernel
theorem dX2_lookAround_136 : decode cX2_lookAround 136 = .ok (.land, 1) := by decide +kernel
theorem dX2_lookAround_137 : decode cX2_lookAround 137 = .ok (.lconst 0, 1) := by decide +kernel
theorem dX2_lookAround_138 : decode cX2_lookAround 138 = .ok (.lcmp, 1) := by decide +kernel
theorem dX2_lookAround_139 : decode cX2_lookAround 139 = .ok (.ifCond .ne 8, 3) := by decide +kernel
theorem dX2_lookAround_142 : decode cX2_lookAround 142 = .ok (.lload 5, 2) := by decide +kernel
theorem dX2_lookAround_144 : decode cX2_lookAround 144 = .ok (.goto 4, 3) := by decide +kernel
theorem dX2_lookAround_147 : decode cX2_lookAround 147 = .ok (.lconst 0, 1) := by decide +kernel
theorem dX2_lookAround_148 : decode cX2_lookAround 148 = .ok (.putfield 103, 3) := by decide +kernel
theorem dX2_lookAround_151 : decode cX2_lookAround 151 = .ok (.lload_n 3, 1) := by decide +kernel
theorem dX2_lookAround_152 : decode cX2_lookAround 152 = .ok (.aload_n 2, 1) := by decide +kernel
theorem dX2_lookAround_153 : decode cX2_lookAround 153 = .ok (.iconst 4, 1) := by decide +kernel
theorem dX2_lookAround_154 : decode cX2_lookAround 154 = .ok (.laload, 1) := by decide +kernel
theorem dX2_lookAround_155 : decode cX2_lookAround 155 = .ok (.aload_n 2, 1) := by decide +kernel
theorem dX2_lookAround_156 : decode cX2_lookAround 156 = .ok (.iconst 5, 1) := by decide +kernel
theorem dX2_lookAround_157 : decode cX2_lookAround 157 = .ok (.laload, 1) := by decide +kernel
theorem dX2_lookAround_158 : decode cX2_lookAround 158 = .ok (.lor, 1) := by decide +kernel
theorem dX2_lookAround_159 : decode cX2_lookAround 159 = .ok (.land, 1) := by decide +kernel
theorem dX2_lookAround_160 : decode cX2_lookAround 160 = .ok (.lstore 7, 2) := by decide +kernel
theorem dX2_lookAround_162 : decode cX2_lookAround 162 = .ok (.lload_n 3, 1) := by decide +kernel
theorem dX2_lookAround_163 : decode cX2_lookAround 163 = .ok (.aload_n 2, 1) := by decide +kernel
theorem dX2_lookAround_164 : decode cX2_lookAround 164 = .ok (.iconst 3, 1) := by decide +kernel
theorem dX2_lookAround_165 : decode cX2_lookAround 165 = .ok (.laload, 1) := by decide +kernel
theorem dX2_lookAround_166 : decode cX2_lookAround 166 = .ok (.aload_n 2, 1) := by decide +kernel
theorem dX2_lookAround_167 : decode cX2_lookAround 167 = .ok (.iconst 5, 1) := by decide +kernel
theorem dX2_lookAround_168 : decode cX2_lookAround 168 = .ok (.laload, 1) := by decide +kernel
theorem dX2_lookAround_169 : decode cX2_lookAround 169 = .ok (.lor, 1) := by decide +kernel
theorem dX2_lookAround_170 : decode cX2_lookAround 170 = .ok (.land, 1) := by decide +kernel
theorem dX2_lookAround_171 : decode cX2_lookAround 171 = .ok (.lstore 9, 2) := by decide +kernel
theorem dX2_lookAround_173 : decode cX2_lookAround 173 = .ok (.iconst 0, 1) := by decide +kernel
theorem dX2_lookAround_174 : decode cX2_lookAround 174 = .ok (.istore 11, 2) := by decide +kernel
theorem dX2_lookAround_176 : decode cX2_lookAround 176 = .ok (.iload 11, 2) := by decide +kernel
theorem dX2_lookAround_178 : decode cX2_lookAround 178 = .ok (.bipush 8, 2) := by decide +kernel
theorem dX2_lookAround_180 : decode cX2_lookAround 180 = .ok (.if_icmp .ge 59, 3) := by decide +kernel
theorem dX2_lookAround_183 : decode cX2_lookAround 183 = .ok (.aload_n 0, 1) := by decide +kernel
theorem dX2_lookAround_184 : decode cX2_lookAround 184 = .ok (.getfield 15, 3) := by decide +kernel
theorem dX2_lookAround_187 : decode cX2_lookAround 187 = .ok (.getfield 120, 3) := by decide +kernel
theorem dX2_lookAround_190 : decode cX2_lookAround 190 = .ok (.iload 11, 2) := by decide +kernel
theorem dX2_lookAround_192 : decode cX2_lookAround 192 = .ok (.bipush 64, 2) := by decide +kernel
theorem dX2_lookAround_194 : decode cX2_lookAround 194 = .ok (.imul, 1) := by decide +kernel
theorem dX2_lookAround_195 : decode cX2_lookAround 195 = .ok (.aload_n 0, 1) := by decide +kernel
theorem dX2_lookAround_196 : decode cX2_lookAround 196 = .ok (.getfield 57, 3) := by decide +kernel
theorem dX2_lookAround_199 : decode cX2_lookAround 199 = .ok (.iadd, 1) := by decide +kernel
theorem dX2_lookAround_200 : decode cX2_lookAround 200 = .ok (.laload, 1) := by decide +kernel
theorem dX2_lookAround_201 : decode cX2_lookAround 201 = .ok (.iload 11, 2) := by decide +kernel
theorem dX2_lookAround_203 : decode cX2_lookAround 203 = .ok (.iconst 2, 1) := by decide +kernel
theorem dX2_lookAround_204 : decode cX2_lookAround 204 = .ok (.iand, 1) := by decide +kernel
theorem dX2_lookAround_205 : decode cX2_lookAround 205 = .ok (.ifCond .eq 8, 3) := by decide +kernel
theorem dX2_lookAround_208 : decode cX2_lookAround 208 = .ok (.lload 9, 2) := by decide +kernel
theorem dX2_lookAround_210 : decode cX2_lookAround 210 = .ok (.goto 5, 3) := by decide +kernel
theorem dX2_lookAround_213 : decode cX2_lookAround 213 = .ok (.lload 7, 2) := by decide +kernel
theorem dX2_lookAround_215 : decode cX2_lookAround 215 = .ok (.land, 1) := by decide +kernel
theorem dX2_lookAround_216 : decode cX2_lookAround 216 = .ok (.lstore 12, 2) := by decide +kernel
theorem dX2_lookAround_218 : decode cX2_lookAround 218 = .ok (.lload 12, 2) := by decide +kernel
theorem dX2_lookAround_220 : decode cX2_lookAround 220 = .ok (.lconst 0, 1) := by decide +kernel
theorem dX2_lookAround_221 : decode cX2_lookAround 221 = .ok (.lcmp, 1) := by decide +kernel
theorem dX2_lookAround_222 : decode cX2_lookAround 222 = .ok (.ifCond .eq 11, 3) := by decide +kernel
theorem dX2_lookAround_225 : decode cX2_lookAround 225 = .ok (.aload_n 0, 1) := by decide +kernel
theorem dX2_lookAround_226 : decode cX2_lookAround 226 = .ok (.iload 11, 2) := by decide +kernel
theorem dX2_lookAround_228 : decode cX2_lookAround 228 = .ok (.lload 12, 2) := by decide +kernel
theorem dX2_lookAround_230 : decode cX2_lookAround 230 = .ok (.invokevirtual 123, 3) := by decide +kernel
theorem dX2_lookAround_233 : decode cX2_lookAround 233 = .ok (.iinc 11 1, 3) := by decide +kernel
theorem dX2_lookAround_236 : decode cX2_lookAround 236 = .ok (.goto (-60), 3) := by decide +kernel
theorem dX2_lookAround_239 : decode cX2_lookAround 239 = .ok (.return_, 1) := by decide +kernel
theorem dX2_lookAlong_0 : decode cX2_lookAlong 0 = .ok (.aload_n 0, 1) := by decide +kernel
theorem dX2_lookAlong_1 : decode cX2_lookAlong 1 = .ok (.getfield 15, 3) := by decide +kernel
theorem dX2_lookAlong_4 : decode cX2_lookAlong 4 = .ok (.iload_n 1, 1) := by decide +kernel
theorem dX2_lookAlong_5 : decode cX2_lookAlong 5 = .ok (.aload_n 0, 1) := by decide +kernel
theorem dX2_lookAlong_6 : decode cX2_lookAlong 6 = .ok (.getfield 57, 3) := by decide +kernel
theorem dX2_lookAlong_9 : decode cX2_lookAlong 9 = .ok (.aload_n 0, 1) := by decide +kernel
theorem dX2_lookAlong_10 : decode cX2_lookAlong 10 = .ok (.getfield 95, 3) := by decide +kernel
theorem dX2_lookAlong_13 : decode cX2_lookAlong 13 = .ok (.invokevirtual 127, 3) := by decide +kernel
theorem dX2_lookAlong_16 : decode cX2_lookAlong 16 = .ok (.lstore 4, 2) := by decide +kernel
theorem dX2_lookAlong_18 : decode cX2_lookAlong 18 = .ok (.lload 4, 2) := by decide +kernel
theorem dX2_lookAlong_20 : decode cX2_lookAlong 20 = .ok (.lload_n 2, 1) := by decide +kernel
theorem dX2_lookAlong_21 : decode cX2_lookAlong 21 = .ok (.land, 1) := by decide +kernel
theorem dX2_lookAlong_22 : decode cX2_lookAlong 22 = .ok (.lconst 0, 1) := by decide +kernel
theorem dX2_lookAlong_23 : decode cX2_lookAlong 23 = .ok (.lcmp, 1) := by decide +kernel
theorem dX2_lookAlong_24 : decode cX2_lookAlong 24 = .ok (.ifCond .eq 15, 3) := by decide +kernel
theorem dX2_lookAlong_27 : decode cX2_lookAlong 27 = .ok (.aload_n 0, 1) := by decide +kernel
theorem dX2_lookAlong_28 : decode cX2_lookAlong 28 = .ok (.dup, 1) := by decide +kernel
theorem dX2_lookAlong_29 : decode cX2_lookAlong 29 = .ok (.getfield 103, 3) := by decide +kernel
theorem dX2_lookAlong_32 : decode cX2_lookAlong 32 = .ok (.lload 4, 2) := by decide +kernel
theorem dX2_lookAlong_34 : decode cX2_lookAlong 34 = .ok (.land, 1) := by decide +kernel
theorem dX2_lookAlong_35 : decode cX2_lookAlong 35 = .ok (.putfield 103, 3) := by decide +kernel
theorem dX2_lookAlong_38 : decode cX2_lookAlong 38 = .ok (.return_, 1) := by decide +kernel
theorem dX2_lookAlong_39 : decode cX2_lookAlong 39 = .ok (.lload 4, 2) := by decide +kernel
theorem dX2_lookAlong_41 : decode cX2_lookAlong 41 = .ok (.aload_n 0, 1) := by decide +kernel
theorem dX2_lookAlong_42 : decode cX2_lookAlong 42 = .ok (.getfield 39, 3) := by decide +kernel
theorem dX2_lookAlong_45 : decode cX2_lookAlong 45 = .ok (.land, 1) := by decide +kernel
theorem dX2_lookAlong_46 : decode cX2_lookAlong 46 = .ok (.lstore 6, 2) := by decide +kernel
theorem dX2_lookAlong_48 : decode cX2_lookAlong 48 = .ok (.aload_n 0, 1) := by decide +kernel
theorem dX2_lookAlong_49 : decode cX2_lookAlong 49 = .ok (.getfield 15, 3) := by decide +kernel
theorem dX2_lookAlong_52 : decode cX2_lookAlong 52 = .ok (.iload_n 1, 1) := by decide +kernel
theorem dX2_lookAlong_53 : decode cX2_lookAlong 53 = .ok (.aload_n 0, 1) := by decide +kernel
theorem dX2_lookAlong_54 : decode cX2_lookAlong 54 = .ok (.getfield 57, 3) := by decide +kernel
theorem dX2_lookAlong_57 : decode cX2_lookAlong 57 = .ok (.aload_n 0, 1) := by decide +kernel
theorem dX2_lookAlong_58 : decode cX2_lookAlong 58 = .ok (.getfield 95, 3) := by decide +kernel
theorem dX2_lookAlong_61 : decode cX2_lookAlong 61 = .ok (.lload 6, 2) := by decide +kernel
theorem dX2_lookAlong_63 : decode cX2_lookAlong 63 = .ok (.ldc2_w 101, 3) := by decide +kernel
theorem dX2_lookAlong_66 : decode cX2_lookAlong 66 = .ok (.lxor, 1) := by decide +kernel
theorem dX2_lookAlong_67 : decode cX2_lookAlong 67 = .ok (.land, 1) := by decide +kernel
theorem dX2_lookAlong_68 : decode cX2_lookAlong 68 = .ok (.invokevirtual 127, 3) := by decide +kernel
theorem dX2_lookAlong_71 : decode cX2_lookAlong 71 = .ok (.lload_n 2, 1) := by decide +kernel
theorem dX2_lookAlong_72 : decode cX2_lookAlong 72 = .ok (.land, 1) := by decide +kernel
theorem dX2_lookAlong_73 : decode cX2_lookAlong 73 = .ok (.lconst 0, 1) := by decide +kernel
theorem dX2_lookAlong_74 : decode cX2_lookAlong 74 = .ok (.lcmp, 1) := by decide +kernel
theorem dX2_lookAlong_75 : decode cX2_lookAlong 75 = .ok (.ifCond .eq 14, 3) := by decide +kernel
theorem dX2_lookAlong_78 : decode cX2_lookAlong 78 = .ok (.aload_n 0, 1) := by decide +kernel
theorem dX2_lookAlong_79 : decode cX2_lookAlong 79 = .ok (.dup, 1) := by decide +kernel
theorem dX2_lookAlong_80 : decode cX2_lookAlong 80 = .ok (.getfield 106, 3) := by decide +kernel
theorem dX2_lookAlong_83 : decode cX2_lookAlong 83 = .ok (.lload 6, 2) := by decide +kernel
theorem dX2_lookAlong_85 : decode cX2_lookAlong 85 = .ok (.lor, 1) := by decide +kernel
theorem dX2_lookAlong_86 : decode cX2_lookAlong 86 = .ok (.putfield 106, 3) := by decide +kernel
theorem dX2_lookAlong_89 : decode cX2_lookAlong 89 = .ok (.return_, 1) := by decide +kernel
theorem dX2_goalsOf_0 : decode cX2_goalsOf 0 = .ok (.aload_n 0, 1) := by decide +kernel
theorem dX2_goalsOf_1 : decode cX2_goalsOf 1 = .ok (.getfield 9, 3) := by decide +kernel
theorem dX2_goalsOf_4 : decode cX2_goalsOf 4 = .ok (.getfield 79, 3) := by decide +kernel
theorem dX2_goalsOf_7 : decode cX2_goalsOf 7 = .ok (.iload_n 1, 1) := by decide +kernel
theorem dX2_goalsOf_8 : decode cX2_goalsOf 8 = .ok (.iaload, 1) := by decide +kernel
theorem dX2_goalsOf_9 : decode cX2_goalsOf 9 = .ok (.invokestatic 82, 3) := by decide +kernel
theorem dX2_goalsOf_12 : decode cX2_goalsOf 12 = .ok (.istore_n 2, 1) := by decide +kernel
theorem dX2_goalsOf_13 : decode cX2_goalsOf 13 = .ok (.iload_n 2, 1) := by decide +kernel
theorem dX2_goalsOf_14 : decode cX2_goalsOf 14 = .ok (.iconst 1, 1) := by decide +kernel
theorem dX2_goalsOf_15 : decode cX2_goalsOf 15 = .ok (.if_icmp .ne 11, 3) := by decide +kernel
theorem dX2_goalsOf_18 : decode cX2_goalsOf 18 = .ok (.aload_n 0, 1) := by decide +kernel
theorem dX2_goalsOf_19 : decode cX2_goalsOf 19 = .ok (.iload_n 1, 1) := by decide +kernel
theorem dX2_goalsOf_20 : decode cX2_goalsOf 20 = .ok (.invokevirtual 131, 3) := by decide +kernel
theorem dX2_goalsOf_23 : decode cX2_goalsOf 23 = .ok (.goto 25, 3) := by decide +kernel
theorem dX2_goalsOf_26 : decode cX2_goalsOf 26 = .ok (.aload_n 0, 1) := by decide +kernel
theorem dX2_goalsOf_27 : decode cX2_goalsOf 27 = .ok (.getfield 15, 3) := by decide +kernel
theorem dX2_goalsOf_30 : decode cX2_goalsOf 30 = .ok (.iload_n 2, 1) := by decide +kernel
theorem dX2_goalsOf_31 : decode cX2_goalsOf 31 = .ok (.iload_n 1, 1) := by decide +kernel
theorem dX2_goalsOf_32 : decode cX2_goalsOf 32 = .ok (.aload_n 0, 1) := by decide +kernel
theorem dX2_goalsOf_33 : decode cX2_goalsOf 33 = .ok (.getfield 95, 3) := by decide +kernel
theorem dX2_goalsOf_36 : decode cX2_goalsOf 36 = .ok (.invokevirtual 134, 3) := by decide +kernel
theorem dX2_goalsOf_39 : decode cX2_goalsOf 39 = .ok (.aload_n 0, 1) := by decide +kernel
theorem dX2_goalsOf_40 : decode cX2_goalsOf 40 = .ok (.getfield 39, 3) := by decide +kernel
theorem dX2_goalsOf_43 : decode cX2_goalsOf 43 = .ok (.ldc2_w 101, 3) := by decide +kernel
theorem dX2_goalsOf_46 : decode cX2_goalsOf 46 = .ok (.lxor, 1) := by decide +kernel
theorem dX2_goalsOf_47 : decode cX2_goalsOf 47 = .ok (.land, 1) := by decide +kernel
theorem dX2_goalsOf_48 : decode cX2_goalsOf 48 = .ok (.lstore_n 3, 1) := by decide +kernel
theorem dX2_goalsOf_49 : decode cX2_goalsOf 49 = .ok (.lload_n 3, 1) := by decide +kernel
theorem dX2_goalsOf_50 : decode cX2_goalsOf 50 = .ok (.aload_n 0, 1) := by decide +kernel
theorem dX2_goalsOf_51 : decode cX2_goalsOf 51 = .ok (.getfield 103, 3) := by decide +kernel
theorem dX2_goalsOf_54 : decode cX2_goalsOf 54 = .ok (.land, 1) := by decide +kernel
theorem dX2_goalsOf_55 : decode cX2_goalsOf 55 = .ok (.lstore_n 3, 1) := by decide +kernel
theorem dX2_goalsOf_56 : decode cX2_goalsOf 56 = .ok (.aload_n 0, 1) := by decide +kernel
theorem dX2_goalsOf_57 : decode cX2_goalsOf 57 = .ok (.getfield 106, 3) := by decide +kernel
theorem dX2_goalsOf_60 : decode cX2_goalsOf 60 = .ok (.iload_n 1, 1) := by decide +kernel
theorem dX2_goalsOf_61 : decode cX2_goalsOf 61 = .ok (.lushr, 1) := by decide +kernel
theorem dX2_goalsOf_62 : decode cX2_goalsOf 62 = .ok (.lconst 1, 1) := by decide +kernel
theorem dX2_goalsOf_63 : decode cX2_goalsOf 63 = .ok (.land, 1) := by decide +kernel
theorem dX2_goalsOf_64 : decode cX2_goalsOf 64 = .ok (.lconst 0, 1) := by decide +kernel
theorem dX2_goalsOf_65 : decode cX2_goalsOf 65 = .ok (.lcmp, 1) := by decide +kernel
theorem dX2_goalsOf_66 : decode cX2_goalsOf 66 = .ok (.ifCond .eq 18, 3) := by decide +kernel
theorem dX2_goalsOf_69 : decode cX2_goalsOf 69 = .ok (.lload_n 3, 1) := by decide +kernel
theorem dX2_goalsOf_70 : decode cX2_goalsOf 70 = .ok (.aload_n 0, 1) := by decide +kernel
theorem dX2_goalsOf_71 : decode cX2_goalsOf 71 = .ok (.getfield 15, 3) := by decide +kernel
theorem dX2_goalsOf_74 : decode cX2_goalsOf 74 = .ok (.aload_n 0, 1) := by decide +kernel
theorem dX2_goalsOf_75 : decode cX2_goalsOf 75 = .ok (.getfield 57, 3) := by decide +kernel
theorem dX2_goalsOf_78 : decode cX2_goalsOf 78 = .ok (.iload_n 1, 1) := by decide +kernel
theorem dX2_goalsOf_79 : decode cX2_goalsOf 79 = .ok (.invokevirtual 137, 3) := by decide +kernel
theorem dX2_goalsOf_82 : decode cX2_goalsOf 82 = .ok (.land, 1) := by decide +kernel
theorem dX2_goalsOf_83 : decode cX2_goalsOf 83 = .ok (.lstore_n 3, 1) := by decide +kernel
theorem dX2_goalsOf_84 : decode cX2_goalsOf 84 = .ok (.aload_n 0, 1) := by decide +kernel
theorem dX2_goalsOf_85 : decode cX2_goalsOf 85 = .ok (.getfield 36, 3) := by decide +kernel
theorem dX2_goalsOf_88 : decode cX2_goalsOf 88 = .ok (.iload_n 1, 1) := by decide +kernel
theorem dX2_goalsOf_89 : decode cX2_goalsOf 89 = .ok (.lushr, 1) := by decide +kernel
theorem dX2_goalsOf_90 : decode cX2_goalsOf 90 = .ok (.lconst 1, 1) := by decide +kernel
theorem dX2_goalsOf_91 : decode cX2_goalsOf 91 = .ok (.land, 1) := by decide +kernel
theorem dX2_goalsOf_92 : decode cX2_goalsOf 92 = .ok (.lconst 0, 1) := by decide +kernel
theorem dX2_goalsOf_93 : decode cX2_goalsOf 93 = .ok (.lcmp, 1) := by decide +kernel
theorem dX2_goalsOf_94 : decode cX2_goalsOf 94 = .ok (.ifCond .eq 15, 3) := by decide +kernel
theorem dX2_goalsOf_97 : decode cX2_goalsOf 97 = .ok (.lload_n 3, 1) := by decide +kernel
theorem dX2_goalsOf_98 : decode cX2_goalsOf 98 = .ok (.lconst 1, 1) := by decide +kernel
theorem dX2_goalsOf_99 : decode cX2_goalsOf 99 = .ok (.aload_n 0, 1) := by decide +kernel
theorem dX2_goalsOf_100 : decode cX2_goalsOf 100 = .ok (.getfield 9, 3) := by decide +kernel
theorem dX2_goalsOf_103 : decode cX2_goalsOf 103 = .ok (.getfield 141, 3) := by decide +kernel
theorem dX2_goalsOf_106 : decode cX2_goalsOf 106 = .ok (.lshl, 1) := by decide +kernel
theorem dX2_goalsOf_107 : decode cX2_goalsOf 107 = .ok (.lor, 1) := by decide +kernel
theorem dX2_goalsOf_108 : decode cX2_goalsOf 108 = .ok (.lstore_n 3, 1) := by decide +kernel
theorem dX2_goalsOf_109 : decode cX2_goalsOf 109 = .ok (.lload_n 3, 1) := by decide +kernel
theorem dX2_goalsOf_110 : decode cX2_goalsOf 110 = .ok (.lreturn, 1) := by decide +kernel
theorem dX2_pawnGoals_0 : decode cX2_pawnGoals 0 = .ok (.aload_n 0, 1) := by decide +kernel
theorem dX2_pawnGoals_1 : decode cX2_pawnGoals 1 = .ok (.getfield 9, 3) := by decide +kernel
theorem dX2_pawnGoals_4 : decode cX2_pawnGoals 4 = .ok (.getfield 86, 3) := by decide +kernel
theorem dX2_pawnGoals_7 : decode cX2_pawnGoals 7 = .ok (.istore_n 2, 1) := by decide +kernel
theorem dX2_pawnGoals_8 : decode cX2_pawnGoals 8 = .ok (.iload_n 2, 1) := by decide +kernel
theorem dX2_pawnGoals_9 : decode cX2_pawnGoals 9 = .ok (.invokestatic 144, 3) := by decide +kernel
theorem dX2_pawnGoals_12 : decode cX2_pawnGoals 12 = .ok (.istore_n 3, 1) := by decide +kernel
theorem dX2_pawnGoals_13 : decode cX2_pawnGoals 13 = .ok (.aload_n 0, 1) := by decide +kernel
theorem dX2_pawnGoals_14 : decode cX2_pawnGoals 14 = .ok (.getfield 15, 3) := by decide +kernel
theorem dX2_pawnGoals_17 : decode cX2_pawnGoals 17 = .ok (.getfield 117, 3) := by decide +kernel
theorem dX2_pawnGoals_20 : decode cX2_pawnGoals 20 = .ok (.iload_n 2, 1) := by decide +kernel
theorem dX2_pawnGoals_21 : decode cX2_pawnGoals 21 = .ok (.bipush 64, 2) := by decide +kernel
theorem dX2_pawnGoals_23 : decode cX2_pawnGoals 23 = .ok (.imul, 1) := by decide +kernel
theorem dX2_pawnGoals_24 : decode cX2_pawnGoals 24 = .ok (.iload_n 1, 1) := by decide +kernel
theorem dX2_pawnGoals_25 : decode cX2_pawnGoals 25 = .ok (.iadd, 1) := by decide +kernel
theorem dX2_pawnGoals_26 : decode cX2_pawnGoals 26 = .ok (.laload, 1) := by decide +kernel
theorem dX2_pawnGoals_27 : decode cX2_pawnGoals 27 = .ok (.aload_n 0, 1) := by decide +kernel
theorem dX2_pawnGoals_28 : decode cX2_pawnGoals 28 = .ok (.getfield 9, 3) := by decide +kernel
theorem dX2_pawnGoals_31 : decode cX2_pawnGoals 31 = .ok (.getfield 89, 3) := by decide +kernel
theorem dX2_pawnGoals_34 : decode cX2_pawnGoals 34 = .ok (.iconst 1, 1) := by decide +kernel
theorem dX2_pawnGoals_35 : decode cX2_pawnGoals 35 = .ok (.iload_n 2, 1) := by decide +kernel
theorem dX2_pawnGoals_36 : decode cX2_pawnGoals 36 = .ok (.isub, 1) := by decide +kernel
theorem dX2_pawnGoals_37 : decode cX2_pawnGoals 37 = .ok (.laload, 1) := by decide +kernel
theorem dX2_pawnGoals_38 : decode cX2_pawnGoals 38 = .ok (.land, 1) := by decide +kernel
theorem dX2_pawnGoals_39 : decode cX2_pawnGoals 39 = .ok (.lstore 4, 2) := by decide +kernel
theorem dX2_pawnGoals_41 : decode cX2_pawnGoals 41 = .ok (.lconst 1, 1) := by decide +kernel
theorem dX2_pawnGoals_42 : decode cX2_pawnGoals 42 = .ok (.iload_n 1, 1) := by decide +kernel
theorem dX2_pawnGoals_43 : decode cX2_pawnGoals 43 = .ok (.iload_n 3, 1) := by decide +kernel
theorem dX2_pawnGoals_44 : decode cX2_pawnGoals 44 = .ok (.iadd, 1) := by decide +kernel
theorem dX2_pawnGoals_45 : decode cX2_pawnGoals 45 = .ok (.lshl, 1) := by decide +kernel
theorem dX2_pawnGoals_46 : decode cX2_pawnGoals 46 = .ok (.lstore 6, 2) := by decide +kernel
theorem dX2_pawnGoals_48 : decode cX2_pawnGoals 48 = .ok (.aload_n 0, 1) := by decide +kernel
theorem dX2_pawnGoals_49 : decode cX2_pawnGoals 49 = .ok (.getfield 95, 3) := by decide +kernel
theorem dX2_pawnGoals_52 : decode cX2_pawnGoals 52 = .ok (.lload 6, 2) := by decide +kernel
theorem dX2_pawnGoals_54 : decode cX2_pawnGoals 54 = .ok (.land, 1) := by decide +kernel
theorem dX2_pawnGoals_55 : decode cX2_pawnGoals 55 = .ok (.lconst 0, 1) := by decide +kernel
theorem dX2_pawnGoals_56 : decode cX2_pawnGoals 56 = .ok (.lcmp, 1) := by decide +kernel
theorem dX2_pawnGoals_57 : decode cX2_pawnGoals 57 = .ok (.ifCond .eq 6, 3) := by decide +kernel
theorem dX2_pawnGoals_60 : decode cX2_pawnGoals 60 = .ok (.lload 4, 2) := by decide +kernel
theorem dX2_pawnGoals_62 : decode cX2_pawnGoals 62 = .ok (.lreturn, 1) := by decide +kernel
theorem dX2_pawnGoals_63 : decode cX2_pawnGoals 63 = .ok (.lload 4, 2) := by decide +kernel
theorem dX2_pawnGoals_65 : decode cX2_pawnGoals 65 = .ok (.lload 6, 2) := by decide +kernel
theorem dX2_pawnGoals_67 : decode cX2_pawnGoals 67 = .ok (.lor, 1) := by decide +kernel
theorem dX2_pawnGoals_68 : decode cX2_pawnGoals 68 = .ok (.lstore 4, 2) := by decide +kernel
theorem dX2_pawnGoals_70 : decode cX2_pawnGoals 70 = .ok (.iload_n 1, 1) := by decide +kernel
theorem dX2_pawnGoals_71 : decode cX2_pawnGoals 71 = .ok (.bipush 8, 2) := by decide +kernel
theorem dX2_pawnGoals_73 : decode cX2_pawnGoals 73 = .ok (.idiv, 1) := by decide +kernel
theorem dX2_pawnGoals_74 : decode cX2_pawnGoals 74 = .ok (.iload_n 2, 1) := by decide +kernel
theorem dX2_pawnGoals_75 : decode cX2_pawnGoals 75 = .ok (.ifCond .ne 7, 3) := by decide +kernel
theorem dX2_pawnGoals_78 : decode cX2_pawnGoals 78 = .ok (.iconst 1, 1) := by decide +kernel
theorem dX2_pawnGoals_79 : decode cX2_pawnGoals 79 = .ok (.goto 5, 3) := by decide +kernel
theorem dX2_pawnGoals_82 : decode cX2_pawnGoals 82 = .ok (.bipush 6, 2) := by decide +kernel
theorem dX2_pawnGoals_84 : decode cX2_pawnGoals 84 = .ok (.if_icmp .ne 24, 3) := by decide +kernel
theorem dX2_pawnGoals_87 : decode cX2_pawnGoals 87 = .ok (.lload 4, 2) := by decide +kernel
theorem dX2_pawnGoals_89 : decode cX2_pawnGoals 89 = .ok (.lconst 1, 1) := by decide +kernel
theorem dX2_pawnGoals_90 : decode cX2_pawnGoals 90 = .ok (.iload_n 1, 1) := by decide +kernel
theorem dX2_pawnGoals_91 : decode cX2_pawnGoals 91 = .ok (.iconst 2, 1) := by decide +kernel
theorem dX2_pawnGoals_92 : decode cX2_pawnGoals 92 = .ok (.iload_n 3, 1) := by decide +kernel
theorem dX2_pawnGoals_93 : decode cX2_pawnGoals 93 = .ok (.imul, 1) := by decide +kernel
theorem dX2_pawnGoals_94 : decode cX2_pawnGoals 94 = .ok (.iadd, 1) := by decide +kernel
theorem dX2_pawnGoals_95 : decode cX2_pawnGoals 95 = .ok (.lshl, 1) := by decide +kernel
theorem dX2_pawnGoals_96 : decode cX2_pawnGoals 96 = .ok (.aload_n 0, 1) := by decide +kernel
theorem dX2_pawnGoals_97 : decode cX2_pawnGoals 97 = .ok (.getfield 95, 3) := by decide +kernel
theorem dX2_pawnGoals_100 : decode cX2_pawnGoals 100 = .ok (.ldc2_w 101, 3) := by decide +kernel
theorem dX2_pawnGoals_103 : decode cX2_pawnGoals 103 = .ok (.lxor, 1) := by decide +kernel
theorem dX2_pawnGoals_104 : decode cX2_pawnGoals 104 = .ok (.land, 1) := by decide +kernel
theorem dX2_pawnGoals_105 : decode cX2_pawnGoals 105 = .ok (.lor, 1) := by decide +kernel
theorem dX2_pawnGoals_106 : decode cX2_pawnGoals 106 = .ok (.lstore 4, 2) := by decide +kernel
theorem dX2_pawnGoals_108 : decode cX2_pawnGoals 108 = .ok (.lload 4, 2) := by decide +kernel
theorem dX2_pawnGoals_110 : decode cX2_pawnGoals 110 = .ok (.lreturn, 1) := by decide +kernel
theorem dX2_kingGoals_0 : decode cX2_kingGoals 0 = .ok (.lconst 0, 1) := by decide +kernel
theorem dX2_kingGoals_1 : decode cX2_kingGoals 1 = .ok (.lstore_n 1, 1) := by decide +kernel
theorem dX2_kingGoals_2 : decode cX2_kingGoals 2 = .ok (.aload_n 0, 1) := by decide +kernel
theorem dX2_kingGoals_3 : decode cX2_kingGoals 3 = .ok (.getfield 95, 3) := by decide +kernel
theorem dX2_kingGoals_6 : decode cX2_kingGoals 6 = .ok (.lconst 1, 1) := by decide +kernel
theorem dX2_kingGoals_7 : decode cX2_kingGoals 7 = .ok (.aload_n 0, 1) := by decide +kernel
theorem dX2_kingGoals_8 : decode cX2_kingGoals 8 = .ok (.getfield 57, 3) := by decide +kernel
theorem dX2_kingGoals_11 : decode cX2_kingGoals 11 = .ok (.lshl, 1) := by decide +kernel
theorem dX2_kingGoals_12 : decode cX2_kingGoals 12 = .ok (.ldc2_w 101, 3) := by decide +kernel
theorem dX2_kingGoals_15 : decode cX2_kingGoals 15 = .ok (.lxor, 1) := by decide +kernel
theorem dX2_kingGoals_16 : decode cX2_kingGoals 16 = .ok (.land, 1) := by decide +kernel
theorem dX2_kingGoals_17 : decode cX2_kingGoals 17 = .ok (.lstore_n 3, 1) := by decide +kernel
theorem dX2_kingGoals_18 : decode cX2_kingGoals 18 = .ok (.aload_n 0, 1) := by decide +kernel
theorem dX2_kingGoals_19 : decode cX2_kingGoals 19 = .ok (.getfield 15, 3) := by decide +kernel
theorem dX2_kingGoals_22 : decode cX2_kingGoals 22 = .ok (.getfield 147, 3) := by decide +kernel
theorem dX2_kingGoals_25 : decode cX2_kingGoals 25 = .ok (.aload_n 0, 1) := by decide +kernel
theorem dX2_kingGoals_26 : decode cX2_kingGoals 26 = .ok (.getfield 57, 3) := by decide +kernel
theorem dX2_kingGoals_29 : decode cX2_kingGoals 29 = .ok (.laload, 1) := by decide +kernel
theorem dX2_kingGoals_30 : decode cX2_kingGoals 30 = .ok (.aload_n 0, 1) := by decide +kernel
theorem dX2_kingGoals_31 : decode cX2_kingGoals 31 = .ok (.getfield 39, 3) := by decide +kernel
theorem dX2_kingGoals_34 : decode cX2_kingGoals 34 = .ok (.ldc2_w 101, 3) := by decide +kernel
theorem dX2_kingGoals_37 : decode cX2_kingGoals 37 = .ok (.lxor, 1) := by decide +kernel
theorem dX2_kingGoals_38 : decode cX2_kingGoals 38 = .ok (.land, 1) := by decide +kernel
theorem dX2_kingGoals_39 : decode cX2_kingGoals 39 = .ok (.lstore 5, 2) := by decide +kernel
theorem dX2_kingGoals_41 : decode cX2_kingGoals 41 = .ok (.lload 5, 2) := by decide +kernel
theorem dX2_kingGoals_43 : decode cX2_kingGoals 43 = .ok (.invokestatic 42, 3) := by decide +kernel
theorem dX2_kingGoals_46 : decode cX2_kingGoals 46 = .ok (.istore 7, 2) := by decide +kernel
theorem dX2_kingGoals_48 : decode cX2_kingGoals 48 = .ok (.iload 7, 2) := by decide +kernel
theorem dX2_kingGoals_50 : decode cX2_kingGoals 50 = .ok (.ifCond .le 54, 3) := by decide +kernel
theorem dX2_kingGoals_53 : decode cX2_kingGoals 53 = .ok (.lload 5, 2) := by decide +kernel
theorem dX2_kingGoals_55 : decode cX2_kingGoals 55 = .ok (.invokestatic 54, 3) := by decide +kernel
theorem dX2_kingGoals_58 : decode cX2_kingGoals 58 = .ok (.istore 8, 2) := by decide +kernel
theorem dX2_kingGoals_60 : decode cX2_kingGoals 60 = .ok (.lload 5, 2) := by decide +kernel
theorem dX2_kingGoals_62 : decode cX2_kingGoals 62 = .ok (.lload 5, 2) := by decide +kernel
theorem dX2_kingGoals_64 : decode cX2_kingGoals 64 = .ok (.lconst 1, 1) := by decide +kernel
theorem dX2_kingGoals_65 : decode cX2_kingGoals 65 = .ok (.lsub, 1) := by decide +kernel
theorem dX2_kingGoals_66 : decode cX2_kingGoals 66 = .ok (.land, 1) := by decide +kernel
theorem dX2_kingGoals_67 : decode cX2_kingGoals 67 = .ok (.lstore 5, 2) := by decide +kernel
theorem dX2_kingGoals_69 : decode cX2_kingGoals 69 = .ok (.aload_n 0, 1) := by decide +kernel
theorem dX2_kingGoals_70 : decode cX2_kingGoals 70 = .ok (.getfield 9, 3) := by decide +kernel
theorem dX2_kingGoals_73 : decode cX2_kingGoals 73 = .ok (.iload 8, 2) := by decide +kernel
theorem dX2_kingGoals_75 : decode cX2_kingGoals 75 = .ok (.iconst 1, 1) := by decide +kernel
theorem dX2_kingGoals_76 : decode cX2_kingGoals 76 = .ok (.aload_n 0, 1) := by decide +kernel
theorem dX2_kingGoals_77 : decode cX2_kingGoals 77 = .ok (.getfield 9, 3) := by decide +kernel
theorem dX2_kingGoals_80 : decode cX2_kingGoals 80 = .ok (.getfield 86, 3) := by decide +kernel
theorem dX2_kingGoals_83 : decode cX2_kingGoals 83 = .ok (.isub, 1) := by decide +kernel
theorem dX2_kingGoals_84 : decode cX2_kingGoals 84 = .ok (.lload_n 3, 1) := by decide +kernel
theorem dX2_kingGoals_85 : decode cX2_kingGoals 85 = .ok (.invokevirtual 150, 3) := by decide +kernel
theorem dX2_kingGoals_88 : decode cX2_kingGoals 88 = .ok (.ifCond .ne 10, 3) := by decide +kernel
theorem dX2_kingGoals_91 : decode cX2_kingGoals 91 = .ok (.lload_n 1, 1) := by decide +kernel
theorem dX2_kingGoals_92 : decode cX2_kingGoals 92 = .ok (.lconst 1, 1) := by decide +kernel
theorem dX2_kingGoals_93 : decode cX2_kingGoals 93 = .ok (.iload 8, 2) := by decide +kernel
theorem dX2_kingGoals_95 : decode cX2_kingGoals 95 = .ok (.lshl, 1) := by decide +kernel
theorem dX2_kingGoals_96 : decode cX2_kingGoals 96 = .ok (.lor, 1) := by decide +kernel
theorem dX2_kingGoals_97 : decode cX2_kingGoals 97 = .ok (.lstore_n 1, 1) := by decide +kernel
theorem dX2_kingGoals_98 : decode cX2_kingGoals 98 = .ok (.iinc 7 (-1), 3) := by decide +kernel
theorem dX2_kingGoals_101 : decode cX2_kingGoals 101 = .ok (.goto (-53), 3) := by decide +kernel
theorem dX2_kingGoals_104 : decode cX2_kingGoals 104 = .ok (.aload_n 0, 1) := by decide +kernel
theorem dX2_kingGoals_105 : decode cX2_kingGoals 105 = .ok (.getfield 103, 3) := by decide +kernel
theorem dX2_kingGoals_108 : decode cX2_kingGoals 108 = .ok (.ldc2_w 101, 3) := by decide +kernel
theorem dX2_kingGoals_111 : decode cX2_kingGoals 111 = .ok (.lcmp, 1) := by decide +kernel
theorem dX2_kingGoals_112 : decode cX2_kingGoals 112 = .ok (.ifCond .ne 13, 3) := by decide +kernel
theorem dX2_kingGoals_115 : decode cX2_kingGoals 115 = .ok (.lload_n 1, 1) := by decide +kernel
theorem dX2_kingGoals_116 : decode cX2_kingGoals 116 = .ok (.aload_n 0, 1) := by decide +kernel
theorem dX2_kingGoals_117 : decode cX2_kingGoals 117 = .ok (.lload_n 1, 1) := by decide +kernel
theorem dX2_kingGoals_118 : decode cX2_kingGoals 118 = .ok (.invokevirtual 154, 3) := by decide +kernel
theorem dX2_kingGoals_121 : decode cX2_kingGoals 121 = .ok (.lor, 1) := by decide +kernel
theorem dX2_kingGoals_122 : decode cX2_kingGoals 122 = .ok (.goto 4, 3) := by decide +kernel
theorem dX2_kingGoals_125 : decode cX2_kingGoals 125 = .ok (.lload_n 1, 1) := by decide +kernel
theorem dX2_kingGoals_126 : decode cX2_kingGoals 126 = .ok (.lreturn, 1) := by decide +kernel
theorem dX2_goalsByRight_0 : decode cX2_goalsByRight 0 = .ok (.iconst 1, 1) := by decide +kernel
theorem dX2_goalsByRight_1 : decode cX2_goalsByRight 1 = .ok (.aload_n 0, 1) := by decide +kernel
theorem dX2_goalsByRight_2 : decode cX2_goalsByRight 2 = .ok (.getfield 9, 3) := by decide +kernel
theorem dX2_goalsByRight_5 : decode cX2_goalsByRight 5 = .ok (.getfield 86, 3) := by decide +kernel
theorem dX2_goalsByRight_8 : decode cX2_goalsByRight 8 = .ok (.isub, 1) := by decide +kernel
theorem dX2_goalsByRight_9 : decode cX2_goalsByRight 9 = .ok (.istore_n 3, 1) := by decide +kernel
theorem dX2_goalsByRight_10 : decode cX2_goalsByRight 10 = .ok (.bipush 56, 2) := by decide +kernel
theorem dX2_goalsByRight_12 : decode cX2_goalsByRight 12 = .ok (.aload_n 0, 1) := by decide +kernel
theorem dX2_goalsByRight_13 : decode cX2_goalsByRight 13 = .ok (.getfield 9, 3) := by decide +kernel
theorem dX2_goalsByRight_16 : decode cX2_goalsByRight 16 = .ok (.getfield 86, 3) := by decide +kernel
theorem dX2_goalsByRight_19 : decode cX2_goalsByRight 19 = .ok (.imul, 1) := by decide +kernel
theorem dX2_goalsByRight_20 : decode cX2_goalsByRight 20 = .ok (.istore 4, 2) := by decide +kernel
theorem dX2_goalsByRight_22 : decode cX2_goalsByRight 22 = .ok (.aload_n 0, 1) := by decide +kernel
theorem dX2_goalsByRight_23 : decode cX2_goalsByRight 23 = .ok (.getfield 9, 3) := by decide +kernel
theorem dX2_goalsByRight_26 : decode cX2_goalsByRight 26 = .ok (.getfield 158, 3) := by decide +kernel
theorem dX2_goalsByRight_29 : decode cX2_goalsByRight 29 = .ok (.iconst 2, 1) := by decide +kernel
theorem dX2_goalsByRight_30 : decode cX2_goalsByRight 30 = .ok (.aload_n 0, 1) := by decide +kernel
theorem dX2_goalsByRight_31 : decode cX2_goalsByRight 31 = .ok (.getfield 9, 3) := by decide +kernel
theorem dX2_goalsByRight_34 : decode cX2_goalsByRight 34 = .ok (.getfield 86, 3) := by decide +kernel
theorem dX2_goalsByRight_37 : decode cX2_goalsByRight 37 = .ok (.imul, 1) := by decide +kernel
theorem dX2_goalsByRight_38 : decode cX2_goalsByRight 38 = .ok (.ishr, 1) := by decide +kernel
theorem dX2_goalsByRight_39 : decode cX2_goalsByRight 39 = .ok (.istore 5, 2) := by decide +kernel
theorem dX2_goalsByRight_41 : decode cX2_goalsByRight 41 = .ok (.aload_n 0, 1) := by decide +kernel
theorem dX2_goalsByRight_42 : decode cX2_goalsByRight 42 = .ok (.getfield 95, 3) := by decide +kernel
theorem dX2_goalsByRight_45 : decode cX2_goalsByRight 45 = .ok (.ldc2_w 161, 3) := by decide +kernel
theorem dX2_goalsByRight_48 : decode cX2_goalsByRight 48 = .ok (.iload 4, 2) := by decide +kernel
theorem dX2_goalsByRight_50 : decode cX2_goalsByRight 50 = .ok (.lshl, 1) := by decide +kernel
theorem dX2_goalsByRight_51 : decode cX2_goalsByRight 51 = .ok (.land, 1) := by decide +kernel
theorem dX2_goalsByRight_52 : decode cX2_goalsByRight 52 = .ok (.lconst 0, 1) := by decide +kernel
theorem dX2_goalsByRight_53 : decode cX2_goalsByRight 53 = .ok (.lcmp, 1) := by decide +kernel
theorem dX2_goalsByRight_54 : decode cX2_goalsByRight 54 = .ok (.ifCond .ne 20, 3) := by decide +kernel
theorem dX2_goalsByRight_57 : decode cX2_goalsByRight 57 = .ok (.lload_n 1, 1) := by decide +kernel
theorem dX2_goalsByRight_58 : decode cX2_goalsByRight 58 = .ok (.iload 4, 2) := by decide +kernel
theorem dX2_goalsByRight_60 : decode cX2_goalsByRight 60 = .ok (.iconst 5, 1) := by decide +kernel
theorem dX2_goalsByRight_61 : decode cX2_goalsByRight 61 = .ok (.iadd, 1) := by decide +kernel
theorem dX2_goalsByRight_62 : decode cX2_goalsByRight 62 = .ok (.lushr, 1) := by decide +kernel
theorem dX2_goalsByRight_63 : decode cX2_goalsByRight 63 = .ok (.lconst 1, 1) := by decide +kernel
theorem dX2_goalsByRight_64 : decode cX2_goalsByRight 64 = .ok (.land, 1) := by decide +kernel
theorem dX2_goalsByRight_65 : decode cX2_goalsByRight 65 = .ok (.lconst 0, 1) := by decide +kernel
theorem dX2_goalsByRight_66 : decode cX2_goalsByRight 66 = .ok (.lcmp, 1) := by decide +kernel
theorem dX2_goalsByRight_67 : decode cX2_goalsByRight 67 = .ok (.ifCond .eq 7, 3) := by decide +kernel
theorem dX2_goalsByRight_70 : decode cX2_goalsByRight 70 = .ok (.iconst 1, 1) := by decide +kernel
theorem dX2_goalsByRight_71 : decode cX2_goalsByRight 71 = .ok (.goto 4, 3) := by decide +kernel
theorem dX2_goalsByRight_74 : decode cX2_goalsByRight 74 = .ok (.iconst 0, 1) := by decide +kernel
theorem dX2_goalsByRight_75 : decode cX2_goalsByRight 75 = .ok (.istore 6, 2) := by decide +kernel
theorem dX2_goalsByRight_77 : decode cX2_goalsByRight 77 = .ok (.aload_n 0, 1) := by decide +kernel
theorem dX2_goalsByRight_78 : decode cX2_goalsByRight 78 = .ok (.getfield 95, 3) := by decide +kernel
theorem dX2_goalsByRight_81 : decode cX2_goalsByRight 81 = .ok (.ldc2_w 163, 3) := by decide +kernel
theorem dX2_goalsByRight_84 : decode cX2_goalsByRight 84 = .ok (.iload 4, 2) := by decide +kernel
theorem dX2_goalsByRight_86 : decode cX2_goalsByRight 86 = .ok (.lshl, 1) := by decide +kernel
theorem dX2_goalsByRight_87 : decode cX2_goalsByRight 87 = .ok (.land, 1) := by decide +kernel
theorem dX2_goalsByRight_88 : decode cX2_goalsByRight 88 = .ok (.lconst 0, 1) := by decide +kernel
theorem dX2_goalsByRight_89 : decode cX2_goalsByRight 89 = .ok (.lcmp, 1) := by decide +kernel
theorem dX2_goalsByRight_90 : decode cX2_goalsByRight 90 = .ok (.ifCond .ne 20, 3) := by decide +kernel
theorem dX2_goalsByRight_93 : decode cX2_goalsByRight 93 = .ok (.lload_n 1, 1) := by decide +kernel
theorem dX2_goalsByRight_94 : decode cX2_goalsByRight 94 = .ok (.iload 4, 2) := by decide +kernel
theorem dX2_goalsByRight_96 : decode cX2_goalsByRight 96 = .ok (.iconst 3, 1) := by decide +kernel
theorem dX2_goalsByRight_97 : decode cX2_goalsByRight 97 = .ok (.iadd, 1) := by decide +kernel
theorem dX2_goalsByRight_98 : decode cX2_goalsByRight 98 = .ok (.lushr, 1) := by decide +kernel
theorem dX2_goalsByRight_99 : decode cX2_goalsByRight 99 = .ok (.lconst 1, 1) := by decide +kernel
theorem dX2_goalsByRight_100 : decode cX2_goalsByRight 100 = .ok (.land, 1) := by decide +kernel
theorem dX2_goalsByRight_101 : decode cX2_goalsByRight 101 = .ok (.lconst 0, 1) := by decide +kernel
theorem dX2_goalsByRight_102 : decode cX2_goalsByRight 102 = .ok (.lcmp, 1) := by decide +kernel
theorem dX2_goalsByRight_103 : decode cX2_goalsByRight 103 = .ok (.ifCond .eq 7, 3) := by decide +kernel
theorem dX2_goalsByRight_106 : decode cX2_goalsByRight 106 = .ok (.iconst 1, 1) := by decide +kernel
theorem dX2_goalsByRight_107 : decode cX2_goalsByRight 107 = .ok (.goto 4, 3) := by decide +kernel
theorem dX2_goalsByRight_110 : decode cX2_goalsByRight 110 = .ok (.iconst 0, 1) := by decide +kernel
theorem dX2_goalsByRight_111 : decode cX2_goalsByRight 111 = .ok (.istore 7, 2) := by decide +kernel
theorem dX2_goalsByRight_113 : decode cX2_goalsByRight 113 = .ok (.lconst 0, 1) := by decide +kernel
theorem dX2_goalsByRight_114 : decode cX2_goalsByRight 114 = .ok (.lstore 8, 2) := by decide +kernel
theorem dX2_goalsByRight_116 : decode cX2_goalsByRight 116 = .ok (.iload 5, 2) := by decide +kernel
theorem dX2_goalsByRight_118 : decode cX2_goalsByRight 118 = .ok (.iconst 1, 1) := by decide +kernel
theorem dX2_goalsByRight_119 : decode cX2_goalsByRight 119 = .ok (.iand, 1) := by decide +kernel
theorem dX2_goalsByRight_120 : decode cX2_goalsByRight 120 = .ok (.ifCond .eq 40, 3) := by decide +kernel
theorem dX2_goalsByRight_123 : decode cX2_goalsByRight 123 = .ok (.iload 6, 2) := by decide +kernel
theorem dX2_goalsByRight_125 : decode cX2_goalsByRight 125 = .ok (.ifCond .eq 35, 3) := by decide +kernel
theorem dX2_goalsByRight_128 : decode cX2_goalsByRight 128 = .ok (.aload_n 0, 1) := by decide +kernel
theorem dX2_goalsByRight_129 : decode cX2_goalsByRight 129 = .ok (.getfield 9, 3) := by decide +kernel
theorem dX2_goalsByRight_132 : decode cX2_goalsByRight 132 = .ok (.iload 4, 2) := by decide +kernel
theorem dX2_goalsByRight_134 : decode cX2_goalsByRight 134 = .ok (.bipush 6, 2) := by decide +kernel
theorem dX2_goalsByRight_136 : decode cX2_goalsByRight 136 = .ok (.iadd, 1) := by decide +kernel
theorem dX2_goalsByRight_137 : decode cX2_goalsByRight 137 = .ok (.iload_n 3, 1) := by decide +kernel
theorem dX2_goalsByRight_138 : decode cX2_goalsByRight 138 = .ok (.aload_n 0, 1) := by decide +kernel
theorem dX2_goalsByRight_139 : decode cX2_goalsByRight 139 = .ok (.getfield 95, 3) := by decide +kernel
theorem dX2_goalsByRight_142 : decode cX2_goalsByRight 142 = .ok (.invokevirtual 150, 3) := by decide +kernel
theorem dX2_goalsByRight_145 : decode cX2_goalsByRight 145 = .ok (.ifCond .ne 15, 3) := by decide +kernel
theorem dX2_goalsByRight_148 : decode cX2_goalsByRight 148 = .ok (.lload 8, 2) := by decide +kernel
theorem dX2_goalsByRight_150 : decode cX2_goalsByRight 150 = .ok (.lconst 1, 1) := by decide +kernel
theorem dX2_goalsByRight_151 : decode cX2_goalsByRight 151 = .ok (.iload 4, 2) := by decide +kernel
theorem dX2_goalsByRight_153 : decode cX2_goalsByRight 153 = .ok (.bipush 6, 2) := by decide +kernel
theorem dX2_goalsByRight_155 : decode cX2_goalsByRight 155 = .ok (.iadd, 1) := by decide +kernel
theorem dX2_goalsByRight_156 : decode cX2_goalsByRight 156 = .ok (.lshl, 1) := by decide +kernel
theorem dX2_goalsByRight_157 : decode cX2_goalsByRight 157 = .ok (.lor, 1) := by decide +kernel
theorem dX2_goalsByRight_158 : decode cX2_goalsByRight 158 = .ok (.lstore 8, 2) := by decide +kernel
theorem dX2_goalsByRight_160 : decode cX2_goalsByRight 160 = .ok (.iload 5, 2) := by decide +kernel
theorem dX2_goalsByRight_162 : decode cX2_goalsByRight 162 = .ok (.iconst 2, 1) := by decide +kernel
theorem dX2_goalsByRight_163 : decode cX2_goalsByRight 163 = .ok (.iand, 1) := by decide +kernel
theorem dX2_goalsByRight_164 : decode cX2_goalsByRight 164 = .ok (.ifCond .eq 38, 3) := by decide +kernel
theorem dX2_goalsByRight_167 : decode cX2_goalsByRight 167 = .ok (.iload 7, 2) := by decide +kernel
theorem dX2_goalsByRight_169 : decode cX2_goalsByRight 169 = .ok (.ifCond .eq 33, 3) := by decide +kernel
theorem dX2_goalsByRight_172 : decode cX2_goalsByRight 172 = .ok (.aload_n 0, 1) := by decide +kernel
theorem dX2_goalsByRight_173 : decode cX2_goalsByRight 173 = .ok (.getfield 9, 3) := by decide +kernel
theorem dX2_goalsByRight_176 : decode cX2_goalsByRight 176 = .ok (.iload 4, 2) := by decide +kernel
theorem dX2_goalsByRight_178 : decode cX2_goalsByRight 178 = .ok (.iconst 2, 1) := by decide +kernel
theorem dX2_goalsByRight_179 : decode cX2_goalsByRight 179 = .ok (.iadd, 1) := by decide +kernel
theorem dX2_goalsByRight_180 : decode cX2_goalsByRight 180 = .ok (.iload_n 3, 1) := by decide +kernel
theorem dX2_goalsByRight_181 : decode cX2_goalsByRight 181 = .ok (.aload_n 0, 1) := by decide +kernel
theorem dX2_goalsByRight_182 : decode cX2_goalsByRight 182 = .ok (.getfield 95, 3) := by decide +kernel
theorem dX2_goalsByRight_185 : decode cX2_goalsByRight 185 = .ok (.invokevirtual 150, 3) := by decide +kernel
theorem dX2_goalsByRight_188 : decode cX2_goalsByRight 188 = .ok (.ifCond .ne 14, 3) := by decide +kernel
theorem dX2_goalsByRight_191 : decode cX2_goalsByRight 191 = .ok (.lload 8, 2) := by decide +kernel
theorem dX2_goalsByRight_193 : decode cX2_goalsByRight 193 = .ok (.lconst 1, 1) := by decide +kernel
theorem dX2_goalsByRight_194 : decode cX2_goalsByRight 194 = .ok (.iload 4, 2) := by decide +kernel
theorem dX2_goalsByRight_196 : decode cX2_goalsByRight 196 = .ok (.iconst 2, 1) := by decide +kernel
theorem dX2_goalsByRight_197 : decode cX2_goalsByRight 197 = .ok (.iadd, 1) := by decide +kernel
theorem dX2_goalsByRight_198 : decode cX2_goalsByRight 198 = .ok (.lshl, 1) := by decide +kernel
theorem dX2_goalsByRight_199 : decode cX2_goalsByRight 199 = .ok (.lor, 1) := by decide +kernel
theorem dX2_goalsByRight_200 : decode cX2_goalsByRight 200 = .ok (.lstore 8, 2) := by decide +kernel
theorem dX2_goalsByRight_202 : decode cX2_goalsByRight 202 = .ok (.lload 8, 2) := by decide +kernel
theorem dX2_goalsByRight_204 : decode cX2_goalsByRight 204 = .ok (.lreturn, 1) := by decide +kernel
theorem dX3_init_0 : decode cX3_init 0 = .ok (.aload_n 0, 1) := by decide +kernel
theorem dX3_init_1 : decode cX3_init 1 = .ok (.invokespecial 3, 3) := by decide +kernel
theorem dX3_init_4 : decode cX3_init 4 = .ok (.aload_n 0, 1) := by decide +kernel
theorem dX3_init_5 : decode cX3_init 5 = .ok (.sipush 512, 3) := by decide +kernel
theorem dX3_init_8 : decode cX3_init 8 = .ok (.newarray .long, 2) := by decide +kernel
theorem dX3_init_10 : decode cX3_init 10 = .ok (.putfield 11, 3) := by decide +kernel
theorem dX3_init_13 : decode cX3_init 13 = .ok (.aload_n 0, 1) := by decide +kernel
theorem dX3_init_14 : decode cX3_init 14 = .ok (.bipush 64, 2) := by decide +kernel
theorem dX3_init_16 : decode cX3_init 16 = .ok (.newarray .long, 2) := by decide +kernel
theorem dX3_init_18 : decode cX3_init 18 = .ok (.putfield 15, 3) := by decide +kernel
theorem dX3_init_21 : decode cX3_init 21 = .ok (.aload_n 0, 1) := by decide +kernel
theorem dX3_init_22 : decode cX3_init 22 = .ok (.bipush 64, 2) := by decide +kernel
theorem dX3_init_24 : decode cX3_init 24 = .ok (.newarray .long, 2) := by decide +kernel
theorem dX3_init_26 : decode cX3_init 26 = .ok (.putfield 18, 3) := by decide +kernel
theorem dX3_init_29 : decode cX3_init 29 = .ok (.aload_n 0, 1) := by decide +kernel
theorem dX3_init_30 : decode cX3_init 30 = .ok (.sipush 128, 3) := by decide +kernel
theorem dX3_init_33 : decode cX3_init 33 = .ok (.newarray .long, 2) := by decide +kernel
theorem dX3_init_35 : decode cX3_init 35 = .ok (.putfield 21, 3) := by decide +kernel
theorem dX3_init_38 : decode cX3_init 38 = .ok (.iconst 0, 1) := by decide +kernel
theorem dX3_init_39 : decode cX3_init 39 = .ok (.istore_n 1, 1) := by decide +kernel
theorem dX3_init_40 : decode cX3_init 40 = .ok (.iload_n 1, 1) := by decide +kernel
theorem dX3_init_41 : decode cX3_init 41 = .ok (.bipush 64, 2) := by decide +kernel
theorem dX3_init_43 : decode cX3_init 43 = .ok (.if_icmp .ge 106, 3) := by decide +kernel
theorem dX3_init_46 : decode cX3_init 46 = .ok (.iconst 0, 1) := by decide +kernel
theorem dX3_init_47 : decode cX3_init 47 = .ok (.istore_n 2, 1) := by decide +kernel
theorem dX3_init_48 : decode cX3_init 48 = .ok (.iload_n 2, 1) := by decide +kernel
theorem dX3_init_49 : decode cX3_init 49 = .ok (.bipush 8, 2) := by decide +kernel
theorem dX3_init_51 : decode cX3_init 51 = .ok (.if_icmp .ge 25, 3) := by decide +kernel
theorem dX3_init_54 : decode cX3_init 54 = .ok (.aload_n 0, 1) := by decide +kernel
theorem dX3_init_55 : decode cX3_init 55 = .ok (.getfield 11, 3) := by decide +kernel
theorem dX3_init_58 : decode cX3_init 58 = .ok (.iload_n 2, 1) := by decide +kernel
theorem dX3_init_59 : decode cX3_init 59 = .ok (.bipush 64, 2) := by decide +kernel
theorem dX3_init_61 : decode cX3_init 61 = .ok (.imul, 1) := by decide +kernel
theorem dX3_init_62 : decode cX3_init 62 = .ok (.iload_n 1, 1) := by decide +kernel
theorem dX3_init_63 : decode cX3_init 63 = .ok (.iadd, 1) := by decide +kernel
theorem dX3_init_64 : decode cX3_init 64 = .ok (.iload_n 1, 1) := by decide +kernel
theorem dX3_init_65 : decode cX3_init 65 = .ok (.iload_n 2, 1) := by decide +kernel
theorem dX3_init_66 : decode cX3_init 66 = .ok (.invokestatic 24, 3) := by decide +kernel
theorem dX3_init_69 : decode cX3_init 69 = .ok (.lastore, 1) := by decide +kernel
theorem dX3_init_70 : decode cX3_init 70 = .ok (.iinc 2 1, 3) := by decide +kernel
theorem dX3_init_73 : decode cX3_init 73 = .ok (.goto (-25), 3) := by decide +kernel
theorem dX3_init_76 : decode cX3_init 76 = .ok (.aload_n 0, 1) := by decide +kernel
theorem dX3_init_77 : decode cX3_init 77 = .ok (.getfield 15, 3) := by decide +kernel
theorem dX3_init_80 : decode cX3_init 80 = .ok (.iload_n 1, 1) := by decide +kernel
theorem dX3_init_81 : decode cX3_init 81 = .ok (.iload_n 1, 1) := by decide +kernel
theorem dX3_init_82 : decode cX3_init 82 = .ok (.getstatic 28, 3) := by decide +kernel
theorem dX3_init_85 : decode cX3_init 85 = .ok (.getstatic 32, 3) := by decide +kernel
theorem dX3_init_88 : decode cX3_init 88 = .ok (.invokestatic 35, 3) := by decide +kernel
theorem dX3_init_91 : decode cX3_init 91 = .ok (.lastore, 1) := by decide +kernel
theorem dX3_init_92 : decode cX3_init 92 = .ok (.aload_n 0, 1) := by decide +kernel
theorem dX3_init_93 : decode cX3_init 93 = .ok (.getfield 18, 3) := by decide +kernel
theorem dX3_init_96 : decode cX3_init 96 = .ok (.iload_n 1, 1) := by decide +kernel
theorem dX3_init_97 : decode cX3_init 97 = .ok (.iload_n 1, 1) := by decide +kernel
theorem dX3_init_98 : decode cX3_init 98 = .ok (.getstatic 39, 3) := by decide +kernel
theorem dX3_init_101 : decode cX3_init 101 = .ok (.getstatic 42, 3) := by decide +kernel
theorem dX3_init_104 : decode cX3_init 104 = .ok (.invokestatic 35, 3) := by decide +kernel
theorem dX3_init_107 : decode cX3_init 107 = .ok (.lastore, 1) := by decide +kernel
theorem dX3_init_108 : decode cX3_init 108 = .ok (.aload_n 0, 1) := by decide +kernel
theorem dX3_init_109 : decode cX3_init 109 = .ok (.getfield 21, 3) := by decide +kernel
theorem dX3_init_112 : decode cX3_init 112 = .ok (.iload_n 1, 1) := by decide +kernel
theorem dX3_init_113 : decode cX3_init 113 = .ok (.iload_n 1, 1) := by decide +kernel
theorem dX3_init_114 : decode cX3_init 114 = .ok (.getstatic 45, 3) := by decide +kernel
theorem dX3_init_117 : decode cX3_init 117 = .ok (.getstatic 48, 3) := by decide +kernel
theorem dX3_init_120 : decode cX3_init 120 = .ok (.invokestatic 35, 3) := by decide +kernel
theorem dX3_init_123 : decode cX3_init 123 = .ok (.lastore, 1) := by decide +kernel
theorem dX3_init_124 : decode cX3_init 124 = .ok (.aload_n 0, 1) := by decide +kernel
theorem dX3_init_125 : decode cX3_init 125 = .ok (.getfield 21, 3) := by decide +kernel
theorem dX3_init_128 : decode cX3_init 128 = .ok (.bipush 64, 2) := by decide +kernel
theorem dX3_init_130 : decode cX3_init 130 = .ok (.iload_n 1, 1) := by decide +kernel
theorem dX3_init_131 : decode cX3_init 131 = .ok (.iadd, 1) := by decide +kernel
theorem dX3_init_132 : decode cX3_init 132 = .ok (.iload_n 1, 1) := by decide +kernel
theorem dX3_init_133 : decode cX3_init 133 = .ok (.getstatic 51, 3) := by decide +kernel
theorem dX3_init_136 : decode cX3_init 136 = .ok (.getstatic 48, 3) := by decide +kernel
theorem dX3_init_139 : decode cX3_init 139 = .ok (.invokestatic 35, 3) := by decide +kernel
theorem dX3_init_142 : decode cX3_init 142 = .ok (.lastore, 1) := by decide +kernel
theorem dX3_init_143 : decode cX3_init 143 = .ok (.iinc 1 1, 3) := by decide +kernel
theorem dX3_init_146 : decode cX3_init 146 = .ok (.goto (-106), 3) := by decide +kernel
theorem dX3_init_149 : decode cX3_init 149 = .ok (.return_, 1) := by decide +kernel
theorem dX3_rayFrom_0 : decode cX3_rayFrom 0 = .ok (.lconst 0, 1) := by decide +kernel
theorem dX3_rayFrom_1 : decode cX3_rayFrom 1 = .ok (.lstore_n 2, 1) := by decide +kernel
theorem dX3_rayFrom_2 : decode cX3_rayFrom 2 = .ok (.iconst 1, 1) := by decide +kernel
theorem dX3_rayFrom_3 : decode cX3_rayFrom 3 = .ok (.istore 4, 2) := by decide +kernel
theorem dX3_rayFrom_5 : decode cX3_rayFrom 5 = .ok (.iload 4, 2) := by decide +kernel
theorem dX3_rayFrom_7 : decode cX3_rayFrom 7 = .ok (.bipush 8, 2) := by decide +kernel
theorem dX3_rayFrom_9 : decode cX3_rayFrom 9 = .ok (.if_icmp .ge 55, 3) := by decide +kernel
theorem dX3_rayFrom_12 : decode cX3_rayFrom 12 = .ok (.iload_n 0, 1) := by decide +kernel
theorem dX3_rayFrom_13 : decode cX3_rayFrom 13 = .ok (.bipush 8, 2) := by decide +kernel
theorem dX3_rayFrom_15 : decode cX3_rayFrom 15 = .ok (.idiv, 1) := by decide +kernel
theorem dX3_rayFrom_16 : decode cX3_rayFrom 16 = .ok (.iload 4, 2) := by decide +kernel
theorem dX3_rayFrom_18 : decode cX3_rayFrom 18 = .ok (.getstatic 39, 3) := by decide +kernel
theorem dX3_rayFrom_21 : decode cX3_rayFrom 21 = .ok (.iload_n 1, 1) := by decide +kernel
theorem dX3_rayFrom_22 : decode cX3_rayFrom 22 = .ok (.iaload, 1) := by decide +kernel
theorem dX3_rayFrom_23 : decode cX3_rayFrom 23 = .ok (.imul, 1) := by decide +kernel
theorem dX3_rayFrom_24 : decode cX3_rayFrom 24 = .ok (.iadd, 1) := by decide +kernel
theorem dX3_rayFrom_25 : decode cX3_rayFrom 25 = .ok (.iload_n 0, 1) := by decide +kernel
theorem dX3_rayFrom_26 : decode cX3_rayFrom 26 = .ok (.bipush 8, 2) := by decide +kernel
theorem dX3_rayFrom_28 : decode cX3_rayFrom 28 = .ok (.irem, 1) := by decide +kernel
theorem dX3_rayFrom_29 : decode cX3_rayFrom 29 = .ok (.iload 4, 2) := by decide +kernel
theorem dX3_rayFrom_31 : decode cX3_rayFrom 31 = .ok (.getstatic 42, 3) := by decide +kernel
theorem dX3_rayFrom_34 : decode cX3_rayFrom 34 = .ok (.iload_n 1, 1) := by decide +kernel
theorem dX3_rayFrom_35 : decode cX3_rayFrom 35 = .ok (.iaload, 1) := by decide +kernel
theorem dX3_rayFrom_36 : decode cX3_rayFrom 36 = .ok (.imul, 1) := by decide +kernel
theorem dX3_rayFrom_37 : decode cX3_rayFrom 37 = .ok (.iadd, 1) := by decide +kernel
theorem dX3_rayFrom_38 : decode cX3_rayFrom 38 = .ok (.invokestatic 54, 3) := by decide +kernel
theorem dX3_rayFrom_41 : decode cX3_rayFrom 41 = .ok (.lstore 5, 2) := by decide +kernel
theorem dX3_rayFrom_43 : decode cX3_rayFrom 43 = .ok (.lload 5, 2) := by decide +kernel
theorem dX3_rayFrom_45 : decode cX3_rayFrom 45 = .ok (.lconst 0, 1) := by decide +kernel
theorem dX3_rayFrom_46 : decode cX3_rayFrom 46 = .ok (.lcmp, 1) := by decide +kernel
theorem dX3_rayFrom_47 : decode cX3_rayFrom 47 = .ok (.ifCond .ne 6, 3) := by decide +kernel
theorem dX3_rayFrom_50 : decode cX3_rayFrom 50 = .ok (.goto 14, 3) := by decide +kernel
theorem dX3_rayFrom_53 : decode cX3_rayFrom 53 = .ok (.lload_n 2, 1) := by decide +kernel
theorem dX3_rayFrom_54 : decode cX3_rayFrom 54 = .ok (.lload 5, 2) := by decide +kernel
theorem dX3_rayFrom_56 : decode cX3_rayFrom 56 = .ok (.lor, 1) := by decide +kernel
theorem dX3_rayFrom_57 : decode cX3_rayFrom 57 = .ok (.lstore_n 2, 1) := by decide +kernel
theorem dX3_rayFrom_58 : decode cX3_rayFrom 58 = .ok (.iinc 4 1, 3) := by decide +kernel
theorem dX3_rayFrom_61 : decode cX3_rayFrom 61 = .ok (.goto (-56), 3) := by decide +kernel
theorem dX3_rayFrom_64 : decode cX3_rayFrom 64 = .ok (.lload_n 2, 1) := by decide +kernel
theorem dX3_rayFrom_65 : decode cX3_rayFrom 65 = .ok (.lreturn, 1) := by decide +kernel
theorem dX3_beside_0 : decode cX3_beside 0 = .ok (.lconst 0, 1) := by decide +kernel
theorem dX3_beside_1 : decode cX3_beside 1 = .ok (.lstore_n 3, 1) := by decide +kernel
theorem dX3_beside_2 : decode cX3_beside 2 = .ok (.iconst 0, 1) := by decide +kernel
theorem dX3_beside_3 : decode cX3_beside 3 = .ok (.istore 5, 2) := by decide +kernel
theorem dX3_beside_5 : decode cX3_beside 5 = .ok (.iload 5, 2) := by decide +kernel
theorem dX3_beside_7 : decode cX3_beside 7 = .ok (.aload_n 1, 1) := by decide +kernel
theorem dX3_beside_8 : decode cX3_beside 8 = .ok (.arraylength, 1) := by decide +kernel
theorem dX3_beside_9 : decode cX3_beside 9 = .ok (.if_icmp .ge 33, 3) := by decide +kernel
theorem dX3_beside_12 : decode cX3_beside 12 = .ok (.lload_n 3, 1) := by decide +kernel
theorem dX3_beside_13 : decode cX3_beside 13 = .ok (.iload_n 0, 1) := by decide +kernel
theorem dX3_beside_14 : decode cX3_beside 14 = .ok (.bipush 8, 2) := by decide +kernel
theorem dX3_beside_16 : decode cX3_beside 16 = .ok (.idiv, 1) := by decide +kernel
theorem dX3_beside_17 : decode cX3_beside 17 = .ok (.aload_n 1, 1) := by decide +kernel
theorem dX3_beside_18 : decode cX3_beside 18 = .ok (.iload 5, 2) := by decide +kernel
theorem dX3_beside_20 : decode cX3_beside 20 = .ok (.iaload, 1) := by decide +kernel
theorem dX3_beside_21 : decode cX3_beside 21 = .ok (.iadd, 1) := by decide +kernel
theorem dX3_beside_22 : decode cX3_beside 22 = .ok (.iload_n 0, 1) := by decide +kernel
theorem dX3_beside_23 : decode cX3_beside 23 = .ok (.bipush 8, 2) := by decide +kernel
theorem dX3_beside_25 : decode cX3_beside 25 = .ok (.irem, 1) := by decide +kernel
theorem dX3_beside_26 : decode cX3_beside 26 = .ok (.aload_n 2, 1) := by decide +kernel
theorem dX3_beside_27 : decode cX3_beside 27 = .ok (.iload 5, 2) := by decide +kernel
theorem dX3_beside_29 : decode cX3_beside 29 = .ok (.iaload, 1) := by decide +kernel
theorem dX3_beside_30 : decode cX3_beside 30 = .ok (.iadd, 1) := by decide +kernel
theorem dX3_beside_31 : decode cX3_beside 31 = .ok (.invokestatic 54, 3) := by decide +kernel
theorem dX3_beside_34 : decode cX3_beside 34 = .ok (.lor, 1) := by decide +kernel
theorem dX3_beside_35 : decode cX3_beside 35 = .ok (.lstore_n 3, 1) := by decide +kernel
theorem dX3_beside_36 : decode cX3_beside 36 = .ok (.iinc 5 1, 3) := by decide +kernel
theorem dX3_beside_39 : decode cX3_beside 39 = .ok (.goto (-34), 3) := by decide +kernel
theorem dX3_beside_42 : decode cX3_beside 42 = .ok (.lload_n 3, 1) := by decide +kernel
theorem dX3_beside_43 : decode cX3_beside 43 = .ok (.lreturn, 1) := by decide +kernel
theorem dX3_at_0 : decode cX3_at 0 = .ok (.iload_n 0, 1) := by decide +kernel
theorem dX3_at_1 : decode cX3_at 1 = .ok (.ifCond .lt 23, 3) := by decide +kernel
theorem dX3_at_4 : decode cX3_at 4 = .ok (.iload_n 0, 1) := by decide +kernel
theorem dX3_at_5 : decode cX3_at 5 = .ok (.bipush 8, 2) := by decide +kernel
theorem dX3_at_7 : decode cX3_at 7 = .ok (.if_icmp .ge 17, 3) := by decide +kernel
theorem dX3_at_10 : decode cX3_at 10 = .ok (.iload_n 1, 1) := by decide +kernel
theorem dX3_at_11 : decode cX3_at 11 = .ok (.ifCond .lt 13, 3) := by decide +kernel
theorem dX3_at_14 : decode cX3_at 14 = .ok (.iload_n 1, 1) := by decide +kernel
theorem dX3_at_15 : decode cX3_at 15 = .ok (.bipush 8, 2) := by decide +kernel
theorem dX3_at_17 : decode cX3_at 17 = .ok (.if_icmp .ge 7, 3) := by decide +kernel
theorem dX3_at_20 : decode cX3_at 20 = .ok (.iconst 1, 1) := by decide +kernel
theorem dX3_at_21 : decode cX3_at 21 = .ok (.goto 4, 3) := by decide +kernel
theorem dX3_at_24 : decode cX3_at 24 = .ok (.iconst 0, 1) := by decide +kernel
theorem dX3_at_25 : decode cX3_at 25 = .ok (.istore_n 2, 1) := by decide +kernel
theorem dX3_at_26 : decode cX3_at 26 = .ok (.iload_n 2, 1) := by decide +kernel
theorem dX3_at_27 : decode cX3_at 27 = .ok (.ifCond .eq 14, 3) := by decide +kernel
theorem dX3_at_30 : decode cX3_at 30 = .ok (.lconst 1, 1) := by decide +kernel
theorem dX3_at_31 : decode cX3_at 31 = .ok (.bipush 8, 2) := by decide +kernel
theorem dX3_at_33 : decode cX3_at 33 = .ok (.iload_n 0, 1) := by decide +kernel
theorem dX3_at_34 : decode cX3_at 34 = .ok (.imul, 1) := by decide +kernel
theorem dX3_at_35 : decode cX3_at 35 = .ok (.iload_n 1, 1) := by decide +kernel
theorem dX3_at_36 : decode cX3_at 36 = .ok (.iadd, 1) := by decide +kernel
theorem dX3_at_37 : decode cX3_at 37 = .ok (.lshl, 1) := by decide +kernel
theorem dX3_at_38 : decode cX3_at 38 = .ok (.goto 4, 3) := by decide +kernel
theorem dX3_at_41 : decode cX3_at 41 = .ok (.lconst 0, 1) := by decide +kernel
theorem dX3_at_42 : decode cX3_at 42 = .ok (.lreturn, 1) := by decide +kernel
theorem dX3_along_0 : decode cX3_along 0 = .ok (.aload_n 0, 1) := by decide +kernel
theorem dX3_along_1 : decode cX3_along 1 = .ok (.getfield 11, 3) := by decide +kernel
theorem dX3_along_4 : decode cX3_along 4 = .ok (.iload_n 1, 1) := by decide +kernel
theorem dX3_along_5 : decode cX3_along 5 = .ok (.bipush 64, 2) := by decide +kernel
theorem dX3_along_7 : decode cX3_along 7 = .ok (.imul, 1) := by decide +kernel
theorem dX3_along_8 : decode cX3_along 8 = .ok (.iload_n 2, 1) := by decide +kernel
theorem dX3_along_9 : decode cX3_along 9 = .ok (.iadd, 1) := by decide +kernel
theorem dX3_along_10 : decode cX3_along 10 = .ok (.laload, 1) := by decide +kernel
theorem dX3_along_11 : decode cX3_along 11 = .ok (.lstore 5, 2) := by decide +kernel
theorem dX3_along_13 : decode cX3_along 13 = .ok (.lload 5, 2) := by decide +kernel
theorem dX3_along_15 : decode cX3_along 15 = .ok (.lload_n 3, 1) := by decide +kernel
theorem dX3_along_16 : decode cX3_along 16 = .ok (.land, 1) := by decide +kernel
theorem dX3_along_17 : decode cX3_along 17 = .ok (.lstore 7, 2) := by decide +kernel
theorem dX3_along_19 : decode cX3_along 19 = .ok (.iload_n 1, 1) := by decide +kernel
theorem dX3_along_20 : decode cX3_along 20 = .ok (.iconst 4, 1) := by decide +kernel
theorem dX3_along_21 : decode cX3_along 21 = .ok (.if_icmp .ge 14, 3) := by decide +kernel
theorem dX3_along_24 : decode cX3_along 24 = .ok (.lload 5, 2) := by decide +kernel
theorem dX3_along_26 : decode cX3_along 26 = .ok (.lload 7, 2) := by decide +kernel
theorem dX3_along_28 : decode cX3_along 28 = .ok (.lload 7, 2) := by decide +kernel
theorem dX3_along_30 : decode cX3_along 30 = .ok (.lconst 1, 1) := by decide +kernel
theorem dX3_along_31 : decode cX3_along 31 = .ok (.lsub, 1) := by decide +kernel
theorem dX3_along_32 : decode cX3_along 32 = .ok (.lxor, 1) := by decide +kernel
theorem dX3_along_33 : decode cX3_along 33 = .ok (.land, 1) := by decide +kernel
theorem dX3_along_34 : decode cX3_along 34 = .ok (.lreturn, 1) := by decide +kernel
theorem dX3_along_35 : decode cX3_along 35 = .ok (.lload 7, 2) := by decide +kernel
theorem dX3_along_37 : decode cX3_along 37 = .ok (.lload 7, 2) := by decide +kernel
theorem dX3_along_39 : decode cX3_along 39 = .ok (.iconst 1, 1) := by decide +kernel
theorem dX3_along_40 : decode cX3_along 40 = .ok (.lushr, 1) := by decide +kernel
theorem dX3_along_41 : decode cX3_along 41 = .ok (.lor, 1) := by decide +kernel
theorem dX3_along_42 : decode cX3_along 42 = .ok (.lstore 7, 2) := by decide +kernel
theorem dX3_along_44 : decode cX3_along 44 = .ok (.lload 7, 2) := by decide +kernel
theorem dX3_along_46 : decode cX3_along 46 = .ok (.lload 7, 2) := by decide +kernel
theorem dX3_along_48 : decode cX3_along 48 = .ok (.iconst 2, 1) := by decide +kernel
theorem dX3_along_49 : decode cX3_along 49 = .ok (.lushr, 1) := by decide +kernel
theorem dX3_along_50 : decode cX3_along 50 = .ok (.lor, 1) := by decide +kernel
theorem dX3_along_51 : decode cX3_along 51 = .ok (.lstore 7, 2) := by decide +kernel
theorem dX3_along_53 : decode cX3_along 53 = .ok (.lload 7, 2) := by decide +kernel
theorem dX3_along_55 : decode cX3_along 55 = .ok (.lload 7, 2) := by decide +kernel
theorem dX3_along_57 : decode cX3_along 57 = .ok (.iconst 4, 1) := by decide +kernel
theorem dX3_along_58 : decode cX3_along 58 = .ok (.lushr, 1) := by decide +kernel
theorem dX3_along_59 : decode cX3_along 59 = .ok (.lor, 1) := by decide +kernel
theorem dX3_along_60 : decode cX3_along 60 = .ok (.lstore 7, 2) := by decide +kernel
theorem dX3_along_62 : decode cX3_along 62 = .ok (.lload 7, 2) := by decide +kernel
theorem dX3_along_64 : decode cX3_along 64 = .ok (.lload 7, 2) := by decide +kernel
theorem dX3_along_66 : decode cX3_along 66 = .ok (.bipush 8, 2) := by decide +kernel
theorem dX3_along_68 : decode cX3_along 68 = .ok (.lushr, 1) := by decide +kernel
theorem dX3_along_69 : decode cX3_along 69 = .ok (.lor, 1) := by decide +kernel
theorem dX3_along_70 : decode cX3_along 70 = .ok (.lstore 7, 2) := by decide +kernel
theorem dX3_along_72 : decode cX3_along 72 = .ok (.lload 7, 2) := by decide +kernel
theorem dX3_along_74 : decode cX3_along 74 = .ok (.lload 7, 2) := by decide +kernel
theorem dX3_along_76 : decode cX3_along 76 = .ok (.bipush 16, 2) := by decide +kernel
theorem dX3_along_78 : decode cX3_along 78 = .ok (.lushr, 1) := by decide +kernel
theorem dX3_along_79 : decode cX3_along 79 = .ok (.lor, 1) := by decide +kernel
theorem dX3_along_80 : decode cX3_along 80 = .ok (.lstore 7, 2) := by decide +kernel
theorem dX3_along_82 : decode cX3_along 82 = .ok (.lload 7, 2) := by decide +kernel
theorem dX3_along_84 : decode cX3_along 84 = .ok (.lload 7, 2) := by decide +kernel
theorem dX3_along_86 : decode cX3_along 86 = .ok (.bipush 32, 2) := by decide +kernel
theorem dX3_along_88 : decode cX3_along 88 = .ok (.lushr, 1) := by decide +kernel
theorem dX3_along_89 : decode cX3_along 89 = .ok (.lor, 1) := by decide +kernel
theorem dX3_along_90 : decode cX3_along 90 = .ok (.lstore 7, 2) := by decide +kernel
theorem dX3_along_92 : decode cX3_along 92 = .ok (.lload 5, 2) := by decide +kernel
theorem dX3_along_94 : decode cX3_along 94 = .ok (.lload 7, 2) := by decide +kernel
theorem dX3_along_96 : decode cX3_along 96 = .ok (.iconst 1, 1) := by decide +kernel
theorem dX3_along_97 : decode cX3_along 97 = .ok (.lushr, 1) := by decide +kernel
theorem dX3_along_98 : decode cX3_along 98 = .ok (.ldc2_w 57, 3) := by decide +kernel
theorem dX3_along_101 : decode cX3_along 101 = .ok (.lxor, 1) := by decide +kernel
theorem dX3_along_102 : decode cX3_along 102 = .ok (.land, 1) := by decide +kernel
theorem dX3_along_103 : decode cX3_along 103 = .ok (.lreturn, 1) := by decide +kernel
theorem dX3_reach_0 : decode cX3_reach 0 = .ok (.iload_n 1, 1) := by decide +kernel
theorem dX3_reach_1 : decode cX3_reach 1 = .ok (.iconst 2, 1) := by decide +kernel
theorem dX3_reach_2 : decode cX3_reach 2 = .ok (.if_icmp .ne 10, 3) := by decide +kernel
theorem dX3_reach_5 : decode cX3_reach 5 = .ok (.aload_n 0, 1) := by decide +kernel
theorem dX3_reach_6 : decode cX3_reach 6 = .ok (.getfield 15, 3) := by decide +kernel
theorem dX3_reach_9 : decode cX3_reach 9 = .ok (.iload_n 2, 1) := by decide +kernel
theorem dX3_reach_10 : decode cX3_reach 10 = .ok (.laload, 1) := by decide +kernel
theorem dX3_reach_11 : decode cX3_reach 11 = .ok (.lreturn, 1) := by decide +kernel
theorem dX3_reach_12 : decode cX3_reach 12 = .ok (.lconst 0, 1) := by decide +kernel
theorem dX3_reach_13 : decode cX3_reach 13 = .ok (.lstore 5, 2) := by decide +kernel
theorem dX3_reach_15 : decode cX3_reach 15 = .ok (.iconst 0, 1) := by decide +kernel
theorem dX3_reach_16 : decode cX3_reach 16 = .ok (.istore 7, 2) := by decide +kernel
theorem dX3_reach_18 : decode cX3_reach 18 = .ok (.iload 7, 2) := by decide +kernel
theorem dX3_reach_20 : decode cX3_reach 20 = .ok (.bipush 8, 2) := by decide +kernel
theorem dX3_reach_22 : decode cX3_reach 22 = .ok (.if_icmp .ge 31, 3) := by decide +kernel
theorem dX3_reach_25 : decode cX3_reach 25 = .ok (.iload_n 1, 1) := by decide +kernel
theorem dX3_reach_26 : decode cX3_reach 26 = .ok (.iload 7, 2) := by decide +kernel
theorem dX3_reach_28 : decode cX3_reach 28 = .ok (.invokestatic 59, 3) := by decide +kernel
theorem dX3_reach_31 : decode cX3_reach 31 = .ok (.ifCond .eq 16, 3) := by decide +kernel
theorem dX3_reach_34 : decode cX3_reach 34 = .ok (.lload 5, 2) := by decide +kernel
theorem dX3_reach_36 : decode cX3_reach 36 = .ok (.aload_n 0, 1) := by decide +kernel
theorem dX3_reach_37 : decode cX3_reach 37 = .ok (.iload 7, 2) := by decide +kernel
theorem dX3_reach_39 : decode cX3_reach 39 = .ok (.iload_n 2, 1) := by decide +kernel
theorem dX3_reach_40 : decode cX3_reach 40 = .ok (.lload_n 3, 1) := by decide +kernel
theorem dX3_reach_41 : decode cX3_reach 41 = .ok (.invokevirtual 63, 3) := by decide +kernel
theorem dX3_reach_44 : decode cX3_reach 44 = .ok (.lor, 1) := by decide +kernel
theorem dX3_reach_45 : decode cX3_reach 45 = .ok (.lstore 5, 2) := by decide +kernel
theorem dX3_reach_47 : decode cX3_reach 47 = .ok (.iinc 7 1, 3) := by decide +kernel
theorem dX3_reach_50 : decode cX3_reach 50 = .ok (.goto (-32), 3) := by decide +kernel
theorem dX3_reach_53 : decode cX3_reach 53 = .ok (.lload 5, 2) := by decide +kernel
theorem dX3_reach_55 : decode cX3_reach 55 = .ok (.lreturn, 1) := by decide +kernel
theorem dX3_goesAlong_0 : decode cX3_goesAlong 0 = .ok (.iload_n 0, 1) := by decide +kernel
theorem dX3_goesAlong_1 : decode cX3_goesAlong 1 = .ok (.iconst 5, 1) := by decide +kernel
theorem dX3_goesAlong_2 : decode cX3_goesAlong 2 = .ok (.if_icmp .eq 18, 3) := by decide +kernel
theorem dX3_goesAlong_5 : decode cX3_goesAlong 5 = .ok (.iload_n 0, 1) := by decide +kernel
theorem dX3_goesAlong_6 : decode cX3_goesAlong 6 = .ok (.iload_n 1, 1) := by decide +kernel
theorem dX3_goesAlong_7 : decode cX3_goesAlong 7 = .ok (.iconst 2, 1) := by decide +kernel
theorem dX3_goesAlong_8 : decode cX3_goesAlong 8 = .ok (.iand, 1) := by decide +kernel
theorem dX3_goesAlong_9 : decode cX3_goesAlong 9 = .ok (.ifCond .eq 7, 3) := by decide +kernel
theorem dX3_goesAlong_12 : decode cX3_goesAlong 12 = .ok (.iconst 3, 1) := by decide +kernel
theorem dX3_goesAlong_13 : decode cX3_goesAlong 13 = .ok (.goto 4, 3) := by decide +kernel
theorem dX3_goesAlong_16 : decode cX3_goesAlong 16 = .ok (.iconst 4, 1) := by decide +kernel
theorem dX3_goesAlong_17 : decode cX3_goesAlong 17 = .ok (.if_icmp .ne 7, 3) := by decide +kernel
theorem dX3_goesAlong_20 : decode cX3_goesAlong 20 = .ok (.iconst 1, 1) := by decide +kernel
theorem dX3_goesAlong_21 : decode cX3_goesAlong 21 = .ok (.goto 4, 3) := by decide +kernel
theorem dX3_goesAlong_24 : decode cX3_goesAlong 24 = .ok (.iconst 0, 1) := by decide +kernel
theorem dX3_goesAlong_25 : decode cX3_goesAlong 25 = .ok (.ireturn, 1) := by decide +kernel
theorem dX3_rayThrough_0 : decode cX3_rayThrough 0 = .ok (.iconst 0, 1) := by decide +kernel
theorem dX3_rayThrough_1 : decode cX3_rayThrough 1 = .ok (.istore_n 3, 1) := by decide +kernel
theorem dX3_rayThrough_2 : decode cX3_rayThrough 2 = .ok (.iload_n 3, 1) := by decide +kernel
theorem dX3_rayThrough_3 : decode cX3_rayThrough 3 = .ok (.bipush 8, 2) := by decide +kernel
theorem dX3_rayThrough_5 : decode cX3_rayThrough 5 = .ok (.if_icmp .ge 36, 3) := by decide +kernel
theorem dX3_rayThrough_8 : decode cX3_rayThrough 8 = .ok (.aload_n 0, 1) := by decide +kernel
theorem dX3_rayThrough_9 : decode cX3_rayThrough 9 = .ok (.getfield 11, 3) := by decide +kernel
theorem dX3_rayThrough_12 : decode cX3_rayThrough 12 = .ok (.iload_n 3, 1) := by decide +kernel
theorem dX3_rayThrough_13 : decode cX3_rayThrough 13 = .ok (.bipush 64, 2) := by decide +kernel
theorem dX3_rayThrough_15 : decode cX3_rayThrough 15 = .ok (.imul, 1) := by decide +kernel
theorem dX3_rayThrough_16 : decode cX3_rayThrough 16 = .ok (.iload_n 1, 1) := by decide +kernel
theorem dX3_rayThrough_17 : decode cX3_rayThrough 17 = .ok (.iadd, 1) := by decide +kernel
theorem dX3_rayThrough_18 : decode cX3_rayThrough 18 = .ok (.laload, 1) := by decide +kernel
theorem dX3_rayThrough_19 : decode cX3_rayThrough 19 = .ok (.lstore 4, 2) := by decide +kernel
theorem dX3_rayThrough_21 : decode cX3_rayThrough 21 = .ok (.lload 4, 2) := by decide +kernel
theorem dX3_rayThrough_23 : decode cX3_rayThrough 23 = .ok (.iload_n 2, 1) := by decide +kernel
theorem dX3_rayThrough_24 : decode cX3_rayThrough 24 = .ok (.lushr, 1) := by decide +kernel
theorem dX3_rayThrough_25 : decode cX3_rayThrough 25 = .ok (.lconst 1, 1) := by decide +kernel
theorem dX3_rayThrough_26 : decode cX3_rayThrough 26 = .ok (.land, 1) := by decide +kernel
theorem dX3_rayThrough_27 : decode cX3_rayThrough 27 = .ok (.lconst 0, 1) := by decide +kernel
theorem dX3_rayThrough_28 : decode cX3_rayThrough 28 = .ok (.lcmp, 1) := by decide +kernel
theorem dX3_rayThrough_29 : decode cX3_rayThrough 29 = .ok (.ifCond .eq 6, 3) := by decide +kernel
theorem dX3_rayThrough_32 : decode cX3_rayThrough 32 = .ok (.lload 4, 2) := by decide +kernel
theorem dX3_rayThrough_34 : decode cX3_rayThrough 34 = .ok (.lreturn, 1) := by decide +kernel
theorem dX3_rayThrough_35 : decode cX3_rayThrough 35 = .ok (.iinc 3 1, 3) := by decide +kernel
theorem dX3_rayThrough_38 : decode cX3_rayThrough 38 = .ok (.goto (-36), 3) := by decide +kernel
theorem dX3_rayThrough_41 : decode cX3_rayThrough 41 = .ok (.ldc2_w 57, 3) := by decide +kernel
theorem dX3_rayThrough_44 : decode cX3_rayThrough 44 = .ok (.lreturn, 1) := by decide +kernel
theorem dX7_init_0 : decode cX7_init 0 = .ok (.aload_n 0, 1) := by decide +kernel
theorem dX7_init_1 : decode cX7_init 1 = .ok (.invokespecial 3, 3) := by decide +kernel
theorem dX7_init_4 : decode cX7_init 4 = .ok (.aload_n 0, 1) := by decide +kernel
theorem dX7_init_5 : decode cX7_init 5 = .ok (.sipush 448, 3) := by decide +kernel
theorem dX7_init_8 : decode cX7_init 8 = .ok (.newarray .int, 2) := by decide +kernel
theorem dX7_init_10 : decode cX7_init 10 = .ok (.putfield 9, 3) := by decide +kernel
theorem dX7_init_13 : decode cX7_init 13 = .ok (.iconst 1, 1) := by decide +kernel
theorem dX7_init_14 : decode cX7_init 14 = .ok (.istore_n 1, 1) := by decide +kernel
theorem dX7_init_15 : decode cX7_init 15 = .ok (.iload_n 1, 1) := by decide +kernel
theorem dX7_init_16 : decode cX7_init 16 = .ok (.bipush 6, 2) := by decide +kernel
theorem dX7_init_18 : decode cX7_init 18 = .ok (.if_icmp .gt 46, 3) := by decide +kernel
theorem dX7_init_21 : decode cX7_init 21 = .ok (.iconst 0, 1) := by decide +kernel
theorem dX7_init_22 : decode cX7_init 22 = .ok (.istore_n 2, 1) := by decide +kernel
theorem dX7_init_23 : decode cX7_init 23 = .ok (.iload_n 2, 1) := by decide +kernel
theorem dX7_init_24 : decode cX7_init 24 = .ok (.bipush 64, 2) := by decide +kernel
theorem dX7_init_26 : decode cX7_init 26 = .ok (.if_icmp .ge 32, 3) := by decide +kernel
theorem dX7_init_29 : decode cX7_init 29 = .ok (.aload_n 0, 1) := by decide +kernel
theorem dX7_init_30 : decode cX7_init 30 = .ok (.getfield 9, 3) := by decide +kernel
theorem dX7_init_33 : decode cX7_init 33 = .ok (.iload_n 1, 1) := by decide +kernel
theorem dX7_init_34 : decode cX7_init 34 = .ok (.bipush 64, 2) := by decide +kernel
theorem dX7_init_36 : decode cX7_init 36 = .ok (.imul, 1) := by decide +kernel
theorem dX7_init_37 : decode cX7_init 37 = .ok (.iload_n 2, 1) := by decide +kernel
theorem dX7_init_38 : decode cX7_init 38 = .ok (.iadd, 1) := by decide +kernel
theorem dX7_init_39 : decode cX7_init 39 = .ok (.iload_n 1, 1) := by decide +kernel
theorem dX7_init_40 : decode cX7_init 40 = .ok (.iload_n 2, 1) := by decide +kernel
theorem dX7_init_41 : decode cX7_init 41 = .ok (.bipush 8, 2) := by decide +kernel
theorem dX7_init_43 : decode cX7_init 43 = .ok (.idiv, 1) := by decide +kernel
theorem dX7_init_44 : decode cX7_init 44 = .ok (.iload_n 2, 1) := by decide +kernel
theorem dX7_init_45 : decode cX7_init 45 = .ok (.bipush 8, 2) := by decide +kernel
theorem dX7_init_47 : decode cX7_init 47 = .ok (.irem, 1) := by decide +kernel
theorem dX7_init_48 : decode cX7_init 48 = .ok (.invokestatic 15, 3) := by decide +kernel
theorem dX7_init_51 : decode cX7_init 51 = .ok (.iastore, 1) := by decide +kernel
theorem dX7_init_52 : decode cX7_init 52 = .ok (.iinc 2 1, 3) := by decide +kernel
theorem dX7_init_55 : decode cX7_init 55 = .ok (.goto (-32), 3) := by decide +kernel
theorem dX7_init_58 : decode cX7_init 58 = .ok (.iinc 1 1, 3) := by decide +kernel
theorem dX7_init_61 : decode cX7_init 61 = .ok (.goto (-46), 3) := by decide +kernel
theorem dX7_init_64 : decode cX7_init 64 = .ok (.return_, 1) := by decide +kernel
theorem dX7_worthOf_0 : decode cX7_worthOf 0 = .ok (.iload_n 2, 1) := by decide +kernel
theorem dX7_worthOf_1 : decode cX7_worthOf 1 = .ok (.bipush 7, 2) := by decide +kernel
theorem dX7_worthOf_3 : decode cX7_worthOf 3 = .ok (.iload_n 2, 1) := by decide +kernel
theorem dX7_worthOf_4 : decode cX7_worthOf 4 = .ok (.isub, 1) := by decide +kernel
theorem dX7_worthOf_5 : decode cX7_worthOf 5 = .ok (.invokestatic 19, 3) := by decide +kernel
theorem dX7_worthOf_8 : decode cX7_worthOf 8 = .ok (.istore_n 3, 1) := by decide +kernel
theorem dX7_worthOf_9 : decode cX7_worthOf 9 = .ok (.iload_n 3, 1) := by decide +kernel
theorem dX7_worthOf_10 : decode cX7_worthOf 10 = .ok (.iload_n 1, 1) := by decide +kernel
theorem dX7_worthOf_11 : decode cX7_worthOf 11 = .ok (.bipush 7, 2) := by decide +kernel
theorem dX7_worthOf_13 : decode cX7_worthOf 13 = .ok (.iload_n 1, 1) := by decide +kernel
theorem dX7_worthOf_14 : decode cX7_worthOf 14 = .ok (.isub, 1) := by decide +kernel
theorem dX7_worthOf_15 : decode cX7_worthOf 15 = .ok (.invokestatic 19, 3) := by decide +kernel
theorem dX7_worthOf_18 : decode cX7_worthOf 18 = .ok (.iadd, 1) := by decide +kernel
theorem dX7_worthOf_19 : decode cX7_worthOf 19 = .ok (.istore 4, 2) := by decide +kernel
theorem dX7_worthOf_21 : decode cX7_worthOf 21 = .ok (.iload_n 0, 1) := by decide +kernel
theorem dX7_worthOf_22 : decode cX7_worthOf 22 = .ok (.tableswitch 89 1 5 #[34, 45, 55, 64, 80], 34) := by decide +kernel
theorem dX7_worthOf_56 : decode cX7_worthOf 56 = .ok (.bipush 100, 2) := by decide +kernel
theorem dX7_worthOf_58 : decode cX7_worthOf 58 = .ok (.iconst 4, 1) := by decide +kernel
theorem dX7_worthOf_59 : decode cX7_worthOf 59 = .ok (.iload_n 1, 1) := by decide +kernel
theorem dX7_worthOf_60 : decode cX7_worthOf 60 = .ok (.imul, 1) := by decide +kernel
theorem dX7_worthOf_61 : decode cX7_worthOf 61 = .ok (.iadd, 1) := by decide +kernel
theorem dX7_worthOf_62 : decode cX7_worthOf 62 = .ok (.iconst 2, 1) := by decide +kernel
theorem dX7_worthOf_63 : decode cX7_worthOf 63 = .ok (.iload_n 3, 1) := by decide +kernel
theorem dX7_worthOf_64 : decode cX7_worthOf 64 = .ok (.imul, 1) := by decide +kernel
theorem dX7_worthOf_65 : decode cX7_worthOf 65 = .ok (.iadd, 1) := by decide +kernel
theorem dX7_worthOf_66 : decode cX7_worthOf 66 = .ok (.ireturn, 1) := by decide +kernel
theorem dX7_worthOf_67 : decode cX7_worthOf 67 = .ok (.sipush 320, 3) := by decide +kernel
theorem dX7_worthOf_70 : decode cX7_worthOf 70 = .ok (.bipush 6, 2) := by decide +kernel
theorem dX7_worthOf_72 : decode cX7_worthOf 72 = .ok (.iload 4, 2) := by decide +kernel
theorem dX7_worthOf_74 : decode cX7_worthOf 74 = .ok (.imul, 1) := by decide +kernel
theorem dX7_worthOf_75 : decode cX7_worthOf 75 = .ok (.iadd, 1) := by decide +kernel
theorem dX7_worthOf_76 : decode cX7_worthOf 76 = .ok (.ireturn, 1) := by decide +kernel
theorem dX7_worthOf_77 : decode cX7_worthOf 77 = .ok (.sipush 330, 3) := by decide +kernel
theorem dX7_worthOf_80 : decode cX7_worthOf 80 = .ok (.iconst 4, 1) := by decide +kernel
theorem dX7_worthOf_81 : decode cX7_worthOf 81 = .ok (.iload 4, 2) := by decide +kernel
theorem dX7_worthOf_83 : decode cX7_worthOf 83 = .ok (.imul, 1) := by decide +kernel
theorem dX7_worthOf_84 : decode cX7_worthOf 84 = .ok (.iadd, 1) := by decide +kernel
theorem dX7_worthOf_85 : decode cX7_worthOf 85 = .ok (.ireturn, 1) := by decide +kernel
theorem dX7_worthOf_86 : decode cX7_worthOf 86 = .ok (.iload_n 1, 1) := by decide +kernel
theorem dX7_worthOf_87 : decode cX7_worthOf 87 = .ok (.bipush 6, 2) := by decide +kernel
theorem dX7_worthOf_89 : decode cX7_worthOf 89 = .ok (.if_icmp .ne 9, 3) := by decide +kernel
theorem dX7_worthOf_92 : decode cX7_worthOf 92 = .ok (.sipush 520, 3) := by decide +kernel
theorem dX7_worthOf_95 : decode cX7_worthOf 95 = .ok (.goto 6, 3) := by decide +kernel
theorem dX7_worthOf_98 : decode cX7_worthOf 98 = .ok (.sipush 500, 3) := by decide +kernel
theorem dX7_worthOf_101 : decode cX7_worthOf 101 = .ok (.ireturn, 1) := by decide +kernel
theorem dX7_worthOf_102 : decode cX7_worthOf 102 = .ok (.sipush 900, 3) := by decide +kernel
theorem dX7_worthOf_105 : decode cX7_worthOf 105 = .ok (.iconst 2, 1) := by decide +kernel
theorem dX7_worthOf_106 : decode cX7_worthOf 106 = .ok (.iload 4, 2) := by decide +kernel
theorem dX7_worthOf_108 : decode cX7_worthOf 108 = .ok (.imul, 1) := by decide +kernel
theorem dX7_worthOf_109 : decode cX7_worthOf 109 = .ok (.iadd, 1) := by decide +kernel
theorem dX7_worthOf_110 : decode cX7_worthOf 110 = .ok (.ireturn, 1) := by decide +kernel
theorem dX7_worthOf_111 : decode cX7_worthOf 111 = .ok (.bipush (-3), 2) := by decide +kernel
theorem dX7_worthOf_113 : decode cX7_worthOf 113 = .ok (.iload 4, 2) := by decide +kernel
theorem dX7_worthOf_115 : decode cX7_worthOf 115 = .ok (.imul, 1) := by decide +kernel
theorem dX7_worthOf_116 : decode cX7_worthOf 116 = .ok (.ireturn, 1) := by decide +kernel
theorem dX7_forWhite_0 : decode cX7_forWhite 0 = .ok (.iload_n 1, 1) := by decide +kernel
theorem dX7_forWhite_1 : decode cX7_forWhite 1 = .ok (.ifCond .lt 17, 3) := by decide +kernel
theorem dX7_forWhite_4 : decode cX7_forWhite 4 = .ok (.aload_n 0, 1) := by decide +kernel
theorem dX7_forWhite_5 : decode cX7_forWhite 5 = .ok (.getfield 9, 3) := by decide +kernel
theorem dX7_forWhite_8 : decode cX7_forWhite 8 = .ok (.iload_n 1, 1) := by decide +kernel
theorem dX7_forWhite_9 : decode cX7_forWhite 9 = .ok (.bipush 64, 2) := by decide +kernel
theorem dX7_forWhite_11 : decode cX7_forWhite 11 = .ok (.imul, 1) := by decide +kernel
theorem dX7_forWhite_12 : decode cX7_forWhite 12 = .ok (.iload_n 2, 1) := by decide +kernel
theorem dX7_forWhite_13 : decode cX7_forWhite 13 = .ok (.iadd, 1) := by decide +kernel
theorem dX7_forWhite_14 : decode cX7_forWhite 14 = .ok (.iaload, 1) := by decide +kernel
theorem dX7_forWhite_15 : decode cX7_forWhite 15 = .ok (.goto 19, 3) := by decide +kernel
theorem dX7_forWhite_18 : decode cX7_forWhite 18 = .ok (.aload_n 0, 1) := by decide +kernel
theorem dX7_forWhite_19 : decode cX7_forWhite 19 = .ok (.getfield 9, 3) := by decide +kernel
theorem dX7_forWhite_22 : decode cX7_forWhite 22 = .ok (.iload_n 1, 1) := by decide +kernel
theorem dX7_forWhite_23 : decode cX7_forWhite 23 = .ok (.ineg, 1) := by decide +kernel
theorem dX7_forWhite_24 : decode cX7_forWhite 24 = .ok (.bipush 64, 2) := by decide +kernel
theorem dX7_forWhite_26 : decode cX7_forWhite 26 = .ok (.imul, 1) := by decide +kernel
theorem dX7_forWhite_27 : decode cX7_forWhite 27 = .ok (.iload_n 2, 1) := by decide +kernel
theorem dX7_forWhite_28 : decode cX7_forWhite 28 = .ok (.bipush 56, 2) := by decide +kernel
theorem dX7_forWhite_30 : decode cX7_forWhite 30 = .ok (.ixor, 1) := by decide +kernel
theorem dX7_forWhite_31 : decode cX7_forWhite 31 = .ok (.iadd, 1) := by decide +kernel
theorem dX7_forWhite_32 : decode cX7_forWhite 32 = .ok (.iaload, 1) := by decide +kernel
theorem dX7_forWhite_33 : decode cX7_forWhite 33 = .ok (.ineg, 1) := by decide +kernel
theorem dX7_forWhite_34 : decode cX7_forWhite 34 = .ok (.ireturn, 1) := by decide +kernel
