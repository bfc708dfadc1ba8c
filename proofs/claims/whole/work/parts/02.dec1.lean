theorem dX0_init_0 : decode cX0_init 0 = .ok (.aload_n 0, 1) := by decide +kernel
theorem dX0_init_1 : decode cX0_init 1 = .ok (.invokespecial 1, 3) := by decide +kernel
theorem dX0_init_4 : decode cX0_init 4 = .ok (.aload_n 0, 1) := by decide +kernel
theorem dX0_init_5 : decode cX0_init 5 = .ok (.bipush 30, 2) := by decide +kernel
theorem dX0_init_7 : decode cX0_init 7 = .ok (.newarray .int, 2) := by decide +kernel
theorem dX0_init_9 : decode cX0_init 9 = .ok (.putfield 9, 3) := by decide +kernel
theorem dX0_init_12 : decode cX0_init 12 = .ok (.aload_n 0, 1) := by decide +kernel
theorem dX0_init_13 : decode cX0_init 13 = .ok (.bipush 30, 2) := by decide +kernel
theorem dX0_init_15 : decode cX0_init 15 = .ok (.newarray .int, 2) := by decide +kernel
theorem dX0_init_17 : decode cX0_init 17 = .ok (.putfield 13, 3) := by decide +kernel
theorem dX0_init_20 : decode cX0_init 20 = .ok (.aload_n 0, 1) := by decide +kernel
theorem dX0_init_21 : decode cX0_init 21 = .ok (.bipush 30, 2) := by decide +kernel
theorem dX0_init_23 : decode cX0_init 23 = .ok (.newarray .int, 2) := by decide +kernel
theorem dX0_init_25 : decode cX0_init 25 = .ok (.putfield 16, 3) := by decide +kernel
theorem dX0_init_28 : decode cX0_init 28 = .ok (.return_, 1) := by decide +kernel
theorem dX0_add_0 : decode cX0_add 0 = .ok (.aload_n 0, 1) := by decide +kernel
theorem dX0_add_1 : decode cX0_add 1 = .ok (.getfield 9, 3) := by decide +kernel
theorem dX0_add_4 : decode cX0_add 4 = .ok (.aload_n 0, 1) := by decide +kernel
theorem dX0_add_5 : decode cX0_add 5 = .ok (.getfield 19, 3) := by decide +kernel
theorem dX0_add_8 : decode cX0_add 8 = .ok (.iload_n 1, 1) := by decide +kernel
theorem dX0_add_9 : decode cX0_add 9 = .ok (.iastore, 1) := by decide +kernel
theorem dX0_add_10 : decode cX0_add 10 = .ok (.aload_n 0, 1) := by decide +kernel
theorem dX0_add_11 : decode cX0_add 11 = .ok (.getfield 13, 3) := by decide +kernel
theorem dX0_add_14 : decode cX0_add 14 = .ok (.aload_n 0, 1) := by decide +kernel
theorem dX0_add_15 : decode cX0_add 15 = .ok (.getfield 19, 3) := by decide +kernel
theorem dX0_add_18 : decode cX0_add 18 = .ok (.iload_n 2, 1) := by decide +kernel
theorem dX0_add_19 : decode cX0_add 19 = .ok (.iastore, 1) := by decide +kernel
theorem dX0_add_20 : decode cX0_add 20 = .ok (.aload_n 0, 1) := by decide +kernel
theorem dX0_add_21 : decode cX0_add 21 = .ok (.getfield 16, 3) := by decide +kernel
theorem dX0_add_24 : decode cX0_add 24 = .ok (.aload_n 0, 1) := by decide +kernel
theorem dX0_add_25 : decode cX0_add 25 = .ok (.getfield 19, 3) := by decide +kernel
theorem dX0_add_28 : decode cX0_add 28 = .ok (.iload_n 3, 1) := by decide +kernel
theorem dX0_add_29 : decode cX0_add 29 = .ok (.iastore, 1) := by decide +kernel
theorem dX0_add_30 : decode cX0_add 30 = .ok (.aload_n 0, 1) := by decide +kernel
theorem dX0_add_31 : decode cX0_add 31 = .ok (.dup, 1) := by decide +kernel
theorem dX0_add_32 : decode cX0_add 32 = .ok (.getfield 19, 3) := by decide +kernel
theorem dX0_add_35 : decode cX0_add 35 = .ok (.iconst 1, 1) := by decide +kernel
theorem dX0_add_36 : decode cX0_add 36 = .ok (.iadd, 1) := by decide +kernel
theorem dX0_add_37 : decode cX0_add 37 = .ok (.putfield 19, 3) := by decide +kernel
theorem dX0_add_40 : decode cX0_add 40 = .ok (.return_, 1) := by decide +kernel
theorem dX0_take_0 : decode cX0_take 0 = .ok (.aload_n 0, 1) := by decide +kernel
theorem dX0_take_1 : decode cX0_take 1 = .ok (.aload_n 1, 1) := by decide +kernel
theorem dX0_take_2 : decode cX0_take 2 = .ok (.getfield 19, 3) := by decide +kernel
theorem dX0_take_5 : decode cX0_take 5 = .ok (.putfield 19, 3) := by decide +kernel
theorem dX0_take_8 : decode cX0_take 8 = .ok (.aload_n 1, 1) := by decide +kernel
theorem dX0_take_9 : decode cX0_take 9 = .ok (.getfield 9, 3) := by decide +kernel
theorem dX0_take_12 : decode cX0_take 12 = .ok (.iconst 0, 1) := by decide +kernel
theorem dX0_take_13 : decode cX0_take 13 = .ok (.aload_n 0, 1) := by decide +kernel
theorem dX0_take_14 : decode cX0_take 14 = .ok (.getfield 9, 3) := by decide +kernel
theorem dX0_take_17 : decode cX0_take 17 = .ok (.iconst 0, 1) := by decide +kernel
theorem dX0_take_18 : decode cX0_take 18 = .ok (.bipush 30, 2) := by decide +kernel
theorem dX0_take_20 : decode cX0_take 20 = .ok (.invokestatic 23, 3) := by decide +kernel
theorem dX0_take_23 : decode cX0_take 23 = .ok (.aload_n 1, 1) := by decide +kernel
theorem dX0_take_24 : decode cX0_take 24 = .ok (.getfield 13, 3) := by decide +kernel
theorem dX0_take_27 : decode cX0_take 27 = .ok (.iconst 0, 1) := by decide +kernel
theorem dX0_take_28 : decode cX0_take 28 = .ok (.aload_n 0, 1) := by decide +kernel
theorem dX0_take_29 : decode cX0_take 29 = .ok (.getfield 13, 3) := by decide +kernel
theorem dX0_take_32 : decode cX0_take 32 = .ok (.iconst 0, 1) := by decide +kernel
theorem dX0_take_33 : decode cX0_take 33 = .ok (.bipush 30, 2) := by decide +kernel
theorem dX0_take_35 : decode cX0_take 35 = .ok (.invokestatic 23, 3) := by decide +kernel
theorem dX0_take_38 : decode cX0_take 38 = .ok (.aload_n 1, 1) := by decide +kernel
theorem dX0_take_39 : decode cX0_take 39 = .ok (.getfield 16, 3) := by decide +kernel
theorem dX0_take_42 : decode cX0_take 42 = .ok (.iconst 0, 1) := by decide +kernel
theorem dX0_take_43 : decode cX0_take 43 = .ok (.aload_n 0, 1) := by decide +kernel
theorem dX0_take_44 : decode cX0_take 44 = .ok (.getfield 16, 3) := by decide +kernel
theorem dX0_take_47 : decode cX0_take 47 = .ok (.iconst 0, 1) := by decide +kernel
theorem dX0_take_48 : decode cX0_take 48 = .ok (.bipush 30, 2) := by decide +kernel
theorem dX0_take_50 : decode cX0_take 50 = .ok (.invokestatic 23, 3) := by decide +kernel
theorem dX0_take_53 : decode cX0_take 53 = .ok (.return_, 1) := by decide +kernel
theorem dX1_init_0 : decode cX1_init 0 = .ok (.aload_n 0, 1) := by decide +kernel
theorem dX1_init_1 : decode cX1_init 1 = .ok (.invokespecial 3, 3) := by decide +kernel
theorem dX1_init_4 : decode cX1_init 4 = .ok (.aload_n 0, 1) := by decide +kernel
theorem dX1_init_5 : decode cX1_init 5 = .ok (.aload_n 1, 1) := by decide +kernel
theorem dX1_init_6 : decode cX1_init 6 = .ok (.putfield 9, 3) := by decide +kernel
theorem dX1_init_9 : decode cX1_init 9 = .ok (.aload_n 0, 1) := by decide +kernel
theorem dX1_init_10 : decode cX1_init 10 = .ok (.aload_n 2, 1) := by decide +kernel
theorem dX1_init_11 : decode cX1_init 11 = .ok (.putfield 15, 3) := by decide +kernel
theorem dX1_init_14 : decode cX1_init 14 = .ok (.return_, 1) := by decide +kernel
theorem dX1_power_0 : decode cX1_power 0 = .ok (.lconst 1, 1) := by decide +kernel
theorem dX1_power_1 : decode cX1_power 1 = .ok (.lstore_n 2, 1) := by decide +kernel
theorem dX1_power_2 : decode cX1_power 2 = .ok (.iconst 0, 1) := by decide +kernel
theorem dX1_power_3 : decode cX1_power 3 = .ok (.istore 4, 2) := by decide +kernel
theorem dX1_power_5 : decode cX1_power 5 = .ok (.iload 4, 2) := by decide +kernel
theorem dX1_power_7 : decode cX1_power 7 = .ok (.iload_n 1, 1) := by decide +kernel
theorem dX1_power_8 : decode cX1_power 8 = .ok (.if_icmp .ge 14, 3) := by decide +kernel
theorem dX1_power_11 : decode cX1_power 11 = .ok (.lload_n 2, 1) := by decide +kernel
theorem dX1_power_12 : decode cX1_power 12 = .ok (.iload_n 0, 1) := by decide +kernel
theorem dX1_power_13 : decode cX1_power 13 = .ok (.i2l, 1) := by decide +kernel
theorem dX1_power_14 : decode cX1_power 14 = .ok (.lmul, 1) := by decide +kernel
theorem dX1_power_15 : decode cX1_power 15 = .ok (.lstore_n 2, 1) := by decide +kernel
theorem dX1_power_16 : decode cX1_power 16 = .ok (.iinc 4 1, 3) := by decide +kernel
theorem dX1_power_19 : decode cX1_power 19 = .ok (.goto (-14), 3) := by decide +kernel
theorem dX1_power_22 : decode cX1_power 22 = .ok (.lload_n 2, 1) := by decide +kernel
theorem dX1_power_23 : decode cX1_power 23 = .ok (.lreturn, 1) := by decide +kernel
theorem dX1_weighed_0 : decode cX1_weighed 0 = .ok (.iload_n 1, 1) := by decide +kernel
theorem dX1_weighed_1 : decode cX1_weighed 1 = .ok (.iconst 1, 1) := by decide +kernel
theorem dX1_weighed_2 : decode cX1_weighed 2 = .ok (.iadd, 1) := by decide +kernel
theorem dX1_weighed_3 : decode cX1_weighed 3 = .ok (.istore_n 3, 1) := by decide +kernel
theorem dX1_weighed_4 : decode cX1_weighed 4 = .ok (.lconst 0, 1) := by decide +kernel
theorem dX1_weighed_5 : decode cX1_weighed 5 = .ok (.lstore 4, 2) := by decide +kernel
theorem dX1_weighed_7 : decode cX1_weighed 7 = .ok (.aload_n 0, 1) := by decide +kernel
theorem dX1_weighed_8 : decode cX1_weighed 8 = .ok (.getfield 15, 3) := by decide +kernel
theorem dX1_weighed_11 : decode cX1_weighed 11 = .ok (.invokevirtual 19, 3) := by decide +kernel
theorem dX1_weighed_14 : decode cX1_weighed 14 = .ok (.iconst 0, 1) := by decide +kernel
theorem dX1_weighed_15 : decode cX1_weighed 15 = .ok (.istore 6, 2) := by decide +kernel
theorem dX1_weighed_17 : decode cX1_weighed 17 = .ok (.iload 6, 2) := by decide +kernel
theorem dX1_weighed_19 : decode cX1_weighed 19 = .ok (.iconst 1, 1) := by decide +kernel
theorem dX1_weighed_20 : decode cX1_weighed 20 = .ok (.iload_n 3, 1) := by decide +kernel
theorem dX1_weighed_21 : decode cX1_weighed 21 = .ok (.ishl, 1) := by decide +kernel
theorem dX1_weighed_22 : decode cX1_weighed 22 = .ok (.if_icmp .ge 114, 3) := by decide +kernel
theorem dX1_weighed_25 : decode cX1_weighed 25 = .ok (.aload_n 0, 1) := by decide +kernel
theorem dX1_weighed_26 : decode cX1_weighed 26 = .ok (.getfield 15, 3) := by decide +kernel
theorem dX1_weighed_29 : decode cX1_weighed 29 = .ok (.iload 6, 2) := by decide +kernel
theorem dX1_weighed_31 : decode cX1_weighed 31 = .ok (.iload_n 3, 1) := by decide +kernel
theorem dX1_weighed_32 : decode cX1_weighed 32 = .ok (.invokestatic 24, 3) := by decide +kernel
theorem dX1_weighed_35 : decode cX1_weighed 35 = .ok (.putfield 28, 3) := by decide +kernel
theorem dX1_weighed_38 : decode cX1_weighed 38 = .ok (.aload_n 0, 1) := by decide +kernel
theorem dX1_weighed_39 : decode cX1_weighed 39 = .ok (.getfield 15, 3) := by decide +kernel
theorem dX1_weighed_42 : decode cX1_weighed 42 = .ok (.iload 6, 2) := by decide +kernel
theorem dX1_weighed_44 : decode cX1_weighed 44 = .ok (.iload_n 3, 1) := by decide +kernel
theorem dX1_weighed_45 : decode cX1_weighed 45 = .ok (.invokestatic 32, 3) := by decide +kernel
theorem dX1_weighed_48 : decode cX1_weighed 48 = .ok (.iload_n 3, 1) := by decide +kernel
theorem dX1_weighed_49 : decode cX1_weighed 49 = .ok (.invokevirtual 35, 3) := by decide +kernel
theorem dX1_weighed_52 : decode cX1_weighed 52 = .ok (.pop, 1) := by decide +kernel
theorem dX1_weighed_53 : decode cX1_weighed 53 = .ok (.iload 6, 2) := by decide +kernel
theorem dX1_weighed_55 : decode cX1_weighed 55 = .ok (.invokestatic 38, 3) := by decide +kernel
theorem dX1_weighed_58 : decode cX1_weighed 58 = .ok (.istore 7, 2) := by decide +kernel
theorem dX1_weighed_60 : decode cX1_weighed 60 = .ok (.aload_n 0, 1) := by decide +kernel
theorem dX1_weighed_61 : decode cX1_weighed 61 = .ok (.getfield 9, 3) := by decide +kernel
theorem dX1_weighed_64 : decode cX1_weighed 64 = .ok (.getfield 44, 3) := by decide +kernel
theorem dX1_weighed_67 : decode cX1_weighed 67 = .ok (.iload 7, 2) := by decide +kernel
theorem dX1_weighed_69 : decode cX1_weighed 69 = .ok (.invokestatic 49, 3) := by decide +kernel
theorem dX1_weighed_72 : decode cX1_weighed 72 = .ok (.bipush 10, 2) := by decide +kernel
theorem dX1_weighed_74 : decode cX1_weighed 74 = .ok (.aload_n 0, 1) := by decide +kernel
theorem dX1_weighed_75 : decode cX1_weighed 75 = .ok (.getfield 9, 3) := by decide +kernel
theorem dX1_weighed_78 : decode cX1_weighed 78 = .ok (.getfield 44, 3) := by decide +kernel
theorem dX1_weighed_81 : decode cX1_weighed 81 = .ok (.isub, 1) := by decide +kernel
theorem dX1_weighed_82 : decode cX1_weighed 82 = .ok (.iload_n 3, 1) := by decide +kernel
theorem dX1_weighed_83 : decode cX1_weighed 83 = .ok (.iload 7, 2) := by decide +kernel
theorem dX1_weighed_85 : decode cX1_weighed 85 = .ok (.isub, 1) := by decide +kernel
theorem dX1_weighed_86 : decode cX1_weighed 86 = .ok (.invokestatic 49, 3) := by decide +kernel
theorem dX1_weighed_89 : decode cX1_weighed 89 = .ok (.lmul, 1) := by decide +kernel
theorem dX1_weighed_90 : decode cX1_weighed 90 = .ok (.lstore 8, 2) := by decide +kernel
theorem dX1_weighed_92 : decode cX1_weighed 92 = .ok (.lload 4, 2) := by decide +kernel
theorem dX1_weighed_94 : decode cX1_weighed 94 = .ok (.lload 8, 2) := by decide +kernel
theorem dX1_weighed_96 : decode cX1_weighed 96 = .ok (.iload_n 2, 1) := by decide +kernel
theorem dX1_weighed_97 : decode cX1_weighed 97 = .ok (.iconst (-1), 1) := by decide +kernel
theorem dX1_weighed_98 : decode cX1_weighed 98 = .ok (.if_icmp .ne 14, 3) := by decide +kernel
theorem dX1_weighed_101 : decode cX1_weighed 101 = .ok (.aload_n 0, 1) := by decide +kernel
theorem dX1_weighed_102 : decode cX1_weighed 102 = .ok (.getfield 15, 3) := by decide +kernel
theorem dX1_weighed_105 : decode cX1_weighed 105 = .ok (.iload_n 3, 1) := by decide +kernel
theorem dX1_weighed_106 : decode cX1_weighed 106 = .ok (.invokevirtual 53, 3) := by decide +kernel
theorem dX1_weighed_109 : decode cX1_weighed 109 = .ok (.goto 16, 3) := by decide +kernel
theorem dX1_weighed_112 : decode cX1_weighed 112 = .ok (.aload_n 0, 1) := by decide +kernel
theorem dX1_weighed_113 : decode cX1_weighed 113 = .ok (.getfield 15, 3) := by decide +kernel
theorem dX1_weighed_116 : decode cX1_weighed 116 = .ok (.getfield 56, 3) := by decide +kernel
theorem dX1_weighed_119 : decode cX1_weighed 119 = .ok (.iload_n 3, 1) := by decide +kernel
theorem dX1_weighed_120 : decode cX1_weighed 120 = .ok (.iaload, 1) := by decide +kernel
theorem dX1_weighed_121 : decode cX1_weighed 121 = .ok (.iload_n 2, 1) := by decide +kernel
theorem dX1_weighed_122 : decode cX1_weighed 122 = .ok (.ishr, 1) := by decide +kernel
theorem dX1_weighed_123 : decode cX1_weighed 123 = .ok (.iconst 1, 1) := by decide +kernel
theorem dX1_weighed_124 : decode cX1_weighed 124 = .ok (.iand, 1) := by decide +kernel
theorem dX1_weighed_125 : decode cX1_weighed 125 = .ok (.i2l, 1) := by decide +kernel
theorem dX1_weighed_126 : decode cX1_weighed 126 = .ok (.lmul, 1) := by decide +kernel
theorem dX1_weighed_127 : decode cX1_weighed 127 = .ok (.ladd, 1) := by decide +kernel
theorem dX1_weighed_128 : decode cX1_weighed 128 = .ok (.lstore 4, 2) := by decide +kernel
theorem dX1_weighed_130 : decode cX1_weighed 130 = .ok (.iinc 6 1, 3) := by decide +kernel
theorem dX1_weighed_133 : decode cX1_weighed 133 = .ok (.goto (-116), 3) := by decide +kernel
theorem dX1_weighed_136 : decode cX1_weighed 136 = .ok (.lload 4, 2) := by decide +kernel
theorem dX1_weighed_138 : decode cX1_weighed 138 = .ok (.lreturn, 1) := by decide +kernel
theorem dX1_backwards_0 : decode cX1_backwards 0 = .ok (.iconst 0, 1) := by decide +kernel
theorem dX1_backwards_1 : decode cX1_backwards 1 = .ok (.istore_n 2, 1) := by decide +kernel
theorem dX1_backwards_2 : decode cX1_backwards 2 = .ok (.iconst 0, 1) := by decide +kernel
theorem dX1_backwards_3 : decode cX1_backwards 3 = .ok (.istore_n 3, 1) := by decide +kernel
theorem dX1_backwards_4 : decode cX1_backwards 4 = .ok (.iload_n 3, 1) := by decide +kernel
theorem dX1_backwards_5 : decode cX1_backwards 5 = .ok (.iload_n 1, 1) := by decide +kernel
theorem dX1_backwards_6 : decode cX1_backwards 6 = .ok (.if_icmp .ge 23, 3) := by decide +kernel
theorem dX1_backwards_9 : decode cX1_backwards 9 = .ok (.iload_n 2, 1) := by decide +kernel
theorem dX1_backwards_10 : decode cX1_backwards 10 = .ok (.iload_n 0, 1) := by decide +kernel
theorem dX1_backwards_11 : decode cX1_backwards 11 = .ok (.iload_n 3, 1) := by decide +kernel
theorem dX1_backwards_12 : decode cX1_backwards 12 = .ok (.ishr, 1) := by decide +kernel
theorem dX1_backwards_13 : decode cX1_backwards 13 = .ok (.iconst 1, 1) := by decide +kernel
theorem dX1_backwards_14 : decode cX1_backwards 14 = .ok (.iand, 1) := by decide +kernel
theorem dX1_backwards_15 : decode cX1_backwards 15 = .ok (.iload_n 1, 1) := by decide +kernel
theorem dX1_backwards_16 : decode cX1_backwards 16 = .ok (.iconst 1, 1) := by decide +kernel
theorem dX1_backwards_17 : decode cX1_backwards 17 = .ok (.isub, 1) := by decide +kernel
theorem dX1_backwards_18 : decode cX1_backwards 18 = .ok (.iload_n 3, 1) := by decide +kernel
theorem dX1_backwards_19 : decode cX1_backwards 19 = .ok (.isub, 1) := by decide +kernel
theorem dX1_backwards_20 : decode cX1_backwards 20 = .ok (.ishl, 1) := by decide +kernel
theorem dX1_backwards_21 : decode cX1_backwards 21 = .ok (.ior, 1) := by decide +kernel
theorem dX1_backwards_22 : decode cX1_backwards 22 = .ok (.istore_n 2, 1) := by decide +kernel
theorem dX1_backwards_23 : decode cX1_backwards 23 = .ok (.iinc 3 1, 3) := by decide +kernel
theorem dX1_backwards_26 : decode cX1_backwards 26 = .ok (.goto (-22), 3) := by decide +kernel
theorem dX1_backwards_29 : decode cX1_backwards 29 = .ok (.iload_n 2, 1) := by decide +kernel
theorem dX1_backwards_30 : decode cX1_backwards 30 = .ok (.ireturn, 1) := by decide +kernel
theorem dX1_firstChanged_0 : decode cX1_firstChanged 0 = .ok (.iload_n 0, 1) := by decide +kernel
theorem dX1_firstChanged_1 : decode cX1_firstChanged 1 = .ok (.ifCond .ne 7, 3) := by decide +kernel
theorem dX1_firstChanged_4 : decode cX1_firstChanged 4 = .ok (.iconst 0, 1) := by decide +kernel
theorem dX1_firstChanged_5 : decode cX1_firstChanged 5 = .ok (.goto 14, 3) := by decide +kernel
theorem dX1_firstChanged_8 : decode cX1_firstChanged 8 = .ok (.iload_n 1, 1) := by decide +kernel
theorem dX1_firstChanged_9 : decode cX1_firstChanged 9 = .ok (.iload_n 0, 1) := by decide +kernel
theorem dX1_firstChanged_10 : decode cX1_firstChanged 10 = .ok (.iload_n 0, 1) := by decide +kernel
theorem dX1_firstChanged_11 : decode cX1_firstChanged 11 = .ok (.ineg, 1) := by decide +kernel
theorem dX1_firstChanged_12 : decode cX1_firstChanged 12 = .ok (.iand, 1) := by decide +kernel
theorem dX1_firstChanged_13 : decode cX1_firstChanged 13 = .ok (.iconst 1, 1) := by decide +kernel
theorem dX1_firstChanged_14 : decode cX1_firstChanged 14 = .ok (.isub, 1) := by decide +kernel
theorem dX1_firstChanged_15 : decode cX1_firstChanged 15 = .ok (.invokestatic 38, 3) := by decide +kernel
theorem dX1_firstChanged_18 : decode cX1_firstChanged 18 = .ok (.isub, 1) := by decide +kernel
theorem dX1_firstChanged_19 : decode cX1_firstChanged 19 = .ok (.ireturn, 1) := by decide +kernel
theorem dX1_silenceDrawn_0 : decode cX1_silenceDrawn 0 = .ok (.lload_n 1, 1) := by decide +kernel
theorem dX1_silenceDrawn_1 : decode cX1_silenceDrawn 1 = .ok (.lstore_n 3, 1) := by decide +kernel
theorem dX1_silenceDrawn_2 : decode cX1_silenceDrawn 2 = .ok (.iconst 0, 1) := by decide +kernel
theorem dX1_silenceDrawn_3 : decode cX1_silenceDrawn 3 = .ok (.istore 5, 2) := by decide +kernel
theorem dX1_silenceDrawn_5 : decode cX1_silenceDrawn 5 = .ok (.iconst 0, 1) := by decide +kernel
theorem dX1_silenceDrawn_6 : decode cX1_silenceDrawn 6 = .ok (.istore 6, 2) := by decide +kernel
theorem dX1_silenceDrawn_8 : decode cX1_silenceDrawn 8 = .ok (.iload 6, 2) := by decide +kernel
theorem dX1_silenceDrawn_10 : decode cX1_silenceDrawn 10 = .ok (.aload_n 0, 1) := by decide +kernel
theorem dX1_silenceDrawn_11 : decode cX1_silenceDrawn 11 = .ok (.getfield 9, 3) := by decide +kernel
theorem dX1_silenceDrawn_14 : decode cX1_silenceDrawn 14 = .ok (.getfield 60, 3) := by decide +kernel
theorem dX1_silenceDrawn_17 : decode cX1_silenceDrawn 17 = .ok (.if_icmp .ge 53, 3) := by decide +kernel
theorem dX1_silenceDrawn_20 : decode cX1_silenceDrawn 20 = .ok (.ldc2_w 63, 3) := by decide +kernel
theorem dX1_silenceDrawn_23 : decode cX1_silenceDrawn 23 = .ok (.lload_n 3, 1) := by decide +kernel
theorem dX1_silenceDrawn_24 : decode cX1_silenceDrawn 24 = .ok (.lmul, 1) := by decide +kernel
theorem dX1_silenceDrawn_25 : decode cX1_silenceDrawn 25 = .ok (.ldc2_w 65, 3) := by decide +kernel
theorem dX1_silenceDrawn_28 : decode cX1_silenceDrawn 28 = .ok (.ladd, 1) := by decide +kernel
theorem dX1_silenceDrawn_29 : decode cX1_silenceDrawn 29 = .ok (.ldc2_w 67, 3) := by decide +kernel
theorem dX1_silenceDrawn_32 : decode cX1_silenceDrawn 32 = .ok (.lrem, 1) := by decide +kernel
theorem dX1_silenceDrawn_33 : decode cX1_silenceDrawn 33 = .ok (.lstore_n 3, 1) := by decide +kernel
theorem dX1_silenceDrawn_34 : decode cX1_silenceDrawn 34 = .ok (.lload_n 3, 1) := by decide +kernel
theorem dX1_silenceDrawn_35 : decode cX1_silenceDrawn 35 = .ok (.ldc2_w 69, 3) := by decide +kernel
theorem dX1_silenceDrawn_38 : decode cX1_silenceDrawn 38 = .ok (.ldiv, 1) := by decide +kernel
theorem dX1_silenceDrawn_39 : decode cX1_silenceDrawn 39 = .ok (.ldc2_w 71, 3) := by decide +kernel
theorem dX1_silenceDrawn_42 : decode cX1_silenceDrawn 42 = .ok (.lrem, 1) := by decide +kernel
theorem dX1_silenceDrawn_43 : decode cX1_silenceDrawn 43 = .ok (.aload_n 0, 1) := by decide +kernel
theorem dX1_silenceDrawn_44 : decode cX1_silenceDrawn 44 = .ok (.getfield 9, 3) := by decide +kernel
theorem dX1_silenceDrawn_47 : decode cX1_silenceDrawn 47 = .ok (.getfield 44, 3) := by decide +kernel
theorem dX1_silenceDrawn_50 : decode cX1_silenceDrawn 50 = .ok (.i2l, 1) := by decide +kernel
theorem dX1_silenceDrawn_51 : decode cX1_silenceDrawn 51 = .ok (.lcmp, 1) := by decide +kernel
theorem dX1_silenceDrawn_52 : decode cX1_silenceDrawn 52 = .ok (.ifCond .ge 12, 3) := by decide +kernel
theorem dX1_silenceDrawn_55 : decode cX1_silenceDrawn 55 = .ok (.iload 5, 2) := by decide +kernel
theorem dX1_silenceDrawn_57 : decode cX1_silenceDrawn 57 = .ok (.iconst 1, 1) := by decide +kernel
theorem dX1_silenceDrawn_58 : decode cX1_silenceDrawn 58 = .ok (.iload 6, 2) := by decide +kernel
theorem dX1_silenceDrawn_60 : decode cX1_silenceDrawn 60 = .ok (.ishl, 1) := by decide +kernel
theorem dX1_silenceDrawn_61 : decode cX1_silenceDrawn 61 = .ok (.ior, 1) := by decide +kernel
theorem dX1_silenceDrawn_62 : decode cX1_silenceDrawn 62 = .ok (.istore 5, 2) := by decide +kernel
theorem dX1_silenceDrawn_64 : decode cX1_silenceDrawn 64 = .ok (.iinc 6 1, 3) := by decide +kernel
theorem dX1_silenceDrawn_67 : decode cX1_silenceDrawn 67 = .ok (.goto (-59), 3) := by decide +kernel
theorem dX1_silenceDrawn_70 : decode cX1_silenceDrawn 70 = .ok (.iload 5, 2) := by decide +kernel
theorem dX1_silenceDrawn_72 : decode cX1_silenceDrawn 72 = .ok (.ireturn, 1) := by decide +kernel
theorem dX1_litAfter_0 : decode cX1_litAfter 0 = .ok (.aload_n 0, 1) := by decide +kernel
theorem dX1_litAfter_1 : decode cX1_litAfter 1 = .ok (.getfield 15, 3) := by decide +kernel
theorem dX1_litAfter_4 : decode cX1_litAfter 4 = .ok (.invokevirtual 19, 3) := by decide +kernel
theorem dX1_litAfter_7 : decode cX1_litAfter 7 = .ok (.aload_n 0, 1) := by decide +kernel
theorem dX1_litAfter_8 : decode cX1_litAfter 8 = .ok (.getfield 15, 3) := by decide +kernel
theorem dX1_litAfter_11 : decode cX1_litAfter 11 = .ok (.iload_n 1, 1) := by decide +kernel
theorem dX1_litAfter_12 : decode cX1_litAfter 12 = .ok (.putfield 28, 3) := by decide +kernel
theorem dX1_litAfter_15 : decode cX1_litAfter 15 = .ok (.aload_n 0, 1) := by decide +kernel
theorem dX1_litAfter_16 : decode cX1_litAfter 16 = .ok (.getfield 15, 3) := by decide +kernel
theorem dX1_litAfter_19 : decode cX1_litAfter 19 = .ok (.iconst 0, 1) := by decide +kernel
theorem dX1_litAfter_20 : decode cX1_litAfter 20 = .ok (.aload_n 0, 1) := by decide +kernel
theorem dX1_litAfter_21 : decode cX1_litAfter 21 = .ok (.getfield 9, 3) := by decide +kernel
theorem dX1_litAfter_24 : decode cX1_litAfter 24 = .ok (.getfield 60, 3) := by decide +kernel
theorem dX1_litAfter_27 : decode cX1_litAfter 27 = .ok (.invokevirtual 35, 3) := by decide +kernel
theorem dX1_litAfter_30 : decode cX1_litAfter 30 = .ok (.pop, 1) := by decide +kernel
theorem dX1_litAfter_31 : decode cX1_litAfter 31 = .ok (.aload_n 0, 1) := by decide +kernel
theorem dX1_litAfter_32 : decode cX1_litAfter 32 = .ok (.getfield 15, 3) := by decide +kernel
theorem dX1_litAfter_35 : decode cX1_litAfter 35 = .ok (.getfield 56, 3) := by decide +kernel
theorem dX1_litAfter_38 : decode cX1_litAfter 38 = .ok (.aload_n 0, 1) := by decide +kernel
theorem dX1_litAfter_39 : decode cX1_litAfter 39 = .ok (.getfield 9, 3) := by decide +kernel
theorem dX1_litAfter_42 : decode cX1_litAfter 42 = .ok (.getfield 60, 3) := by decide +kernel
theorem dX1_litAfter_45 : decode cX1_litAfter 45 = .ok (.iaload, 1) := by decide +kernel
theorem dX1_litAfter_46 : decode cX1_litAfter 46 = .ok (.ireturn, 1) := by decide +kernel
theorem dX2_init_0 : decode cX2_init 0 = .ok (.aload_n 0, 1) := by decide +kernel
theorem dX2_init_1 : decode cX2_init 1 = .ok (.invokespecial 3, 3) := by decide +kernel
theorem dX2_init_4 : decode cX2_init 4 = .ok (.aload_n 0, 1) := by decide +kernel
theorem dX2_init_5 : decode cX2_init 5 = .ok (.sipush 637, 3) := by decide +kernel
theorem dX2_init_8 : decode cX2_init 8 = .ok (.newarray .int, 2) := by decide +kernel
theorem dX2_init_10 : decode cX2_init 10 = .ok (.putfield 9, 3) := by decide +kernel
theorem dX2_init_13 : decode cX2_init 13 = .ok (.aload_n 0, 1) := by decide +kernel
theorem dX2_init_14 : decode cX2_init 14 = .ok (.bipush 7, 2) := by decide +kernel
theorem dX2_init_16 : decode cX2_init 16 = .ok (.newarray .int, 2) := by decide +kernel
theorem dX2_init_18 : decode cX2_init 18 = .ok (.putfield 15, 3) := by decide +kernel
theorem dX2_init_21 : decode cX2_init 21 = .ok (.aload_n 0, 1) := by decide +kernel
theorem dX2_init_22 : decode cX2_init 22 = .ok (.aload_n 1, 1) := by decide +kernel
theorem dX2_init_23 : decode cX2_init 23 = .ok (.putfield 18, 3) := by decide +kernel
theorem dX2_init_26 : decode cX2_init 26 = .ok (.aload_n 0, 1) := by decide +kernel
theorem dX2_init_27 : decode cX2_init 27 = .ok (.aload_n 2, 1) := by decide +kernel
theorem dX2_init_28 : decode cX2_init 28 = .ok (.putfield 22, 3) := by decide +kernel
theorem dX2_init_31 : decode cX2_init 31 = .ok (.aload_n 0, 1) := by decide +kernel
theorem dX2_init_32 : decode cX2_init 32 = .ok (.aload_n 3, 1) := by decide +kernel
theorem dX2_init_33 : decode cX2_init 33 = .ok (.putfield 26, 3) := by decide +kernel
theorem dX2_init_36 : decode cX2_init 36 = .ok (.return_, 1) := by decide +kernel
theorem dX2_areSound_0 : decode cX2_areSound 0 = .ok (.aload_n 0, 1) := by decide +kernel
theorem dX2_areSound_1 : decode cX2_areSound 1 = .ok (.getfield 26, 3) := by decide +kernel
theorem dX2_areSound_4 : decode cX2_areSound 4 = .ok (.getfield 30, 3) := by decide +kernel
theorem dX2_areSound_7 : decode cX2_areSound 7 = .ok (.iload_n 1, 1) := by decide +kernel
theorem dX2_areSound_8 : decode cX2_areSound 8 = .ok (.iaload, 1) := by decide +kernel
theorem dX2_areSound_9 : decode cX2_areSound 9 = .ok (.istore_n 2, 1) := by decide +kernel
theorem dX2_areSound_10 : decode cX2_areSound 10 = .ok (.aload_n 0, 1) := by decide +kernel
theorem dX2_areSound_11 : decode cX2_areSound 11 = .ok (.getfield 26, 3) := by decide +kernel
theorem dX2_areSound_14 : decode cX2_areSound 14 = .ok (.getfield 35, 3) := by decide +kernel
theorem dX2_areSound_17 : decode cX2_areSound 17 = .ok (.iload_n 1, 1) := by decide +kernel
theorem dX2_areSound_18 : decode cX2_areSound 18 = .ok (.aaload, 1) := by decide +kernel
theorem dX2_areSound_19 : decode cX2_areSound 19 = .ok (.astore_n 3, 1) := by decide +kernel
theorem dX2_areSound_20 : decode cX2_areSound 20 = .ok (.iload_n 2, 1) := by decide +kernel
theorem dX2_areSound_21 : decode cX2_areSound 21 = .ok (.iconst 3, 1) := by decide +kernel
theorem dX2_areSound_22 : decode cX2_areSound 22 = .ok (.irem, 1) := by decide +kernel
theorem dX2_areSound_23 : decode cX2_areSound 23 = .ok (.ifCond .eq 5, 3) := by decide +kernel
theorem dX2_areSound_26 : decode cX2_areSound 26 = .ok (.iconst 0, 1) := by decide +kernel
theorem dX2_areSound_27 : decode cX2_areSound 27 = .ok (.ireturn, 1) := by decide +kernel
theorem dX2_areSound_28 : decode cX2_areSound 28 = .ok (.iconst 0, 1) := by decide +kernel
theorem dX2_areSound_29 : decode cX2_areSound 29 = .ok (.istore 4, 2) := by decide +kernel
theorem dX2_areSound_31 : decode cX2_areSound 31 = .ok (.iload 4, 2) := by decide +kernel
theorem dX2_areSound_33 : decode cX2_areSound 33 = .ok (.iconst 2, 1) := by decide +kernel
theorem dX2_areSound_34 : decode cX2_areSound 34 = .ok (.iadd, 1) := by decide +kernel
theorem dX2_areSound_35 : decode cX2_areSound 35 = .ok (.iload_n 2, 1) := by decide +kernel
theorem dX2_areSound_36 : decode cX2_areSound 36 = .ok (.if_icmp .ge 125, 3) := by decide +kernel
theorem dX2_areSound_39 : decode cX2_areSound 39 = .ok (.aload_n 3, 1) := by decide +kernel
theorem dX2_areSound_40 : decode cX2_areSound 40 = .ok (.iload 4, 2) := by decide +kernel
theorem dX2_areSound_42 : decode cX2_areSound 42 = .ok (.laload, 1) := by decide +kernel
theorem dX2_areSound_43 : decode cX2_areSound 43 = .ok (.lconst 0, 1) := by decide +kernel
theorem dX2_areSound_44 : decode cX2_areSound 44 = .ok (.lcmp, 1) := by decide +kernel
theorem dX2_areSound_45 : decode cX2_areSound 45 = .ok (.ifCond .lt 23, 3) := by decide +kernel
theorem dX2_areSound_48 : decode cX2_areSound 48 = .ok (.aload_n 3, 1) := by decide +kernel
theorem dX2_areSound_49 : decode cX2_areSound 49 = .ok (.iload 4, 2) := by decide +kernel
theorem dX2_areSound_51 : decode cX2_areSound 51 = .ok (.laload, 1) := by decide +kernel
theorem dX2_areSound_52 : decode cX2_areSound 52 = .ok (.aload_n 0, 1) := by decide +kernel
theorem dX2_areSound_53 : decode cX2_areSound 53 = .ok (.getfield 18, 3) := by decide +kernel
theorem dX2_areSound_56 : decode cX2_areSound 56 = .ok (.getfield 39, 3) := by decide +kernel
theorem dX2_areSound_59 : decode cX2_areSound 59 = .ok (.i2l, 1) := by decide +kernel
theorem dX2_areSound_60 : decode cX2_areSound 60 = .ok (.lcmp, 1) := by decide +kernel
theorem dX2_areSound_61 : decode cX2_areSound 61 = .ok (.ifCond .ge 7, 3) := by decide +kernel
theorem dX2_areSound_64 : decode cX2_areSound 64 = .ok (.iconst 1, 1) := by decide +kernel
theorem dX2_areSound_65 : decode cX2_areSound 65 = .ok (.goto 4, 3) := by decide +kernel
theorem dX2_areSound_68 : decode cX2_areSound 68 = .ok (.iconst 0, 1) := by decide +kernel
theorem dX2_areSound_69 : decode cX2_areSound 69 = .ok (.istore 5, 2) := by decide +kernel
theorem dX2_areSound_71 : decode cX2_areSound 71 = .ok (.aload_n 3, 1) := by decide +kernel
theorem dX2_areSound_72 : decode cX2_areSound 72 = .ok (.iload 4, 2) := by decide +kernel
theorem dX2_areSound_74 : decode cX2_areSound 74 = .ok (.iconst 1, 1) := by decide +kernel
theorem dX2_areSound_75 : decode cX2_areSound 75 = .ok (.iadd, 1) := by decide +kernel
theorem dX2_areSound_76 : decode cX2_areSound 76 = .ok (.laload, 1) := by decide +kernel
theorem dX2_areSound_77 : decode cX2_areSound 77 = .ok (.lconst 0, 1) := by decide +kernel
theorem dX2_areSound_78 : decode cX2_areSound 78 = .ok (.lcmp, 1) := by decide +kernel
theorem dX2_areSound_79 : decode cX2_areSound 79 = .ok (.ifCond .lt 25, 3) := by decide +kernel
theorem dX2_areSound_82 : decode cX2_areSound 82 = .ok (.aload_n 3, 1) := by decide +kernel
theorem dX2_areSound_83 : decode cX2_areSound 83 = .ok (.iload 4, 2) := by decide +kernel
theorem dX2_areSound_85 : decode cX2_areSound 85 = .ok (.iconst 1, 1) := by decide +kernel
theorem dX2_areSound_86 : decode cX2_areSound 86 = .ok (.iadd, 1) := by decide +kernel
theorem dX2_areSound_87 : decode cX2_areSound 87 = .ok (.laload, 1) := by decide +kernel
theorem dX2_areSound_88 : decode cX2_areSound 88 = .ok (.aload_n 0, 1) := by decide +kernel
theorem dX2_areSound_89 : decode cX2_areSound 89 = .ok (.getfield 18, 3) := by decide +kernel
theorem dX2_areSound_92 : decode cX2_areSound 92 = .ok (.getfield 45, 3) := by decide +kernel
theorem dX2_areSound_95 : decode cX2_areSound 95 = .ok (.i2l, 1) := by decide +kernel
theorem dX2_areSound_96 : decode cX2_areSound 96 = .ok (.lcmp, 1) := by decide +kernel
theorem dX2_areSound_97 : decode cX2_areSound 97 = .ok (.ifCond .gt 7, 3) := by decide +kernel
theorem dX2_areSound_100 : decode cX2_areSound 100 = .ok (.iconst 1, 1) := by decide +kernel
theorem dX2_areSound_101 : decode cX2_areSound 101 = .ok (.goto 4, 3) := by decide +kernel
theorem dX2_areSound_104 : decode cX2_areSound 104 = .ok (.iconst 0, 1) := by decide +kernel
theorem dX2_areSound_105 : decode cX2_areSound 105 = .ok (.istore 6, 2) := by decide +kernel
theorem dX2_areSound_107 : decode cX2_areSound 107 = .ok (.aload_n 3, 1) := by decide +kernel
theorem dX2_areSound_108 : decode cX2_areSound 108 = .ok (.iload 4, 2) := by decide +kernel
theorem dX2_areSound_110 : decode cX2_areSound 110 = .ok (.iconst 2, 1) := by decide +kernel
theorem dX2_areSound_111 : decode cX2_areSound 111 = .ok (.iadd, 1) := by decide +kernel
theorem dX2_areSound_112 : decode cX2_areSound 112 = .ok (.laload, 1) := by decide +kernel
theorem dX2_areSound_113 : decode cX2_areSound 113 = .ok (.lconst 0, 1) := by decide +kernel
theorem dX2_areSound_114 : decode cX2_areSound 114 = .ok (.lcmp, 1) := by decide +kernel
theorem dX2_areSound_115 : decode cX2_areSound 115 = .ok (.ifCond .lt 20, 3) := by decide +kernel
theorem dX2_areSound_118 : decode cX2_areSound 118 = .ok (.aload_n 3, 1) := by decide +kernel
theorem dX2_areSound_119 : decode cX2_areSound 119 = .ok (.iload 4, 2) := by decide +kernel
theorem dX2_areSound_121 : decode cX2_areSound 121 = .ok (.iconst 2, 1) := by decide +kernel
theorem dX2_areSound_122 : decode cX2_areSound 122 = .ok (.iadd, 1) := by decide +kernel
theorem dX2_areSound_123 : decode cX2_areSound 123 = .ok (.laload, 1) := by decide +kernel
theorem dX2_areSound_124 : decode cX2_areSound 124 = .ok (.ldc2_w 48, 3) := by decide +kernel
theorem dX2_areSound_127 : decode cX2_areSound 127 = .ok (.lcmp, 1) := by decide +kernel
theorem dX2_areSound_128 : decode cX2_areSound 128 = .ok (.ifCond .gt 7, 3) := by decide +kernel
theorem dX2_areSound_131 : decode cX2_areSound 131 = .ok (.iconst 1, 1) := by decide +kernel
theorem dX2_areSound_132 : decode cX2_areSound 132 = .ok (.goto 4, 3) := by decide +kernel
theorem dX2_areSound_135 : decode cX2_areSound 135 = .ok (.iconst 0, 1) := by decide +kernel
theorem dX2_areSound_136 : decode cX2_areSound 136 = .ok (.istore 7, 2) := by decide +kernel
theorem dX2_areSound_138 : decode cX2_areSound 138 = .ok (.iload 5, 2) := by decide +kernel
theorem dX2_areSound_140 : decode cX2_areSound 140 = .ok (.ifCond .eq 13, 3) := by decide +kernel
theorem dX2_areSound_143 : decode cX2_areSound 143 = .ok (.iload 6, 2) := by decide +kernel
theorem dX2_areSound_145 : decode cX2_areSound 145 = .ok (.ifCond .eq 8, 3) := by decide +kernel
theorem dX2_areSound_148 : decode cX2_areSound 148 = .ok (.iload 7, 2) := by decide +kernel
theorem dX2_areSound_150 : decode cX2_areSound 150 = .ok (.ifCond .ne 5, 3) := by decide +kernel
theorem dX2_areSound_153 : decode cX2_areSound 153 = .ok (.iconst 0, 1) := by decide +kernel
theorem dX2_areSound_154 : decode cX2_areSound 154 = .ok (.ireturn, 1) := by decide +kernel
theorem dX2_areSound_155 : decode cX2_areSound 155 = .ok (.iinc 4 3, 3) := by decide +kernel
theorem dX2_areSound_158 : decode cX2_areSound 158 = .ok (.goto (-127), 3) := by decide +kernel
theorem dX2_areSound_161 : decode cX2_areSound 161 = .ok (.iconst 1, 1) := by decide +kernel
theorem dX2_areSound_162 : decode cX2_areSound 162 = .ok (.ireturn, 1) := by decide +kernel
theorem dX2_fit_0 : decode cX2_fit 0 = .ok (.aload_n 0, 1) := by decide +kernel
theorem dX2_fit_1 : decode cX2_fit 1 = .ok (.getfield 26, 3) := by decide +kernel
theorem dX2_fit_4 : decode cX2_fit 4 = .ok (.getfield 35, 3) := by decide +kernel
theorem dX2_fit_7 : decode cX2_fit 7 = .ok (.iload_n 1, 1) := by decide +kernel
theorem dX2_fit_8 : decode cX2_fit 8 = .ok (.aaload, 1) := by decide +kernel
theorem dX2_fit_9 : decode cX2_fit 9 = .ok (.astore_n 2, 1) := by decide +kernel
theorem dX2_fit_10 : decode cX2_fit 10 = .ok (.iconst 0, 1) := by decide +kernel
theorem dX2_fit_11 : decode cX2_fit 11 = .ok (.istore_n 3, 1) := by decide +kernel
theorem dX2_fit_12 : decode cX2_fit 12 = .ok (.iload_n 3, 1) := by decide +kernel
theorem dX2_fit_13 : decode cX2_fit 13 = .ok (.iconst 2, 1) := by decide +kernel
theorem dX2_fit_14 : decode cX2_fit 14 = .ok (.iadd, 1) := by decide +kernel
theorem dX2_fit_15 : decode cX2_fit 15 = .ok (.aload_n 0, 1) := by decide +kernel
theorem dX2_fit_16 : decode cX2_fit 16 = .ok (.getfield 26, 3) := by decide +kernel
theorem dX2_fit_19 : decode cX2_fit 19 = .ok (.getfield 30, 3) := by decide +kernel
theorem dX2_fit_22 : decode cX2_fit 22 = .ok (.iload_n 1, 1) := by decide +kernel
theorem dX2_fit_23 : decode cX2_fit 23 = .ok (.iaload, 1) := by decide +kernel
theorem dX2_fit_24 : decode cX2_fit 24 = .ok (.if_icmp .ge 50, 3) := by decide +kernel
theorem dX2_fit_27 : decode cX2_fit 27 = .ok (.aload_n 2, 1) := by decide +kernel
theorem dX2_fit_28 : decode cX2_fit 28 = .ok (.iload_n 3, 1) := by decide +kernel
theorem dX2_fit_29 : decode cX2_fit 29 = .ok (.iconst 1, 1) := by decide +kernel
theorem dX2_fit_30 : decode cX2_fit 30 = .ok (.iadd, 1) := by decide +kernel
theorem dX2_fit_31 : decode cX2_fit 31 = .ok (.laload, 1) := by decide +kernel
theorem dX2_fit_32 : decode cX2_fit 32 = .ok (.l2i, 1) := by decide +kernel
theorem dX2_fit_33 : decode cX2_fit 33 = .ok (.bipush 7, 2) := by decide +kernel
theorem dX2_fit_35 : decode cX2_fit 35 = .ok (.imul, 1) := by decide +kernel
theorem dX2_fit_36 : decode cX2_fit 36 = .ok (.aload_n 2, 1) := by decide +kernel
theorem dX2_fit_37 : decode cX2_fit 37 = .ok (.iload_n 3, 1) := by decide +kernel
theorem dX2_fit_38 : decode cX2_fit 38 = .ok (.laload, 1) := by decide +kernel
theorem dX2_fit_39 : decode cX2_fit 39 = .ok (.l2i, 1) := by decide +kernel
theorem dX2_fit_40 : decode cX2_fit 40 = .ok (.iadd, 1) := by decide +kernel
theorem dX2_fit_41 : decode cX2_fit 41 = .ok (.istore 4, 2) := by decide +kernel
theorem dX2_fit_43 : decode cX2_fit 43 = .ok (.aload_n 0, 1) := by decide +kernel
theorem dX2_fit_44 : decode cX2_fit 44 = .ok (.getfield 22, 3) := by decide +kernel
theorem dX2_fit_47 : decode cX2_fit 47 = .ok (.getfield 50, 3) := by decide +kernel
theorem dX2_fit_50 : decode cX2_fit 50 = .ok (.iload 4, 2) := by decide +kernel
theorem dX2_fit_52 : decode cX2_fit 52 = .ok (.iaload, 1) := by decide +kernel
theorem dX2_fit_53 : decode cX2_fit 53 = .ok (.invokestatic 55, 3) := by decide +kernel
theorem dX2_fit_56 : decode cX2_fit 56 = .ok (.i2l, 1) := by decide +kernel
theorem dX2_fit_57 : decode cX2_fit 57 = .ok (.aload_n 2, 1) := by decide +kernel
theorem dX2_fit_58 : decode cX2_fit 58 = .ok (.iload_n 3, 1) := by decide +kernel
theorem dX2_fit_59 : decode cX2_fit 59 = .ok (.iconst 2, 1) := by decide +kernel
theorem dX2_fit_60 : decode cX2_fit 60 = .ok (.iadd, 1) := by decide +kernel
theorem dX2_fit_61 : decode cX2_fit 61 = .ok (.laload, 1) := by decide +kernel
theorem dX2_fit_62 : decode cX2_fit 62 = .ok (.lcmp, 1) := by decide +kernel
theorem dX2_fit_63 : decode cX2_fit 63 = .ok (.ifCond .eq 5, 3) := by decide +kernel
theorem dX2_fit_66 : decode cX2_fit 66 = .ok (.iconst 0, 1) := by decide +kernel
theorem dX2_fit_67 : decode cX2_fit 67 = .ok (.ireturn, 1) := by decide +kernel
theorem dX2_fit_68 : decode cX2_fit 68 = .ok (.iinc 3 3, 3) := by decide +kernel
theorem dX2_fit_71 : decode cX2_fit 71 = .ok (.goto (-59), 3) := by decide +kernel
theorem dX2_fit_74 : decode cX2_fit 74 = .ok (.iconst 1, 1) := by decide +kernel
theorem dX2_fit_75 : decode cX2_fit 75 = .ok (.ireturn, 1) := by decide +kernel
theorem dX2_origins_0 : decode cX2_origins 0 = .ok (.iconst 0, 1) := by decide +kernel
theorem dX2_origins_1 : decode cX2_origins 1 = .ok (.istore_n 2, 1) := by decide +kernel
theorem dX2_origins_2 : decode cX2_origins 2 = .ok (.iconst 0, 1) := by decide +kernel
theorem dX2_origins_3 : decode cX2_origins 3 = .ok (.istore_n 3, 1) := by decide +kernel
theorem dX2_origins_4 : decode cX2_origins 4 = .ok (.iload_n 3, 1) := by decide +kernel
theorem dX2_origins_5 : decode cX2_origins 5 = .ok (.aload_n 0, 1) := by decide +kernel
theorem dX2_origins_6 : decode cX2_origins 6 = .ok (.getfield 18, 3) := by decide +kernel
theorem dX2_origins_9 : decode cX2_origins 9 = .ok (.getfield 39, 3) := by decide +kernel
theorem dX2_origins_12 : decode cX2_origins 12 = .ok (.if_icmp .ge 63, 3) := by decide +kernel
theorem dX2_origins_15 : decode cX2_origins 15 = .ok (.aload_n 0, 1) := by decide +kernel
theorem dX2_origins_16 : decode cX2_origins 16 = .ok (.getfield 22, 3) := by decide +kernel
theorem dX2_origins_19 : decode cX2_origins 19 = .ok (.iconst 1, 1) := by decide +kernel
theorem dX2_origins_20 : decode cX2_origins 20 = .ok (.iload_n 3, 1) := by decide +kernel
theorem dX2_origins_21 : decode cX2_origins 21 = .ok (.ishl, 1) := by decide +kernel
theorem dX2_origins_22 : decode cX2_origins 22 = .ok (.aload_n 0, 1) := by decide +kernel
theorem dX2_origins_23 : decode cX2_origins 23 = .ok (.getfield 18, 3) := by decide +kernel
theorem dX2_origins_26 : decode cX2_origins 26 = .ok (.getfield 61, 3) := by decide +kernel
theorem dX2_origins_29 : decode cX2_origins 29 = .ok (.iconst 0, 1) := by decide +kernel
theorem dX2_origins_30 : decode cX2_origins 30 = .ok (.iaload, 1) := by decide +kernel
theorem dX2_origins_31 : decode cX2_origins 31 = .ok (.invokevirtual 64, 3) := by decide +kernel
theorem dX2_origins_34 : decode cX2_origins 34 = .ok (.aload_n 0, 1) := by decide +kernel
theorem dX2_origins_35 : decode cX2_origins 35 = .ok (.getfield 22, 3) := by decide +kernel
theorem dX2_origins_38 : decode cX2_origins 38 = .ok (.iconst 0, 1) := by decide +kernel
theorem dX2_origins_39 : decode cX2_origins 39 = .ok (.aload_n 0, 1) := by decide +kernel
theorem dX2_origins_40 : decode cX2_origins 40 = .ok (.getfield 18, 3) := by decide +kernel
theorem dX2_origins_43 : decode cX2_origins 43 = .ok (.getfield 45, 3) := by decide +kernel
theorem dX2_origins_46 : decode cX2_origins 46 = .ok (.invokevirtual 68, 3) := by decide +kernel
theorem dX2_origins_49 : decode cX2_origins 49 = .ok (.pop, 1) := by decide +kernel
theorem dX2_origins_50 : decode cX2_origins 50 = .ok (.aload_n 0, 1) := by decide +kernel
theorem dX2_origins_51 : decode cX2_origins 51 = .ok (.iload_n 1, 1) := by decide +kernel
theorem dX2_origins_52 : decode cX2_origins 52 = .ok (.invokevirtual 72, 3) := by decide +kernel
theorem dX2_origins_55 : decode cX2_origins 55 = .ok (.ifCond .eq 14, 3) := by decide +kernel
theorem dX2_origins_58 : decode cX2_origins 58 = .ok (.iload_n 2, 1) := by decide +kernel
theorem dX2_origins_59 : decode cX2_origins 59 = .ok (.iconst 1, 1) := by decide +kernel
theorem dX2_origins_60 : decode cX2_origins 60 = .ok (.iload_n 3, 1) := by decide +kernel
theorem dX2_origins_61 : decode cX2_origins 61 = .ok (.ishl, 1) := by decide +kernel
theorem dX2_origins_62 : decode cX2_origins 62 = .ok (.ior, 1) := by decide +kernel
theorem dX2_origins_63 : decode cX2_origins 63 = .ok (.istore_n 2, 1) := by decide +kernel
theorem dX2_origins_64 : decode cX2_origins 64 = .ok (.aload_n 0, 1) := by decide +kernel
theorem dX2_origins_65 : decode cX2_origins 65 = .ok (.iload_n 3, 1) := by decide +kernel
theorem dX2_origins_66 : decode cX2_origins 66 = .ok (.invokevirtual 76, 3) := by decide +kernel
theorem dX2_origins_69 : decode cX2_origins 69 = .ok (.iinc 3 1, 3) := by decide +kernel
theorem dX2_origins_72 : decode cX2_origins 72 = .ok (.goto (-68), 3) := by decide +kernel
theorem dX2_origins_75 : decode cX2_origins 75 = .ok (.iload_n 2, 1) := by decide +kernel
theorem dX2_origins_76 : decode cX2_origins 76 = .ok (.ireturn, 1) := by decide +kernel
theorem dX2_noteSizes_0 : decode cX2_noteSizes 0 = .ok (.iconst 0, 1) := by decide +kernel
theorem dX2_noteSizes_1 : decode cX2_noteSizes 1 = .ok (.istore_n 2, 1) := by decide +kernel
theorem dX2_noteSizes_2 : decode cX2_noteSizes 2 = .ok (.iload_n 2, 1) := by decide +kernel
theorem dX2_noteSizes_3 : decode cX2_noteSizes 3 = .ok (.aload_n 0, 1) := by decide +kernel
theorem dX2_noteSizes_4 : decode cX2_noteSizes 4 = .ok (.getfield 18, 3) := by decide +kernel
theorem dX2_noteSizes_7 : decode cX2_noteSizes 7 = .ok (.getfield 45, 3) := by decide +kernel
theorem dX2_noteSizes_10 : decode cX2_noteSizes 10 = .ok (.iconst 1, 1) := by decide +kernel
theorem dX2_noteSizes_11 : decode cX2_noteSizes 11 = .ok (.iadd, 1) := by decide +kernel
theorem dX2_noteSizes_12 : decode cX2_noteSizes 12 = .ok (.bipush 7, 2) := by decide +kernel
theorem dX2_noteSizes_14 : decode cX2_noteSizes 14 = .ok (.imul, 1) := by decide +kernel
theorem dX2_noteSizes_15 : decode cX2_noteSizes 15 = .ok (.if_icmp .ge 46, 3) := by decide +kernel
theorem dX2_noteSizes_18 : decode cX2_noteSizes 18 = .ok (.iload_n 2, 1) := by decide +kernel
theorem dX2_noteSizes_19 : decode cX2_noteSizes 19 = .ok (.bipush 7, 2) := by decide +kernel
theorem dX2_noteSizes_21 : decode cX2_noteSizes 21 = .ok (.irem, 1) := by decide +kernel
theorem dX2_noteSizes_22 : decode cX2_noteSizes 22 = .ok (.aload_n 0, 1) := by decide +kernel
theorem dX2_noteSizes_23 : decode cX2_noteSizes 23 = .ok (.getfield 18, 3) := by decide +kernel
theorem dX2_noteSizes_26 : decode cX2_noteSizes 26 = .ok (.getfield 39, 3) := by decide +kernel
theorem dX2_noteSizes_29 : decode cX2_noteSizes 29 = .ok (.if_icmp .ge 26, 3) := by decide +kernel
theorem dX2_noteSizes_32 : decode cX2_noteSizes 32 = .ok (.aload_n 0, 1) := by decide +kernel
theorem dX2_noteSizes_33 : decode cX2_noteSizes 33 = .ok (.getfield 9, 3) := by decide +kernel
theorem dX2_noteSizes_36 : decode cX2_noteSizes 36 = .ok (.iload_n 1, 1) := by decide +kernel
theorem dX2_noteSizes_37 : decode cX2_noteSizes 37 = .ok (.bipush 91, 2) := by decide +kernel
theorem dX2_noteSizes_39 : decode cX2_noteSizes 39 = .ok (.imul, 1) := by decide +kernel
theorem dX2_noteSizes_40 : decode cX2_noteSizes 40 = .ok (.iload_n 2, 1) := by decide +kernel
theorem dX2_noteSizes_41 : decode cX2_noteSizes 41 = .ok (.iadd, 1) := by decide +kernel
theorem dX2_noteSizes_42 : decode cX2_noteSizes 42 = .ok (.aload_n 0, 1) := by decide +kernel
theorem dX2_noteSizes_43 : decode cX2_noteSizes 43 = .ok (.getfield 22, 3) := by decide +kernel
theorem dX2_noteSizes_46 : decode cX2_noteSizes 46 = .ok (.getfield 50, 3) := by decide +kernel
theorem dX2_noteSizes_49 : decode cX2_noteSizes 49 = .ok (.iload_n 2, 1) := by decide +kernel
theorem dX2_noteSizes_50 : decode cX2_noteSizes 50 = .ok (.iaload, 1) := by decide +kernel
theorem dX2_noteSizes_51 : decode cX2_noteSizes 51 = .ok (.invokestatic 55, 3) := by decide +kernel
theorem dX2_noteSizes_54 : decode cX2_noteSizes 54 = .ok (.iastore, 1) := by decide +kernel
theorem dX2_noteSizes_55 : decode cX2_noteSizes 55 = .ok (.iinc 2 1, 3) := by decide +kernel
theorem dX2_noteSizes_58 : decode cX2_noteSizes 58 = .ok (.goto (-56), 3) := by decide +kernel
theorem dX2_noteSizes_61 : decode cX2_noteSizes 61 = .ok (.return_, 1) := by decide +kernel
theorem dX2_chooseQuestion_0 : decode cX2_chooseQuestion 0 = .ok (.aload_n 0, 1) := by decide +kernel
theorem dX2_chooseQuestion_1 : decode cX2_chooseQuestion 1 = .ok (.iconst (-1), 1) := by decide +kernel
theorem dX2_chooseQuestion_2 : decode cX2_chooseQuestion 2 = .ok (.putfield 80, 3) := by decide +kernel
theorem dX2_chooseQuestion_5 : decode cX2_chooseQuestion 5 = .ok (.aload_n 0, 1) := by decide +kernel
theorem dX2_chooseQuestion_6 : decode cX2_chooseQuestion 6 = .ok (.iload_n 1, 1) := by decide +kernel
theorem dX2_chooseQuestion_7 : decode cX2_chooseQuestion 7 = .ok (.invokestatic 83, 3) := by decide +kernel
theorem dX2_chooseQuestion_10 : decode cX2_chooseQuestion 10 = .ok (.putfield 88, 3) := by decide +kernel
theorem dX2_chooseQuestion_13 : decode cX2_chooseQuestion 13 = .ok (.iconst 0, 1) := by decide +kernel
theorem dX2_chooseQuestion_14 : decode cX2_chooseQuestion 14 = .ok (.istore_n 2, 1) := by decide +kernel
theorem dX2_chooseQuestion_15 : decode cX2_chooseQuestion 15 = .ok (.iload_n 2, 1) := by decide +kernel
theorem dX2_chooseQuestion_16 : decode cX2_chooseQuestion 16 = .ok (.aload_n 0, 1) := by decide +kernel
theorem dX2_chooseQuestion_17 : decode cX2_chooseQuestion 17 = .ok (.getfield 18, 3) := by decide +kernel
theorem dX2_chooseQuestion_20 : decode cX2_chooseQuestion 20 = .ok (.getfield 39, 3) := by decide +kernel
theorem dX2_chooseQuestion_23 : decode cX2_chooseQuestion 23 = .ok (.if_icmp .ge 66, 3) := by decide +kernel
theorem dX2_chooseQuestion_26 : decode cX2_chooseQuestion 26 = .ok (.iconst 0, 1) := by decide +kernel
theorem dX2_chooseQuestion_27 : decode cX2_chooseQuestion 27 = .ok (.istore_n 3, 1) := by decide +kernel
theorem dX2_chooseQuestion_28 : decode cX2_chooseQuestion 28 = .ok (.iload_n 3, 1) := by decide +kernel
theorem dX2_chooseQuestion_29 : decode cX2_chooseQuestion 29 = .ok (.aload_n 0, 1) := by decide +kernel
theorem dX2_chooseQuestion_30 : decode cX2_chooseQuestion 30 = .ok (.getfield 18, 3) := by decide +kernel
theorem dX2_chooseQuestion_33 : decode cX2_chooseQuestion 33 = .ok (.getfield 45, 3) := by decide +kernel
theorem dX2_chooseQuestion_36 : decode cX2_chooseQuestion 36 = .ok (.if_icmp .gt 47, 3) := by decide +kernel
theorem dX2_chooseQuestion_39 : decode cX2_chooseQuestion 39 = .ok (.aload_n 0, 1) := by decide +kernel
theorem dX2_chooseQuestion_40 : decode cX2_chooseQuestion 40 = .ok (.iload_n 1, 1) := by decide +kernel
theorem dX2_chooseQuestion_41 : decode cX2_chooseQuestion 41 = .ok (.iload_n 3, 1) := by decide +kernel
theorem dX2_chooseQuestion_42 : decode cX2_chooseQuestion 42 = .ok (.bipush 7, 2) := by decide +kernel
theorem dX2_chooseQuestion_44 : decode cX2_chooseQuestion 44 = .ok (.imul, 1) := by decide +kernel
theorem dX2_chooseQuestion_45 : decode cX2_chooseQuestion 45 = .ok (.iload_n 2, 1) := by decide +kernel
theorem dX2_chooseQuestion_46 : decode cX2_chooseQuestion 46 = .ok (.iadd, 1) := by decide +kernel
theorem dX2_chooseQuestion_47 : decode cX2_chooseQuestion 47 = .ok (.invokevirtual 91, 3) := by decide +kernel
theorem dX2_chooseQuestion_50 : decode cX2_chooseQuestion 50 = .ok (.istore 4, 2) := by decide +kernel
theorem dX2_chooseQuestion_52 : decode cX2_chooseQuestion 52 = .ok (.iload 4, 2) := by decide +kernel
theorem dX2_chooseQuestion_54 : decode cX2_chooseQuestion 54 = .ok (.aload_n 0, 1) := by decide +kernel
theorem dX2_chooseQuestion_55 : decode cX2_chooseQuestion 55 = .ok (.getfield 88, 3) := by decide +kernel
theorem dX2_chooseQuestion_58 : decode cX2_chooseQuestion 58 = .ok (.if_icmp .ge 19, 3) := by decide +kernel
theorem dX2_chooseQuestion_61 : decode cX2_chooseQuestion 61 = .ok (.aload_n 0, 1) := by decide +kernel
theorem dX2_chooseQuestion_62 : decode cX2_chooseQuestion 62 = .ok (.iload 4, 2) := by decide +kernel
theorem dX2_chooseQuestion_64 : decode cX2_chooseQuestion 64 = .ok (.putfield 88, 3) := by decide +kernel
theorem dX2_chooseQuestion_67 : decode cX2_chooseQuestion 67 = .ok (.aload_n 0, 1) := by decide +kernel
theorem dX2_chooseQuestion_68 : decode cX2_chooseQuestion 68 = .ok (.bipush 100, 2) := by decide +kernel
theorem dX2_chooseQuestion_70 : decode cX2_chooseQuestion 70 = .ok (.iload_n 2, 1) := by decide +kernel
theorem dX2_chooseQuestion_71 : decode cX2_chooseQuestion 71 = .ok (.imul, 1) := by decide +kernel
theorem dX2_chooseQuestion_72 : decode cX2_chooseQuestion 72 = .ok (.iload_n 3, 1) := by decide +kernel
theorem dX2_chooseQuestion_73 : decode cX2_chooseQuestion 73 = .ok (.iadd, 1) := by decide +kernel
theorem dX2_chooseQuestion_74 : decode cX2_chooseQuestion 74 = .ok (.putfield 80, 3) := by decide +kernel
theorem dX2_chooseQuestion_77 : decode cX2_chooseQuestion 77 = .ok (.iinc 3 1, 3) := by decide +kernel
theorem dX2_chooseQuestion_80 : decode cX2_chooseQuestion 80 = .ok (.goto (-52), 3) := by decide +kernel
theorem dX2_chooseQuestion_83 : decode cX2_chooseQuestion 83 = .ok (.iinc 2 1, 3) := by decide +kernel
theorem dX2_chooseQuestion_86 : decode cX2_chooseQuestion 86 = .ok (.goto (-71), 3) := by decide +kernel
theorem dX2_chooseQuestion_89 : decode cX2_chooseQuestion 89 = .ok (.return_, 1) := by decide +kernel
theorem dX2_leftAtWorst_0 : decode cX2_leftAtWorst 0 = .ok (.iconst 0, 1) := by decide +kernel
theorem dX2_leftAtWorst_1 : decode cX2_leftAtWorst 1 = .ok (.istore_n 3, 1) := by decide +kernel
theorem dX2_leftAtWorst_2 : decode cX2_leftAtWorst 2 = .ok (.iload_n 3, 1) := by decide +kernel
theorem dX2_leftAtWorst_3 : decode cX2_leftAtWorst 3 = .ok (.bipush 6, 2) := by decide +kernel
theorem dX2_leftAtWorst_5 : decode cX2_leftAtWorst 5 = .ok (.if_icmp .gt 16, 3) := by decide +kernel
theorem dX2_leftAtWorst_8 : decode cX2_leftAtWorst 8 = .ok (.aload_n 0, 1) := by decide +kernel
theorem dX2_leftAtWorst_9 : decode cX2_leftAtWorst 9 = .ok (.getfield 15, 3) := by decide +kernel
theorem dX2_leftAtWorst_12 : decode cX2_leftAtWorst 12 = .ok (.iload_n 3, 1) := by decide +kernel
theorem dX2_leftAtWorst_13 : decode cX2_leftAtWorst 13 = .ok (.iconst 0, 1) := by decide +kernel
theorem dX2_leftAtWorst_14 : decode cX2_leftAtWorst 14 = .ok (.iastore, 1) := by decide +kernel
theorem dX2_leftAtWorst_15 : decode cX2_leftAtWorst 15 = .ok (.iinc 3 1, 3) := by decide +kernel
theorem dX2_leftAtWorst_18 : decode cX2_leftAtWorst 18 = .ok (.goto (-16), 3) := by decide +kernel
theorem dX2_leftAtWorst_21 : decode cX2_leftAtWorst 21 = .ok (.iconst 0, 1) := by decide +kernel
theorem dX2_leftAtWorst_22 : decode cX2_leftAtWorst 22 = .ok (.istore_n 3, 1) := by decide +kernel
theorem dX2_leftAtWorst_23 : decode cX2_leftAtWorst 23 = .ok (.iconst 0, 1) := by decide +kernel
theorem dX2_leftAtWorst_24 : decode cX2_leftAtWorst 24 = .ok (.istore 4, 2) := by decide +kernel
theorem dX2_leftAtWorst_26 : decode cX2_leftAtWorst 26 = .ok (.iload 4, 2) := by decide +kernel
theorem dX2_leftAtWorst_28 : decode cX2_leftAtWorst 28 = .ok (.aload_n 0, 1) := by decide +kernel
theorem dX2_leftAtWorst_29 : decode cX2_leftAtWorst 29 = .ok (.getfield 18, 3) := by decide +kernel
theorem dX2_leftAtWorst_32 : decode cX2_leftAtWorst 32 = .ok (.getfield 39, 3) := by decide +kernel
theorem dX2_leftAtWorst_35 : decode cX2_leftAtWorst 35 = .ok (.if_icmp .ge 55, 3) := by decide +kernel
theorem dX2_leftAtWorst_38 : decode cX2_leftAtWorst 38 = .ok (.iload_n 1, 1) := by decide +kernel
theorem dX2_leftAtWorst_39 : decode cX2_leftAtWorst 39 = .ok (.iload 4, 2) := by decide +kernel
theorem dX2_leftAtWorst_41 : decode cX2_leftAtWorst 41 = .ok (.ishr, 1) := by decide +kernel
theorem dX2_leftAtWorst_42 : decode cX2_leftAtWorst 42 = .ok (.iconst 1, 1) := by decide +kernel
theorem dX2_leftAtWorst_43 : decode cX2_leftAtWorst 43 = .ok (.iand, 1) := by decide +kernel
theorem dX2_leftAtWorst_44 : decode cX2_leftAtWorst 44 = .ok (.ifCond .eq 40, 3) := by decide +kernel
theorem dX2_leftAtWorst_47 : decode cX2_leftAtWorst 47 = .ok (.aload_n 0, 1) := by decide +kernel
theorem dX2_leftAtWorst_48 : decode cX2_leftAtWorst 48 = .ok (.getfield 9, 3) := by decide +kernel
theorem dX2_leftAtWorst_51 : decode cX2_leftAtWorst 51 = .ok (.iload 4, 2) := by decide +kernel
theorem dX2_leftAtWorst_53 : decode cX2_leftAtWorst 53 = .ok (.bipush 91, 2) := by decide +kernel
theorem dX2_leftAtWorst_55 : decode cX2_leftAtWorst 55 = .ok (.imul, 1) := by decide +kernel
theorem dX2_leftAtWorst_56 : decode cX2_leftAtWorst 56 = .ok (.iload_n 2, 1) := by decide +kernel
theorem dX2_leftAtWorst_57 : decode cX2_leftAtWorst 57 = .ok (.iadd, 1) := by decide +kernel
theorem dX2_leftAtWorst_58 : decode cX2_leftAtWorst 58 = .ok (.iaload, 1) := by decide +kernel
theorem dX2_leftAtWorst_59 : decode cX2_leftAtWorst 59 = .ok (.istore 5, 2) := by decide +kernel
theorem dX2_leftAtWorst_61 : decode cX2_leftAtWorst 61 = .ok (.aload_n 0, 1) := by decide +kernel
theorem dX2_leftAtWorst_62 : decode cX2_leftAtWorst 62 = .ok (.getfield 15, 3) := by decide +kernel
theorem dX2_leftAtWorst_65 : decode cX2_leftAtWorst 65 = .ok (.iload 5, 2) := by decide +kernel
theorem dX2_leftAtWorst_67 : decode cX2_leftAtWorst 67 = .ok (.dup2, 1) := by decide +kernel
theorem dX2_leftAtWorst_68 : decode cX2_leftAtWorst 68 = .ok (.iaload, 1) := by decide +kernel
theorem dX2_leftAtWorst_69 : decode cX2_leftAtWorst 69 = .ok (.iconst 1, 1) := by decide +kernel
theorem dX2_leftAtWorst_70 : decode cX2_leftAtWorst 70 = .ok (.iadd, 1) := by decide +kernel
theorem dX2_leftAtWorst_71 : decode cX2_leftAtWorst 71 = .ok (.iastore, 1) := by decide +kernel
theorem dX2_leftAtWorst_72 : decode cX2_leftAtWorst 72 = .ok (.iload_n 3, 1) := by decide +kernel
theorem dX2_leftAtWorst_73 : decode cX2_leftAtWorst 73 = .ok (.aload_n 0, 1) := by decide +kernel
theorem dX2_leftAtWorst_74 : decode cX2_leftAtWorst 74 = .ok (.getfield 15, 3) := by decide +kernel
theorem dX2_leftAtWorst_77 : decode cX2_leftAtWorst 77 = .ok (.iload 5, 2) := by decide +kernel
theorem dX2_leftAtWorst_79 : decode cX2_leftAtWorst 79 = .ok (.iaload, 1) := by decide +kernel
theorem dX2_leftAtWorst_80 : decode cX2_leftAtWorst 80 = .ok (.invokestatic 94, 3) := by decide +kernel
theorem dX2_leftAtWorst_83 : decode cX2_leftAtWorst 83 = .ok (.istore_n 3, 1) := by decide +kernel
theorem dX2_leftAtWorst_84 : decode cX2_leftAtWorst 84 = .ok (.iinc 4 1, 3) := by decide +kernel
theorem dX2_leftAtWorst_87 : decode cX2_leftAtWorst 87 = .ok (.goto (-61), 3) := by decide +kernel
theorem dX2_leftAtWorst_90 : decode cX2_leftAtWorst 90 = .ok (.iload_n 3, 1) := by decide +kernel
theorem dX2_leftAtWorst_91 : decode cX2_leftAtWorst 91 = .ok (.ireturn, 1) := by decide +kernel
theorem dX2_fittingLaws_0 : decode cX2_fittingLaws 0 = .ok (.iconst 0, 1) := by decide +kernel
theorem dX2_fittingLaws_1 : decode cX2_fittingLaws 1 = .ok (.istore_n 2, 1) := by decide +kernel
theorem dX2_fittingLaws_2 : decode cX2_fittingLaws 2 = .ok (.iconst 0, 1) := by decide +kernel
theorem dX2_fittingLaws_3 : decode cX2_fittingLaws 3 = .ok (.istore_n 3, 1) := by decide +kernel
theorem dX2_fittingLaws_4 : decode cX2_fittingLaws 4 = .ok (.iload_n 3, 1) := by decide +kernel
theorem dX2_fittingLaws_5 : decode cX2_fittingLaws 5 = .ok (.iconst 4, 1) := by decide +kernel
theorem dX2_fittingLaws_6 : decode cX2_fittingLaws 6 = .ok (.if_icmp .ge 47, 3) := by decide +kernel
theorem dX2_fittingLaws_9 : decode cX2_fittingLaws 9 = .ok (.aload_n 0, 1) := by decide +kernel
theorem dX2_fittingLaws_10 : decode cX2_fittingLaws 10 = .ok (.getfield 22, 3) := by decide +kernel
theorem dX2_fittingLaws_13 : decode cX2_fittingLaws 13 = .ok (.iload_n 3, 1) := by decide +kernel
theorem dX2_fittingLaws_14 : decode cX2_fittingLaws 14 = .ok (.invokevirtual 99, 3) := by decide +kernel
theorem dX2_fittingLaws_17 : decode cX2_fittingLaws 17 = .ok (.aload_n 0, 1) := by decide +kernel
theorem dX2_fittingLaws_18 : decode cX2_fittingLaws 18 = .ok (.getfield 22, 3) := by decide +kernel
theorem dX2_fittingLaws_21 : decode cX2_fittingLaws 21 = .ok (.iconst 0, 1) := by decide +kernel
theorem dX2_fittingLaws_22 : decode cX2_fittingLaws 22 = .ok (.aload_n 0, 1) := by decide +kernel
theorem dX2_fittingLaws_23 : decode cX2_fittingLaws 23 = .ok (.getfield 18, 3) := by decide +kernel
theorem dX2_fittingLaws_26 : decode cX2_fittingLaws 26 = .ok (.getfield 45, 3) := by decide +kernel
theorem dX2_fittingLaws_29 : decode cX2_fittingLaws 29 = .ok (.invokevirtual 68, 3) := by decide +kernel
theorem dX2_fittingLaws_32 : decode cX2_fittingLaws 32 = .ok (.pop, 1) := by decide +kernel
theorem dX2_fittingLaws_33 : decode cX2_fittingLaws 33 = .ok (.aload_n 0, 1) := by decide +kernel
theorem dX2_fittingLaws_34 : decode cX2_fittingLaws 34 = .ok (.iload_n 1, 1) := by decide +kernel
theorem dX2_fittingLaws_35 : decode cX2_fittingLaws 35 = .ok (.invokevirtual 72, 3) := by decide +kernel
theorem dX2_fittingLaws_38 : decode cX2_fittingLaws 38 = .ok (.ifCond .eq 9, 3) := by decide +kernel
theorem dX2_fittingLaws_41 : decode cX2_fittingLaws 41 = .ok (.iload_n 2, 1) := by decide +kernel
theorem dX2_fittingLaws_42 : decode cX2_fittingLaws 42 = .ok (.iconst 1, 1) := by decide +kernel
theorem dX2_fittingLaws_43 : decode cX2_fittingLaws 43 = .ok (.iload_n 3, 1) := by decide +kernel
theorem dX2_fittingLaws_44 : decode cX2_fittingLaws 44 = .ok (.ishl, 1) := by decide +kernel
theorem dX2_fittingLaws_45 : decode cX2_fittingLaws 45 = .ok (.ior, 1) := by decide +kernel
theorem dX2_fittingLaws_46 : decode cX2_fittingLaws 46 = .ok (.istore_n 2, 1) := by decide +kernel
theorem dX2_fittingLaws_47 : decode cX2_fittingLaws 47 = .ok (.iinc 3 1, 3) := by decide +kernel
theorem dX2_fittingLaws_50 : decode cX2_fittingLaws 50 = .ok (.goto (-46), 3) := by decide +kernel
theorem dX2_fittingLaws_53 : decode cX2_fittingLaws 53 = .ok (.iload_n 2, 1) := by decide +kernel
theorem dX2_fittingLaws_54 : decode cX2_fittingLaws 54 = .ok (.ireturn, 1) := by decide +kernel
theorem dX3_init_0 : decode cX3_init 0 = .ok (.aload_n 0, 1) := by decide +kernel
theorem dX3_init_1 : decode cX3_init 1 = .ok (.invokespecial 3, 3) := by decide +kernel
theorem dX3_init_4 : decode cX3_init 4 = .ok (.aload_n 0, 1) := by decide +kernel
theorem dX3_init_5 : decode cX3_init 5 = .ok (.bipush 13, 2) := by decide +kernel
theorem dX3_init_7 : decode cX3_init 7 = .ok (.newarray .int, 2) := by decide +kernel
theorem dX3_init_9 : decode cX3_init 9 = .ok (.putfield 9, 3) := by decide +kernel
theorem dX3_init_12 : decode cX3_init 12 = .ok (.aload_n 0, 1) := by decide +kernel
theorem dX3_init_13 : decode cX3_init 13 = .ok (.bipush 91, 2) := by decide +kernel
theorem dX3_init_15 : decode cX3_init 15 = .ok (.newarray .int, 2) := by decide +kernel
theorem dX3_init_17 : decode cX3_init 17 = .ok (.putfield 15, 3) := by decide +kernel
theorem dX3_init_20 : decode cX3_init 20 = .ok (.aload_n 0, 1) := by decide +kernel
theorem dX3_init_21 : decode cX3_init 21 = .ok (.bipush 91, 2) := by decide +kernel
theorem dX3_init_23 : decode cX3_init 23 = .ok (.newarray .int, 2) := by decide +kernel
theorem dX3_init_25 : decode cX3_init 25 = .ok (.putfield 18, 3) := by decide +kernel
theorem dX3_init_28 : decode cX3_init 28 = .ok (.aload_n 0, 1) := by decide +kernel
theorem dX3_init_29 : decode cX3_init 29 = .ok (.bipush 91, 2) := by decide +kernel
theorem dX3_init_31 : decode cX3_init 31 = .ok (.newarray .int, 2) := by decide +kernel
theorem dX3_init_33 : decode cX3_init 33 = .ok (.putfield 21, 3) := by decide +kernel
theorem dX3_init_36 : decode cX3_init 36 = .ok (.aload_n 0, 1) := by decide +kernel
theorem dX3_init_37 : decode cX3_init 37 = .ok (.bipush 91, 2) := by decide +kernel
theorem dX3_init_39 : decode cX3_init 39 = .ok (.newarray .int, 2) := by decide +kernel
theorem dX3_init_41 : decode cX3_init 41 = .ok (.putfield 24, 3) := by decide +kernel
theorem dX3_init_44 : decode cX3_init 44 = .ok (.aload_n 0, 1) := by decide +kernel
theorem dX3_init_45 : decode cX3_init 45 = .ok (.aload_n 1, 1) := by decide +kernel
theorem dX3_init_46 : decode cX3_init 46 = .ok (.putfield 27, 3) := by decide +kernel
theorem dX3_init_49 : decode cX3_init 49 = .ok (.aload_n 0, 1) := by decide +kernel
theorem dX3_init_50 : decode cX3_init 50 = .ok (.aload_n 2, 1) := by decide +kernel
theorem dX3_init_51 : decode cX3_init 51 = .ok (.putfield 31, 3) := by decide +kernel
theorem dX3_init_54 : decode cX3_init 54 = .ok (.return_, 1) := by decide +kernel
theorem dX3_asNow_0 : decode cX3_asNow 0 = .ok (.aload_n 0, 1) := by decide +kernel
theorem dX3_asNow_1 : decode cX3_asNow 1 = .ok (.aload_n 0, 1) := by decide +kernel
theorem dX3_asNow_2 : decode cX3_asNow 2 = .ok (.getfield 27, 3) := by decide +kernel
theorem dX3_asNow_5 : decode cX3_asNow 5 = .ok (.getfield 35, 3) := by decide +kernel
theorem dX3_asNow_8 : decode cX3_asNow 8 = .ok (.putfield 41, 3) := by decide +kernel
theorem dX3_asNow_11 : decode cX3_asNow 11 = .ok (.aload_n 0, 1) := by decide +kernel
theorem dX3_asNow_12 : decode cX3_asNow 12 = .ok (.iconst 0, 1) := by decide +kernel
theorem dX3_asNow_13 : decode cX3_asNow 13 = .ok (.putfield 42, 3) := by decide +kernel
theorem dX3_asNow_16 : decode cX3_asNow 16 = .ok (.aload_n 0, 1) := by decide +kernel
theorem dX3_asNow_17 : decode cX3_asNow 17 = .ok (.iconst 0, 1) := by decide +kernel
theorem dX3_asNow_18 : decode cX3_asNow 18 = .ok (.putfield 45, 3) := by decide +kernel
theorem dX3_asNow_21 : decode cX3_asNow 21 = .ok (.aload_n 0, 1) := by decide +kernel
theorem dX3_asNow_22 : decode cX3_asNow 22 = .ok (.iconst (-1), 1) := by decide +kernel
theorem dX3_asNow_23 : decode cX3_asNow 23 = .ok (.putfield 48, 3) := by decide +kernel
theorem dX3_asNow_26 : decode cX3_asNow 26 = .ok (.aload_n 0, 1) := by decide +kernel
theorem dX3_asNow_27 : decode cX3_asNow 27 = .ok (.iconst (-1), 1) := by decide +kernel
theorem dX3_asNow_28 : decode cX3_asNow 28 = .ok (.putfield 51, 3) := by decide +kernel
theorem dX3_asNow_31 : decode cX3_asNow 31 = .ok (.aload_n 0, 1) := by decide +kernel
theorem dX3_asNow_32 : decode cX3_asNow 32 = .ok (.iconst (-1), 1) := by decide +kernel
theorem dX3_asNow_33 : decode cX3_asNow 33 = .ok (.putfield 54, 3) := by decide +kernel
theorem dX3_asNow_36 : decode cX3_asNow 36 = .ok (.aload_n 0, 1) := by decide +kernel
theorem dX3_asNow_37 : decode cX3_asNow 37 = .ok (.iconst (-1), 1) := by decide +kernel
theorem dX3_asNow_38 : decode cX3_asNow 38 = .ok (.putfield 57, 3) := by decide +kernel
theorem dX3_asNow_41 : decode cX3_asNow 41 = .ok (.aload_n 0, 1) := by decide +kernel
theorem dX3_asNow_42 : decode cX3_asNow 42 = .ok (.iconst 0, 1) := by decide +kernel
theorem dX3_asNow_43 : decode cX3_asNow 43 = .ok (.putfield 60, 3) := by decide +kernel
theorem dX3_asNow_46 : decode cX3_asNow 46 = .ok (.return_, 1) := by decide +kernel
theorem dX3_byLaw_0 : decode cX3_byLaw 0 = .ok (.aload_n 0, 1) := by decide +kernel
theorem dX3_byLaw_1 : decode cX3_byLaw 1 = .ok (.invokevirtual 64, 3) := by decide +kernel
theorem dX3_byLaw_4 : decode cX3_byLaw 4 = .ok (.aload_n 0, 1) := by decide +kernel
theorem dX3_byLaw_5 : decode cX3_byLaw 5 = .ok (.iload_n 1, 1) := by decide +kernel
theorem dX3_byLaw_6 : decode cX3_byLaw 6 = .ok (.putfield 41, 3) := by decide +kernel
theorem dX3_byLaw_9 : decode cX3_byLaw 9 = .ok (.return_, 1) := by decide +kernel
theorem dX3_tellAlone_0 : decode cX3_tellAlone 0 = .ok (.aload_n 0, 1) := by decide +kernel
theorem dX3_tellAlone_1 : decode cX3_tellAlone 1 = .ok (.invokevirtual 64, 3) := by decide +kernel
theorem dX3_tellAlone_4 : decode cX3_tellAlone 4 = .ok (.aload_n 0, 1) := by decide +kernel
theorem dX3_tellAlone_5 : decode cX3_tellAlone 5 = .ok (.iconst 1, 1) := by decide +kernel
theorem dX3_tellAlone_6 : decode cX3_tellAlone 6 = .ok (.putfield 60, 3) := by decide +kernel
theorem dX3_tellAlone_9 : decode cX3_tellAlone 9 = .ok (.aload_n 0, 1) := by decide +kernel
theorem dX3_tellAlone_10 : decode cX3_tellAlone 10 = .ok (.iload_n 1, 1) := by decide +kernel
theorem dX3_tellAlone_11 : decode cX3_tellAlone 11 = .ok (.putfield 67, 3) := by decide +kernel
theorem dX3_tellAlone_14 : decode cX3_tellAlone 14 = .ok (.aload_n 0, 1) := by decide +kernel
theorem dX3_tellAlone_15 : decode cX3_tellAlone 15 = .ok (.iload_n 2, 1) := by decide +kernel
theorem dX3_tellAlone_16 : decode cX3_tellAlone 16 = .ok (.putfield 70, 3) := by decide +kernel
theorem dX3_tellAlone_19 : decode cX3_tellAlone 19 = .ok (.return_, 1) := by decide +kernel
theorem dX3_run_0 : decode cX3_run 0 = .ok (.iload_n 1, 1) := by decide +kernel
theorem dX3_run_1 : decode cX3_run 1 = .ok (.istore_n 3, 1) := by decide +kernel
theorem dX3_run_2 : decode cX3_run 2 = .ok (.iload_n 3, 1) := by decide +kernel
theorem dX3_run_3 : decode cX3_run 3 = .ok (.iload_n 2, 1) := by decide +kernel
theorem dX3_run_4 : decode cX3_run 4 = .ok (.if_icmp .gt 40, 3) := by decide +kernel
theorem dX3_run_7 : decode cX3_run 7 = .ok (.iload_n 3, 1) := by decide +kernel
theorem dX3_run_8 : decode cX3_run 8 = .ok (.ifCond .ne 10, 3) := by decide +kernel
theorem dX3_run_11 : decode cX3_run 11 = .ok (.aload_n 0, 1) := by decide +kernel
theorem dX3_run_12 : decode cX3_run 12 = .ok (.invokevirtual 73, 3) := by decide +kernel
theorem dX3_run_15 : decode cX3_run 15 = .ok (.goto 8, 3) := by decide +kernel
theorem dX3_run_18 : decode cX3_run 18 = .ok (.aload_n 0, 1) := by decide +kernel
theorem dX3_run_19 : decode cX3_run 19 = .ok (.iload_n 3, 1) := by decide +kernel
theorem dX3_run_20 : decode cX3_run 20 = .ok (.invokevirtual 76, 3) := by decide +kernel
theorem dX3_run_23 : decode cX3_run 23 = .ok (.aload_n 0, 1) := by decide +kernel
theorem dX3_run_24 : decode cX3_run 24 = .ok (.iload_n 3, 1) := by decide +kernel
theorem dX3_run_25 : decode cX3_run 25 = .ok (.invokevirtual 80, 3) := by decide +kernel
theorem dX3_run_28 : decode cX3_run 28 = .ok (.aload_n 0, 1) := by decide +kernel
theorem dX3_run_29 : decode cX3_run 29 = .ok (.iload_n 3, 1) := by decide +kernel
theorem dX3_run_30 : decode cX3_run 30 = .ok (.invokevirtual 83, 3) := by decide +kernel
theorem dX3_run_33 : decode cX3_run 33 = .ok (.aload_n 0, 1) := by decide +kernel
theorem dX3_run_34 : decode cX3_run 34 = .ok (.iload_n 3, 1) := by decide +kernel
theorem dX3_run_35 : decode cX3_run 35 = .ok (.invokevirtual 86, 3) := by decide +kernel
theorem dX3_run_38 : decode cX3_run 38 = .ok (.iinc 3 1, 3) := by decide +kernel
theorem dX3_run_41 : decode cX3_run 41 = .ok (.goto (-39), 3) := by decide +kernel
theorem dX3_run_44 : decode cX3_run 44 = .ok (.aload_n 0, 1) := by decide +kernel
theorem dX3_run_45 : decode cX3_run 45 = .ok (.getfield 9, 3) := by decide +kernel
theorem dX3_run_48 : decode cX3_run 48 = .ok (.iload_n 2, 1) := by decide +kernel
theorem dX3_run_49 : decode cX3_run 49 = .ok (.iaload, 1) := by decide +kernel
theorem dX3_run_50 : decode cX3_run 50 = .ok (.invokestatic 89, 3) := by decide +kernel
theorem dX3_run_53 : decode cX3_run 53 = .ok (.ireturn, 1) := by decide +kernel
theorem dX3_begin_0 : decode cX3_begin 0 = .ok (.iconst 0, 1) := by decide +kernel
theorem dX3_begin_1 : decode cX3_begin 1 = .ok (.istore_n 1, 1) := by decide +kernel
theorem dX3_begin_2 : decode cX3_begin 2 = .ok (.iload_n 1, 1) := by decide +kernel
theorem dX3_begin_3 : decode cX3_begin 3 = .ok (.aload_n 0, 1) := by decide +kernel
theorem dX3_begin_4 : decode cX3_begin 4 = .ok (.getfield 27, 3) := by decide +kernel
theorem dX3_begin_7 : decode cX3_begin 7 = .ok (.getfield 95, 3) := by decide +kernel
theorem dX3_begin_10 : decode cX3_begin 10 = .ok (.if_icmp .ge 42, 3) := by decide +kernel
theorem dX3_begin_13 : decode cX3_begin 13 = .ok (.aload_n 0, 1) := by decide +kernel
theorem dX3_begin_14 : decode cX3_begin 14 = .ok (.iload_n 1, 1) := by decide +kernel
theorem dX3_begin_15 : decode cX3_begin 15 = .ok (.invokevirtual 98, 3) := by decide +kernel
theorem dX3_begin_18 : decode cX3_begin 18 = .ok (.aload_n 0, 1) := by decide +kernel
theorem dX3_begin_19 : decode cX3_begin 19 = .ok (.getfield 60, 3) := by decide +kernel
theorem dX3_begin_22 : decode cX3_begin 22 = .ok (.ifCond .eq 24, 3) := by decide +kernel
theorem dX3_begin_25 : decode cX3_begin 25 = .ok (.aload_n 0, 1) := by decide +kernel
theorem dX3_begin_26 : decode cX3_begin 26 = .ok (.getfield 67, 3) := by decide +kernel
theorem dX3_begin_29 : decode cX3_begin 29 = .ok (.iload_n 1, 1) := by decide +kernel
theorem dX3_begin_30 : decode cX3_begin 30 = .ok (.ishr, 1) := by decide +kernel
theorem dX3_begin_31 : decode cX3_begin 31 = .ok (.iconst 1, 1) := by decide +kernel
theorem dX3_begin_32 : decode cX3_begin 32 = .ok (.iand, 1) := by decide +kernel
theorem dX3_begin_33 : decode cX3_begin 33 = .ok (.ifCond .eq 13, 3) := by decide +kernel
theorem dX3_begin_36 : decode cX3_begin 36 = .ok (.aload_n 0, 1) := by decide +kernel
theorem dX3_begin_37 : decode cX3_begin 37 = .ok (.iload_n 1, 1) := by decide +kernel
theorem dX3_begin_38 : decode cX3_begin 38 = .ok (.iconst 0, 1) := by decide +kernel
theorem dX3_begin_39 : decode cX3_begin 39 = .ok (.aload_n 0, 1) := by decide +kernel
theorem dX3_begin_40 : decode cX3_begin 40 = .ok (.getfield 70, 3) := by decide +kernel
theorem dX3_begin_43 : decode cX3_begin 43 = .ok (.invokevirtual 101, 3) := by decide +kernel
theorem dX3_begin_46 : decode cX3_begin 46 = .ok (.iinc 1 1, 3) := by decide +kernel
theorem dX3_begin_49 : decode cX3_begin 49 = .ok (.goto (-47), 3) := by decide +kernel
theorem dX3_begin_52 : decode cX3_begin 52 = .ok (.iconst 0, 1) := by decide +kernel
theorem dX3_begin_53 : decode cX3_begin 53 = .ok (.istore_n 1, 1) := by decide +kernel
theorem dX3_begin_54 : decode cX3_begin 54 = .ok (.iload_n 1, 1) := by decide +kernel
theorem dX3_begin_55 : decode cX3_begin 55 = .ok (.aload_n 0, 1) := by decide +kernel
theorem dX3_begin_56 : decode cX3_begin 56 = .ok (.getfield 27, 3) := by decide +kernel
theorem dX3_begin_59 : decode cX3_begin 59 = .ok (.getfield 105, 3) := by decide +kernel
theorem dX3_begin_62 : decode cX3_begin 62 = .ok (.if_icmp .ge 39, 3) := by decide +kernel
theorem dX3_begin_65 : decode cX3_begin 65 = .ok (.aload_n 0, 1) := by decide +kernel
theorem dX3_begin_66 : decode cX3_begin 66 = .ok (.getfield 60, 3) := by decide +kernel
theorem dX3_begin_69 : decode cX3_begin 69 = .ok (.ifCond .ne 32, 3) := by decide +kernel
theorem dX3_begin_72 : decode cX3_begin 72 = .ok (.aload_n 0, 1) := by decide +kernel
theorem dX3_begin_73 : decode cX3_begin 73 = .ok (.aload_n 0, 1) := by decide +kernel
theorem dX3_begin_74 : decode cX3_begin 74 = .ok (.getfield 27, 3) := by decide +kernel
theorem dX3_begin_77 : decode cX3_begin 77 = .ok (.getfield 108, 3) := by decide +kernel
theorem dX3_begin_80 : decode cX3_begin 80 = .ok (.iload_n 1, 1) := by decide +kernel
theorem dX3_begin_81 : decode cX3_begin 81 = .ok (.iaload, 1) := by decide +kernel
theorem dX3_begin_82 : decode cX3_begin 82 = .ok (.iconst 0, 1) := by decide +kernel
theorem dX3_begin_83 : decode cX3_begin 83 = .ok (.aload_n 0, 1) := by decide +kernel
theorem dX3_begin_84 : decode cX3_begin 84 = .ok (.getfield 27, 3) := by decide +kernel
theorem dX3_begin_87 : decode cX3_begin 87 = .ok (.getfield 111, 3) := by decide +kernel
theorem dX3_begin_90 : decode cX3_begin 90 = .ok (.iload_n 1, 1) := by decide +kernel
theorem dX3_begin_91 : decode cX3_begin 91 = .ok (.iaload, 1) := by decide +kernel
theorem dX3_begin_92 : decode cX3_begin 92 = .ok (.invokevirtual 101, 3) := by decide +kernel
theorem dX3_begin_95 : decode cX3_begin 95 = .ok (.iinc 1 1, 3) := by decide +kernel
theorem dX3_begin_98 : decode cX3_begin 98 = .ok (.goto (-44), 3) := by decide +kernel
theorem dX3_begin_101 : decode cX3_begin 101 = .ok (.return_, 1) := by decide +kernel
theorem dX3_carry_0 : decode cX3_carry 0 = .ok (.iload_n 1, 1) := by decide +kernel
theorem dX3_carry_1 : decode cX3_carry 1 = .ok (.bipush 7, 2) := by decide +kernel
theorem dX3_carry_3 : decode cX3_carry 3 = .ok (.imul, 1) := by decide +kernel
theorem dX3_carry_4 : decode cX3_carry 4 = .ok (.istore_n 2, 1) := by decide +kernel
theorem dX3_carry_5 : decode cX3_carry 5 = .ok (.iload_n 2, 1) := by decide +kernel
theorem dX3_carry_6 : decode cX3_carry 6 = .ok (.bipush 7, 2) := by decide +kernel
theorem dX3_carry_8 : decode cX3_carry 8 = .ok (.isub, 1) := by decide +kernel
theorem dX3_carry_9 : decode cX3_carry 9 = .ok (.istore_n 3, 1) := by decide +kernel
theorem dX3_carry_10 : decode cX3_carry 10 = .ok (.aload_n 0, 1) := by decide +kernel
theorem dX3_carry_11 : decode cX3_carry 11 = .ok (.getfield 15, 3) := by decide +kernel
theorem dX3_carry_14 : decode cX3_carry 14 = .ok (.iload_n 3, 1) := by decide +kernel
theorem dX3_carry_15 : decode cX3_carry 15 = .ok (.aload_n 0, 1) := by decide +kernel
theorem dX3_carry_16 : decode cX3_carry 16 = .ok (.getfield 15, 3) := by decide +kernel
theorem dX3_carry_19 : decode cX3_carry 19 = .ok (.iload_n 2, 1) := by decide +kernel
theorem dX3_carry_20 : decode cX3_carry 20 = .ok (.bipush 7, 2) := by decide +kernel
theorem dX3_carry_22 : decode cX3_carry 22 = .ok (.invokestatic 114, 3) := by decide +kernel
theorem dX3_carry_25 : decode cX3_carry 25 = .ok (.aload_n 0, 1) := by decide +kernel
theorem dX3_carry_26 : decode cX3_carry 26 = .ok (.getfield 18, 3) := by decide +kernel
theorem dX3_carry_29 : decode cX3_carry 29 = .ok (.iload_n 3, 1) := by decide +kernel
theorem dX3_carry_30 : decode cX3_carry 30 = .ok (.aload_n 0, 1) := by decide +kernel
theorem dX3_carry_31 : decode cX3_carry 31 = .ok (.getfield 18, 3) := by decide +kernel
theorem dX3_carry_34 : decode cX3_carry 34 = .ok (.iload_n 2, 1) := by decide +kernel
theorem dX3_carry_35 : decode cX3_carry 35 = .ok (.bipush 7, 2) := by decide +kernel
theorem dX3_carry_37 : decode cX3_carry 37 = .ok (.invokestatic 114, 3) := by decide +kernel
theorem dX3_carry_40 : decode cX3_carry 40 = .ok (.aload_n 0, 1) := by decide +kernel
theorem dX3_carry_41 : decode cX3_carry 41 = .ok (.getfield 21, 3) := by decide +kernel
theorem dX3_carry_44 : decode cX3_carry 44 = .ok (.iload_n 3, 1) := by decide +kernel
theorem dX3_carry_45 : decode cX3_carry 45 = .ok (.aload_n 0, 1) := by decide +kernel
theorem dX3_carry_46 : decode cX3_carry 46 = .ok (.getfield 21, 3) := by decide +kernel
theorem dX3_carry_49 : decode cX3_carry 49 = .ok (.iload_n 2, 1) := by decide +kernel
theorem dX3_carry_50 : decode cX3_carry 50 = .ok (.bipush 7, 2) := by decide +kernel
theorem dX3_carry_52 : decode cX3_carry 52 = .ok (.invokestatic 114, 3) := by decide +kernel
theorem dX3_carry_55 : decode cX3_carry 55 = .ok (.aload_n 0, 1) := by decide +kernel
theorem dX3_carry_56 : decode cX3_carry 56 = .ok (.getfield 24, 3) := by decide +kernel
theorem dX3_carry_59 : decode cX3_carry 59 = .ok (.iload_n 3, 1) := by decide +kernel
theorem dX3_carry_60 : decode cX3_carry 60 = .ok (.aload_n 0, 1) := by decide +kernel
theorem dX3_carry_61 : decode cX3_carry 61 = .ok (.getfield 24, 3) := by decide +kernel
theorem dX3_carry_64 : decode cX3_carry 64 = .ok (.iload_n 2, 1) := by decide +kernel
theorem dX3_carry_65 : decode cX3_carry 65 = .ok (.bipush 7, 2) := by decide +kernel
theorem dX3_carry_67 : decode cX3_carry 67 = .ok (.invokestatic 114, 3) := by decide +kernel
theorem dX3_carry_70 : decode cX3_carry 70 = .ok (.aload_n 0, 1) := by decide +kernel
theorem dX3_carry_71 : decode cX3_carry 71 = .ok (.getfield 45, 3) := by decide +kernel
theorem dX3_carry_74 : decode cX3_carry 74 = .ok (.iload_n 1, 1) := by decide +kernel
theorem dX3_carry_75 : decode cX3_carry 75 = .ok (.iconst 1, 1) := by decide +kernel
theorem dX3_carry_76 : decode cX3_carry 76 = .ok (.isub, 1) := by decide +kernel
theorem dX3_carry_77 : decode cX3_carry 77 = .ok (.ishr, 1) := by decide +kernel
theorem dX3_carry_78 : decode cX3_carry 78 = .ok (.iconst 1, 1) := by decide +kernel
theorem dX3_carry_79 : decode cX3_carry 79 = .ok (.iand, 1) := by decide +kernel
theorem dX3_carry_80 : decode cX3_carry 80 = .ok (.ifCond .eq 7, 3) := by decide +kernel
theorem dX3_carry_83 : decode cX3_carry 83 = .ok (.iconst 1, 1) := by decide +kernel
theorem dX3_carry_84 : decode cX3_carry 84 = .ok (.goto 4, 3) := by decide +kernel
theorem dX3_carry_87 : decode cX3_carry 87 = .ok (.iconst 0, 1) := by decide +kernel
theorem dX3_carry_88 : decode cX3_carry 88 = .ok (.istore 4, 2) := by decide +kernel
theorem dX3_carry_90 : decode cX3_carry 90 = .ok (.iload 4, 2) := by decide +kernel
theorem dX3_carry_92 : decode cX3_carry 92 = .ok (.ifCond .eq 7, 3) := by decide +kernel
theorem dX3_carry_95 : decode cX3_carry 95 = .ok (.iconst 0, 1) := by decide +kernel
theorem dX3_carry_96 : decode cX3_carry 96 = .ok (.goto 18, 3) := by decide +kernel
theorem dX3_carry_99 : decode cX3_carry 99 = .ok (.aload_n 0, 1) := by decide +kernel
theorem dX3_carry_100 : decode cX3_carry 100 = .ok (.getfield 9, 3) := by decide +kernel
theorem dX3_carry_103 : decode cX3_carry 103 = .ok (.iload_n 1, 1) := by decide +kernel
theorem dX3_carry_104 : decode cX3_carry 104 = .ok (.iconst 1, 1) := by decide +kernel
theorem dX3_carry_105 : decode cX3_carry 105 = .ok (.isub, 1) := by decide +kernel
theorem dX3_carry_106 : decode cX3_carry 106 = .ok (.iaload, 1) := by decide +kernel
theorem dX3_carry_107 : decode cX3_carry 107 = .ok (.aload_n 0, 1) := by decide +kernel
theorem dX3_carry_108 : decode cX3_carry 108 = .ok (.getfield 42, 3) := by decide +kernel
theorem dX3_carry_111 : decode cX3_carry 111 = .ok (.iconst (-1), 1) := by decide +kernel
theorem dX3_carry_112 : decode cX3_carry 112 = .ok (.ixor, 1) := by decide +kernel
theorem dX3_carry_113 : decode cX3_carry 113 = .ok (.iand, 1) := by decide +kernel
theorem dX3_carry_114 : decode cX3_carry 114 = .ok (.istore 5, 2) := by decide +kernel
theorem dX3_carry_116 : decode cX3_carry 116 = .ok (.aload_n 0, 1) := by decide +kernel
theorem dX3_carry_117 : decode cX3_carry 117 = .ok (.getfield 9, 3) := by decide +kernel
theorem dX3_carry_120 : decode cX3_carry 120 = .ok (.iload_n 1, 1) := by decide +kernel
theorem dX3_carry_121 : decode cX3_carry 121 = .ok (.iconst 1, 1) := by decide +kernel
theorem dX3_carry_122 : decode cX3_carry 122 = .ok (.isub, 1) := by decide +kernel
theorem dX3_carry_123 : decode cX3_carry 123 = .ok (.iaload, 1) := by decide +kernel
theorem dX3_carry_124 : decode cX3_carry 124 = .ok (.aload_n 0, 1) := by decide +kernel
theorem dX3_carry_125 : decode cX3_carry 125 = .ok (.getfield 42, 3) := by decide +kernel
theorem dX3_carry_128 : decode cX3_carry 128 = .ok (.ior, 1) := by decide +kernel
theorem dX3_carry_129 : decode cX3_carry 129 = .ok (.iconst (-1), 1) := by decide +kernel
theorem dX3_carry_130 : decode cX3_carry 130 = .ok (.ixor, 1) := by decide +kernel
theorem dX3_carry_131 : decode cX3_carry 131 = .ok (.istore 6, 2) := by decide +kernel
theorem dX3_carry_133 : decode cX3_carry 133 = .ok (.iconst 0, 1) := by decide +kernel
theorem dX3_carry_134 : decode cX3_carry 134 = .ok (.istore 7, 2) := by decide +kernel
theorem dX3_carry_136 : decode cX3_carry 136 = .ok (.iload 7, 2) := by decide +kernel
theorem dX3_carry_138 : decode cX3_carry 138 = .ok (.aload_n 0, 1) := by decide +kernel
theorem dX3_carry_139 : decode cX3_carry 139 = .ok (.getfield 27, 3) := by decide +kernel
theorem dX3_carry_142 : decode cX3_carry 142 = .ok (.getfield 95, 3) := by decide +kernel
theorem dX3_carry_145 : decode cX3_carry 145 = .ok (.if_icmp .ge 143, 3) := by decide +kernel
theorem dX3_carry_148 : decode cX3_carry 148 = .ok (.iload 6, 2) := by decide +kernel
theorem dX3_carry_150 : decode cX3_carry 150 = .ok (.iload 7, 2) := by decide +kernel
theorem dX3_carry_152 : decode cX3_carry 152 = .ok (.ishr, 1) := by decide +kernel
theorem dX3_carry_153 : decode cX3_carry 153 = .ok (.iconst 1, 1) := by decide +kernel
theorem dX3_carry_154 : decode cX3_carry 154 = .ok (.iand, 1) := by decide +kernel
theorem dX3_carry_155 : decode cX3_carry 155 = .ok (.ifCond .ne 7, 3) := by decide +kernel
theorem dX3_carry_158 : decode cX3_carry 158 = .ok (.iconst 0, 1) := by decide +kernel
theorem dX3_carry_159 : decode cX3_carry 159 = .ok (.goto 16, 3) := by decide +kernel
theorem dX3_carry_162 : decode cX3_carry 162 = .ok (.aload_n 0, 1) := by decide +kernel
theorem dX3_carry_163 : decode cX3_carry 163 = .ok (.getfield 27, 3) := by decide +kernel
theorem dX3_carry_166 : decode cX3_carry 166 = .ok (.getfield 120, 3) := by decide +kernel
theorem dX3_carry_169 : decode cX3_carry 169 = .ok (.iload 7, 2) := by decide +kernel
theorem dX3_carry_171 : decode cX3_carry 171 = .ok (.iaload, 1) := by decide +kernel
theorem dX3_carry_172 : decode cX3_carry 172 = .ok (.iload 5, 2) := by decide +kernel
theorem dX3_carry_174 : decode cX3_carry 174 = .ok (.iand, 1) := by decide +kernel
theorem dX3_carry_175 : decode cX3_carry 175 = .ok (.istore 8, 2) := by decide +kernel
theorem dX3_carry_177 : decode cX3_carry 177 = .ok (.iload 8, 2) := by decide +kernel
theorem dX3_carry_179 : decode cX3_carry 179 = .ok (.ifCond .ne 7, 3) := by decide +kernel
theorem dX3_carry_182 : decode cX3_carry 182 = .ok (.iconst (-1), 1) := by decide +kernel
theorem dX3_carry_183 : decode cX3_carry 183 = .ok (.goto 10, 3) := by decide +kernel
theorem dX3_carry_186 : decode cX3_carry 186 = .ok (.aload_n 0, 1) := by decide +kernel
theorem dX3_carry_187 : decode cX3_carry 187 = .ok (.iload 8, 2) := by decide +kernel
theorem dX3_carry_189 : decode cX3_carry 189 = .ok (.iload_n 3, 1) := by decide +kernel
theorem dX3_carry_190 : decode cX3_carry 190 = .ok (.invokevirtual 123, 3) := by decide +kernel
theorem dX3_carry_193 : decode cX3_carry 193 = .ok (.istore 9, 2) := by decide +kernel
theorem dX3_carry_195 : decode cX3_carry 195 = .ok (.iload 9, 2) := by decide +kernel
theorem dX3_carry_197 : decode cX3_carry 197 = .ok (.iconst (-1), 1) := by decide +kernel
theorem dX3_carry_198 : decode cX3_carry 198 = .ok (.if_icmp .ne 7, 3) := by decide +kernel
theorem dX3_carry_201 : decode cX3_carry 201 = .ok (.iconst 0, 1) := by decide +kernel
theorem dX3_carry_202 : decode cX3_carry 202 = .ok (.goto 21, 3) := by decide +kernel
theorem dX3_carry_205 : decode cX3_carry 205 = .ok (.aload_n 0, 1) := by decide +kernel
theorem dX3_carry_206 : decode cX3_carry 206 = .ok (.getfield 27, 3) := by decide +kernel
theorem dX3_carry_209 : decode cX3_carry 209 = .ok (.iload 7, 2) := by decide +kernel
theorem dX3_carry_211 : decode cX3_carry 211 = .ok (.aload_n 0, 1) := by decide +kernel
theorem dX3_carry_212 : decode cX3_carry 212 = .ok (.getfield 15, 3) := by decide +kernel
theorem dX3_carry_215 : decode cX3_carry 215 = .ok (.iload_n 3, 1) := by decide +kernel
theorem dX3_carry_216 : decode cX3_carry 216 = .ok (.iload 9, 2) := by decide +kernel
theorem dX3_carry_218 : decode cX3_carry 218 = .ok (.iadd, 1) := by decide +kernel
theorem dX3_carry_219 : decode cX3_carry 219 = .ok (.iaload, 1) := by decide +kernel
theorem dX3_carry_220 : decode cX3_carry 220 = .ok (.invokevirtual 129, 3) := by decide +kernel
theorem dX3_carry_223 : decode cX3_carry 223 = .ok (.istore 10, 2) := by decide +kernel
theorem dX3_carry_225 : decode cX3_carry 225 = .ok (.iload 10, 2) := by decide +kernel
theorem dX3_carry_227 : decode cX3_carry 227 = .ok (.ifCond .eq 55, 3) := by decide +kernel
theorem dX3_carry_230 : decode cX3_carry 230 = .ok (.aload_n 0, 1) := by decide +kernel
theorem dX3_carry_231 : decode cX3_carry 231 = .ok (.getfield 15, 3) := by decide +kernel
theorem dX3_carry_234 : decode cX3_carry 234 = .ok (.iload_n 2, 1) := by decide +kernel
theorem dX3_carry_235 : decode cX3_carry 235 = .ok (.iload 7, 2) := by decide +kernel
theorem dX3_carry_237 : decode cX3_carry 237 = .ok (.iadd, 1) := by decide +kernel
theorem dX3_carry_238 : decode cX3_carry 238 = .ok (.iload 10, 2) := by decide +kernel
theorem dX3_carry_240 : decode cX3_carry 240 = .ok (.iastore, 1) := by decide +kernel
theorem dX3_carry_241 : decode cX3_carry 241 = .ok (.aload_n 0, 1) := by decide +kernel
theorem dX3_carry_242 : decode cX3_carry 242 = .ok (.getfield 18, 3) := by decide +kernel
theorem dX3_carry_245 : decode cX3_carry 245 = .ok (.iload_n 2, 1) := by decide +kernel
theorem dX3_carry_246 : decode cX3_carry 246 = .ok (.iload 7, 2) := by decide +kernel
theorem dX3_carry_248 : decode cX3_carry 248 = .ok (.iadd, 1) := by decide +kernel
theorem dX3_carry_249 : decode cX3_carry 249 = .ok (.iload 9, 2) := by decide +kernel
theorem dX3_carry_251 : decode cX3_carry 251 = .ok (.iastore, 1) := by decide +kernel
theorem dX3_carry_252 : decode cX3_carry 252 = .ok (.aload_n 0, 1) := by decide +kernel
theorem dX3_carry_253 : decode cX3_carry 253 = .ok (.getfield 21, 3) := by decide +kernel
theorem dX3_carry_256 : decode cX3_carry 256 = .ok (.iload_n 2, 1) := by decide +kernel
theorem dX3_carry_257 : decode cX3_carry 257 = .ok (.iload 7, 2) := by decide +kernel
theorem dX3_carry_259 : decode cX3_carry 259 = .ok (.iadd, 1) := by decide +kernel
theorem dX3_carry_260 : decode cX3_carry 260 = .ok (.iload_n 1, 1) := by decide +kernel
theorem dX3_carry_261 : decode cX3_carry 261 = .ok (.iastore, 1) := by decide +kernel
theorem dX3_carry_262 : decode cX3_carry 262 = .ok (.aload_n 0, 1) := by decide +kernel
theorem dX3_carry_263 : decode cX3_carry 263 = .ok (.getfield 24, 3) := by decide +kernel
theorem dX3_carry_266 : decode cX3_carry 266 = .ok (.iload_n 2, 1) := by decide +kernel
theorem dX3_carry_267 : decode cX3_carry 267 = .ok (.iload 7, 2) := by decide +kernel
theorem dX3_carry_269 : decode cX3_carry 269 = .ok (.iadd, 1) := by decide +kernel
theorem dX3_carry_270 : decode cX3_carry 270 = .ok (.aload_n 0, 1) := by decide +kernel
theorem dX3_carry_271 : decode cX3_carry 271 = .ok (.getfield 24, 3) := by decide +kernel
theorem dX3_carry_274 : decode cX3_carry 274 = .ok (.iload_n 3, 1) := by decide +kernel
theorem dX3_carry_275 : decode cX3_carry 275 = .ok (.iload 9, 2) := by decide +kernel
theorem dX3_carry_277 : decode cX3_carry 277 = .ok (.iadd, 1) := by decide +kernel
theorem dX3_carry_278 : decode cX3_carry 278 = .ok (.iaload, 1) := by decide +kernel
theorem dX3_carry_279 : decode cX3_carry 279 = .ok (.iconst 1, 1) := by decide +kernel
theorem dX3_carry_280 : decode cX3_carry 280 = .ok (.iadd, 1) := by decide +kernel
theorem dX3_carry_281 : decode cX3_carry 281 = .ok (.iastore, 1) := by decide +kernel
theorem dX3_carry_282 : decode cX3_carry 282 = .ok (.iinc 7 1, 3) := by decide +kernel
theorem dX3_carry_285 : decode cX3_carry 285 = .ok (.goto (-149), 3) := by decide +kernel
theorem dX3_carry_288 : decode cX3_carry 288 = .ok (.return_, 1) := by decide +kernel
theorem dX3_speaker_0 : decode cX3_speaker 0 = .ok (.iconst (-1), 1) := by decide +kernel
theorem dX3_speaker_1 : decode cX3_speaker 1 = .ok (.istore_n 3, 1) := by decide +kernel
theorem dX3_speaker_2 : decode cX3_speaker 2 = .ok (.iconst (-1), 1) := by decide +kernel
theorem dX3_speaker_3 : decode cX3_speaker 3 = .ok (.istore 4, 2) := by decide +kernel
theorem dX3_speaker_5 : decode cX3_speaker 5 = .ok (.iconst 0, 1) := by decide +kernel
theorem dX3_speaker_6 : decode cX3_speaker 6 = .ok (.istore 5, 2) := by decide +kernel
theorem dX3_speaker_8 : decode cX3_speaker 8 = .ok (.iload 5, 2) := by decide +kernel
theorem dX3_speaker_10 : decode cX3_speaker 10 = .ok (.aload_n 0, 1) := by decide +kernel
theorem dX3_speaker_11 : decode cX3_speaker 11 = .ok (.getfield 27, 3) := by decide +kernel
theorem dX3_speaker_14 : decode cX3_speaker 14 = .ok (.getfield 95, 3) := by decide +kernel
theorem dX3_speaker_17 : decode cX3_speaker 17 = .ok (.if_icmp .ge 105, 3) := by decide +kernel
theorem dX3_speaker_20 : decode cX3_speaker 20 = .ok (.iload_n 1, 1) := by decide +kernel
theorem dX3_speaker_21 : decode cX3_speaker 21 = .ok (.iload 5, 2) := by decide +kernel
theorem dX3_speaker_23 : decode cX3_speaker 23 = .ok (.ishr, 1) := by decide +kernel
theorem dX3_speaker_24 : decode cX3_speaker 24 = .ok (.iconst 1, 1) := by decide +kernel
theorem dX3_speaker_25 : decode cX3_speaker 25 = .ok (.iand, 1) := by decide +kernel
theorem dX3_speaker_26 : decode cX3_speaker 26 = .ok (.ifCond .eq 90, 3) := by decide +kernel
theorem dX3_speaker_29 : decode cX3_speaker 29 = .ok (.iconst 0, 1) := by decide +kernel
theorem dX3_speaker_30 : decode cX3_speaker 30 = .ok (.istore 6, 2) := by decide +kernel
theorem dX3_speaker_32 : decode cX3_speaker 32 = .ok (.aload_n 0, 1) := by decide +kernel
theorem dX3_speaker_33 : decode cX3_speaker 33 = .ok (.getfield 41, 3) := by decide +kernel
theorem dX3_speaker_36 : decode cX3_speaker 36 = .ok (.tableswitch 66 1 3 #[28, 35, 52], 28) := by decide +kernel
theorem dX3_speaker_64 : decode cX3_speaker 64 = .ok (.iload 5, 2) := by decide +kernel
theorem dX3_speaker_66 : decode cX3_speaker 66 = .ok (.istore 6, 2) := by decide +kernel
theorem dX3_speaker_68 : decode cX3_speaker 68 = .ok (.goto 34, 3) := by decide +kernel
theorem dX3_speaker_71 : decode cX3_speaker 71 = .ok (.aload_n 0, 1) := by decide +kernel
theorem dX3_speaker_72 : decode cX3_speaker 72 = .ok (.getfield 15, 3) := by decide +kernel
theorem dX3_speaker_75 : decode cX3_speaker 75 = .ok (.iload_n 2, 1) := by decide +kernel
theorem dX3_speaker_76 : decode cX3_speaker 76 = .ok (.iload 5, 2) := by decide +kernel
theorem dX3_speaker_78 : decode cX3_speaker 78 = .ok (.iadd, 1) := by decide +kernel
theorem dX3_speaker_79 : decode cX3_speaker 79 = .ok (.iaload, 1) := by decide +kernel
theorem dX3_speaker_80 : decode cX3_speaker 80 = .ok (.invokestatic 132, 3) := by decide +kernel
theorem dX3_speaker_83 : decode cX3_speaker 83 = .ok (.istore 6, 2) := by decide +kernel
theorem dX3_speaker_85 : decode cX3_speaker 85 = .ok (.goto 17, 3) := by decide +kernel
theorem dX3_speaker_88 : decode cX3_speaker 88 = .ok (.aload_n 0, 1) := by decide +kernel
theorem dX3_speaker_89 : decode cX3_speaker 89 = .ok (.getfield 21, 3) := by decide +kernel
theorem dX3_speaker_92 : decode cX3_speaker 92 = .ok (.iload_n 2, 1) := by decide +kernel
theorem dX3_speaker_93 : decode cX3_speaker 93 = .ok (.iload 5, 2) := by decide +kernel
theorem dX3_speaker_95 : decode cX3_speaker 95 = .ok (.iadd, 1) := by decide +kernel
theorem dX3_speaker_96 : decode cX3_speaker 96 = .ok (.iaload, 1) := by decide +kernel
theorem dX3_speaker_97 : decode cX3_speaker 97 = .ok (.istore 6, 2) := by decide +kernel
theorem dX3_speaker_99 : decode cX3_speaker 99 = .ok (.goto 3, 3) := by decide +kernel
theorem dX3_speaker_102 : decode cX3_speaker 102 = .ok (.iload 6, 2) := by decide +kernel
theorem dX3_speaker_104 : decode cX3_speaker 104 = .ok (.iload 4, 2) := by decide +kernel
theorem dX3_speaker_106 : decode cX3_speaker 106 = .ok (.if_icmp .le 10, 3) := by decide +kernel
theorem dX3_speaker_109 : decode cX3_speaker 109 = .ok (.iload 6, 2) := by decide +kernel
theorem dX3_speaker_111 : decode cX3_speaker 111 = .ok (.istore 4, 2) := by decide +kernel
theorem dX3_speaker_113 : decode cX3_speaker 113 = .ok (.iload 5, 2) := by decide +kernel
theorem dX3_speaker_115 : decode cX3_speaker 115 = .ok (.istore_n 3, 1) := by decide +kernel
theorem dX3_speaker_116 : decode cX3_speaker 116 = .ok (.iinc 5 1, 3) := by decide +kernel
theorem dX3_speaker_119 : decode cX3_speaker 119 = .ok (.goto (-111), 3) := by decide +kernel
theorem dX3_speaker_122 : decode cX3_speaker 122 = .ok (.iload_n 3, 1) := by decide +kernel
theorem dX3_speaker_123 : decode cX3_speaker 123 = .ok (.ireturn, 1) := by decide +kernel
theorem dX3_lightByActs_0 : decode cX3_lightByActs 0 = .ok (.iconst 0, 1) := by decide +kernel
theorem dX3_lightByActs_1 : decode cX3_lightByActs 1 = .ok (.istore_n 2, 1) := by decide +kernel
theorem dX3_lightByActs_2 : decode cX3_lightByActs 2 = .ok (.iload_n 2, 1) := by decide +kernel
theorem dX3_lightByActs_3 : decode cX3_lightByActs 3 = .ok (.aload_n 0, 1) := by decide +kernel
theorem dX3_lightByActs_4 : decode cX3_lightByActs 4 = .ok (.getfield 31, 3) := by decide +kernel
theorem dX3_lightByActs_7 : decode cX3_lightByActs 7 = .ok (.getfield 135, 3) := by decide +kernel
theorem dX3_lightByActs_10 : decode cX3_lightByActs 10 = .ok (.if_icmp .ge 64, 3) := by decide +kernel
theorem dX3_lightByActs_13 : decode cX3_lightByActs 13 = .ok (.aload_n 0, 1) := by decide +kernel
theorem dX3_lightByActs_14 : decode cX3_lightByActs 14 = .ok (.getfield 60, 3) := by decide +kernel
theorem dX3_lightByActs_17 : decode cX3_lightByActs 17 = .ok (.ifCond .ne 57, 3) := by decide +kernel
theorem dX3_lightByActs_20 : decode cX3_lightByActs 20 = .ok (.aload_n 0, 1) := by decide +kernel
theorem dX3_lightByActs_21 : decode cX3_lightByActs 21 = .ok (.getfield 31, 3) := by decide +kernel
theorem dX3_lightByActs_24 : decode cX3_lightByActs 24 = .ok (.getfield 140, 3) := by decide +kernel
theorem dX3_lightByActs_27 : decode cX3_lightByActs 27 = .ok (.iload_n 2, 1) := by decide +kernel
theorem dX3_lightByActs_28 : decode cX3_lightByActs 28 = .ok (.iaload, 1) := by decide +kernel
theorem dX3_lightByActs_29 : decode cX3_lightByActs 29 = .ok (.iload_n 1, 1) := by decide +kernel
theorem dX3_lightByActs_30 : decode cX3_lightByActs 30 = .ok (.if_icmp .ne 38, 3) := by decide +kernel
theorem dX3_lightByActs_33 : decode cX3_lightByActs 33 = .ok (.aload_n 0, 1) := by decide +kernel
theorem dX3_lightByActs_34 : decode cX3_lightByActs 34 = .ok (.getfield 31, 3) := by decide +kernel
theorem dX3_lightByActs_37 : decode cX3_lightByActs 37 = .ok (.getfield 143, 3) := by decide +kernel
theorem dX3_lightByActs_40 : decode cX3_lightByActs 40 = .ok (.iload_n 2, 1) := by decide +kernel
theorem dX3_lightByActs_41 : decode cX3_lightByActs 41 = .ok (.iaload, 1) := by decide +kernel
theorem dX3_lightByActs_42 : decode cX3_lightByActs 42 = .ok (.ifCond .eq 26, 3) := by decide +kernel
theorem dX3_lightByActs_45 : decode cX3_lightByActs 45 = .ok (.aload_n 0, 1) := by decide +kernel
theorem dX3_lightByActs_46 : decode cX3_lightByActs 46 = .ok (.aload_n 0, 1) := by decide +kernel
theorem dX3_lightByActs_47 : decode cX3_lightByActs 47 = .ok (.getfield 31, 3) := by decide +kernel
theorem dX3_lightByActs_50 : decode cX3_lightByActs 50 = .ok (.getfield 146, 3) := by decide +kernel
theorem dX3_lightByActs_53 : decode cX3_lightByActs 53 = .ok (.iload_n 2, 1) := by decide +kernel
theorem dX3_lightByActs_54 : decode cX3_lightByActs 54 = .ok (.iaload, 1) := by decide +kernel
theorem dX3_lightByActs_55 : decode cX3_lightByActs 55 = .ok (.iload_n 1, 1) := by decide +kernel
theorem dX3_lightByActs_56 : decode cX3_lightByActs 56 = .ok (.aload_n 0, 1) := by decide +kernel
theorem dX3_lightByActs_57 : decode cX3_lightByActs 57 = .ok (.getfield 31, 3) := by decide +kernel
theorem dX3_lightByActs_60 : decode cX3_lightByActs 60 = .ok (.getfield 143, 3) := by decide +kernel
theorem dX3_lightByActs_63 : decode cX3_lightByActs 63 = .ok (.iload_n 2, 1) := by decide +kernel
theorem dX3_lightByActs_64 : decode cX3_lightByActs 64 = .ok (.iaload, 1) := by decide +kernel
theorem dX3_lightByActs_65 : decode cX3_lightByActs 65 = .ok (.invokevirtual 101, 3) := by decide +kernel
theorem dX3_lightByActs_68 : decode cX3_lightByActs 68 = .ok (.iinc 2 1, 3) := by decide +kernel
theorem dX3_lightByActs_71 : decode cX3_lightByActs 71 = .ok (.goto (-69), 3) := by decide +kernel
theorem dX3_lightByActs_74 : decode cX3_lightByActs 74 = .ok (.iload_n 1, 1) := by decide +kernel
theorem dX3_lightByActs_75 : decode cX3_lightByActs 75 = .ok (.ifCond .ne 21, 3) := by decide +kernel
theorem dX3_lightByActs_78 : decode cX3_lightByActs 78 = .ok (.aload_n 0, 1) := by decide +kernel
theorem dX3_lightByActs_79 : decode cX3_lightByActs 79 = .ok (.getfield 48, 3) := by decide +kernel
theorem dX3_lightByActs_82 : decode cX3_lightByActs 82 = .ok (.iconst (-1), 1) := by decide +kernel
theorem dX3_lightByActs_83 : decode cX3_lightByActs 83 = .ok (.if_icmp .eq 13, 3) := by decide +kernel
theorem dX3_lightByActs_86 : decode cX3_lightByActs 86 = .ok (.aload_n 0, 1) := by decide +kernel
theorem dX3_lightByActs_87 : decode cX3_lightByActs 87 = .ok (.aload_n 0, 1) := by decide +kernel
theorem dX3_lightByActs_88 : decode cX3_lightByActs 88 = .ok (.getfield 48, 3) := by decide +kernel
theorem dX3_lightByActs_91 : decode cX3_lightByActs 91 = .ok (.iconst 0, 1) := by decide +kernel
theorem dX3_lightByActs_92 : decode cX3_lightByActs 92 = .ok (.iconst 1, 1) := by decide +kernel
theorem dX3_lightByActs_93 : decode cX3_lightByActs 93 = .ok (.invokevirtual 101, 3) := by decide +kernel
theorem dX3_lightByActs_96 : decode cX3_lightByActs 96 = .ok (.return_, 1) := by decide +kernel
theorem dX3_putOut_0 : decode cX3_putOut 0 = .ok (.iconst 0, 1) := by decide +kernel
theorem dX3_putOut_1 : decode cX3_putOut 1 = .ok (.istore_n 2, 1) := by decide +kernel
theorem dX3_putOut_2 : decode cX3_putOut 2 = .ok (.iload_n 2, 1) := by decide +kernel
theorem dX3_putOut_3 : decode cX3_putOut 3 = .ok (.aload_n 0, 1) := by decide +kernel
theorem dX3_putOut_4 : decode cX3_putOut 4 = .ok (.getfield 27, 3) := by decide +kernel
theorem dX3_putOut_7 : decode cX3_putOut 7 = .ok (.getfield 149, 3) := by decide +kernel
theorem dX3_putOut_10 : decode cX3_putOut 10 = .ok (.if_icmp .ge 48, 3) := by decide +kernel
theorem dX3_putOut_13 : decode cX3_putOut 13 = .ok (.aload_n 0, 1) := by decide +kernel
theorem dX3_putOut_14 : decode cX3_putOut 14 = .ok (.getfield 27, 3) := by decide +kernel
theorem dX3_putOut_17 : decode cX3_putOut 17 = .ok (.getfield 152, 3) := by decide +kernel
theorem dX3_putOut_20 : decode cX3_putOut 20 = .ok (.iload_n 2, 1) := by decide +kernel
theorem dX3_putOut_21 : decode cX3_putOut 21 = .ok (.iaload, 1) := by decide +kernel
theorem dX3_putOut_22 : decode cX3_putOut 22 = .ok (.iload_n 1, 1) := by decide +kernel
theorem dX3_putOut_23 : decode cX3_putOut 23 = .ok (.if_icmp .ne 29, 3) := by decide +kernel
theorem dX3_putOut_26 : decode cX3_putOut 26 = .ok (.iload_n 2, 1) := by decide +kernel
theorem dX3_putOut_27 : decode cX3_putOut 27 = .ok (.aload_n 0, 1) := by decide +kernel
theorem dX3_putOut_28 : decode cX3_putOut 28 = .ok (.getfield 57, 3) := by decide +kernel
theorem dX3_putOut_31 : decode cX3_putOut 31 = .ok (.if_icmp .eq 21, 3) := by decide +kernel
theorem dX3_putOut_34 : decode cX3_putOut 34 = .ok (.aload_n 0, 1) := by decide +kernel
theorem dX3_putOut_35 : decode cX3_putOut 35 = .ok (.iload_n 1, 1) := by decide +kernel
theorem dX3_putOut_36 : decode cX3_putOut 36 = .ok (.bipush 7, 2) := by decide +kernel
theorem dX3_putOut_38 : decode cX3_putOut 38 = .ok (.imul, 1) := by decide +kernel
theorem dX3_putOut_39 : decode cX3_putOut 39 = .ok (.aload_n 0, 1) := by decide +kernel
theorem dX3_putOut_40 : decode cX3_putOut 40 = .ok (.getfield 27, 3) := by decide +kernel
theorem dX3_putOut_43 : decode cX3_putOut 43 = .ok (.getfield 155, 3) := by decide +kernel
theorem dX3_putOut_46 : decode cX3_putOut 46 = .ok (.iload_n 2, 1) := by decide +kernel
theorem dX3_putOut_47 : decode cX3_putOut 47 = .ok (.iaload, 1) := by decide +kernel
theorem dX3_putOut_48 : decode cX3_putOut 48 = .ok (.iadd, 1) := by decide +kernel
theorem dX3_putOut_49 : decode cX3_putOut 49 = .ok (.invokevirtual 98, 3) := by decide +kernel
theorem dX3_putOut_52 : decode cX3_putOut 52 = .ok (.iinc 2 1, 3) := by decide +kernel
theorem dX3_putOut_55 : decode cX3_putOut 55 = .ok (.goto (-53), 3) := by decide +kernel
theorem dX3_putOut_58 : decode cX3_putOut 58 = .ok (.iconst 0, 1) := by decide +kernel
theorem dX3_putOut_59 : decode cX3_putOut 59 = .ok (.istore_n 2, 1) := by decide +kernel
theorem dX3_putOut_60 : decode cX3_putOut 60 = .ok (.iload_n 2, 1) := by decide +kernel
theorem dX3_putOut_61 : decode cX3_putOut 61 = .ok (.aload_n 0, 1) := by decide +kernel
theorem dX3_putOut_62 : decode cX3_putOut 62 = .ok (.getfield 31, 3) := by decide +kernel
theorem dX3_putOut_65 : decode cX3_putOut 65 = .ok (.getfield 135, 3) := by decide +kernel
theorem dX3_putOut_68 : decode cX3_putOut 68 = .ok (.if_icmp .ge 52, 3) := by decide +kernel
theorem dX3_putOut_71 : decode cX3_putOut 71 = .ok (.aload_n 0, 1) := by decide +kernel
theorem dX3_putOut_72 : decode cX3_putOut 72 = .ok (.getfield 31, 3) := by decide +kernel
theorem dX3_putOut_75 : decode cX3_putOut 75 = .ok (.getfield 140, 3) := by decide +kernel
theorem dX3_putOut_78 : decode cX3_putOut 78 = .ok (.iload_n 2, 1) := by decide +kernel
theorem dX3_putOut_79 : decode cX3_putOut 79 = .ok (.iaload, 1) := by decide +kernel
theorem dX3_putOut_80 : decode cX3_putOut 80 = .ok (.iload_n 1, 1) := by decide +kernel
theorem dX3_putOut_81 : decode cX3_putOut 81 = .ok (.if_icmp .ne 33, 3) := by decide +kernel
theorem dX3_putOut_84 : decode cX3_putOut 84 = .ok (.aload_n 0, 1) := by decide +kernel
theorem dX3_putOut_85 : decode cX3_putOut 85 = .ok (.getfield 31, 3) := by decide +kernel
theorem dX3_putOut_88 : decode cX3_putOut 88 = .ok (.getfield 143, 3) := by decide +kernel
theorem dX3_putOut_91 : decode cX3_putOut 91 = .ok (.iload_n 2, 1) := by decide +kernel
theorem dX3_putOut_92 : decode cX3_putOut 92 = .ok (.iaload, 1) := by decide +kernel
theorem dX3_putOut_93 : decode cX3_putOut 93 = .ok (.ifCond .ne 21, 3) := by decide +kernel
theorem dX3_putOut_96 : decode cX3_putOut 96 = .ok (.aload_n 0, 1) := by decide +kernel
theorem dX3_putOut_97 : decode cX3_putOut 97 = .ok (.iload_n 1, 1) := by decide +kernel
theorem dX3_putOut_98 : decode cX3_putOut 98 = .ok (.bipush 7, 2) := by decide +kernel
theorem dX3_putOut_100 : decode cX3_putOut 100 = .ok (.imul, 1) := by decide +kernel
theorem dX3_putOut_101 : decode cX3_putOut 101 = .ok (.aload_n 0, 1) := by decide +kernel
theorem dX3_putOut_102 : decode cX3_putOut 102 = .ok (.getfield 31, 3) := by decide +kernel
theorem dX3_putOut_105 : decode cX3_putOut 105 = .ok (.getfield 146, 3) := by decide +kernel
theorem dX3_putOut_108 : decode cX3_putOut 108 = .ok (.iload_n 2, 1) := by decide +kernel
theorem dX3_putOut_109 : decode cX3_putOut 109 = .ok (.iaload, 1) := by decide +kernel
theorem dX3_putOut_110 : decode cX3_putOut 110 = .ok (.iadd, 1) := by decide +kernel
theorem dX3_putOut_111 : decode cX3_putOut 111 = .ok (.invokevirtual 98, 3) := by decide +kernel
theorem dX3_putOut_114 : decode cX3_putOut 114 = .ok (.iinc 2 1, 3) := by decide +kernel
theorem dX3_putOut_117 : decode cX3_putOut 117 = .ok (.goto (-57), 3) := by decide +kernel
theorem dX3_putOut_120 : decode cX3_putOut 120 = .ok (.aload_n 0, 1) := by decide +kernel
theorem dX3_putOut_121 : decode cX3_putOut 121 = .ok (.getfield 54, 3) := by decide +kernel
theorem dX3_putOut_124 : decode cX3_putOut 124 = .ok (.iload_n 1, 1) := by decide +kernel
theorem dX3_putOut_125 : decode cX3_putOut 125 = .ok (.if_icmp .ne 24, 3) := by decide +kernel
theorem dX3_putOut_128 : decode cX3_putOut 128 = .ok (.aload_n 0, 1) := by decide +kernel
theorem dX3_putOut_129 : decode cX3_putOut 129 = .ok (.getfield 51, 3) := by decide +kernel
theorem dX3_putOut_132 : decode cX3_putOut 132 = .ok (.iconst (-1), 1) := by decide +kernel
theorem dX3_putOut_133 : decode cX3_putOut 133 = .ok (.if_icmp .eq 16, 3) := by decide +kernel
theorem dX3_putOut_136 : decode cX3_putOut 136 = .ok (.aload_n 0, 1) := by decide +kernel
theorem dX3_putOut_137 : decode cX3_putOut 137 = .ok (.iload_n 1, 1) := by decide +kernel
theorem dX3_putOut_138 : decode cX3_putOut 138 = .ok (.bipush 7, 2) := by decide +kernel
theorem dX3_putOut_140 : decode cX3_putOut 140 = .ok (.imul, 1) := by decide +kernel
theorem dX3_putOut_141 : decode cX3_putOut 141 = .ok (.aload_n 0, 1) := by decide +kernel
theorem dX3_putOut_142 : decode cX3_putOut 142 = .ok (.getfield 51, 3) := by decide +kernel
theorem dX3_putOut_145 : decode cX3_putOut 145 = .ok (.iadd, 1) := by decide +kernel
theorem dX3_putOut_146 : decode cX3_putOut 146 = .ok (.invokevirtual 98, 3) := by decide +kernel
theorem dX3_putOut_149 : decode cX3_putOut 149 = .ok (.return_, 1) := by decide +kernel
theorem dX3_kindle_0 : decode cX3_kindle 0 = .ok (.iload_n 2, 1) := by decide +kernel
theorem dX3_kindle_1 : decode cX3_kindle 1 = .ok (.bipush 7, 2) := by decide +kernel
theorem dX3_kindle_3 : decode cX3_kindle 3 = .ok (.imul, 1) := by decide +kernel
theorem dX3_kindle_4 : decode cX3_kindle 4 = .ok (.iload_n 1, 1) := by decide +kernel
theorem dX3_kindle_5 : decode cX3_kindle 5 = .ok (.iadd, 1) := by decide +kernel
theorem dX3_kindle_6 : decode cX3_kindle 6 = .ok (.istore 4, 2) := by decide +kernel
theorem dX3_kindle_8 : decode cX3_kindle 8 = .ok (.aload_n 0, 1) := by decide +kernel
theorem dX3_kindle_9 : decode cX3_kindle 9 = .ok (.getfield 15, 3) := by decide +kernel
theorem dX3_kindle_12 : decode cX3_kindle 12 = .ok (.iload 4, 2) := by decide +kernel
theorem dX3_kindle_14 : decode cX3_kindle 14 = .ok (.iaload, 1) := by decide +kernel
theorem dX3_kindle_15 : decode cX3_kindle 15 = .ok (.ifCond .ne 11, 3) := by decide +kernel
theorem dX3_kindle_18 : decode cX3_kindle 18 = .ok (.aload_n 0, 1) := by decide +kernel
theorem dX3_kindle_19 : decode cX3_kindle 19 = .ok (.getfield 21, 3) := by decide +kernel
theorem dX3_kindle_22 : decode cX3_kindle 22 = .ok (.iload 4, 2) := by decide +kernel
theorem dX3_kindle_24 : decode cX3_kindle 24 = .ok (.iload_n 2, 1) := by decide +kernel
theorem dX3_kindle_25 : decode cX3_kindle 25 = .ok (.iastore, 1) := by decide +kernel
theorem dX3_kindle_26 : decode cX3_kindle 26 = .ok (.aload_n 0, 1) := by decide +kernel
theorem dX3_kindle_27 : decode cX3_kindle 27 = .ok (.getfield 15, 3) := by decide +kernel
theorem dX3_kindle_30 : decode cX3_kindle 30 = .ok (.iload 4, 2) := by decide +kernel
theorem dX3_kindle_32 : decode cX3_kindle 32 = .ok (.iload_n 3, 1) := by decide +kernel
theorem dX3_kindle_33 : decode cX3_kindle 33 = .ok (.iastore, 1) := by decide +kernel
theorem dX3_kindle_34 : decode cX3_kindle 34 = .ok (.aload_n 0, 1) := by decide +kernel
theorem dX3_kindle_35 : decode cX3_kindle 35 = .ok (.getfield 18, 3) := by decide +kernel
theorem dX3_kindle_38 : decode cX3_kindle 38 = .ok (.iload 4, 2) := by decide +kernel
theorem dX3_kindle_40 : decode cX3_kindle 40 = .ok (.iconst (-1), 1) := by decide +kernel
theorem dX3_kindle_41 : decode cX3_kindle 41 = .ok (.iastore, 1) := by decide +kernel
theorem dX3_kindle_42 : decode cX3_kindle 42 = .ok (.aload_n 0, 1) := by decide +kernel
theorem dX3_kindle_43 : decode cX3_kindle 43 = .ok (.getfield 24, 3) := by decide +kernel
theorem dX3_kindle_46 : decode cX3_kindle 46 = .ok (.iload 4, 2) := by decide +kernel
theorem dX3_kindle_48 : decode cX3_kindle 48 = .ok (.iconst 0, 1) := by decide +kernel
theorem dX3_kindle_49 : decode cX3_kindle 49 = .ok (.iastore, 1) := by decide +kernel
theorem dX3_kindle_50 : decode cX3_kindle 50 = .ok (.return_, 1) := by decide +kernel
theorem dX3_quench_0 : decode cX3_quench 0 = .ok (.aload_n 0, 1) := by decide +kernel
theorem dX3_quench_1 : decode cX3_quench 1 = .ok (.getfield 15, 3) := by decide +kernel
theorem dX3_quench_4 : decode cX3_quench 4 = .ok (.iload_n 1, 1) := by decide +kernel
theorem dX3_quench_5 : decode cX3_quench 5 = .ok (.iconst 0, 1) := by decide +kernel
theorem dX3_quench_6 : decode cX3_quench 6 = .ok (.iastore, 1) := by decide +kernel
theorem dX3_quench_7 : decode cX3_quench 7 = .ok (.aload_n 0, 1) := by decide +kernel
theorem dX3_quench_8 : decode cX3_quench 8 = .ok (.getfield 18, 3) := by decide +kernel
theorem dX3_quench_11 : decode cX3_quench 11 = .ok (.iload_n 1, 1) := by decide +kernel
theorem dX3_quench_12 : decode cX3_quench 12 = .ok (.iconst (-1), 1) := by decide +kernel
theorem dX3_quench_13 : decode cX3_quench 13 = .ok (.iastore, 1) := by decide +kernel
theorem dX3_quench_14 : decode cX3_quench 14 = .ok (.aload_n 0, 1) := by decide +kernel
theorem dX3_quench_15 : decode cX3_quench 15 = .ok (.getfield 21, 3) := by decide +kernel
theorem dX3_quench_18 : decode cX3_quench 18 = .ok (.iload_n 1, 1) := by decide +kernel
theorem dX3_quench_19 : decode cX3_quench 19 = .ok (.iconst (-1), 1) := by decide +kernel
theorem dX3_quench_20 : decode cX3_quench 20 = .ok (.iastore, 1) := by decide +kernel
theorem dX3_quench_21 : decode cX3_quench 21 = .ok (.aload_n 0, 1) := by decide +kernel
theorem dX3_quench_22 : decode cX3_quench 22 = .ok (.getfield 24, 3) := by decide +kernel
theorem dX3_quench_25 : decode cX3_quench 25 = .ok (.iload_n 1, 1) := by decide +kernel
theorem dX3_quench_26 : decode cX3_quench 26 = .ok (.iconst (-1), 1) := by decide +kernel
theorem dX3_quench_27 : decode cX3_quench 27 = .ok (.iastore, 1) := by decide +kernel
theorem dX3_quench_28 : decode cX3_quench 28 = .ok (.return_, 1) := by decide +kernel
theorem dX3_noteLit_0 : decode cX3_noteLit 0 = .ok (.iconst 0, 1) := by decide +kernel
theorem dX3_noteLit_1 : decode cX3_noteLit 1 = .ok (.istore_n 2, 1) := by decide +kernel
theorem dX3_noteLit_2 : decode cX3_noteLit 2 = .ok (.iconst 0, 1) := by decide +kernel
theorem dX3_noteLit_3 : decode cX3_noteLit 3 = .ok (.istore_n 3, 1) := by decide +kernel
theorem dX3_noteLit_4 : decode cX3_noteLit 4 = .ok (.iload_n 3, 1) := by decide +kernel
theorem dX3_noteLit_5 : decode cX3_noteLit 5 = .ok (.aload_n 0, 1) := by decide +kernel
theorem dX3_noteLit_6 : decode cX3_noteLit 6 = .ok (.getfield 27, 3) := by decide +kernel
theorem dX3_noteLit_9 : decode cX3_noteLit 9 = .ok (.getfield 95, 3) := by decide +kernel
theorem dX3_noteLit_12 : decode cX3_noteLit 12 = .ok (.if_icmp .ge 29, 3) := by decide +kernel
theorem dX3_noteLit_15 : decode cX3_noteLit 15 = .ok (.aload_n 0, 1) := by decide +kernel
theorem dX3_noteLit_16 : decode cX3_noteLit 16 = .ok (.getfield 15, 3) := by decide +kernel
theorem dX3_noteLit_19 : decode cX3_noteLit 19 = .ok (.iload_n 1, 1) := by decide +kernel
theorem dX3_noteLit_20 : decode cX3_noteLit 20 = .ok (.bipush 7, 2) := by decide +kernel
theorem dX3_noteLit_22 : decode cX3_noteLit 22 = .ok (.imul, 1) := by decide +kernel
theorem dX3_noteLit_23 : decode cX3_noteLit 23 = .ok (.iload_n 3, 1) := by decide +kernel
theorem dX3_noteLit_24 : decode cX3_noteLit 24 = .ok (.iadd, 1) := by decide +kernel
theorem dX3_noteLit_25 : decode cX3_noteLit 25 = .ok (.iaload, 1) := by decide +kernel
theorem dX3_noteLit_26 : decode cX3_noteLit 26 = .ok (.ifCond .eq 9, 3) := by decide +kernel
theorem dX3_noteLit_29 : decode cX3_noteLit 29 = .ok (.iload_n 2, 1) := by decide +kernel
theorem dX3_noteLit_30 : decode cX3_noteLit 30 = .ok (.iconst 1, 1) := by decide +kernel
theorem dX3_noteLit_31 : decode cX3_noteLit 31 = .ok (.iload_n 3, 1) := by decide +kernel
theorem dX3_noteLit_32 : decode cX3_noteLit 32 = .ok (.ishl, 1) := by decide +kernel
theorem dX3_noteLit_33 : decode cX3_noteLit 33 = .ok (.ior, 1) := by decide +kernel
theorem dX3_noteLit_34 : decode cX3_noteLit 34 = .ok (.istore_n 2, 1) := by decide +kernel
theorem dX3_noteLit_35 : decode cX3_noteLit 35 = .ok (.iinc 3 1, 3) := by decide +kernel
theorem dX3_noteLit_38 : decode cX3_noteLit 38 = .ok (.goto (-34), 3) := by decide +kernel
theorem dX3_noteLit_41 : decode cX3_noteLit 41 = .ok (.aload_n 0, 1) := by decide +kernel
theorem dX3_noteLit_42 : decode cX3_noteLit 42 = .ok (.getfield 9, 3) := by decide +kernel
theorem dX3_noteLit_45 : decode cX3_noteLit 45 = .ok (.iload_n 1, 1) := by decide +kernel
theorem dX3_noteLit_46 : decode cX3_noteLit 46 = .ok (.iload_n 2, 1) := by decide +kernel
theorem dX3_noteLit_47 : decode cX3_noteLit 47 = .ok (.iastore, 1) := by decide +kernel
theorem dX3_noteLit_48 : decode cX3_noteLit 48 = .ok (.return_, 1) := by decide +kernel
theorem dX3_isLit_0 : decode cX3_isLit 0 = .ok (.aload_n 0, 1) := by decide +kernel
theorem dX3_isLit_1 : decode cX3_isLit 1 = .ok (.getfield 9, 3) := by decide +kernel
theorem dX3_isLit_4 : decode cX3_isLit 4 = .ok (.iload_n 2, 1) := by decide +kernel
theorem dX3_isLit_5 : decode cX3_isLit 5 = .ok (.iaload, 1) := by decide +kernel
theorem dX3_isLit_6 : decode cX3_isLit 6 = .ok (.iload_n 1, 1) := by decide +kernel
theorem dX3_isLit_7 : decode cX3_isLit 7 = .ok (.ishr, 1) := by decide +kernel
theorem dX3_isLit_8 : decode cX3_isLit 8 = .ok (.iconst 1, 1) := by decide +kernel
theorem dX3_isLit_9 : decode cX3_isLit 9 = .ok (.iand, 1) := by decide +kernel
theorem dX3_isLit_10 : decode cX3_isLit 10 = .ok (.ifCond .eq 7, 3) := by decide +kernel
theorem dX3_isLit_13 : decode cX3_isLit 13 = .ok (.iconst 1, 1) := by decide +kernel
theorem dX3_isLit_14 : decode cX3_isLit 14 = .ok (.goto 4, 3) := by decide +kernel
theorem dX3_isLit_17 : decode cX3_isLit 17 = .ok (.iconst 0, 1) := by decide +kernel
theorem dX3_isLit_18 : decode cX3_isLit 18 = .ok (.ireturn, 1) := by decide +kernel
theorem dX3_lettersSaid_0 : decode cX3_lettersSaid 0 = .ok (.iconst 0, 1) := by decide +kernel
theorem dX3_lettersSaid_1 : decode cX3_lettersSaid 1 = .ok (.istore_n 2, 1) := by decide +kernel
theorem dX3_lettersSaid_2 : decode cX3_lettersSaid 2 = .ok (.iconst 0, 1) := by decide +kernel
theorem dX3_lettersSaid_3 : decode cX3_lettersSaid 3 = .ok (.istore_n 3, 1) := by decide +kernel
theorem dX3_lettersSaid_4 : decode cX3_lettersSaid 4 = .ok (.iload_n 3, 1) := by decide +kernel
theorem dX3_lettersSaid_5 : decode cX3_lettersSaid 5 = .ok (.aload_n 0, 1) := by decide +kernel
theorem dX3_lettersSaid_6 : decode cX3_lettersSaid 6 = .ok (.getfield 27, 3) := by decide +kernel
theorem dX3_lettersSaid_9 : decode cX3_lettersSaid 9 = .ok (.getfield 95, 3) := by decide +kernel
theorem dX3_lettersSaid_12 : decode cX3_lettersSaid 12 = .ok (.if_icmp .ge 26, 3) := by decide +kernel
theorem dX3_lettersSaid_15 : decode cX3_lettersSaid 15 = .ok (.iload_n 2, 1) := by decide +kernel
theorem dX3_lettersSaid_16 : decode cX3_lettersSaid 16 = .ok (.aload_n 0, 1) := by decide +kernel
theorem dX3_lettersSaid_17 : decode cX3_lettersSaid 17 = .ok (.getfield 15, 3) := by decide +kernel
theorem dX3_lettersSaid_20 : decode cX3_lettersSaid 20 = .ok (.iload_n 1, 1) := by decide +kernel
theorem dX3_lettersSaid_21 : decode cX3_lettersSaid 21 = .ok (.bipush 7, 2) := by decide +kernel
theorem dX3_lettersSaid_23 : decode cX3_lettersSaid 23 = .ok (.imul, 1) := by decide +kernel
theorem dX3_lettersSaid_24 : decode cX3_lettersSaid 24 = .ok (.iload_n 3, 1) := by decide +kernel
theorem dX3_lettersSaid_25 : decode cX3_lettersSaid 25 = .ok (.iadd, 1) := by decide +kernel
theorem dX3_lettersSaid_26 : decode cX3_lettersSaid 26 = .ok (.iaload, 1) := by decide +kernel
theorem dX3_lettersSaid_27 : decode cX3_lettersSaid 27 = .ok (.invokestatic 132, 3) := by decide +kernel
theorem dX3_lettersSaid_30 : decode cX3_lettersSaid 30 = .ok (.iadd, 1) := by decide +kernel
theorem dX3_lettersSaid_31 : decode cX3_lettersSaid 31 = .ok (.istore_n 2, 1) := by decide +kernel
theorem dX3_lettersSaid_32 : decode cX3_lettersSaid 32 = .ok (.iinc 3 1, 3) := by decide +kernel
theorem dX3_lettersSaid_35 : decode cX3_lettersSaid 35 = .ok (.goto (-31), 3) := by decide +kernel
theorem dX3_lettersSaid_38 : decode cX3_lettersSaid 38 = .ok (.iload_n 2, 1) := by decide +kernel
theorem dX3_lettersSaid_39 : decode cX3_lettersSaid 39 = .ok (.ireturn, 1) := by decide +kernel
theorem dX3_otherwise_0 : decode cX3_otherwise 0 = .ok (.iconst 0, 1) := by decide +kernel
theorem dX3_otherwise_1 : decode cX3_otherwise 1 = .ok (.istore_n 3, 1) := by decide +kernel
theorem dX3_otherwise_2 : decode cX3_otherwise 2 = .ok (.iconst 0, 1) := by decide +kernel
theorem dX3_otherwise_3 : decode cX3_otherwise 3 = .ok (.istore 4, 2) := by decide +kernel
theorem dX3_otherwise_5 : decode cX3_otherwise 5 = .ok (.iload 4, 2) := by decide +kernel
theorem dX3_otherwise_7 : decode cX3_otherwise 7 = .ok (.aload_n 0, 1) := by decide +kernel
theorem dX3_otherwise_8 : decode cX3_otherwise 8 = .ok (.getfield 27, 3) := by decide +kernel
theorem dX3_otherwise_11 : decode cX3_otherwise 11 = .ok (.getfield 95, 3) := by decide +kernel
theorem dX3_otherwise_14 : decode cX3_otherwise 14 = .ok (.if_icmp .ge 43, 3) := by decide +kernel
theorem dX3_otherwise_17 : decode cX3_otherwise 17 = .ok (.aload_n 0, 1) := by decide +kernel
theorem dX3_otherwise_18 : decode cX3_otherwise 18 = .ok (.getfield 15, 3) := by decide +kernel
theorem dX3_otherwise_21 : decode cX3_otherwise 21 = .ok (.iload_n 1, 1) := by decide +kernel
theorem dX3_otherwise_22 : decode cX3_otherwise 22 = .ok (.bipush 7, 2) := by decide +kernel
theorem dX3_otherwise_24 : decode cX3_otherwise 24 = .ok (.imul, 1) := by decide +kernel
theorem dX3_otherwise_25 : decode cX3_otherwise 25 = .ok (.iload 4, 2) := by decide +kernel
theorem dX3_otherwise_27 : decode cX3_otherwise 27 = .ok (.iadd, 1) := by decide +kernel
theorem dX3_otherwise_28 : decode cX3_otherwise 28 = .ok (.iaload, 1) := by decide +kernel
theorem dX3_otherwise_29 : decode cX3_otherwise 29 = .ok (.aload_n 0, 1) := by decide +kernel
theorem dX3_otherwise_30 : decode cX3_otherwise 30 = .ok (.getfield 15, 3) := by decide +kernel
theorem dX3_otherwise_33 : decode cX3_otherwise 33 = .ok (.iload_n 2, 1) := by decide +kernel
theorem dX3_otherwise_34 : decode cX3_otherwise 34 = .ok (.bipush 7, 2) := by decide +kernel
theorem dX3_otherwise_36 : decode cX3_otherwise 36 = .ok (.imul, 1) := by decide +kernel
theorem dX3_otherwise_37 : decode cX3_otherwise 37 = .ok (.iload 4, 2) := by decide +kernel
theorem dX3_otherwise_39 : decode cX3_otherwise 39 = .ok (.iadd, 1) := by decide +kernel
theorem dX3_otherwise_40 : decode cX3_otherwise 40 = .ok (.iaload, 1) := by decide +kernel
theorem dX3_otherwise_41 : decode cX3_otherwise 41 = .ok (.if_icmp .eq 10, 3) := by decide +kernel
theorem dX3_otherwise_44 : decode cX3_otherwise 44 = .ok (.iload_n 3, 1) := by decide +kernel
theorem dX3_otherwise_45 : decode cX3_otherwise 45 = .ok (.iconst 1, 1) := by decide +kernel
theorem dX3_otherwise_46 : decode cX3_otherwise 46 = .ok (.iload 4, 2) := by decide +kernel
theorem dX3_otherwise_48 : decode cX3_otherwise 48 = .ok (.ishl, 1) := by decide +kernel
theorem dX3_otherwise_49 : decode cX3_otherwise 49 = .ok (.ior, 1) := by decide +kernel
theorem dX3_otherwise_50 : decode cX3_otherwise 50 = .ok (.istore_n 3, 1) := by decide +kernel
theorem dX3_otherwise_51 : decode cX3_otherwise 51 = .ok (.iinc 4 1, 3) := by decide +kernel
theorem dX3_otherwise_54 : decode cX3_otherwise 54 = .ok (.goto (-49), 3) := by decide +kernel
theorem dX3_otherwise_57 : decode cX3_otherwise 57 = .ok (.iload_n 3, 1) := by decide +kernel
theorem dX3_otherwise_58 : decode cX3_otherwise 58 = .ok (.ireturn, 1) := by decide +kernel
theorem dX3_sayingSame_0 : decode cX3_sayingSame 0 = .ok (.aload_n 0, 1) := by decide +kernel
theorem dX3_sayingSame_1 : decode cX3_sayingSame 1 = .ok (.getfield 15, 3) := by decide +kernel
theorem dX3_sayingSame_4 : decode cX3_sayingSame 4 = .ok (.iload_n 2, 1) := by decide +kernel
theorem dX3_sayingSame_5 : decode cX3_sayingSame 5 = .ok (.bipush 7, 2) := by decide +kernel
theorem dX3_sayingSame_7 : decode cX3_sayingSame 7 = .ok (.imul, 1) := by decide +kernel
theorem dX3_sayingSame_8 : decode cX3_sayingSame 8 = .ok (.iload_n 1, 1) := by decide +kernel
theorem dX3_sayingSame_9 : decode cX3_sayingSame 9 = .ok (.iadd, 1) := by decide +kernel
theorem dX3_sayingSame_10 : decode cX3_sayingSame 10 = .ok (.iaload, 1) := by decide +kernel
theorem dX3_sayingSame_11 : decode cX3_sayingSame 11 = .ok (.istore_n 3, 1) := by decide +kernel
theorem dX3_sayingSame_12 : decode cX3_sayingSame 12 = .ok (.iconst 0, 1) := by decide +kernel
theorem dX3_sayingSame_13 : decode cX3_sayingSame 13 = .ok (.istore 4, 2) := by decide +kernel
theorem dX3_sayingSame_15 : decode cX3_sayingSame 15 = .ok (.iconst 0, 1) := by decide +kernel
theorem dX3_sayingSame_16 : decode cX3_sayingSame 16 = .ok (.istore 5, 2) := by decide +kernel
theorem dX3_sayingSame_18 : decode cX3_sayingSame 18 = .ok (.iload 5, 2) := by decide +kernel
theorem dX3_sayingSame_20 : decode cX3_sayingSame 20 = .ok (.aload_n 0, 1) := by decide +kernel
theorem dX3_sayingSame_21 : decode cX3_sayingSame 21 = .ok (.getfield 27, 3) := by decide +kernel
theorem dX3_sayingSame_24 : decode cX3_sayingSame 24 = .ok (.getfield 95, 3) := by decide +kernel
theorem dX3_sayingSame_27 : decode cX3_sayingSame 27 = .ok (.if_icmp .ge 38, 3) := by decide +kernel
theorem dX3_sayingSame_30 : decode cX3_sayingSame 30 = .ok (.iload_n 3, 1) := by decide +kernel
theorem dX3_sayingSame_31 : decode cX3_sayingSame 31 = .ok (.ifCond .eq 34, 3) := by decide +kernel
theorem dX3_sayingSame_34 : decode cX3_sayingSame 34 = .ok (.aload_n 0, 1) := by decide +kernel
theorem dX3_sayingSame_35 : decode cX3_sayingSame 35 = .ok (.getfield 15, 3) := by decide +kernel
theorem dX3_sayingSame_38 : decode cX3_sayingSame 38 = .ok (.iload_n 2, 1) := by decide +kernel
theorem dX3_sayingSame_39 : decode cX3_sayingSame 39 = .ok (.bipush 7, 2) := by decide +kernel
theorem dX3_sayingSame_41 : decode cX3_sayingSame 41 = .ok (.imul, 1) := by decide +kernel
theorem dX3_sayingSame_42 : decode cX3_sayingSame 42 = .ok (.iload 5, 2) := by decide +kernel
theorem dX3_sayingSame_44 : decode cX3_sayingSame 44 = .ok (.iadd, 1) := by decide +kernel
theorem dX3_sayingSame_45 : decode cX3_sayingSame 45 = .ok (.iaload, 1) := by decide +kernel
theorem dX3_sayingSame_46 : decode cX3_sayingSame 46 = .ok (.iload_n 3, 1) := by decide +kernel
theorem dX3_sayingSame_47 : decode cX3_sayingSame 47 = .ok (.if_icmp .ne 12, 3) := by decide +kernel
theorem dX3_sayingSame_50 : decode cX3_sayingSame 50 = .ok (.iload 4, 2) := by decide +kernel
theorem dX3_sayingSame_52 : decode cX3_sayingSame 52 = .ok (.iconst 1, 1) := by decide +kernel
theorem dX3_sayingSame_53 : decode cX3_sayingSame 53 = .ok (.iload 5, 2) := by decide +kernel
theorem dX3_sayingSame_55 : decode cX3_sayingSame 55 = .ok (.ishl, 1) := by decide +kernel
theorem dX3_sayingSame_56 : decode cX3_sayingSame 56 = .ok (.ior, 1) := by decide +kernel
theorem dX3_sayingSame_57 : decode cX3_sayingSame 57 = .ok (.istore 4, 2) := by decide +kernel
theorem dX3_sayingSame_59 : decode cX3_sayingSame 59 = .ok (.iinc 5 1, 3) := by decide +kernel
theorem dX3_sayingSame_62 : decode cX3_sayingSame 62 = .ok (.goto (-44), 3) := by decide +kernel
theorem dX3_sayingSame_65 : decode cX3_sayingSame 65 = .ok (.iload 4, 2) := by decide +kernel
theorem dX3_sayingSame_67 : decode cX3_sayingSame 67 = .ok (.ireturn, 1) := by decide +kernel
theorem dX4_init_0 : decode cX4_init 0 = .ok (.aload_n 0, 1) := by decide +kernel
theorem dX4_init_1 : decode cX4_init 1 = .ok (.invokespecial 3, 3) := by decide +kernel
theorem dX4_init_4 : decode cX4_init 4 = .ok (.aload_n 0, 1) := by decide +kernel
theorem dX4_init_5 : decode cX4_init 5 = .ok (.bipush 13, 2) := by decide +kernel
theorem dX4_init_7 : decode cX4_init 7 = .ok (.newarray .int, 2) := by decide +kernel
theorem dX4_init_9 : decode cX4_init 9 = .ok (.putfield 9, 3) := by decide +kernel
theorem dX4_init_12 : decode cX4_init 12 = .ok (.aload_n 0, 1) := by decide +kernel
theorem dX4_init_13 : decode cX4_init 13 = .ok (.aload_n 1, 1) := by decide +kernel
theorem dX4_init_14 : decode cX4_init 14 = .ok (.putfield 15, 3) := by decide +kernel
theorem dX4_init_17 : decode cX4_init 17 = .ok (.aload_n 0, 1) := by decide +kernel
theorem dX4_init_18 : decode cX4_init 18 = .ok (.aload_n 2, 1) := by decide +kernel
theorem dX4_init_19 : decode cX4_init 19 = .ok (.putfield 19, 3) := by decide +kernel
theorem dX4_init_22 : decode cX4_init 22 = .ok (.return_, 1) := by decide +kernel
theorem dX4_seek_0 : decode cX4_seek 0 = .ok (.aload_n 0, 1) := by decide +kernel
theorem dX4_seek_1 : decode cX4_seek 1 = .ok (.iconst 0, 1) := by decide +kernel
theorem dX4_seek_2 : decode cX4_seek 2 = .ok (.putfield 25, 3) := by decide +kernel
theorem dX4_seek_5 : decode cX4_seek 5 = .ok (.aload_n 0, 1) := by decide +kernel
theorem dX4_seek_6 : decode cX4_seek 6 = .ok (.iconst 0, 1) := by decide +kernel
theorem dX4_seek_7 : decode cX4_seek 7 = .ok (.putfield 29, 3) := by decide +kernel
theorem dX4_seek_10 : decode cX4_seek 10 = .ok (.iconst 1, 1) := by decide +kernel
theorem dX4_seek_11 : decode cX4_seek 11 = .ok (.istore 4, 2) := by decide +kernel
theorem dX4_seek_13 : decode cX4_seek 13 = .ok (.iload 4, 2) := by decide +kernel
theorem dX4_seek_15 : decode cX4_seek 15 = .ok (.iconst 4, 1) := by decide +kernel
theorem dX4_seek_16 : decode cX4_seek 16 = .ok (.if_icmp .gt 94, 3) := by decide +kernel
theorem dX4_seek_19 : decode cX4_seek 19 = .ok (.aload_n 0, 1) := by decide +kernel
theorem dX4_seek_20 : decode cX4_seek 20 = .ok (.getfield 29, 3) := by decide +kernel
theorem dX4_seek_23 : decode cX4_seek 23 = .ok (.ifCond .ne 87, 3) := by decide +kernel
theorem dX4_seek_26 : decode cX4_seek 26 = .ok (.aload_n 0, 1) := by decide +kernel
theorem dX4_seek_27 : decode cX4_seek 27 = .ok (.getfield 19, 3) := by decide +kernel
theorem dX4_seek_30 : decode cX4_seek 30 = .ok (.iconst 1, 1) := by decide +kernel
theorem dX4_seek_31 : decode cX4_seek 31 = .ok (.iload_n 2, 1) := by decide +kernel
theorem dX4_seek_32 : decode cX4_seek 32 = .ok (.ishl, 1) := by decide +kernel
theorem dX4_seek_33 : decode cX4_seek 33 = .ok (.iconst 0, 1) := by decide +kernel
theorem dX4_seek_34 : decode cX4_seek 34 = .ok (.iload 4, 2) := by decide +kernel
theorem dX4_seek_36 : decode cX4_seek 36 = .ok (.invokestatic 32, 3) := by decide +kernel
theorem dX4_seek_39 : decode cX4_seek 39 = .ok (.invokevirtual 36, 3) := by decide +kernel
theorem dX4_seek_42 : decode cX4_seek 42 = .ok (.aload_n 0, 1) := by decide +kernel
theorem dX4_seek_43 : decode cX4_seek 43 = .ok (.getfield 19, 3) := by decide +kernel
theorem dX4_seek_46 : decode cX4_seek 46 = .ok (.iconst 0, 1) := by decide +kernel
theorem dX4_seek_47 : decode cX4_seek 47 = .ok (.aload_n 0, 1) := by decide +kernel
theorem dX4_seek_48 : decode cX4_seek 48 = .ok (.getfield 15, 3) := by decide +kernel
theorem dX4_seek_51 : decode cX4_seek 51 = .ok (.getfield 42, 3) := by decide +kernel
theorem dX4_seek_54 : decode cX4_seek 54 = .ok (.invokevirtual 47, 3) := by decide +kernel
theorem dX4_seek_57 : decode cX4_seek 57 = .ok (.pop, 1) := by decide +kernel
theorem dX4_seek_58 : decode cX4_seek 58 = .ok (.aload_n 0, 1) := by decide +kernel
theorem dX4_seek_59 : decode cX4_seek 59 = .ok (.getfield 19, 3) := by decide +kernel
theorem dX4_seek_62 : decode cX4_seek 62 = .ok (.getfield 50, 3) := by decide +kernel
theorem dX4_seek_65 : decode cX4_seek 65 = .ok (.aload_n 0, 1) := by decide +kernel
theorem dX4_seek_66 : decode cX4_seek 66 = .ok (.getfield 15, 3) := by decide +kernel
theorem dX4_seek_69 : decode cX4_seek 69 = .ok (.getfield 42, 3) := by decide +kernel
theorem dX4_seek_72 : decode cX4_seek 72 = .ok (.bipush 7, 2) := by decide +kernel
theorem dX4_seek_74 : decode cX4_seek 74 = .ok (.imul, 1) := by decide +kernel
theorem dX4_seek_75 : decode cX4_seek 75 = .ok (.iload_n 3, 1) := by decide +kernel
theorem dX4_seek_76 : decode cX4_seek 76 = .ok (.iadd, 1) := by decide +kernel
theorem dX4_seek_77 : decode cX4_seek 77 = .ok (.iaload, 1) := by decide +kernel
theorem dX4_seek_78 : decode cX4_seek 78 = .ok (.istore 5, 2) := by decide +kernel
theorem dX4_seek_80 : decode cX4_seek 80 = .ok (.iload 5, 2) := by decide +kernel
theorem dX4_seek_82 : decode cX4_seek 82 = .ok (.invokestatic 53, 3) := by decide +kernel
theorem dX4_seek_85 : decode cX4_seek 85 = .ok (.iload_n 1, 1) := by decide +kernel
theorem dX4_seek_86 : decode cX4_seek 86 = .ok (.invokestatic 53, 3) := by decide +kernel
theorem dX4_seek_89 : decode cX4_seek 89 = .ok (.if_icmp .ne 15, 3) := by decide +kernel
theorem dX4_seek_92 : decode cX4_seek 92 = .ok (.aload_n 0, 1) := by decide +kernel
theorem dX4_seek_93 : decode cX4_seek 93 = .ok (.iload_n 3, 1) := by decide +kernel
theorem dX4_seek_94 : decode cX4_seek 94 = .ok (.invokevirtual 57, 3) := by decide +kernel
theorem dX4_seek_97 : decode cX4_seek 97 = .ok (.aload_n 0, 1) := by decide +kernel
theorem dX4_seek_98 : decode cX4_seek 98 = .ok (.iload_n 1, 1) := by decide +kernel
theorem dX4_seek_99 : decode cX4_seek 99 = .ok (.iload 4, 2) := by decide +kernel
theorem dX4_seek_101 : decode cX4_seek 101 = .ok (.invokevirtual 61, 3) := by decide +kernel
theorem dX4_seek_104 : decode cX4_seek 104 = .ok (.iinc 4 1, 3) := by decide +kernel
theorem dX4_seek_107 : decode cX4_seek 107 = .ok (.goto (-94), 3) := by decide +kernel
theorem dX4_seek_110 : decode cX4_seek 110 = .ok (.return_, 1) := by decide +kernel
theorem dX4_followTrail_0 : decode cX4_followTrail 0 = .ok (.aload_n 0, 1) := by decide +kernel
theorem dX4_followTrail_1 : decode cX4_followTrail 1 = .ok (.iconst 0, 1) := by decide +kernel
theorem dX4_followTrail_2 : decode cX4_followTrail 2 = .ok (.putfield 64, 3) := by decide +kernel
theorem dX4_followTrail_5 : decode cX4_followTrail 5 = .ok (.aload_n 0, 1) := by decide +kernel
theorem dX4_followTrail_6 : decode cX4_followTrail 6 = .ok (.getfield 15, 3) := by decide +kernel
theorem dX4_followTrail_9 : decode cX4_followTrail 9 = .ok (.getfield 42, 3) := by decide +kernel
theorem dX4_followTrail_12 : decode cX4_followTrail 12 = .ok (.bipush 7, 2) := by decide +kernel
theorem dX4_followTrail_14 : decode cX4_followTrail 14 = .ok (.imul, 1) := by decide +kernel
theorem dX4_followTrail_15 : decode cX4_followTrail 15 = .ok (.iload_n 1, 1) := by decide +kernel
theorem dX4_followTrail_16 : decode cX4_followTrail 16 = .ok (.iadd, 1) := by decide +kernel
theorem dX4_followTrail_17 : decode cX4_followTrail 17 = .ok (.istore_n 2, 1) := by decide +kernel
theorem dX4_followTrail_18 : decode cX4_followTrail 18 = .ok (.aload_n 0, 1) := by decide +kernel
theorem dX4_followTrail_19 : decode cX4_followTrail 19 = .ok (.getfield 64, 3) := by decide +kernel
theorem dX4_followTrail_22 : decode cX4_followTrail 22 = .ok (.bipush 12, 2) := by decide +kernel
theorem dX4_followTrail_24 : decode cX4_followTrail 24 = .ok (.if_icmp .ge 67, 3) := by decide +kernel
theorem dX4_followTrail_27 : decode cX4_followTrail 27 = .ok (.aload_n 0, 1) := by decide +kernel
theorem dX4_followTrail_28 : decode cX4_followTrail 28 = .ok (.getfield 19, 3) := by decide +kernel
theorem dX4_followTrail_31 : decode cX4_followTrail 31 = .ok (.getfield 67, 3) := by decide +kernel
theorem dX4_followTrail_34 : decode cX4_followTrail 34 = .ok (.iload_n 2, 1) := by decide +kernel
theorem dX4_followTrail_35 : decode cX4_followTrail 35 = .ok (.iaload, 1) := by decide +kernel
theorem dX4_followTrail_36 : decode cX4_followTrail 36 = .ok (.iconst (-1), 1) := by decide +kernel
theorem dX4_followTrail_37 : decode cX4_followTrail 37 = .ok (.if_icmp .eq 54, 3) := by decide +kernel
theorem dX4_followTrail_40 : decode cX4_followTrail 40 = .ok (.aload_n 0, 1) := by decide +kernel
theorem dX4_followTrail_41 : decode cX4_followTrail 41 = .ok (.getfield 9, 3) := by decide +kernel
theorem dX4_followTrail_44 : decode cX4_followTrail 44 = .ok (.aload_n 0, 1) := by decide +kernel
theorem dX4_followTrail_45 : decode cX4_followTrail 45 = .ok (.getfield 64, 3) := by decide +kernel
theorem dX4_followTrail_48 : decode cX4_followTrail 48 = .ok (.iload_n 2, 1) := by decide +kernel
theorem dX4_followTrail_49 : decode cX4_followTrail 49 = .ok (.bipush 7, 2) := by decide +kernel
theorem dX4_followTrail_51 : decode cX4_followTrail 51 = .ok (.irem, 1) := by decide +kernel
theorem dX4_followTrail_52 : decode cX4_followTrail 52 = .ok (.iastore, 1) := by decide +kernel
theorem dX4_followTrail_53 : decode cX4_followTrail 53 = .ok (.aload_n 0, 1) := by decide +kernel
theorem dX4_followTrail_54 : decode cX4_followTrail 54 = .ok (.dup, 1) := by decide +kernel
theorem dX4_followTrail_55 : decode cX4_followTrail 55 = .ok (.getfield 64, 3) := by decide +kernel
theorem dX4_followTrail_58 : decode cX4_followTrail 58 = .ok (.iconst 1, 1) := by decide +kernel
theorem dX4_followTrail_59 : decode cX4_followTrail 59 = .ok (.iadd, 1) := by decide +kernel
theorem dX4_followTrail_60 : decode cX4_followTrail 60 = .ok (.putfield 64, 3) := by decide +kernel
theorem dX4_followTrail_63 : decode cX4_followTrail 63 = .ok (.aload_n 0, 1) := by decide +kernel
theorem dX4_followTrail_64 : decode cX4_followTrail 64 = .ok (.getfield 19, 3) := by decide +kernel
theorem dX4_followTrail_67 : decode cX4_followTrail 67 = .ok (.getfield 70, 3) := by decide +kernel
theorem dX4_followTrail_70 : decode cX4_followTrail 70 = .ok (.iload_n 2, 1) := by decide +kernel
theorem dX4_followTrail_71 : decode cX4_followTrail 71 = .ok (.iaload, 1) := by decide +kernel
theorem dX4_followTrail_72 : decode cX4_followTrail 72 = .ok (.iconst 1, 1) := by decide +kernel
theorem dX4_followTrail_73 : decode cX4_followTrail 73 = .ok (.isub, 1) := by decide +kernel
theorem dX4_followTrail_74 : decode cX4_followTrail 74 = .ok (.bipush 7, 2) := by decide +kernel
theorem dX4_followTrail_76 : decode cX4_followTrail 76 = .ok (.imul, 1) := by decide +kernel
theorem dX4_followTrail_77 : decode cX4_followTrail 77 = .ok (.aload_n 0, 1) := by decide +kernel
theorem dX4_followTrail_78 : decode cX4_followTrail 78 = .ok (.getfield 19, 3) := by decide +kernel
theorem dX4_followTrail_81 : decode cX4_followTrail 81 = .ok (.getfield 67, 3) := by decide +kernel
theorem dX4_followTrail_84 : decode cX4_followTrail 84 = .ok (.iload_n 2, 1) := by decide +kernel
theorem dX4_followTrail_85 : decode cX4_followTrail 85 = .ok (.iaload, 1) := by decide +kernel
theorem dX4_followTrail_86 : decode cX4_followTrail 86 = .ok (.iadd, 1) := by decide +kernel
theorem dX4_followTrail_87 : decode cX4_followTrail 87 = .ok (.istore_n 2, 1) := by decide +kernel
theorem dX4_followTrail_88 : decode cX4_followTrail 88 = .ok (.goto (-70), 3) := by decide +kernel
theorem dX4_followTrail_91 : decode cX4_followTrail 91 = .ok (.return_, 1) := by decide +kernel
theorem dX4_tryAll_0 : decode cX4_tryAll 0 = .ok (.iconst 0, 1) := by decide +kernel
theorem dX4_tryAll_1 : decode cX4_tryAll 1 = .ok (.istore_n 3, 1) := by decide +kernel
theorem dX4_tryAll_2 : decode cX4_tryAll 2 = .ok (.iload_n 3, 1) := by decide +kernel
theorem dX4_tryAll_3 : decode cX4_tryAll 3 = .ok (.iconst 1, 1) := by decide +kernel
theorem dX4_tryAll_4 : decode cX4_tryAll 4 = .ok (.iconst 2, 1) := by decide +kernel
theorem dX4_tryAll_5 : decode cX4_tryAll 5 = .ok (.iload_n 2, 1) := by decide +kernel
theorem dX4_tryAll_6 : decode cX4_tryAll 6 = .ok (.imul, 1) := by decide +kernel
theorem dX4_tryAll_7 : decode cX4_tryAll 7 = .ok (.ishl, 1) := by decide +kernel
theorem dX4_tryAll_8 : decode cX4_tryAll 8 = .ok (.if_icmp .ge 56, 3) := by decide +kernel
theorem dX4_tryAll_11 : decode cX4_tryAll 11 = .ok (.iload_n 3, 1) := by decide +kernel
theorem dX4_tryAll_12 : decode cX4_tryAll 12 = .ok (.iload_n 2, 1) := by decide +kernel
theorem dX4_tryAll_13 : decode cX4_tryAll 13 = .ok (.invokestatic 32, 3) := by decide +kernel
theorem dX4_tryAll_16 : decode cX4_tryAll 16 = .ok (.istore 4, 2) := by decide +kernel
theorem dX4_tryAll_18 : decode cX4_tryAll 18 = .ok (.aload_n 0, 1) := by decide +kernel
theorem dX4_tryAll_19 : decode cX4_tryAll 19 = .ok (.iload 4, 2) := by decide +kernel
theorem dX4_tryAll_21 : decode cX4_tryAll 21 = .ok (.invokevirtual 73, 3) := by decide +kernel
theorem dX4_tryAll_24 : decode cX4_tryAll 24 = .ok (.iload_n 1, 1) := by decide +kernel
theorem dX4_tryAll_25 : decode cX4_tryAll 25 = .ok (.if_icmp .ne 33, 3) := by decide +kernel
theorem dX4_tryAll_28 : decode cX4_tryAll 28 = .ok (.aload_n 0, 1) := by decide +kernel
theorem dX4_tryAll_29 : decode cX4_tryAll 29 = .ok (.aload_n 0, 1) := by decide +kernel
theorem dX4_tryAll_30 : decode cX4_tryAll 30 = .ok (.getfield 29, 3) := by decide +kernel
theorem dX4_tryAll_33 : decode cX4_tryAll 33 = .ok (.ifCond .ne 8, 3) := by decide +kernel
theorem dX4_tryAll_36 : decode cX4_tryAll 36 = .ok (.iload 4, 2) := by decide +kernel
theorem dX4_tryAll_38 : decode cX4_tryAll 38 = .ok (.goto 7, 3) := by decide +kernel
theorem dX4_tryAll_41 : decode cX4_tryAll 41 = .ok (.aload_n 0, 1) := by decide +kernel
theorem dX4_tryAll_42 : decode cX4_tryAll 42 = .ok (.getfield 25, 3) := by decide +kernel
theorem dX4_tryAll_45 : decode cX4_tryAll 45 = .ok (.putfield 25, 3) := by decide +kernel
theorem dX4_tryAll_48 : decode cX4_tryAll 48 = .ok (.aload_n 0, 1) := by decide +kernel
theorem dX4_tryAll_49 : decode cX4_tryAll 49 = .ok (.dup, 1) := by decide +kernel
theorem dX4_tryAll_50 : decode cX4_tryAll 50 = .ok (.getfield 29, 3) := by decide +kernel
theorem dX4_tryAll_53 : decode cX4_tryAll 53 = .ok (.iconst 1, 1) := by decide +kernel
theorem dX4_tryAll_54 : decode cX4_tryAll 54 = .ok (.iadd, 1) := by decide +kernel
theorem dX4_tryAll_55 : decode cX4_tryAll 55 = .ok (.putfield 29, 3) := by decide +kernel
theorem dX4_tryAll_58 : decode cX4_tryAll 58 = .ok (.iinc 3 1, 3) := by decide +kernel
theorem dX4_tryAll_61 : decode cX4_tryAll 61 = .ok (.goto (-59), 3) := by decide +kernel
theorem dX4_tryAll_64 : decode cX4_tryAll 64 = .ok (.return_, 1) := by decide +kernel
theorem dX4_spelled_0 : decode cX4_spelled 0 = .ok (.iconst 0, 1) := by decide +kernel
theorem dX4_spelled_1 : decode cX4_spelled 1 = .ok (.istore_n 2, 1) := by decide +kernel
theorem dX4_spelled_2 : decode cX4_spelled 2 = .ok (.iconst 0, 1) := by decide +kernel
theorem dX4_spelled_3 : decode cX4_spelled 3 = .ok (.istore_n 3, 1) := by decide +kernel
theorem dX4_spelled_4 : decode cX4_spelled 4 = .ok (.iload_n 3, 1) := by decide +kernel
theorem dX4_spelled_5 : decode cX4_spelled 5 = .ok (.iload_n 1, 1) := by decide +kernel
theorem dX4_spelled_6 : decode cX4_spelled 6 = .ok (.if_icmp .ge 28, 3) := by decide +kernel
theorem dX4_spelled_9 : decode cX4_spelled 9 = .ok (.iload_n 2, 1) := by decide +kernel
theorem dX4_spelled_10 : decode cX4_spelled 10 = .ok (.iload_n 3, 1) := by decide +kernel
theorem dX4_spelled_11 : decode cX4_spelled 11 = .ok (.iload_n 0, 1) := by decide +kernel
theorem dX4_spelled_12 : decode cX4_spelled 12 = .ok (.iconst 2, 1) := by decide +kernel
theorem dX4_spelled_13 : decode cX4_spelled 13 = .ok (.iload_n 1, 1) := by decide +kernel
theorem dX4_spelled_14 : decode cX4_spelled 14 = .ok (.iconst 1, 1) := by decide +kernel
theorem dX4_spelled_15 : decode cX4_spelled 15 = .ok (.isub, 1) := by decide +kernel
theorem dX4_spelled_16 : decode cX4_spelled 16 = .ok (.iload_n 3, 1) := by decide +kernel
theorem dX4_spelled_17 : decode cX4_spelled 17 = .ok (.isub, 1) := by decide +kernel
theorem dX4_spelled_18 : decode cX4_spelled 18 = .ok (.imul, 1) := by decide +kernel
theorem dX4_spelled_19 : decode cX4_spelled 19 = .ok (.ishr, 1) := by decide +kernel
theorem dX4_spelled_20 : decode cX4_spelled 20 = .ok (.iconst 3, 1) := by decide +kernel
theorem dX4_spelled_21 : decode cX4_spelled 21 = .ok (.iand, 1) := by decide +kernel
theorem dX4_spelled_22 : decode cX4_spelled 22 = .ok (.iconst 1, 1) := by decide +kernel
theorem dX4_spelled_23 : decode cX4_spelled 23 = .ok (.iadd, 1) := by decide +kernel
theorem dX4_spelled_24 : decode cX4_spelled 24 = .ok (.invokestatic 76, 3) := by decide +kernel
theorem dX4_spelled_27 : decode cX4_spelled 27 = .ok (.istore_n 2, 1) := by decide +kernel
theorem dX4_spelled_28 : decode cX4_spelled 28 = .ok (.iinc 3 1, 3) := by decide +kernel
theorem dX4_spelled_31 : decode cX4_spelled 31 = .ok (.goto (-27), 3) := by decide +kernel
theorem dX4_spelled_34 : decode cX4_spelled 34 = .ok (.iload_n 2, 1) := by decide +kernel
theorem dX4_spelled_35 : decode cX4_spelled 35 = .ok (.ireturn, 1) := by decide +kernel
theorem dX4_carried_0 : decode cX4_carried 0 = .ok (.iload_n 1, 1) := by decide +kernel
theorem dX4_carried_1 : decode cX4_carried 1 = .ok (.istore_n 2, 1) := by decide +kernel
theorem dX4_carried_2 : decode cX4_carried 2 = .ok (.aload_n 0, 1) := by decide +kernel
theorem dX4_carried_3 : decode cX4_carried 3 = .ok (.getfield 64, 3) := by decide +kernel
theorem dX4_carried_6 : decode cX4_carried 6 = .ok (.iconst 1, 1) := by decide +kernel
theorem dX4_carried_7 : decode cX4_carried 7 = .ok (.isub, 1) := by decide +kernel
theorem dX4_carried_8 : decode cX4_carried 8 = .ok (.istore_n 3, 1) := by decide +kernel
theorem dX4_carried_9 : decode cX4_carried 9 = .ok (.iload_n 3, 1) := by decide +kernel
theorem dX4_carried_10 : decode cX4_carried 10 = .ok (.ifCond .lt 24, 3) := by decide +kernel
theorem dX4_carried_13 : decode cX4_carried 13 = .ok (.aload_n 0, 1) := by decide +kernel
theorem dX4_carried_14 : decode cX4_carried 14 = .ok (.getfield 15, 3) := by decide +kernel
theorem dX4_carried_17 : decode cX4_carried 17 = .ok (.aload_n 0, 1) := by decide +kernel
theorem dX4_carried_18 : decode cX4_carried 18 = .ok (.getfield 9, 3) := by decide +kernel
theorem dX4_carried_21 : decode cX4_carried 21 = .ok (.iload_n 3, 1) := by decide +kernel
theorem dX4_carried_22 : decode cX4_carried 22 = .ok (.iaload, 1) := by decide +kernel
theorem dX4_carried_23 : decode cX4_carried 23 = .ok (.iload_n 2, 1) := by decide +kernel
theorem dX4_carried_24 : decode cX4_carried 24 = .ok (.invokevirtual 80, 3) := by decide +kernel
theorem dX4_carried_27 : decode cX4_carried 27 = .ok (.istore_n 2, 1) := by decide +kernel
theorem dX4_carried_28 : decode cX4_carried 28 = .ok (.iinc 3 (-1), 3) := by decide +kernel
theorem dX4_carried_31 : decode cX4_carried 31 = .ok (.goto (-22), 3) := by decide +kernel
theorem dX4_carried_34 : decode cX4_carried 34 = .ok (.iload_n 2, 1) := by decide +kernel
theorem dX4_carried_35 : decode cX4_carried 35 = .ok (.ireturn, 1) := by decide +kernel
theorem dX5_init_0 : decode cX5_init 0 = .ok (.aload_n 0, 1) := by decide +kernel
theorem dX5_init_1 : decode cX5_init 1 = .ok (.invokespecial 3, 3) := by decide +kernel
theorem dX5_init_4 : decode cX5_init 4 = .ok (.aload_n 0, 1) := by decide +kernel
theorem dX5_init_5 : decode cX5_init 5 = .ok (.bipush 7, 2) := by decide +kernel
theorem dX5_init_7 : decode cX5_init 7 = .ok (.newarray .int, 2) := by decide +kernel
theorem dX5_init_9 : decode cX5_init 9 = .ok (.putfield 9, 3) := by decide +kernel
theorem dX5_init_12 : decode cX5_init 12 = .ok (.aload_n 0, 1) := by decide +kernel
theorem dX5_init_13 : decode cX5_init 13 = .ok (.bipush 7, 2) := by decide +kernel
theorem dX5_init_15 : decode cX5_init 15 = .ok (.newarray .int, 2) := by decide +kernel
theorem dX5_init_17 : decode cX5_init 17 = .ok (.putfield 15, 3) := by decide +kernel
theorem dX5_init_20 : decode cX5_init 20 = .ok (.aload_n 0, 1) := by decide +kernel
theorem dX5_init_21 : decode cX5_init 21 = .ok (.bipush 7, 2) := by decide +kernel
theorem dX5_init_23 : decode cX5_init 23 = .ok (.newarray .int, 2) := by decide +kernel
theorem dX5_init_25 : decode cX5_init 25 = .ok (.putfield 18, 3) := by decide +kernel
theorem dX5_init_28 : decode cX5_init 28 = .ok (.aload_n 0, 1) := by decide +kernel
theorem dX5_init_29 : decode cX5_init 29 = .ok (.bipush 7, 2) := by decide +kernel
theorem dX5_init_31 : decode cX5_init 31 = .ok (.newarray .int, 2) := by decide +kernel
theorem dX5_init_33 : decode cX5_init 33 = .ok (.putfield 21, 3) := by decide +kernel
theorem dX5_init_36 : decode cX5_init 36 = .ok (.aload_n 0, 1) := by decide +kernel
theorem dX5_init_37 : decode cX5_init 37 = .ok (.iconst 4, 1) := by decide +kernel
theorem dX5_init_38 : decode cX5_init 38 = .ok (.newarray .int, 2) := by decide +kernel
theorem dX5_init_40 : decode cX5_init 40 = .ok (.putfield 24, 3) := by decide +kernel
theorem dX5_init_43 : decode cX5_init 43 = .ok (.aload_n 0, 1) := by decide +kernel
theorem dX5_init_44 : decode cX5_init 44 = .ok (.iconst 4, 1) := by decide +kernel
theorem dX5_init_45 : decode cX5_init 45 = .ok (.newarray .int, 2) := by decide +kernel
theorem dX5_init_47 : decode cX5_init 47 = .ok (.putfield 27, 3) := by decide +kernel
theorem dX5_init_50 : decode cX5_init 50 = .ok (.aload_n 0, 1) := by decide +kernel
theorem dX5_init_51 : decode cX5_init 51 = .ok (.bipush 6, 2) := by decide +kernel
theorem dX5_init_53 : decode cX5_init 53 = .ok (.newarray .int, 2) := by decide +kernel
theorem dX5_init_55 : decode cX5_init 55 = .ok (.putfield 30, 3) := by decide +kernel
theorem dX5_init_58 : decode cX5_init 58 = .ok (.aload_n 0, 1) := by decide +kernel
theorem dX5_init_59 : decode cX5_init 59 = .ok (.bipush 6, 2) := by decide +kernel
theorem dX5_init_61 : decode cX5_init 61 = .ok (.newarray .int, 2) := by decide +kernel
theorem dX5_init_63 : decode cX5_init 63 = .ok (.putfield 33, 3) := by decide +kernel
theorem dX5_init_66 : decode cX5_init 66 = .ok (.return_, 1) := by decide +kernel
theorem dX5_clear_0 : decode cX5_clear 0 = .ok (.aload_n 0, 1) := by decide +kernel
theorem dX5_clear_1 : decode cX5_clear 1 = .ok (.iconst 0, 1) := by decide +kernel
theorem dX5_clear_2 : decode cX5_clear 2 = .ok (.putfield 36, 3) := by decide +kernel
theorem dX5_clear_5 : decode cX5_clear 5 = .ok (.aload_n 0, 1) := by decide +kernel
theorem dX5_clear_6 : decode cX5_clear 6 = .ok (.iconst 0, 1) := by decide +kernel
theorem dX5_clear_7 : decode cX5_clear 7 = .ok (.putfield 40, 3) := by decide +kernel
theorem dX5_clear_10 : decode cX5_clear 10 = .ok (.aload_n 0, 1) := by decide +kernel
theorem dX5_clear_11 : decode cX5_clear 11 = .ok (.iconst 0, 1) := by decide +kernel
theorem dX5_clear_12 : decode cX5_clear 12 = .ok (.putfield 43, 3) := by decide +kernel
theorem dX5_clear_15 : decode cX5_clear 15 = .ok (.aload_n 0, 1) := by decide +kernel
theorem dX5_clear_16 : decode cX5_clear 16 = .ok (.iconst 0, 1) := by decide +kernel
theorem dX5_clear_17 : decode cX5_clear 17 = .ok (.putfield 46, 3) := by decide +kernel
theorem dX5_clear_20 : decode cX5_clear 20 = .ok (.aload_n 0, 1) := by decide +kernel
theorem dX5_clear_21 : decode cX5_clear 21 = .ok (.iconst 0, 1) := by decide +kernel
theorem dX5_clear_22 : decode cX5_clear 22 = .ok (.putfield 49, 3) := by decide +kernel
theorem dX5_clear_25 : decode cX5_clear 25 = .ok (.aload_n 0, 1) := by decide +kernel
theorem dX5_clear_26 : decode cX5_clear 26 = .ok (.iconst 0, 1) := by decide +kernel
theorem dX5_clear_27 : decode cX5_clear 27 = .ok (.putfield 52, 3) := by decide +kernel
theorem dX5_clear_30 : decode cX5_clear 30 = .ok (.aload_n 0, 1) := by decide +kernel
theorem dX5_clear_31 : decode cX5_clear 31 = .ok (.iconst 0, 1) := by decide +kernel
theorem dX5_clear_32 : decode cX5_clear 32 = .ok (.putfield 55, 3) := by decide +kernel
theorem dX5_clear_35 : decode cX5_clear 35 = .ok (.aload_n 0, 1) := by decide +kernel
theorem dX5_clear_36 : decode cX5_clear 36 = .ok (.iconst 0, 1) := by decide +kernel
theorem dX5_clear_37 : decode cX5_clear 37 = .ok (.putfield 58, 3) := by decide +kernel
theorem dX5_clear_40 : decode cX5_clear 40 = .ok (.return_, 1) := by decide +kernel
theorem dX5_take_0 : decode cX5_take 0 = .ok (.aload_n 0, 1) := by decide +kernel
theorem dX5_take_1 : decode cX5_take 1 = .ok (.aload_n 1, 1) := by decide +kernel
theorem dX5_take_2 : decode cX5_take 2 = .ok (.getfield 36, 3) := by decide +kernel
theorem dX5_take_5 : decode cX5_take 5 = .ok (.putfield 36, 3) := by decide +kernel
theorem dX5_take_8 : decode cX5_take 8 = .ok (.aload_n 0, 1) := by decide +kernel
theorem dX5_take_9 : decode cX5_take 9 = .ok (.aload_n 1, 1) := by decide +kernel
theorem dX5_take_10 : decode cX5_take 10 = .ok (.getfield 40, 3) := by decide +kernel
theorem dX5_take_13 : decode cX5_take 13 = .ok (.putfield 40, 3) := by decide +kernel
theorem dX5_take_16 : decode cX5_take 16 = .ok (.aload_n 0, 1) := by decide +kernel
theorem dX5_take_17 : decode cX5_take 17 = .ok (.aload_n 1, 1) := by decide +kernel
theorem dX5_take_18 : decode cX5_take 18 = .ok (.getfield 43, 3) := by decide +kernel
theorem dX5_take_21 : decode cX5_take 21 = .ok (.putfield 43, 3) := by decide +kernel
theorem dX5_take_24 : decode cX5_take 24 = .ok (.aload_n 0, 1) := by decide +kernel
theorem dX5_take_25 : decode cX5_take 25 = .ok (.aload_n 1, 1) := by decide +kernel
theorem dX5_take_26 : decode cX5_take 26 = .ok (.getfield 46, 3) := by decide +kernel
theorem dX5_take_29 : decode cX5_take 29 = .ok (.putfield 46, 3) := by decide +kernel
theorem dX5_take_32 : decode cX5_take 32 = .ok (.aload_n 0, 1) := by decide +kernel
theorem dX5_take_33 : decode cX5_take 33 = .ok (.aload_n 1, 1) := by decide +kernel
theorem dX5_take_34 : decode cX5_take 34 = .ok (.getfield 49, 3) := by decide +kernel
theorem dX5_take_37 : decode cX5_take 37 = .ok (.putfield 49, 3) := by decide +kernel
theorem dX5_take_40 : decode cX5_take 40 = .ok (.aload_n 0, 1) := by decide +kernel
theorem dX5_take_41 : decode cX5_take 41 = .ok (.aload_n 1, 1) := by decide +kernel
theorem dX5_take_42 : decode cX5_take 42 = .ok (.getfield 52, 3) := by decide +kernel
theorem dX5_take_45 : decode cX5_take 45 = .ok (.putfield 52, 3) := by decide +kernel
theorem dX5_take_48 : decode cX5_take 48 = .ok (.aload_n 0, 1) := by decide +kernel
theorem dX5_take_49 : decode cX5_take 49 = .ok (.aload_n 1, 1) := by decide +kernel
theorem dX5_take_50 : decode cX5_take 50 = .ok (.getfield 55, 3) := by decide +kernel
theorem dX5_take_53 : decode cX5_take 53 = .ok (.putfield 55, 3) := by decide +kernel
theorem dX5_take_56 : decode cX5_take 56 = .ok (.aload_n 0, 1) := by decide +kernel
theorem dX5_take_57 : decode cX5_take 57 = .ok (.aload_n 1, 1) := by decide +kernel
theorem dX5_take_58 : decode cX5_take 58 = .ok (.getfield 58, 3) := by decide +kernel
theorem dX5_take_61 : decode cX5_take 61 = .ok (.putfield 58, 3) := by decide +kernel
theorem dX5_take_64 : decode cX5_take 64 = .ok (.aload_n 1, 1) := by decide +kernel
theorem dX5_take_65 : decode cX5_take 65 = .ok (.getfield 9, 3) := by decide +kernel
theorem dX5_take_68 : decode cX5_take 68 = .ok (.iconst 0, 1) := by decide +kernel
theorem dX5_take_69 : decode cX5_take 69 = .ok (.aload_n 0, 1) := by decide +kernel
theorem dX5_take_70 : decode cX5_take 70 = .ok (.getfield 9, 3) := by decide +kernel
theorem dX5_take_73 : decode cX5_take 73 = .ok (.iconst 0, 1) := by decide +kernel
theorem dX5_take_74 : decode cX5_take 74 = .ok (.bipush 7, 2) := by decide +kernel
theorem dX5_take_76 : decode cX5_take 76 = .ok (.invokestatic 61, 3) := by decide +kernel
theorem dX5_take_79 : decode cX5_take 79 = .ok (.aload_n 1, 1) := by decide +kernel
theorem dX5_take_80 : decode cX5_take 80 = .ok (.getfield 15, 3) := by decide +kernel
theorem dX5_take_83 : decode cX5_take 83 = .ok (.iconst 0, 1) := by decide +kernel
theorem dX5_take_84 : decode cX5_take 84 = .ok (.aload_n 0, 1) := by decide +kernel
theorem dX5_take_85 : decode cX5_take 85 = .ok (.getfield 15, 3) := by decide +kernel
theorem dX5_take_88 : decode cX5_take 88 = .ok (.iconst 0, 1) := by decide +kernel
theorem dX5_take_89 : decode cX5_take 89 = .ok (.bipush 7, 2) := by decide +kernel
theorem dX5_take_91 : decode cX5_take 91 = .ok (.invokestatic 61, 3) := by decide +kernel
theorem dX5_take_94 : decode cX5_take 94 = .ok (.aload_n 1, 1) := by decide +kernel
theorem dX5_take_95 : decode cX5_take 95 = .ok (.getfield 18, 3) := by decide +kernel
theorem dX5_take_98 : decode cX5_take 98 = .ok (.iconst 0, 1) := by decide +kernel
theorem dX5_take_99 : decode cX5_take 99 = .ok (.aload_n 0, 1) := by decide +kernel
theorem dX5_take_100 : decode cX5_take 100 = .ok (.getfield 18, 3) := by decide +kernel
theorem dX5_take_103 : decode cX5_take 103 = .ok (.iconst 0, 1) := by decide +kernel
theorem dX5_take_104 : decode cX5_take 104 = .ok (.bipush 7, 2) := by decide +kernel
theorem dX5_take_106 : decode cX5_take 106 = .ok (.invokestatic 61, 3) := by decide +kernel
theorem dX5_take_109 : decode cX5_take 109 = .ok (.aload_n 1, 1) := by decide +kernel
theorem dX5_take_110 : decode cX5_take 110 = .ok (.getfield 21, 3) := by decide +kernel
theorem dX5_take_113 : decode cX5_take 113 = .ok (.iconst 0, 1) := by decide +kernel
theorem dX5_take_114 : decode cX5_take 114 = .ok (.aload_n 0, 1) := by decide +kernel
theorem dX5_take_115 : decode cX5_take 115 = .ok (.getfield 21, 3) := by decide +kernel
theorem dX5_take_118 : decode cX5_take 118 = .ok (.iconst 0, 1) := by decide +kernel
theorem dX5_take_119 : decode cX5_take 119 = .ok (.bipush 7, 2) := by decide +kernel
theorem dX5_take_121 : decode cX5_take 121 = .ok (.invokestatic 61, 3) := by decide +kernel
theorem dX5_take_124 : decode cX5_take 124 = .ok (.aload_n 1, 1) := by decide +kernel
theorem dX5_take_125 : decode cX5_take 125 = .ok (.getfield 24, 3) := by decide +kernel
theorem dX5_take_128 : decode cX5_take 128 = .ok (.iconst 0, 1) := by decide +kernel
theorem dX5_take_129 : decode cX5_take 129 = .ok (.aload_n 0, 1) := by decide +kernel
theorem dX5_take_130 : decode cX5_take 130 = .ok (.getfield 24, 3) := by decide +kernel
theorem dX5_take_133 : decode cX5_take 133 = .ok (.iconst 0, 1) := by decide +kernel
theorem dX5_take_134 : decode cX5_take 134 = .ok (.iconst 4, 1) := by decide +kernel
theorem dX5_take_135 : decode cX5_take 135 = .ok (.invokestatic 61, 3) := by decide +kernel
theorem dX5_take_138 : decode cX5_take 138 = .ok (.aload_n 1, 1) := by decide +kernel
theorem dX5_take_139 : decode cX5_take 139 = .ok (.getfield 27, 3) := by decide +kernel
theorem dX5_take_142 : decode cX5_take 142 = .ok (.iconst 0, 1) := by decide +kernel
theorem dX5_take_143 : decode cX5_take 143 = .ok (.aload_n 0, 1) := by decide +kernel
theorem dX5_take_144 : decode cX5_take 144 = .ok (.getfield 27, 3) := by decide +kernel
theorem dX5_take_147 : decode cX5_take 147 = .ok (.iconst 0, 1) := by decide +kernel
theorem dX5_take_148 : decode cX5_take 148 = .ok (.iconst 4, 1) := by decide +kernel
theorem dX5_take_149 : decode cX5_take 149 = .ok (.invokestatic 61, 3) := by decide +kernel
theorem dX5_take_152 : decode cX5_take 152 = .ok (.aload_n 1, 1) := by decide +kernel
theorem dX5_take_153 : decode cX5_take 153 = .ok (.getfield 30, 3) := by decide +kernel
theorem dX5_take_156 : decode cX5_take 156 = .ok (.iconst 0, 1) := by decide +kernel
theorem dX5_take_157 : decode cX5_take 157 = .ok (.aload_n 0, 1) := by decide +kernel
theorem dX5_take_158 : decode cX5_take 158 = .ok (.getfield 30, 3) := by decide +kernel
theorem dX5_take_161 : decode cX5_take 161 = .ok (.iconst 0, 1) := by decide +kernel
theorem dX5_take_162 : decode cX5_take 162 = .ok (.bipush 6, 2) := by decide +kernel
theorem dX5_take_164 : decode cX5_take 164 = .ok (.invokestatic 61, 3) := by decide +kernel
theorem dX5_take_167 : decode cX5_take 167 = .ok (.aload_n 1, 1) := by decide +kernel
theorem dX5_take_168 : decode cX5_take 168 = .ok (.getfield 33, 3) := by decide +kernel
theorem dX5_take_171 : decode cX5_take 171 = .ok (.iconst 0, 1) := by decide +kernel
theorem dX5_take_172 : decode cX5_take 172 = .ok (.aload_n 0, 1) := by decide +kernel
theorem dX5_take_173 : decode cX5_take 173 = .ok (.getfield 33, 3) := by decide +kernel
theorem dX5_take_176 : decode cX5_take 176 = .ok (.iconst 0, 1) := by decide +kernel
theorem dX5_take_177 : decode cX5_take 177 = .ok (.bipush 6, 2) := by decide +kernel
theorem dX5_take_179 : decode cX5_take 179 = .ok (.invokestatic 61, 3) := by decide +kernel
theorem dX5_take_182 : decode cX5_take 182 = .ok (.return_, 1) := by decide +kernel
theorem dX5_addPew_0 : decode cX5_addPew 0 = .ok (.aload_n 0, 1) := by decide +kernel
theorem dX5_addPew_1 : decode cX5_addPew 1 = .ok (.getfield 21, 3) := by decide +kernel
theorem dX5_addPew_4 : decode cX5_addPew 4 = .ok (.aload_n 0, 1) := by decide +kernel
theorem dX5_addPew_5 : decode cX5_addPew 5 = .ok (.getfield 49, 3) := by decide +kernel
theorem dX5_addPew_8 : decode cX5_addPew 8 = .ok (.iconst 0, 1) := by decide +kernel
theorem dX5_addPew_9 : decode cX5_addPew 9 = .ok (.iastore, 1) := by decide +kernel
theorem dX5_addPew_10 : decode cX5_addPew 10 = .ok (.aload_n 0, 1) := by decide +kernel
theorem dX5_addPew_11 : decode cX5_addPew 11 = .ok (.aload_n 0, 1) := by decide +kernel
theorem dX5_addPew_12 : decode cX5_addPew 12 = .ok (.getfield 49, 3) := by decide +kernel
theorem dX5_addPew_15 : decode cX5_addPew 15 = .ok (.iload_n 1, 1) := by decide +kernel
theorem dX5_addPew_16 : decode cX5_addPew 16 = .ok (.iload_n 2, 1) := by decide +kernel
theorem dX5_addPew_17 : decode cX5_addPew 17 = .ok (.iload_n 3, 1) := by decide +kernel
theorem dX5_addPew_18 : decode cX5_addPew 18 = .ok (.invokevirtual 67, 3) := by decide +kernel
theorem dX5_addPew_21 : decode cX5_addPew 21 = .ok (.aload_n 0, 1) := by decide +kernel
theorem dX5_addPew_22 : decode cX5_addPew 22 = .ok (.dup, 1) := by decide +kernel
theorem dX5_addPew_23 : decode cX5_addPew 23 = .ok (.getfield 49, 3) := by decide +kernel
theorem dX5_addPew_26 : decode cX5_addPew 26 = .ok (.iconst 1, 1) := by decide +kernel
theorem dX5_addPew_27 : decode cX5_addPew 27 = .ok (.iadd, 1) := by decide +kernel
theorem dX5_addPew_28 : decode cX5_addPew 28 = .ok (.putfield 49, 3) := by decide +kernel
theorem dX5_addPew_31 : decode cX5_addPew 31 = .ok (.return_, 1) := by decide +kernel
theorem dX5_setRule_0 : decode cX5_setRule 0 = .ok (.aload_n 0, 1) := by decide +kernel
theorem dX5_setRule_1 : decode cX5_setRule 1 = .ok (.getfield 9, 3) := by decide +kernel
theorem dX5_setRule_4 : decode cX5_setRule 4 = .ok (.iload_n 1, 1) := by decide +kernel
theorem dX5_setRule_5 : decode cX5_setRule 5 = .ok (.iload_n 2, 1) := by decide +kernel
theorem dX5_setRule_6 : decode cX5_setRule 6 = .ok (.iastore, 1) := by decide +kernel
theorem dX5_setRule_7 : decode cX5_setRule 7 = .ok (.aload_n 0, 1) := by decide +kernel
theorem dX5_setRule_8 : decode cX5_setRule 8 = .ok (.getfield 15, 3) := by decide +kernel
theorem dX5_setRule_11 : decode cX5_setRule 11 = .ok (.iload_n 1, 1) := by decide +kernel
theorem dX5_setRule_12 : decode cX5_setRule 12 = .ok (.iload_n 3, 1) := by decide +kernel
theorem dX5_setRule_13 : decode cX5_setRule 13 = .ok (.iastore, 1) := by decide +kernel
theorem dX5_setRule_14 : decode cX5_setRule 14 = .ok (.aload_n 0, 1) := by decide +kernel
theorem dX5_setRule_15 : decode cX5_setRule 15 = .ok (.getfield 18, 3) := by decide +kernel
theorem dX5_setRule_18 : decode cX5_setRule 18 = .ok (.iload_n 1, 1) := by decide +kernel
theorem dX5_setRule_19 : decode cX5_setRule 19 = .ok (.iload 4, 2) := by decide +kernel
theorem dX5_setRule_21 : decode cX5_setRule 21 = .ok (.iastore, 1) := by decide +kernel
theorem dX5_setRule_22 : decode cX5_setRule 22 = .ok (.return_, 1) := by decide +kernel
theorem dX5_addAisle_0 : decode cX5_addAisle 0 = .ok (.aload_n 0, 1) := by decide +kernel
theorem dX5_addAisle_1 : decode cX5_addAisle 1 = .ok (.getfield 21, 3) := by decide +kernel
theorem dX5_addAisle_4 : decode cX5_addAisle 4 = .ok (.iload_n 1, 1) := by decide +kernel
theorem dX5_addAisle_5 : decode cX5_addAisle 5 = .ok (.dup2, 1) := by decide +kernel
theorem dX5_addAisle_6 : decode cX5_addAisle 6 = .ok (.iaload, 1) := by decide +kernel
theorem dX5_addAisle_7 : decode cX5_addAisle 7 = .ok (.iconst 1, 1) := by decide +kernel
theorem dX5_addAisle_8 : decode cX5_addAisle 8 = .ok (.iload_n 2, 1) := by decide +kernel
theorem dX5_addAisle_9 : decode cX5_addAisle 9 = .ok (.ishl, 1) := by decide +kernel
theorem dX5_addAisle_10 : decode cX5_addAisle 10 = .ok (.ior, 1) := by decide +kernel
theorem dX5_addAisle_11 : decode cX5_addAisle 11 = .ok (.iastore, 1) := by decide +kernel
theorem dX5_addAisle_12 : decode cX5_addAisle 12 = .ok (.aload_n 0, 1) := by decide +kernel
theorem dX5_addAisle_13 : decode cX5_addAisle 13 = .ok (.getfield 21, 3) := by decide +kernel
theorem dX5_addAisle_16 : decode cX5_addAisle 16 = .ok (.iload_n 2, 1) := by decide +kernel
theorem dX5_addAisle_17 : decode cX5_addAisle 17 = .ok (.dup2, 1) := by decide +kernel
theorem dX5_addAisle_18 : decode cX5_addAisle 18 = .ok (.iaload, 1) := by decide +kernel
theorem dX5_addAisle_19 : decode cX5_addAisle 19 = .ok (.iconst 1, 1) := by decide +kernel
theorem dX5_addAisle_20 : decode cX5_addAisle 20 = .ok (.iload_n 1, 1) := by decide +kernel
theorem dX5_addAisle_21 : decode cX5_addAisle 21 = .ok (.ishl, 1) := by decide +kernel
theorem dX5_addAisle_22 : decode cX5_addAisle 22 = .ok (.ior, 1) := by decide +kernel
theorem dX5_addAisle_23 : decode cX5_addAisle 23 = .ok (.iastore, 1) := by decide +kernel
theorem dX5_addAisle_24 : decode cX5_addAisle 24 = .ok (.aload_n 0, 1) := by decide +kernel
theorem dX5_addAisle_25 : decode cX5_addAisle 25 = .ok (.dup, 1) := by decide +kernel
theorem dX5_addAisle_26 : decode cX5_addAisle 26 = .ok (.getfield 52, 3) := by decide +kernel
theorem dX5_addAisle_29 : decode cX5_addAisle 29 = .ok (.iconst 1, 1) := by decide +kernel
theorem dX5_addAisle_30 : decode cX5_addAisle 30 = .ok (.iadd, 1) := by decide +kernel
theorem dX5_addAisle_31 : decode cX5_addAisle 31 = .ok (.putfield 52, 3) := by decide +kernel
theorem dX5_addAisle_34 : decode cX5_addAisle 34 = .ok (.return_, 1) := by decide +kernel
theorem dX5_addLight_0 : decode cX5_addLight 0 = .ok (.aload_n 0, 1) := by decide +kernel
theorem dX5_addLight_1 : decode cX5_addLight 1 = .ok (.getfield 24, 3) := by decide +kernel
theorem dX5_addLight_4 : decode cX5_addLight 4 = .ok (.aload_n 0, 1) := by decide +kernel
theorem dX5_addLight_5 : decode cX5_addLight 5 = .ok (.getfield 55, 3) := by decide +kernel
theorem dX5_addLight_8 : decode cX5_addLight 8 = .ok (.iload_n 1, 1) := by decide +kernel
theorem dX5_addLight_9 : decode cX5_addLight 9 = .ok (.iastore, 1) := by decide +kernel
theorem dX5_addLight_10 : decode cX5_addLight 10 = .ok (.aload_n 0, 1) := by decide +kernel
theorem dX5_addLight_11 : decode cX5_addLight 11 = .ok (.getfield 27, 3) := by decide +kernel
theorem dX5_addLight_14 : decode cX5_addLight 14 = .ok (.aload_n 0, 1) := by decide +kernel
theorem dX5_addLight_15 : decode cX5_addLight 15 = .ok (.getfield 55, 3) := by decide +kernel
theorem dX5_addLight_18 : decode cX5_addLight 18 = .ok (.iload_n 2, 1) := by decide +kernel
theorem dX5_addLight_19 : decode cX5_addLight 19 = .ok (.iastore, 1) := by decide +kernel
theorem dX5_addLight_20 : decode cX5_addLight 20 = .ok (.aload_n 0, 1) := by decide +kernel
theorem dX5_addLight_21 : decode cX5_addLight 21 = .ok (.dup, 1) := by decide +kernel
theorem dX5_addLight_22 : decode cX5_addLight 22 = .ok (.getfield 55, 3) := by decide +kernel
theorem dX5_addLight_25 : decode cX5_addLight 25 = .ok (.iconst 1, 1) := by decide +kernel
theorem dX5_addLight_26 : decode cX5_addLight 26 = .ok (.iadd, 1) := by decide +kernel
theorem dX5_addLight_27 : decode cX5_addLight 27 = .ok (.putfield 55, 3) := by decide +kernel
theorem dX5_addLight_30 : decode cX5_addLight 30 = .ok (.return_, 1) := by decide +kernel
theorem dX5_addDraught_0 : decode cX5_addDraught 0 = .ok (.aload_n 0, 1) := by decide +kernel
theorem dX5_addDraught_1 : decode cX5_addDraught 1 = .ok (.getfield 30, 3) := by decide +kernel
theorem dX5_addDraught_4 : decode cX5_addDraught 4 = .ok (.aload_n 0, 1) := by decide +kernel
theorem dX5_addDraught_5 : decode cX5_addDraught 5 = .ok (.getfield 58, 3) := by decide +kernel
theorem dX5_addDraught_8 : decode cX5_addDraught 8 = .ok (.iload_n 1, 1) := by decide +kernel
theorem dX5_addDraught_9 : decode cX5_addDraught 9 = .ok (.iastore, 1) := by decide +kernel
theorem dX5_addDraught_10 : decode cX5_addDraught 10 = .ok (.aload_n 0, 1) := by decide +kernel
theorem dX5_addDraught_11 : decode cX5_addDraught 11 = .ok (.getfield 33, 3) := by decide +kernel
theorem dX5_addDraught_14 : decode cX5_addDraught 14 = .ok (.aload_n 0, 1) := by decide +kernel
theorem dX5_addDraught_15 : decode cX5_addDraught 15 = .ok (.getfield 58, 3) := by decide +kernel
theorem dX5_addDraught_18 : decode cX5_addDraught 18 = .ok (.iload_n 2, 1) := by decide +kernel
theorem dX5_addDraught_19 : decode cX5_addDraught 19 = .ok (.iastore, 1) := by decide +kernel
theorem dX5_addDraught_20 : decode cX5_addDraught 20 = .ok (.aload_n 0, 1) := by decide +kernel
theorem dX5_addDraught_21 : decode cX5_addDraught 21 = .ok (.dup, 1) := by decide +kernel
theorem dX5_addDraught_22 : decode cX5_addDraught 22 = .ok (.getfield 58, 3) := by decide +kernel
theorem dX5_addDraught_25 : decode cX5_addDraught 25 = .ok (.iconst 1, 1) := by decide +kernel
theorem dX5_addDraught_26 : decode cX5_addDraught 26 = .ok (.iadd, 1) := by decide +kernel
theorem dX5_addDraught_27 : decode cX5_addDraught 27 = .ok (.putfield 58, 3) := by decide +kernel
theorem dX5_addDraught_30 : decode cX5_addDraught 30 = .ok (.return_, 1) := by decide +kernel
theorem dX5_allPews_0 : decode cX5_allPews 0 = .ok (.iconst 1, 1) := by decide +kernel
theorem dX5_allPews_1 : decode cX5_allPews 1 = .ok (.aload_n 0, 1) := by decide +kernel
theorem dX5_allPews_2 : decode cX5_allPews 2 = .ok (.getfield 49, 3) := by decide +kernel
theorem dX5_allPews_5 : decode cX5_allPews 5 = .ok (.ishl, 1) := by decide +kernel
theorem dX5_allPews_6 : decode cX5_allPews 6 = .ok (.iconst 1, 1) := by decide +kernel
theorem dX5_allPews_7 : decode cX5_allPews 7 = .ok (.isub, 1) := by decide +kernel
theorem dX5_allPews_8 : decode cX5_allPews 8 = .ok (.ireturn, 1) := by decide +kernel
theorem dX5_nearAny_0 : decode cX5_nearAny 0 = .ok (.iconst 0, 1) := by decide +kernel
theorem dX5_nearAny_1 : decode cX5_nearAny 1 = .ok (.istore_n 2, 1) := by decide +kernel
theorem dX5_nearAny_2 : decode cX5_nearAny 2 = .ok (.iconst 0, 1) := by decide +kernel
theorem dX5_nearAny_3 : decode cX5_nearAny 3 = .ok (.istore_n 3, 1) := by decide +kernel
theorem dX5_nearAny_4 : decode cX5_nearAny 4 = .ok (.iload_n 3, 1) := by decide +kernel
theorem dX5_nearAny_5 : decode cX5_nearAny 5 = .ok (.aload_n 0, 1) := by decide +kernel
theorem dX5_nearAny_6 : decode cX5_nearAny 6 = .ok (.getfield 49, 3) := by decide +kernel
theorem dX5_nearAny_9 : decode cX5_nearAny 9 = .ok (.if_icmp .ge 26, 3) := by decide +kernel
theorem dX5_nearAny_12 : decode cX5_nearAny 12 = .ok (.iload_n 1, 1) := by decide +kernel
theorem dX5_nearAny_13 : decode cX5_nearAny 13 = .ok (.iload_n 3, 1) := by decide +kernel
theorem dX5_nearAny_14 : decode cX5_nearAny 14 = .ok (.ishr, 1) := by decide +kernel
theorem dX5_nearAny_15 : decode cX5_nearAny 15 = .ok (.iconst 1, 1) := by decide +kernel
theorem dX5_nearAny_16 : decode cX5_nearAny 16 = .ok (.iand, 1) := by decide +kernel
theorem dX5_nearAny_17 : decode cX5_nearAny 17 = .ok (.ifCond .eq 12, 3) := by decide +kernel
theorem dX5_nearAny_20 : decode cX5_nearAny 20 = .ok (.iload_n 2, 1) := by decide +kernel
theorem dX5_nearAny_21 : decode cX5_nearAny 21 = .ok (.aload_n 0, 1) := by decide +kernel
theorem dX5_nearAny_22 : decode cX5_nearAny 22 = .ok (.getfield 21, 3) := by decide +kernel
theorem dX5_nearAny_25 : decode cX5_nearAny 25 = .ok (.iload_n 3, 1) := by decide +kernel
theorem dX5_nearAny_26 : decode cX5_nearAny 26 = .ok (.iaload, 1) := by decide +kernel
theorem dX5_nearAny_27 : decode cX5_nearAny 27 = .ok (.ior, 1) := by decide +kernel
theorem dX5_nearAny_28 : decode cX5_nearAny 28 = .ok (.istore_n 2, 1) := by decide +kernel
theorem dX5_nearAny_29 : decode cX5_nearAny 29 = .ok (.iinc 3 1, 3) := by decide +kernel
theorem dX5_nearAny_32 : decode cX5_nearAny 32 = .ok (.goto (-28), 3) := by decide +kernel
theorem dX5_nearAny_35 : decode cX5_nearAny 35 = .ok (.iload_n 2, 1) := by decide +kernel
theorem dX5_nearAny_36 : decode cX5_nearAny 36 = .ok (.ireturn, 1) := by decide +kernel
theorem dX5_heardBy_0 : decode cX5_heardBy 0 = .ok (.iload_n 2, 1) := by decide +kernel
theorem dX5_heardBy_1 : decode cX5_heardBy 1 = .ok (.invokestatic 71, 3) := by decide +kernel
theorem dX5_heardBy_4 : decode cX5_heardBy 4 = .ok (.istore_n 3, 1) := by decide +kernel
theorem dX5_heardBy_5 : decode cX5_heardBy 5 = .ok (.iload_n 3, 1) := by decide +kernel
theorem dX5_heardBy_6 : decode cX5_heardBy 6 = .ok (.ifCond .ne 5, 3) := by decide +kernel
theorem dX5_heardBy_9 : decode cX5_heardBy 9 = .ok (.iconst 0, 1) := by decide +kernel
theorem dX5_heardBy_10 : decode cX5_heardBy 10 = .ok (.ireturn, 1) := by decide +kernel
theorem dX5_heardBy_11 : decode cX5_heardBy 11 = .ok (.aload_n 0, 1) := by decide +kernel
theorem dX5_heardBy_12 : decode cX5_heardBy 12 = .ok (.getfield 9, 3) := by decide +kernel
theorem dX5_heardBy_15 : decode cX5_heardBy 15 = .ok (.iload_n 1, 1) := by decide +kernel
theorem dX5_heardBy_16 : decode cX5_heardBy 16 = .ok (.iaload, 1) := by decide +kernel
theorem dX5_heardBy_17 : decode cX5_heardBy 17 = .ok (.tableswitch 84 1 4 #[31, 36, 45, 67], 31) := by decide +kernel
theorem dX5_heardBy_48 : decode cX5_heardBy 48 = .ok (.iload_n 2, 1) := by decide +kernel
theorem dX5_heardBy_49 : decode cX5_heardBy 49 = .ok (.invokestatic 77, 3) := by decide +kernel
theorem dX5_heardBy_52 : decode cX5_heardBy 52 = .ok (.ireturn, 1) := by decide +kernel
theorem dX5_heardBy_53 : decode cX5_heardBy 53 = .ok (.iload_n 2, 1) := by decide +kernel
theorem dX5_heardBy_54 : decode cX5_heardBy 54 = .ok (.iload_n 3, 1) := by decide +kernel
theorem dX5_heardBy_55 : decode cX5_heardBy 55 = .ok (.iconst 1, 1) := by decide +kernel
theorem dX5_heardBy_56 : decode cX5_heardBy 56 = .ok (.isub, 1) := by decide +kernel
theorem dX5_heardBy_57 : decode cX5_heardBy 57 = .ok (.iconst 0, 1) := by decide +kernel
theorem dX5_heardBy_58 : decode cX5_heardBy 58 = .ok (.invokestatic 80, 3) := by decide +kernel
theorem dX5_heardBy_61 : decode cX5_heardBy 61 = .ok (.ireturn, 1) := by decide +kernel
theorem dX5_heardBy_62 : decode cX5_heardBy 62 = .ok (.iload_n 3, 1) := by decide +kernel
theorem dX5_heardBy_63 : decode cX5_heardBy 63 = .ok (.bipush 6, 2) := by decide +kernel
theorem dX5_heardBy_65 : decode cX5_heardBy 65 = .ok (.if_icmp .ne 7, 3) := by decide +kernel
theorem dX5_heardBy_68 : decode cX5_heardBy 68 = .ok (.iload_n 2, 1) := by decide +kernel
theorem dX5_heardBy_69 : decode cX5_heardBy 69 = .ok (.goto 14, 3) := by decide +kernel
theorem dX5_heardBy_72 : decode cX5_heardBy 72 = .ok (.iload_n 2, 1) := by decide +kernel
theorem dX5_heardBy_73 : decode cX5_heardBy 73 = .ok (.iload_n 3, 1) := by decide +kernel
theorem dX5_heardBy_74 : decode cX5_heardBy 74 = .ok (.aload_n 0, 1) := by decide +kernel
theorem dX5_heardBy_75 : decode cX5_heardBy 75 = .ok (.getfield 15, 3) := by decide +kernel
theorem dX5_heardBy_78 : decode cX5_heardBy 78 = .ok (.iload_n 1, 1) := by decide +kernel
theorem dX5_heardBy_79 : decode cX5_heardBy 79 = .ok (.iaload, 1) := by decide +kernel
theorem dX5_heardBy_80 : decode cX5_heardBy 80 = .ok (.invokestatic 80, 3) := by decide +kernel
theorem dX5_heardBy_83 : decode cX5_heardBy 83 = .ok (.ireturn, 1) := by decide +kernel
theorem dX5_heardBy_84 : decode cX5_heardBy 84 = .ok (.iload_n 2, 1) := by decide +kernel
theorem dX5_heardBy_85 : decode cX5_heardBy 85 = .ok (.aload_n 0, 1) := by decide +kernel
theorem dX5_heardBy_86 : decode cX5_heardBy 86 = .ok (.getfield 15, 3) := by decide +kernel
theorem dX5_heardBy_89 : decode cX5_heardBy 89 = .ok (.iload_n 1, 1) := by decide +kernel
theorem dX5_heardBy_90 : decode cX5_heardBy 90 = .ok (.iaload, 1) := by decide +kernel
theorem dX5_heardBy_91 : decode cX5_heardBy 91 = .ok (.aload_n 0, 1) := by decide +kernel
theorem dX5_heardBy_92 : decode cX5_heardBy 92 = .ok (.getfield 18, 3) := by decide +kernel
theorem dX5_heardBy_95 : decode cX5_heardBy 95 = .ok (.iload_n 1, 1) := by decide +kernel
theorem dX5_heardBy_96 : decode cX5_heardBy 96 = .ok (.iaload, 1) := by decide +kernel
theorem dX5_heardBy_97 : decode cX5_heardBy 97 = .ok (.invokestatic 84, 3) := by decide +kernel
theorem dX5_heardBy_100 : decode cX5_heardBy 100 = .ok (.ireturn, 1) := by decide +kernel
theorem dX5_heardBy_101 : decode cX5_heardBy 101 = .ok (.iload_n 2, 1) := by decide +kernel
theorem dX5_heardBy_102 : decode cX5_heardBy 102 = .ok (.ireturn, 1) := by decide +kernel
theorem dX6_init_0 : decode cX6_init 0 = .ok (.aload_n 0, 1) := by decide +kernel
theorem dX6_init_1 : decode cX6_init 1 = .ok (.invokespecial 3, 3) := by decide +kernel
theorem dX6_init_4 : decode cX6_init 4 = .ok (.aload_n 0, 1) := by decide +kernel
theorem dX6_init_5 : decode cX6_init 5 = .ok (.new 9, 3) := by decide +kernel
theorem dX6_init_8 : decode cX6_init 8 = .ok (.dup, 1) := by decide +kernel
theorem dX6_init_9 : decode cX6_init 9 = .ok (.invokespecial 11, 3) := by decide +kernel
theorem dX6_init_12 : decode cX6_init 12 = .ok (.putfield 12, 3) := by decide +kernel
theorem dX6_init_15 : decode cX6_init 15 = .ok (.aload_n 0, 1) := by decide +kernel
theorem dX6_init_16 : decode cX6_init 16 = .ok (.aload_n 1, 1) := by decide +kernel
theorem dX6_init_17 : decode cX6_init 17 = .ok (.putfield 18, 3) := by decide +kernel
theorem dX6_init_20 : decode cX6_init 20 = .ok (.return_, 1) := by decide +kernel
theorem dX6_read_0 : decode cX6_read 0 = .ok (.aload_n 0, 1) := by decide +kernel
theorem dX6_read_1 : decode cX6_read 1 = .ok (.iload_n 1, 1) := by decide +kernel
theorem dX6_read_2 : decode cX6_read 2 = .ok (.putfield 22, 3) := by decide +kernel
theorem dX6_read_5 : decode cX6_read 5 = .ok (.aload_n 0, 1) := by decide +kernel
theorem dX6_read_6 : decode cX6_read 6 = .ok (.iconst 0, 1) := by decide +kernel
theorem dX6_read_7 : decode cX6_read 7 = .ok (.putfield 26, 3) := by decide +kernel
theorem dX6_read_10 : decode cX6_read 10 = .ok (.aload_n 0, 1) := by decide +kernel
theorem dX6_read_11 : decode cX6_read 11 = .ok (.iconst 0, 1) := by decide +kernel
theorem dX6_read_12 : decode cX6_read 12 = .ok (.putfield 29, 3) := by decide +kernel
theorem dX6_read_15 : decode cX6_read 15 = .ok (.aload_n 0, 1) := by decide +kernel
theorem dX6_read_16 : decode cX6_read 16 = .ok (.iconst (-1), 1) := by decide +kernel
theorem dX6_read_17 : decode cX6_read 17 = .ok (.putfield 32, 3) := by decide +kernel
theorem dX6_read_20 : decode cX6_read 20 = .ok (.aload_n 0, 1) := by decide +kernel
theorem dX6_read_21 : decode cX6_read 21 = .ok (.getfield 12, 3) := by decide +kernel
theorem dX6_read_24 : decode cX6_read 24 = .ok (.invokevirtual 35, 3) := by decide +kernel
theorem dX6_read_27 : decode cX6_read 27 = .ok (.aload_n 0, 1) := by decide +kernel
theorem dX6_read_28 : decode cX6_read 28 = .ok (.invokevirtual 38, 3) := by decide +kernel
theorem dX6_read_31 : decode cX6_read 31 = .ok (.iconst 0, 1) := by decide +kernel
theorem dX6_read_32 : decode cX6_read 32 = .ok (.istore_n 2, 1) := by decide +kernel
theorem dX6_read_33 : decode cX6_read 33 = .ok (.iload_n 2, 1) := by decide +kernel
theorem dX6_read_34 : decode cX6_read 34 = .ok (.sipush 600, 3) := by decide +kernel
theorem dX6_read_37 : decode cX6_read 37 = .ok (.if_icmp .ge 27, 3) := by decide +kernel
theorem dX6_read_40 : decode cX6_read 40 = .ok (.aload_n 0, 1) := by decide +kernel
theorem dX6_read_41 : decode cX6_read 41 = .ok (.getfield 29, 3) := by decide +kernel
theorem dX6_read_44 : decode cX6_read 44 = .ok (.ifCond .ne 20, 3) := by decide +kernel
theorem dX6_read_47 : decode cX6_read 47 = .ok (.aload_n 0, 1) := by decide +kernel
theorem dX6_read_48 : decode cX6_read 48 = .ok (.getfield 41, 3) := by decide +kernel
theorem dX6_read_51 : decode cX6_read 51 = .ok (.ifCond .eq 13, 3) := by decide +kernel
theorem dX6_read_54 : decode cX6_read 54 = .ok (.aload_n 0, 1) := by decide +kernel
theorem dX6_read_55 : decode cX6_read 55 = .ok (.invokevirtual 44, 3) := by decide +kernel
theorem dX6_read_58 : decode cX6_read 58 = .ok (.iinc 2 1, 3) := by decide +kernel
theorem dX6_read_61 : decode cX6_read 61 = .ok (.goto (-28), 3) := by decide +kernel
theorem dX6_read_64 : decode cX6_read 64 = .ok (.aload_n 0, 1) := by decide +kernel
theorem dX6_read_65 : decode cX6_read 65 = .ok (.getfield 12, 3) := by decide +kernel
theorem dX6_read_68 : decode cX6_read 68 = .ok (.areturn, 1) := by decide +kernel
theorem dX6_readLine_0 : decode cX6_readLine 0 = .ok (.aload_n 0, 1) := by decide +kernel
theorem dX6_readLine_1 : decode cX6_readLine 1 = .ok (.getfield 12, 3) := by decide +kernel
theorem dX6_readLine_4 : decode cX6_readLine 4 = .ok (.getfield 47, 3) := by decide +kernel
theorem dX6_readLine_7 : decode cX6_readLine 7 = .ok (.ifCond .ne 10, 3) := by decide +kernel
theorem dX6_readLine_10 : decode cX6_readLine 10 = .ok (.aload_n 0, 1) := by decide +kernel
theorem dX6_readLine_11 : decode cX6_readLine 11 = .ok (.invokevirtual 50, 3) := by decide +kernel
theorem dX6_readLine_14 : decode cX6_readLine 14 = .ok (.goto 72, 3) := by decide +kernel
theorem dX6_readLine_17 : decode cX6_readLine 17 = .ok (.aload_n 0, 1) := by decide +kernel
theorem dX6_readLine_18 : decode cX6_readLine 18 = .ok (.ldc 53, 2) := by decide +kernel
theorem dX6_readLine_20 : decode cX6_readLine 20 = .ok (.invokevirtual 55, 3) := by decide +kernel
theorem dX6_readLine_23 : decode cX6_readLine 23 = .ok (.ifCond .eq 10, 3) := by decide +kernel
theorem dX6_readLine_26 : decode cX6_readLine 26 = .ok (.aload_n 0, 1) := by decide +kernel
theorem dX6_readLine_27 : decode cX6_readLine 27 = .ok (.invokevirtual 59, 3) := by decide +kernel
theorem dX6_readLine_30 : decode cX6_readLine 30 = .ok (.goto 56, 3) := by decide +kernel
theorem dX6_readLine_33 : decode cX6_readLine 33 = .ok (.aload_n 0, 1) := by decide +kernel
theorem dX6_readLine_34 : decode cX6_readLine 34 = .ok (.ldc 62, 2) := by decide +kernel
theorem dX6_readLine_36 : decode cX6_readLine 36 = .ok (.invokevirtual 55, 3) := by decide +kernel
theorem dX6_readLine_39 : decode cX6_readLine 39 = .ok (.ifCond .eq 10, 3) := by decide +kernel
theorem dX6_readLine_42 : decode cX6_readLine 42 = .ok (.aload_n 0, 1) := by decide +kernel
theorem dX6_readLine_43 : decode cX6_readLine 43 = .ok (.invokevirtual 64, 3) := by decide +kernel
theorem dX6_readLine_46 : decode cX6_readLine 46 = .ok (.goto 40, 3) := by decide +kernel
theorem dX6_readLine_49 : decode cX6_readLine 49 = .ok (.aload_n 0, 1) := by decide +kernel
theorem dX6_readLine_50 : decode cX6_readLine 50 = .ok (.ldc 67, 2) := by decide +kernel
theorem dX6_readLine_52 : decode cX6_readLine 52 = .ok (.invokevirtual 55, 3) := by decide +kernel
theorem dX6_readLine_55 : decode cX6_readLine 55 = .ok (.ifCond .eq 10, 3) := by decide +kernel
theorem dX6_readLine_58 : decode cX6_readLine 58 = .ok (.aload_n 0, 1) := by decide +kernel
theorem dX6_readLine_59 : decode cX6_readLine 59 = .ok (.invokevirtual 69, 3) := by decide +kernel
theorem dX6_readLine_62 : decode cX6_readLine 62 = .ok (.goto 24, 3) := by decide +kernel
theorem dX6_readLine_65 : decode cX6_readLine 65 = .ok (.aload_n 0, 1) := by decide +kernel
theorem dX6_readLine_66 : decode cX6_readLine 66 = .ok (.ldc 72, 2) := by decide +kernel
theorem dX6_readLine_68 : decode cX6_readLine 68 = .ok (.invokevirtual 55, 3) := by decide +kernel
theorem dX6_readLine_71 : decode cX6_readLine 71 = .ok (.ifCond .eq 10, 3) := by decide +kernel
theorem dX6_readLine_74 : decode cX6_readLine 74 = .ok (.aload_n 0, 1) := by decide +kernel
theorem dX6_readLine_75 : decode cX6_readLine 75 = .ok (.invokevirtual 74, 3) := by decide +kernel
theorem dX6_readLine_78 : decode cX6_readLine 78 = .ok (.goto 8, 3) := by decide +kernel
theorem dX6_readLine_81 : decode cX6_readLine 81 = .ok (.aload_n 0, 1) := by decide +kernel
theorem dX6_readLine_82 : decode cX6_readLine 82 = .ok (.iconst 1, 1) := by decide +kernel
theorem dX6_readLine_83 : decode cX6_readLine 83 = .ok (.invokevirtual 77, 3) := by decide +kernel
theorem dX6_readLine_86 : decode cX6_readLine 86 = .ok (.aload_n 0, 1) := by decide +kernel
theorem dX6_readLine_87 : decode cX6_readLine 87 = .ok (.getfield 41, 3) := by decide +kernel
theorem dX6_readLine_90 : decode cX6_readLine 90 = .ok (.iconst 3, 1) := by decide +kernel
theorem dX6_readLine_91 : decode cX6_readLine 91 = .ok (.if_icmp .eq 8, 3) := by decide +kernel
theorem dX6_readLine_94 : decode cX6_readLine 94 = .ok (.aload_n 0, 1) := by decide +kernel
theorem dX6_readLine_95 : decode cX6_readLine 95 = .ok (.iconst 1, 1) := by decide +kernel
theorem dX6_readLine_96 : decode cX6_readLine 96 = .ok (.invokevirtual 77, 3) := by decide +kernel
theorem dX6_readLine_99 : decode cX6_readLine 99 = .ok (.aload_n 0, 1) := by decide +kernel
theorem dX6_readLine_100 : decode cX6_readLine 100 = .ok (.getfield 12, 3) := by decide +kernel
theorem dX6_readLine_103 : decode cX6_readLine 103 = .ok (.dup, 1) := by decide +kernel
theorem dX6_readLine_104 : decode cX6_readLine 104 = .ok (.getfield 47, 3) := by decide +kernel
theorem dX6_readLine_107 : decode cX6_readLine 107 = .ok (.iconst 1, 1) := by decide +kernel
theorem dX6_readLine_108 : decode cX6_readLine 108 = .ok (.iadd, 1) := by decide +kernel
theorem dX6_readLine_109 : decode cX6_readLine 109 = .ok (.putfield 47, 3) := by decide +kernel
theorem dX6_readLine_112 : decode cX6_readLine 112 = .ok (.aload_n 0, 1) := by decide +kernel
theorem dX6_readLine_113 : decode cX6_readLine 113 = .ok (.invokevirtual 38, 3) := by decide +kernel
theorem dX6_readLine_116 : decode cX6_readLine 116 = .ok (.return_, 1) := by decide +kernel
theorem dX6_readNight_0 : decode cX6_readNight 0 = .ok (.aload_n 0, 1) := by decide +kernel
theorem dX6_readNight_1 : decode cX6_readNight 1 = .ok (.ldc 81, 2) := by decide +kernel
theorem dX6_readNight_3 : decode cX6_readNight 3 = .ok (.invokevirtual 83, 3) := by decide +kernel
theorem dX6_readNight_6 : decode cX6_readNight 6 = .ok (.aload_n 0, 1) := by decide +kernel
theorem dX6_readNight_7 : decode cX6_readNight 7 = .ok (.ldc 87, 2) := by decide +kernel
theorem dX6_readNight_9 : decode cX6_readNight 9 = .ok (.invokevirtual 83, 3) := by decide +kernel
theorem dX6_readNight_12 : decode cX6_readNight 12 = .ok (.aload_n 0, 1) := by decide +kernel
theorem dX6_readNight_13 : decode cX6_readNight 13 = .ok (.getfield 12, 3) := by decide +kernel
theorem dX6_readNight_16 : decode cX6_readNight 16 = .ok (.aload_n 0, 1) := by decide +kernel
theorem dX6_readNight_17 : decode cX6_readNight 17 = .ok (.iconst 1, 1) := by decide +kernel
theorem dX6_readNight_18 : decode cX6_readNight 18 = .ok (.bipush 12, 2) := by decide +kernel
theorem dX6_readNight_20 : decode cX6_readNight 20 = .ok (.invokevirtual 89, 3) := by decide +kernel
theorem dX6_readNight_23 : decode cX6_readNight 23 = .ok (.putfield 93, 3) := by decide +kernel
theorem dX6_readNight_26 : decode cX6_readNight 26 = .ok (.aload_n 0, 1) := by decide +kernel
theorem dX6_readNight_27 : decode cX6_readNight 27 = .ok (.ldc 95, 2) := by decide +kernel
theorem dX6_readNight_29 : decode cX6_readNight 29 = .ok (.invokevirtual 83, 3) := by decide +kernel
theorem dX6_readNight_32 : decode cX6_readNight 32 = .ok (.aload_n 0, 1) := by decide +kernel
theorem dX6_readNight_33 : decode cX6_readNight 33 = .ok (.getfield 12, 3) := by decide +kernel
theorem dX6_readNight_36 : decode cX6_readNight 36 = .ok (.aload_n 0, 1) := by decide +kernel
theorem dX6_readNight_37 : decode cX6_readNight 37 = .ok (.iconst 0, 1) := by decide +kernel
theorem dX6_readNight_38 : decode cX6_readNight 38 = .ok (.iconst 3, 1) := by decide +kernel
theorem dX6_readNight_39 : decode cX6_readNight 39 = .ok (.invokevirtual 89, 3) := by decide +kernel
theorem dX6_readNight_42 : decode cX6_readNight 42 = .ok (.putfield 97, 3) := by decide +kernel
theorem dX6_readNight_45 : decode cX6_readNight 45 = .ok (.aload_n 0, 1) := by decide +kernel
theorem dX6_readNight_46 : decode cX6_readNight 46 = .ok (.ldc 99, 2) := by decide +kernel
theorem dX6_readNight_48 : decode cX6_readNight 48 = .ok (.invokevirtual 83, 3) := by decide +kernel
theorem dX6_readNight_51 : decode cX6_readNight 51 = .ok (.aload_n 0, 1) := by decide +kernel
theorem dX6_readNight_52 : decode cX6_readNight 52 = .ok (.getfield 12, 3) := by decide +kernel
theorem dX6_readNight_55 : decode cX6_readNight 55 = .ok (.aload_n 0, 1) := by decide +kernel
theorem dX6_readNight_56 : decode cX6_readNight 56 = .ok (.iconst 0, 1) := by decide +kernel
theorem dX6_readNight_57 : decode cX6_readNight 57 = .ok (.bipush 10, 2) := by decide +kernel
theorem dX6_readNight_59 : decode cX6_readNight 59 = .ok (.invokevirtual 89, 3) := by decide +kernel
theorem dX6_readNight_62 : decode cX6_readNight 62 = .ok (.putfield 101, 3) := by decide +kernel
theorem dX6_readNight_65 : decode cX6_readNight 65 = .ok (.return_, 1) := by decide +kernel
theorem dX6_readPew_0 : decode cX6_readPew 0 = .ok (.aload_n 0, 1) := by decide +kernel
theorem dX6_readPew_1 : decode cX6_readPew 1 = .ok (.bipush 7, 2) := by decide +kernel
theorem dX6_readPew_3 : decode cX6_readPew 3 = .ok (.aload_n 0, 1) := by decide +kernel
theorem dX6_readPew_4 : decode cX6_readPew 4 = .ok (.getfield 12, 3) := by decide +kernel
theorem dX6_readPew_7 : decode cX6_readPew 7 = .ok (.getfield 103, 3) := by decide +kernel
theorem dX6_readPew_10 : decode cX6_readPew 10 = .ok (.invokevirtual 106, 3) := by decide +kernel
theorem dX6_readPew_13 : decode cX6_readPew 13 = .ok (.aload_n 0, 1) := by decide +kernel
theorem dX6_readPew_14 : decode cX6_readPew 14 = .ok (.invokevirtual 38, 3) := by decide +kernel
theorem dX6_readPew_17 : decode cX6_readPew 17 = .ok (.iconst 0, 1) := by decide +kernel
theorem dX6_readPew_18 : decode cX6_readPew 18 = .ok (.istore_n 1, 1) := by decide +kernel
theorem dX6_readPew_19 : decode cX6_readPew 19 = .ok (.iconst 0, 1) := by decide +kernel
theorem dX6_readPew_20 : decode cX6_readPew 20 = .ok (.istore_n 2, 1) := by decide +kernel
theorem dX6_readPew_21 : decode cX6_readPew 21 = .ok (.aload_n 0, 1) := by decide +kernel
theorem dX6_readPew_22 : decode cX6_readPew 22 = .ok (.invokevirtual 110, 3) := by decide +kernel
theorem dX6_readPew_25 : decode cX6_readPew 25 = .ok (.istore_n 3, 1) := by decide +kernel
theorem dX6_readPew_26 : decode cX6_readPew 26 = .ok (.aload_n 0, 1) := by decide +kernel
theorem dX6_readPew_27 : decode cX6_readPew 27 = .ok (.invokevirtual 38, 3) := by decide +kernel
theorem dX6_readPew_30 : decode cX6_readPew 30 = .ok (.iload_n 3, 1) := by decide +kernel
theorem dX6_readPew_31 : decode cX6_readPew 31 = .ok (.iconst 3, 1) := by decide +kernel
theorem dX6_readPew_32 : decode cX6_readPew 32 = .ok (.if_icmp .eq 8, 3) := by decide +kernel
theorem dX6_readPew_35 : decode cX6_readPew 35 = .ok (.iload_n 3, 1) := by decide +kernel
theorem dX6_readPew_36 : decode cX6_readPew 36 = .ok (.iconst 4, 1) := by decide +kernel
theorem dX6_readPew_37 : decode cX6_readPew 37 = .ok (.if_icmp .ne 10, 3) := by decide +kernel
theorem dX6_readPew_40 : decode cX6_readPew 40 = .ok (.aload_n 0, 1) := by decide +kernel
theorem dX6_readPew_41 : decode cX6_readPew 41 = .ok (.iconst 1, 1) := by decide +kernel
theorem dX6_readPew_42 : decode cX6_readPew 42 = .ok (.iconst 4, 1) := by decide +kernel
theorem dX6_readPew_43 : decode cX6_readPew 43 = .ok (.invokevirtual 89, 3) := by decide +kernel
theorem dX6_readPew_46 : decode cX6_readPew 46 = .ok (.istore_n 1, 1) := by decide +kernel
theorem dX6_readPew_47 : decode cX6_readPew 47 = .ok (.iload_n 3, 1) := by decide +kernel
theorem dX6_readPew_48 : decode cX6_readPew 48 = .ok (.iconst 4, 1) := by decide +kernel
theorem dX6_readPew_49 : decode cX6_readPew 49 = .ok (.if_icmp .ne 31, 3) := by decide +kernel
theorem dX6_readPew_52 : decode cX6_readPew 52 = .ok (.aload_n 0, 1) := by decide +kernel
theorem dX6_readPew_53 : decode cX6_readPew 53 = .ok (.getfield 41, 3) := by decide +kernel
theorem dX6_readPew_56 : decode cX6_readPew 56 = .ok (.iconst 2, 1) := by decide +kernel
theorem dX6_readPew_57 : decode cX6_readPew 57 = .ok (.if_icmp .ne 16, 3) := by decide +kernel
theorem dX6_readPew_60 : decode cX6_readPew 60 = .ok (.aload_n 0, 1) := by decide +kernel
theorem dX6_readPew_61 : decode cX6_readPew 61 = .ok (.getfield 116, 3) := by decide +kernel
theorem dX6_readPew_64 : decode cX6_readPew 64 = .ok (.iload_n 1, 1) := by decide +kernel
theorem dX6_readPew_65 : decode cX6_readPew 65 = .ok (.if_icmp .ne 8, 3) := by decide +kernel
theorem dX6_readPew_68 : decode cX6_readPew 68 = .ok (.aload_n 0, 1) := by decide +kernel
theorem dX6_readPew_69 : decode cX6_readPew 69 = .ok (.iconst 2, 1) := by decide +kernel
theorem dX6_readPew_70 : decode cX6_readPew 70 = .ok (.invokevirtual 77, 3) := by decide +kernel
theorem dX6_readPew_73 : decode cX6_readPew 73 = .ok (.aload_n 0, 1) := by decide +kernel
theorem dX6_readPew_74 : decode cX6_readPew 74 = .ok (.iconst 1, 1) := by decide +kernel
theorem dX6_readPew_75 : decode cX6_readPew 75 = .ok (.iconst 4, 1) := by decide +kernel
theorem dX6_readPew_76 : decode cX6_readPew 76 = .ok (.invokevirtual 89, 3) := by decide +kernel
theorem dX6_readPew_79 : decode cX6_readPew 79 = .ok (.istore_n 2, 1) := by decide +kernel
theorem dX6_readPew_80 : decode cX6_readPew 80 = .ok (.aload_n 0, 1) := by decide +kernel
theorem dX6_readPew_81 : decode cX6_readPew 81 = .ok (.getfield 29, 3) := by decide +kernel
theorem dX6_readPew_84 : decode cX6_readPew 84 = .ok (.ifCond .ne 13, 3) := by decide +kernel
theorem dX6_readPew_87 : decode cX6_readPew 87 = .ok (.aload_n 0, 1) := by decide +kernel
theorem dX6_readPew_88 : decode cX6_readPew 88 = .ok (.getfield 12, 3) := by decide +kernel
theorem dX6_readPew_91 : decode cX6_readPew 91 = .ok (.iload_n 3, 1) := by decide +kernel
theorem dX6_readPew_92 : decode cX6_readPew 92 = .ok (.iload_n 1, 1) := by decide +kernel
theorem dX6_readPew_93 : decode cX6_readPew 93 = .ok (.iload_n 2, 1) := by decide +kernel
theorem dX6_readPew_94 : decode cX6_readPew 94 = .ok (.invokevirtual 119, 3) := by decide +kernel
theorem dX6_readPew_97 : decode cX6_readPew 97 = .ok (.return_, 1) := by decide +kernel
theorem dX6_ruleWord_0 : decode cX6_ruleWord 0 = .ok (.aload_n 0, 1) := by decide +kernel
theorem dX6_ruleWord_1 : decode cX6_ruleWord 1 = .ok (.ldc 123, 2) := by decide +kernel
theorem dX6_ruleWord_3 : decode cX6_ruleWord 3 = .ok (.invokevirtual 55, 3) := by decide +kernel
theorem dX6_ruleWord_6 : decode cX6_ruleWord 6 = .ok (.ifCond .eq 5, 3) := by decide +kernel
theorem dX6_ruleWord_9 : decode cX6_ruleWord 9 = .ok (.iconst 1, 1) := by decide +kernel
theorem dX6_ruleWord_10 : decode cX6_ruleWord 10 = .ok (.ireturn, 1) := by decide +kernel
theorem dX6_ruleWord_11 : decode cX6_ruleWord 11 = .ok (.aload_n 0, 1) := by decide +kernel
theorem dX6_ruleWord_12 : decode cX6_ruleWord 12 = .ok (.ldc 125, 2) := by decide +kernel
theorem dX6_ruleWord_14 : decode cX6_ruleWord 14 = .ok (.invokevirtual 55, 3) := by decide +kernel
theorem dX6_ruleWord_17 : decode cX6_ruleWord 17 = .ok (.ifCond .eq 5, 3) := by decide +kernel
theorem dX6_ruleWord_20 : decode cX6_ruleWord 20 = .ok (.iconst 2, 1) := by decide +kernel
theorem dX6_ruleWord_21 : decode cX6_ruleWord 21 = .ok (.ireturn, 1) := by decide +kernel
theorem dX6_ruleWord_22 : decode cX6_ruleWord 22 = .ok (.aload_n 0, 1) := by decide +kernel
theorem dX6_ruleWord_23 : decode cX6_ruleWord 23 = .ok (.ldc 127, 2) := by decide +kernel
theorem dX6_ruleWord_25 : decode cX6_ruleWord 25 = .ok (.invokevirtual 55, 3) := by decide +kernel
theorem dX6_ruleWord_28 : decode cX6_ruleWord 28 = .ok (.ifCond .eq 5, 3) := by decide +kernel
theorem dX6_ruleWord_31 : decode cX6_ruleWord 31 = .ok (.iconst 3, 1) := by decide +kernel
theorem dX6_ruleWord_32 : decode cX6_ruleWord 32 = .ok (.ireturn, 1) := by decide +kernel
theorem dX6_ruleWord_33 : decode cX6_ruleWord 33 = .ok (.aload_n 0, 1) := by decide +kernel
theorem dX6_ruleWord_34 : decode cX6_ruleWord 34 = .ok (.ldc 129, 2) := by decide +kernel
theorem dX6_ruleWord_36 : decode cX6_ruleWord 36 = .ok (.invokevirtual 55, 3) := by decide +kernel
theorem dX6_ruleWord_39 : decode cX6_ruleWord 39 = .ok (.ifCond .eq 5, 3) := by decide +kernel
theorem dX6_ruleWord_42 : decode cX6_ruleWord 42 = .ok (.iconst 4, 1) := by decide +kernel
theorem dX6_ruleWord_43 : decode cX6_ruleWord 43 = .ok (.ireturn, 1) := by decide +kernel
theorem dX6_ruleWord_44 : decode cX6_ruleWord 44 = .ok (.aload_n 0, 1) := by decide +kernel
theorem dX6_ruleWord_45 : decode cX6_ruleWord 45 = .ok (.ldc 131, 2) := by decide +kernel
theorem dX6_ruleWord_47 : decode cX6_ruleWord 47 = .ok (.invokevirtual 55, 3) := by decide +kernel
theorem dX6_ruleWord_50 : decode cX6_ruleWord 50 = .ok (.ifCond .ne 8, 3) := by decide +kernel
theorem dX6_ruleWord_53 : decode cX6_ruleWord 53 = .ok (.aload_n 0, 1) := by decide +kernel
theorem dX6_ruleWord_54 : decode cX6_ruleWord 54 = .ok (.iconst 1, 1) := by decide +kernel
theorem dX6_ruleWord_55 : decode cX6_ruleWord 55 = .ok (.invokevirtual 77, 3) := by decide +kernel
theorem dX6_ruleWord_58 : decode cX6_ruleWord 58 = .ok (.iconst 0, 1) := by decide +kernel
theorem dX6_ruleWord_59 : decode cX6_ruleWord 59 = .ok (.ireturn, 1) := by decide +kernel
theorem dX6_readAisle_0 : decode cX6_readAisle 0 = .ok (.aload_n 0, 1) := by decide +kernel
theorem dX6_readAisle_1 : decode cX6_readAisle 1 = .ok (.bipush 12, 2) := by decide +kernel
theorem dX6_readAisle_3 : decode cX6_readAisle 3 = .ok (.aload_n 0, 1) := by decide +kernel
theorem dX6_readAisle_4 : decode cX6_readAisle 4 = .ok (.getfield 12, 3) := by decide +kernel
theorem dX6_readAisle_7 : decode cX6_readAisle 7 = .ok (.getfield 133, 3) := by decide +kernel
theorem dX6_readAisle_10 : decode cX6_readAisle 10 = .ok (.invokevirtual 106, 3) := by decide +kernel
theorem dX6_readAisle_13 : decode cX6_readAisle 13 = .ok (.aload_n 0, 1) := by decide +kernel
theorem dX6_readAisle_14 : decode cX6_readAisle 14 = .ok (.invokevirtual 38, 3) := by decide +kernel
theorem dX6_readAisle_17 : decode cX6_readAisle 17 = .ok (.aload_n 0, 1) := by decide +kernel
theorem dX6_readAisle_18 : decode cX6_readAisle 18 = .ok (.iconst 0, 1) := by decide +kernel
theorem dX6_readAisle_19 : decode cX6_readAisle 19 = .ok (.aload_n 0, 1) := by decide +kernel
theorem dX6_readAisle_20 : decode cX6_readAisle 20 = .ok (.getfield 12, 3) := by decide +kernel
theorem dX6_readAisle_23 : decode cX6_readAisle 23 = .ok (.getfield 103, 3) := by decide +kernel
theorem dX6_readAisle_26 : decode cX6_readAisle 26 = .ok (.iconst 1, 1) := by decide +kernel
theorem dX6_readAisle_27 : decode cX6_readAisle 27 = .ok (.isub, 1) := by decide +kernel
theorem dX6_readAisle_28 : decode cX6_readAisle 28 = .ok (.invokevirtual 89, 3) := by decide +kernel
theorem dX6_readAisle_31 : decode cX6_readAisle 31 = .ok (.istore_n 1, 1) := by decide +kernel
theorem dX6_readAisle_32 : decode cX6_readAisle 32 = .ok (.aload_n 0, 1) := by decide +kernel
theorem dX6_readAisle_33 : decode cX6_readAisle 33 = .ok (.getfield 29, 3) := by decide +kernel
theorem dX6_readAisle_36 : decode cX6_readAisle 36 = .ok (.ifCond .ne 32, 3) := by decide +kernel
theorem dX6_readAisle_39 : decode cX6_readAisle 39 = .ok (.aload_n 0, 1) := by decide +kernel
theorem dX6_readAisle_40 : decode cX6_readAisle 40 = .ok (.getfield 41, 3) := by decide +kernel
theorem dX6_readAisle_43 : decode cX6_readAisle 43 = .ok (.iconst 2, 1) := by decide +kernel
theorem dX6_readAisle_44 : decode cX6_readAisle 44 = .ok (.if_icmp .ne 24, 3) := by decide +kernel
theorem dX6_readAisle_47 : decode cX6_readAisle 47 = .ok (.aload_n 0, 1) := by decide +kernel
theorem dX6_readAisle_48 : decode cX6_readAisle 48 = .ok (.getfield 116, 3) := by decide +kernel
theorem dX6_readAisle_51 : decode cX6_readAisle 51 = .ok (.iload_n 1, 1) := by decide +kernel
theorem dX6_readAisle_52 : decode cX6_readAisle 52 = .ok (.if_icmp .eq 11, 3) := by decide +kernel
theorem dX6_readAisle_55 : decode cX6_readAisle 55 = .ok (.aload_n 0, 1) := by decide +kernel
theorem dX6_readAisle_56 : decode cX6_readAisle 56 = .ok (.iload_n 1, 1) := by decide +kernel
theorem dX6_readAisle_57 : decode cX6_readAisle 57 = .ok (.invokevirtual 136, 3) := by decide +kernel
theorem dX6_readAisle_60 : decode cX6_readAisle 60 = .ok (.ifCond .eq 8, 3) := by decide +kernel
theorem dX6_readAisle_63 : decode cX6_readAisle 63 = .ok (.aload_n 0, 1) := by decide +kernel
theorem dX6_readAisle_64 : decode cX6_readAisle 64 = .ok (.iconst 2, 1) := by decide +kernel
theorem dX6_readAisle_65 : decode cX6_readAisle 65 = .ok (.invokevirtual 77, 3) := by decide +kernel
theorem dX6_readAisle_68 : decode cX6_readAisle 68 = .ok (.aload_n 0, 1) := by decide +kernel
theorem dX6_readAisle_69 : decode cX6_readAisle 69 = .ok (.iconst 0, 1) := by decide +kernel
theorem dX6_readAisle_70 : decode cX6_readAisle 70 = .ok (.aload_n 0, 1) := by decide +kernel
theorem dX6_readAisle_71 : decode cX6_readAisle 71 = .ok (.getfield 12, 3) := by decide +kernel
theorem dX6_readAisle_74 : decode cX6_readAisle 74 = .ok (.getfield 103, 3) := by decide +kernel
theorem dX6_readAisle_77 : decode cX6_readAisle 77 = .ok (.iconst 1, 1) := by decide +kernel
theorem dX6_readAisle_78 : decode cX6_readAisle 78 = .ok (.isub, 1) := by decide +kernel
theorem dX6_readAisle_79 : decode cX6_readAisle 79 = .ok (.invokevirtual 89, 3) := by decide +kernel
theorem dX6_readAisle_82 : decode cX6_readAisle 82 = .ok (.istore_n 2, 1) := by decide +kernel
theorem dX6_readAisle_83 : decode cX6_readAisle 83 = .ok (.aload_n 0, 1) := by decide +kernel
theorem dX6_readAisle_84 : decode cX6_readAisle 84 = .ok (.getfield 29, 3) := by decide +kernel
theorem dX6_readAisle_87 : decode cX6_readAisle 87 = .ok (.ifCond .ne 12, 3) := by decide +kernel
theorem dX6_readAisle_90 : decode cX6_readAisle 90 = .ok (.aload_n 0, 1) := by decide +kernel
theorem dX6_readAisle_91 : decode cX6_readAisle 91 = .ok (.getfield 12, 3) := by decide +kernel
theorem dX6_readAisle_94 : decode cX6_readAisle 94 = .ok (.iload_n 1, 1) := by decide +kernel
theorem dX6_readAisle_95 : decode cX6_readAisle 95 = .ok (.iload_n 2, 1) := by decide +kernel
theorem dX6_readAisle_96 : decode cX6_readAisle 96 = .ok (.invokevirtual 140, 3) := by decide +kernel
theorem dX6_readAisle_99 : decode cX6_readAisle 99 = .ok (.return_, 1) := by decide +kernel
theorem dX6_areJoined_0 : decode cX6_areJoined 0 = .ok (.aload_n 0, 1) := by decide +kernel
theorem dX6_areJoined_1 : decode cX6_areJoined 1 = .ok (.getfield 116, 3) := by decide +kernel
theorem dX6_areJoined_4 : decode cX6_areJoined 4 = .ok (.bipush 7, 2) := by decide +kernel
theorem dX6_areJoined_6 : decode cX6_areJoined 6 = .ok (.if_icmp .ge 26, 3) := by decide +kernel
theorem dX6_areJoined_9 : decode cX6_areJoined 9 = .ok (.aload_n 0, 1) := by decide +kernel
theorem dX6_areJoined_10 : decode cX6_areJoined 10 = .ok (.getfield 12, 3) := by decide +kernel
theorem dX6_areJoined_13 : decode cX6_areJoined 13 = .ok (.getfield 143, 3) := by decide +kernel
theorem dX6_areJoined_16 : decode cX6_areJoined 16 = .ok (.iload_n 1, 1) := by decide +kernel
theorem dX6_areJoined_17 : decode cX6_areJoined 17 = .ok (.iaload, 1) := by decide +kernel
theorem dX6_areJoined_18 : decode cX6_areJoined 18 = .ok (.aload_n 0, 1) := by decide +kernel
theorem dX6_areJoined_19 : decode cX6_areJoined 19 = .ok (.getfield 116, 3) := by decide +kernel
theorem dX6_areJoined_22 : decode cX6_areJoined 22 = .ok (.ishr, 1) := by decide +kernel
theorem dX6_areJoined_23 : decode cX6_areJoined 23 = .ok (.iconst 1, 1) := by decide +kernel
theorem dX6_areJoined_24 : decode cX6_areJoined 24 = .ok (.iand, 1) := by decide +kernel
theorem dX6_areJoined_25 : decode cX6_areJoined 25 = .ok (.ifCond .eq 7, 3) := by decide +kernel
theorem dX6_areJoined_28 : decode cX6_areJoined 28 = .ok (.iconst 1, 1) := by decide +kernel
theorem dX6_areJoined_29 : decode cX6_areJoined 29 = .ok (.goto 4, 3) := by decide +kernel
theorem dX6_areJoined_32 : decode cX6_areJoined 32 = .ok (.iconst 0, 1) := by decide +kernel
theorem dX6_areJoined_33 : decode cX6_areJoined 33 = .ok (.ireturn, 1) := by decide +kernel
theorem dX6_readLight_0 : decode cX6_readLight 0 = .ok (.aload_n 0, 1) := by decide +kernel
theorem dX6_readLight_1 : decode cX6_readLight 1 = .ok (.iconst 4, 1) := by decide +kernel
theorem dX6_readLight_2 : decode cX6_readLight 2 = .ok (.aload_n 0, 1) := by decide +kernel
theorem dX6_readLight_3 : decode cX6_readLight 3 = .ok (.getfield 12, 3) := by decide +kernel
theorem dX6_readLight_6 : decode cX6_readLight 6 = .ok (.getfield 147, 3) := by decide +kernel
theorem dX6_readLight_9 : decode cX6_readLight 9 = .ok (.invokevirtual 106, 3) := by decide +kernel
theorem dX6_readLight_12 : decode cX6_readLight 12 = .ok (.aload_n 0, 1) := by decide +kernel
theorem dX6_readLight_13 : decode cX6_readLight 13 = .ok (.invokevirtual 38, 3) := by decide +kernel
theorem dX6_readLight_16 : decode cX6_readLight 16 = .ok (.aload_n 0, 1) := by decide +kernel
theorem dX6_readLight_17 : decode cX6_readLight 17 = .ok (.iconst 0, 1) := by decide +kernel
theorem dX6_readLight_18 : decode cX6_readLight 18 = .ok (.aload_n 0, 1) := by decide +kernel
theorem dX6_readLight_19 : decode cX6_readLight 19 = .ok (.getfield 12, 3) := by decide +kernel
theorem dX6_readLight_22 : decode cX6_readLight 22 = .ok (.getfield 103, 3) := by decide +kernel
theorem dX6_readLight_25 : decode cX6_readLight 25 = .ok (.iconst 1, 1) := by decide +kernel
theorem dX6_readLight_26 : decode cX6_readLight 26 = .ok (.isub, 1) := by decide +kernel
theorem dX6_readLight_27 : decode cX6_readLight 27 = .ok (.invokevirtual 89, 3) := by decide +kernel
theorem dX6_readLight_30 : decode cX6_readLight 30 = .ok (.istore_n 1, 1) := by decide +kernel
theorem dX6_readLight_31 : decode cX6_readLight 31 = .ok (.aload_n 0, 1) := by decide +kernel
theorem dX6_readLight_32 : decode cX6_readLight 32 = .ok (.iconst 1, 1) := by decide +kernel
theorem dX6_readLight_33 : decode cX6_readLight 33 = .ok (.iconst 4, 1) := by decide +kernel
theorem dX6_readLight_34 : decode cX6_readLight 34 = .ok (.invokevirtual 89, 3) := by decide +kernel
theorem dX6_readLight_37 : decode cX6_readLight 37 = .ok (.istore_n 2, 1) := by decide +kernel
theorem dX6_readLight_38 : decode cX6_readLight 38 = .ok (.iconst 1, 1) := by decide +kernel
theorem dX6_readLight_39 : decode cX6_readLight 39 = .ok (.istore_n 3, 1) := by decide +kernel
theorem dX6_readLight_40 : decode cX6_readLight 40 = .ok (.iload_n 3, 1) := by decide +kernel
theorem dX6_readLight_41 : decode cX6_readLight 41 = .ok (.bipush 6, 2) := by decide +kernel
theorem dX6_readLight_43 : decode cX6_readLight 43 = .ok (.if_icmp .ge 29, 3) := by decide +kernel
theorem dX6_readLight_46 : decode cX6_readLight 46 = .ok (.aload_n 0, 1) := by decide +kernel
theorem dX6_readLight_47 : decode cX6_readLight 47 = .ok (.getfield 41, 3) := by decide +kernel
theorem dX6_readLight_50 : decode cX6_readLight 50 = .ok (.iconst 2, 1) := by decide +kernel
theorem dX6_readLight_51 : decode cX6_readLight 51 = .ok (.if_icmp .ne 21, 3) := by decide +kernel
theorem dX6_readLight_54 : decode cX6_readLight 54 = .ok (.iload_n 2, 1) := by decide +kernel
theorem dX6_readLight_55 : decode cX6_readLight 55 = .ok (.iload_n 3, 1) := by decide +kernel
theorem dX6_readLight_56 : decode cX6_readLight 56 = .ok (.aload_n 0, 1) := by decide +kernel
theorem dX6_readLight_57 : decode cX6_readLight 57 = .ok (.iconst 1, 1) := by decide +kernel
theorem dX6_readLight_58 : decode cX6_readLight 58 = .ok (.iconst 4, 1) := by decide +kernel
theorem dX6_readLight_59 : decode cX6_readLight 59 = .ok (.invokevirtual 89, 3) := by decide +kernel
theorem dX6_readLight_62 : decode cX6_readLight 62 = .ok (.invokestatic 150, 3) := by decide +kernel
theorem dX6_readLight_65 : decode cX6_readLight 65 = .ok (.istore_n 2, 1) := by decide +kernel
theorem dX6_readLight_66 : decode cX6_readLight 66 = .ok (.iinc 3 1, 3) := by decide +kernel
theorem dX6_readLight_69 : decode cX6_readLight 69 = .ok (.goto (-29), 3) := by decide +kernel
theorem dX6_readLight_72 : decode cX6_readLight 72 = .ok (.aload_n 0, 1) := by decide +kernel
theorem dX6_readLight_73 : decode cX6_readLight 73 = .ok (.getfield 41, 3) := by decide +kernel
theorem dX6_readLight_76 : decode cX6_readLight 76 = .ok (.iconst 2, 1) := by decide +kernel
theorem dX6_readLight_77 : decode cX6_readLight 77 = .ok (.if_icmp .ne 28, 3) := by decide +kernel
theorem dX6_readLight_80 : decode cX6_readLight 80 = .ok (.aload_n 0, 1) := by decide +kernel
theorem dX6_readLight_81 : decode cX6_readLight 81 = .ok (.aload_n 0, 1) := by decide +kernel
theorem dX6_readLight_82 : decode cX6_readLight 82 = .ok (.getfield 116, 3) := by decide +kernel
theorem dX6_readLight_85 : decode cX6_readLight 85 = .ok (.iconst 1, 1) := by decide +kernel
theorem dX6_readLight_86 : decode cX6_readLight 86 = .ok (.if_icmp .lt 11, 3) := by decide +kernel
theorem dX6_readLight_89 : decode cX6_readLight 89 = .ok (.aload_n 0, 1) := by decide +kernel
theorem dX6_readLight_90 : decode cX6_readLight 90 = .ok (.getfield 116, 3) := by decide +kernel
theorem dX6_readLight_93 : decode cX6_readLight 93 = .ok (.iconst 4, 1) := by decide +kernel
theorem dX6_readLight_94 : decode cX6_readLight 94 = .ok (.if_icmp .le 7, 3) := by decide +kernel
theorem dX6_readLight_97 : decode cX6_readLight 97 = .ok (.iconst 2, 1) := by decide +kernel
theorem dX6_readLight_98 : decode cX6_readLight 98 = .ok (.goto 4, 3) := by decide +kernel
theorem dX6_readLight_101 : decode cX6_readLight 101 = .ok (.iconst 3, 1) := by decide +kernel
theorem dX6_readLight_102 : decode cX6_readLight 102 = .ok (.invokevirtual 77, 3) := by decide +kernel
theorem dX6_readLight_105 : decode cX6_readLight 105 = .ok (.aload_n 0, 1) := by decide +kernel
theorem dX6_readLight_106 : decode cX6_readLight 106 = .ok (.getfield 29, 3) := by decide +kernel
theorem dX6_readLight_109 : decode cX6_readLight 109 = .ok (.ifCond .ne 12, 3) := by decide +kernel
theorem dX6_readLight_112 : decode cX6_readLight 112 = .ok (.aload_n 0, 1) := by decide +kernel
theorem dX6_readLight_113 : decode cX6_readLight 113 = .ok (.getfield 12, 3) := by decide +kernel
theorem dX6_readLight_116 : decode cX6_readLight 116 = .ok (.iload_n 1, 1) := by decide +kernel
theorem dX6_readLight_117 : decode cX6_readLight 117 = .ok (.iload_n 2, 1) := by decide +kernel
theorem dX6_readLight_118 : decode cX6_readLight 118 = .ok (.invokevirtual 154, 3) := by decide +kernel
theorem dX6_readLight_121 : decode cX6_readLight 121 = .ok (.return_, 1) := by decide +kernel
theorem dX6_readDraught_0 : decode cX6_readDraught 0 = .ok (.aload_n 0, 1) := by decide +kernel
theorem dX6_readDraught_1 : decode cX6_readDraught 1 = .ok (.bipush 6, 2) := by decide +kernel
theorem dX6_readDraught_3 : decode cX6_readDraught 3 = .ok (.aload_n 0, 1) := by decide +kernel
theorem dX6_readDraught_4 : decode cX6_readDraught 4 = .ok (.getfield 12, 3) := by decide +kernel
theorem dX6_readDraught_7 : decode cX6_readDraught 7 = .ok (.getfield 157, 3) := by decide +kernel
theorem dX6_readDraught_10 : decode cX6_readDraught 10 = .ok (.invokevirtual 106, 3) := by decide +kernel
theorem dX6_readDraught_13 : decode cX6_readDraught 13 = .ok (.aload_n 0, 1) := by decide +kernel
theorem dX6_readDraught_14 : decode cX6_readDraught 14 = .ok (.invokevirtual 38, 3) := by decide +kernel
theorem dX6_readDraught_17 : decode cX6_readDraught 17 = .ok (.aload_n 0, 1) := by decide +kernel
theorem dX6_readDraught_18 : decode cX6_readDraught 18 = .ok (.iconst 0, 1) := by decide +kernel
theorem dX6_readDraught_19 : decode cX6_readDraught 19 = .ok (.aload_n 0, 1) := by decide +kernel
theorem dX6_readDraught_20 : decode cX6_readDraught 20 = .ok (.getfield 12, 3) := by decide +kernel
theorem dX6_readDraught_23 : decode cX6_readDraught 23 = .ok (.getfield 103, 3) := by decide +kernel
theorem dX6_readDraught_26 : decode cX6_readDraught 26 = .ok (.iconst 1, 1) := by decide +kernel
theorem dX6_readDraught_27 : decode cX6_readDraught 27 = .ok (.isub, 1) := by decide +kernel
theorem dX6_readDraught_28 : decode cX6_readDraught 28 = .ok (.invokevirtual 89, 3) := by decide +kernel
theorem dX6_readDraught_31 : decode cX6_readDraught 31 = .ok (.istore_n 1, 1) := by decide +kernel
theorem dX6_readDraught_32 : decode cX6_readDraught 32 = .ok (.aload_n 0, 1) := by decide +kernel
theorem dX6_readDraught_33 : decode cX6_readDraught 33 = .ok (.ldc 160, 2) := by decide +kernel
theorem dX6_readDraught_35 : decode cX6_readDraught 35 = .ok (.invokevirtual 83, 3) := by decide +kernel
theorem dX6_readDraught_38 : decode cX6_readDraught 38 = .ok (.aload_n 0, 1) := by decide +kernel
theorem dX6_readDraught_39 : decode cX6_readDraught 39 = .ok (.iconst 0, 1) := by decide +kernel
theorem dX6_readDraught_40 : decode cX6_readDraught 40 = .ok (.bipush 11, 2) := by decide +kernel
theorem dX6_readDraught_42 : decode cX6_readDraught 42 = .ok (.invokevirtual 89, 3) := by decide +kernel
theorem dX6_readDraught_45 : decode cX6_readDraught 45 = .ok (.istore_n 2, 1) := by decide +kernel
theorem dX6_readDraught_46 : decode cX6_readDraught 46 = .ok (.aload_n 0, 1) := by decide +kernel
theorem dX6_readDraught_47 : decode cX6_readDraught 47 = .ok (.getfield 29, 3) := by decide +kernel
theorem dX6_readDraught_50 : decode cX6_readDraught 50 = .ok (.ifCond .ne 12, 3) := by decide +kernel
theorem dX6_readDraught_53 : decode cX6_readDraught 53 = .ok (.aload_n 0, 1) := by decide +kernel
theorem dX6_readDraught_54 : decode cX6_readDraught 54 = .ok (.getfield 12, 3) := by decide +kernel
theorem dX6_readDraught_57 : decode cX6_readDraught 57 = .ok (.iload_n 1, 1) := by decide +kernel
theorem dX6_readDraught_58 : decode cX6_readDraught 58 = .ok (.iload_n 2, 1) := by decide +kernel
theorem dX6_readDraught_59 : decode cX6_readDraught 59 = .ok (.invokevirtual 162, 3) := by decide +kernel
theorem dX6_readDraught_62 : decode cX6_readDraught 62 = .ok (.return_, 1) := by decide +kernel
theorem dX6_refuseMoreThan_0 : decode cX6_refuseMoreThan 0 = .ok (.iload_n 2, 1) := by decide +kernel
theorem dX6_refuseMoreThan_1 : decode cX6_refuseMoreThan 1 = .ok (.iload_n 1, 1) := by decide +kernel
theorem dX6_refuseMoreThan_2 : decode cX6_refuseMoreThan 2 = .ok (.if_icmp .lt 8, 3) := by decide +kernel
theorem dX6_refuseMoreThan_5 : decode cX6_refuseMoreThan 5 = .ok (.aload_n 0, 1) := by decide +kernel
theorem dX6_refuseMoreThan_6 : decode cX6_refuseMoreThan 6 = .ok (.iconst 3, 1) := by decide +kernel
theorem dX6_refuseMoreThan_7 : decode cX6_refuseMoreThan 7 = .ok (.invokevirtual 77, 3) := by decide +kernel
theorem dX6_refuseMoreThan_10 : decode cX6_refuseMoreThan 10 = .ok (.return_, 1) := by decide +kernel
theorem dX6_needWord_0 : decode cX6_needWord 0 = .ok (.aload_n 0, 1) := by decide +kernel
theorem dX6_needWord_1 : decode cX6_needWord 1 = .ok (.aload_n 1, 1) := by decide +kernel
theorem dX6_needWord_2 : decode cX6_needWord 2 = .ok (.invokevirtual 55, 3) := by decide +kernel
theorem dX6_needWord_5 : decode cX6_needWord 5 = .ok (.ifCond .ne 8, 3) := by decide +kernel
theorem dX6_needWord_8 : decode cX6_needWord 8 = .ok (.aload_n 0, 1) := by decide +kernel
theorem dX6_needWord_9 : decode cX6_needWord 9 = .ok (.iconst 1, 1) := by decide +kernel
theorem dX6_needWord_10 : decode cX6_needWord 10 = .ok (.invokevirtual 77, 3) := by decide +kernel
theorem dX6_needWord_13 : decode cX6_needWord 13 = .ok (.aload_n 0, 1) := by decide +kernel
theorem dX6_needWord_14 : decode cX6_needWord 14 = .ok (.invokevirtual 38, 3) := by decide +kernel
theorem dX6_needWord_17 : decode cX6_needWord 17 = .ok (.return_, 1) := by decide +kernel
theorem dX6_needNumber_0 : decode cX6_needNumber 0 = .ok (.aload_n 0, 1) := by decide +kernel
theorem dX6_needNumber_1 : decode cX6_needNumber 1 = .ok (.getfield 41, 3) := by decide +kernel
theorem dX6_needNumber_4 : decode cX6_needNumber 4 = .ok (.iconst 2, 1) := by decide +kernel
theorem dX6_needNumber_5 : decode cX6_needNumber 5 = .ok (.if_icmp .eq 11, 3) := by decide +kernel
theorem dX6_needNumber_8 : decode cX6_needNumber 8 = .ok (.aload_n 0, 1) := by decide +kernel
theorem dX6_needNumber_9 : decode cX6_needNumber 9 = .ok (.iconst 1, 1) := by decide +kernel
theorem dX6_needNumber_10 : decode cX6_needNumber 10 = .ok (.invokevirtual 77, 3) := by decide +kernel
theorem dX6_needNumber_13 : decode cX6_needNumber 13 = .ok (.goto 24, 3) := by decide +kernel
theorem dX6_needNumber_16 : decode cX6_needNumber 16 = .ok (.aload_n 0, 1) := by decide +kernel
theorem dX6_needNumber_17 : decode cX6_needNumber 17 = .ok (.getfield 116, 3) := by decide +kernel
theorem dX6_needNumber_20 : decode cX6_needNumber 20 = .ok (.iload_n 1, 1) := by decide +kernel
theorem dX6_needNumber_21 : decode cX6_needNumber 21 = .ok (.if_icmp .lt 11, 3) := by decide +kernel
theorem dX6_needNumber_24 : decode cX6_needNumber 24 = .ok (.aload_n 0, 1) := by decide +kernel
theorem dX6_needNumber_25 : decode cX6_needNumber 25 = .ok (.getfield 116, 3) := by decide +kernel
theorem dX6_needNumber_28 : decode cX6_needNumber 28 = .ok (.iload_n 2, 1) := by decide +kernel
theorem dX6_needNumber_29 : decode cX6_needNumber 29 = .ok (.if_icmp .le 8, 3) := by decide +kernel
theorem dX6_needNumber_32 : decode cX6_needNumber 32 = .ok (.aload_n 0, 1) := by decide +kernel
theorem dX6_needNumber_33 : decode cX6_needNumber 33 = .ok (.iconst 2, 1) := by decide +kernel
theorem dX6_needNumber_34 : decode cX6_needNumber 34 = .ok (.invokevirtual 77, 3) := by decide +kernel
theorem dX6_needNumber_37 : decode cX6_needNumber 37 = .ok (.aload_n 0, 1) := by decide +kernel
theorem dX6_needNumber_38 : decode cX6_needNumber 38 = .ok (.getfield 116, 3) := by decide +kernel
theorem dX6_needNumber_41 : decode cX6_needNumber 41 = .ok (.istore_n 3, 1) := by decide +kernel
theorem dX6_needNumber_42 : decode cX6_needNumber 42 = .ok (.aload_n 0, 1) := by decide +kernel
theorem dX6_needNumber_43 : decode cX6_needNumber 43 = .ok (.invokevirtual 38, 3) := by decide +kernel
theorem dX6_needNumber_46 : decode cX6_needNumber 46 = .ok (.iload_n 3, 1) := by decide +kernel
theorem dX6_needNumber_47 : decode cX6_needNumber 47 = .ok (.ireturn, 1) := by decide +kernel
theorem dX6_fail_0 : decode cX6_fail 0 = .ok (.aload_n 0, 1) := by decide +kernel
theorem dX6_fail_1 : decode cX6_fail 1 = .ok (.getfield 29, 3) := by decide +kernel
theorem dX6_fail_4 : decode cX6_fail 4 = .ok (.ifCond .ne 16, 3) := by decide +kernel
theorem dX6_fail_7 : decode cX6_fail 7 = .ok (.aload_n 0, 1) := by decide +kernel
theorem dX6_fail_8 : decode cX6_fail 8 = .ok (.iload_n 1, 1) := by decide +kernel
theorem dX6_fail_9 : decode cX6_fail 9 = .ok (.putfield 29, 3) := by decide +kernel
theorem dX6_fail_12 : decode cX6_fail 12 = .ok (.aload_n 0, 1) := by decide +kernel
theorem dX6_fail_13 : decode cX6_fail 13 = .ok (.aload_n 0, 1) := by decide +kernel
theorem dX6_fail_14 : decode cX6_fail 14 = .ok (.getfield 165, 3) := by decide +kernel
theorem dX6_fail_17 : decode cX6_fail 17 = .ok (.putfield 32, 3) := by decide +kernel
theorem dX6_fail_20 : decode cX6_fail 20 = .ok (.return_, 1) := by decide +kernel
theorem dX6_advance_0 : decode cX6_advance 0 = .ok (.aload_n 0, 1) := by decide +kernel
theorem dX6_advance_1 : decode cX6_advance 1 = .ok (.getfield 29, 3) := by decide +kernel
theorem dX6_advance_4 : decode cX6_advance 4 = .ok (.ifCond .eq 4, 3) := by decide +kernel
theorem dX6_advance_7 : decode cX6_advance 7 = .ok (.return_, 1) := by decide +kernel
theorem dX6_advance_8 : decode cX6_advance 8 = .ok (.aload_n 0, 1) := by decide +kernel
theorem dX6_advance_9 : decode cX6_advance 9 = .ok (.getfield 26, 3) := by decide +kernel
theorem dX6_advance_12 : decode cX6_advance 12 = .ok (.aload_n 0, 1) := by decide +kernel
theorem dX6_advance_13 : decode cX6_advance 13 = .ok (.getfield 22, 3) := by decide +kernel
theorem dX6_advance_16 : decode cX6_advance 16 = .ok (.if_icmp .ge 44, 3) := by decide +kernel
theorem dX6_advance_19 : decode cX6_advance 19 = .ok (.aload_n 0, 1) := by decide +kernel
theorem dX6_advance_20 : decode cX6_advance 20 = .ok (.getfield 18, 3) := by decide +kernel
theorem dX6_advance_23 : decode cX6_advance 23 = .ok (.aload_n 0, 1) := by decide +kernel
theorem dX6_advance_24 : decode cX6_advance 24 = .ok (.getfield 26, 3) := by decide +kernel
theorem dX6_advance_27 : decode cX6_advance 27 = .ok (.baload, 1) := by decide +kernel
theorem dX6_advance_28 : decode cX6_advance 28 = .ok (.bipush 32, 2) := by decide +kernel
theorem dX6_advance_30 : decode cX6_advance 30 = .ok (.if_icmp .eq 17, 3) := by decide +kernel
theorem dX6_advance_33 : decode cX6_advance 33 = .ok (.aload_n 0, 1) := by decide +kernel
theorem dX6_advance_34 : decode cX6_advance 34 = .ok (.getfield 18, 3) := by decide +kernel
theorem dX6_advance_37 : decode cX6_advance 37 = .ok (.aload_n 0, 1) := by decide +kernel
theorem dX6_advance_38 : decode cX6_advance 38 = .ok (.getfield 26, 3) := by decide +kernel
theorem dX6_advance_41 : decode cX6_advance 41 = .ok (.baload, 1) := by decide +kernel
theorem dX6_advance_42 : decode cX6_advance 42 = .ok (.bipush 10, 2) := by decide +kernel
theorem dX6_advance_44 : decode cX6_advance 44 = .ok (.if_icmp .ne 16, 3) := by decide +kernel
theorem dX6_advance_47 : decode cX6_advance 47 = .ok (.aload_n 0, 1) := by decide +kernel
theorem dX6_advance_48 : decode cX6_advance 48 = .ok (.dup, 1) := by decide +kernel
theorem dX6_advance_49 : decode cX6_advance 49 = .ok (.getfield 26, 3) := by decide +kernel
theorem dX6_advance_52 : decode cX6_advance 52 = .ok (.iconst 1, 1) := by decide +kernel
theorem dX6_advance_53 : decode cX6_advance 53 = .ok (.iadd, 1) := by decide +kernel
theorem dX6_advance_54 : decode cX6_advance 54 = .ok (.putfield 26, 3) := by decide +kernel
theorem dX6_advance_57 : decode cX6_advance 57 = .ok (.goto (-49), 3) := by decide +kernel
theorem dX6_advance_60 : decode cX6_advance 60 = .ok (.aload_n 0, 1) := by decide +kernel
theorem dX6_advance_61 : decode cX6_advance 61 = .ok (.aload_n 0, 1) := by decide +kernel
theorem dX6_advance_62 : decode cX6_advance 62 = .ok (.getfield 26, 3) := by decide +kernel
theorem dX6_advance_65 : decode cX6_advance 65 = .ok (.putfield 165, 3) := by decide +kernel
theorem dX6_advance_68 : decode cX6_advance 68 = .ok (.aload_n 0, 1) := by decide +kernel
theorem dX6_advance_69 : decode cX6_advance 69 = .ok (.iconst 0, 1) := by decide +kernel
theorem dX6_advance_70 : decode cX6_advance 70 = .ok (.putfield 116, 3) := by decide +kernel
theorem dX6_advance_73 : decode cX6_advance 73 = .ok (.aload_n 0, 1) := by decide +kernel
theorem dX6_advance_74 : decode cX6_advance 74 = .ok (.getfield 26, 3) := by decide +kernel
theorem dX6_advance_77 : decode cX6_advance 77 = .ok (.aload_n 0, 1) := by decide +kernel
theorem dX6_advance_78 : decode cX6_advance 78 = .ok (.getfield 22, 3) := by decide +kernel
theorem dX6_advance_81 : decode cX6_advance 81 = .ok (.if_icmp .lt 11, 3) := by decide +kernel
theorem dX6_advance_84 : decode cX6_advance 84 = .ok (.aload_n 0, 1) := by decide +kernel
theorem dX6_advance_85 : decode cX6_advance 85 = .ok (.iconst 0, 1) := by decide +kernel
theorem dX6_advance_86 : decode cX6_advance 86 = .ok (.putfield 41, 3) := by decide +kernel
theorem dX6_advance_89 : decode cX6_advance 89 = .ok (.goto 184, 3) := by decide +kernel
theorem dX6_advance_92 : decode cX6_advance 92 = .ok (.aload_n 0, 1) := by decide +kernel
theorem dX6_advance_93 : decode cX6_advance 93 = .ok (.getfield 18, 3) := by decide +kernel
theorem dX6_advance_96 : decode cX6_advance 96 = .ok (.aload_n 0, 1) := by decide +kernel
theorem dX6_advance_97 : decode cX6_advance 97 = .ok (.getfield 26, 3) := by decide +kernel
theorem dX6_advance_100 : decode cX6_advance 100 = .ok (.baload, 1) := by decide +kernel
theorem dX6_advance_101 : decode cX6_advance 101 = .ok (.invokestatic 168, 3) := by decide +kernel
theorem dX6_advance_104 : decode cX6_advance 104 = .ok (.ifCond .eq 47, 3) := by decide +kernel
theorem dX6_advance_107 : decode cX6_advance 107 = .ok (.aload_n 0, 1) := by decide +kernel
theorem dX6_advance_108 : decode cX6_advance 108 = .ok (.iconst 1, 1) := by decide +kernel
theorem dX6_advance_109 : decode cX6_advance 109 = .ok (.putfield 41, 3) := by decide +kernel
theorem dX6_advance_112 : decode cX6_advance 112 = .ok (.aload_n 0, 1) := by decide +kernel
theorem dX6_advance_113 : decode cX6_advance 113 = .ok (.getfield 26, 3) := by decide +kernel
theorem dX6_advance_116 : decode cX6_advance 116 = .ok (.aload_n 0, 1) := by decide +kernel
theorem dX6_advance_117 : decode cX6_advance 117 = .ok (.getfield 22, 3) := by decide +kernel
theorem dX6_advance_120 : decode cX6_advance 120 = .ok (.if_icmp .ge 153, 3) := by decide +kernel
theorem dX6_advance_123 : decode cX6_advance 123 = .ok (.aload_n 0, 1) := by decide +kernel
theorem dX6_advance_124 : decode cX6_advance 124 = .ok (.getfield 18, 3) := by decide +kernel
theorem dX6_advance_127 : decode cX6_advance 127 = .ok (.aload_n 0, 1) := by decide +kernel
theorem dX6_advance_128 : decode cX6_advance 128 = .ok (.getfield 26, 3) := by decide +kernel
theorem dX6_advance_131 : decode cX6_advance 131 = .ok (.baload, 1) := by decide +kernel
theorem dX6_advance_132 : decode cX6_advance 132 = .ok (.invokestatic 168, 3) := by decide +kernel
theorem dX6_advance_135 : decode cX6_advance 135 = .ok (.ifCond .eq 138, 3) := by decide +kernel
theorem dX6_advance_138 : decode cX6_advance 138 = .ok (.aload_n 0, 1) := by decide +kernel
theorem dX6_advance_139 : decode cX6_advance 139 = .ok (.dup, 1) := by decide +kernel
theorem dX6_advance_140 : decode cX6_advance 140 = .ok (.getfield 26, 3) := by decide +kernel
theorem dX6_advance_143 : decode cX6_advance 143 = .ok (.iconst 1, 1) := by decide +kernel
theorem dX6_advance_144 : decode cX6_advance 144 = .ok (.iadd, 1) := by decide +kernel
theorem dX6_advance_145 : decode cX6_advance 145 = .ok (.putfield 26, 3) := by decide +kernel
theorem dX6_advance_148 : decode cX6_advance 148 = .ok (.goto (-36), 3) := by decide +kernel
theorem dX6_advance_151 : decode cX6_advance 151 = .ok (.aload_n 0, 1) := by decide +kernel
theorem dX6_advance_152 : decode cX6_advance 152 = .ok (.getfield 18, 3) := by decide +kernel
theorem dX6_advance_155 : decode cX6_advance 155 = .ok (.aload_n 0, 1) := by decide +kernel
theorem dX6_advance_156 : decode cX6_advance 156 = .ok (.getfield 26, 3) := by decide +kernel
theorem dX6_advance_159 : decode cX6_advance 159 = .ok (.baload, 1) := by decide +kernel
theorem dX6_advance_160 : decode cX6_advance 160 = .ok (.invokestatic 171, 3) := by decide +kernel
theorem dX6_advance_163 : decode cX6_advance 163 = .ok (.ifCond .eq 77, 3) := by decide +kernel
theorem dX6_advance_166 : decode cX6_advance 166 = .ok (.aload_n 0, 1) := by decide +kernel
theorem dX6_advance_167 : decode cX6_advance 167 = .ok (.iconst 2, 1) := by decide +kernel
theorem dX6_advance_168 : decode cX6_advance 168 = .ok (.putfield 41, 3) := by decide +kernel
theorem dX6_advance_171 : decode cX6_advance 171 = .ok (.aload_n 0, 1) := by decide +kernel
theorem dX6_advance_172 : decode cX6_advance 172 = .ok (.getfield 26, 3) := by decide +kernel
theorem dX6_advance_175 : decode cX6_advance 175 = .ok (.aload_n 0, 1) := by decide +kernel
theorem dX6_advance_176 : decode cX6_advance 176 = .ok (.getfield 22, 3) := by decide +kernel
theorem dX6_advance_179 : decode cX6_advance 179 = .ok (.if_icmp .ge 94, 3) := by decide +kernel
theorem dX6_advance_182 : decode cX6_advance 182 = .ok (.aload_n 0, 1) := by decide +kernel
theorem dX6_advance_183 : decode cX6_advance 183 = .ok (.getfield 18, 3) := by decide +kernel
theorem dX6_advance_186 : decode cX6_advance 186 = .ok (.aload_n 0, 1) := by decide +kernel
theorem dX6_advance_187 : decode cX6_advance 187 = .ok (.getfield 26, 3) := by decide +kernel
theorem dX6_advance_190 : decode cX6_advance 190 = .ok (.baload, 1) := by decide +kernel
theorem dX6_advance_191 : decode cX6_advance 191 = .ok (.invokestatic 171, 3) := by decide +kernel
theorem dX6_advance_194 : decode cX6_advance 194 = .ok (.ifCond .eq 79, 3) := by decide +kernel
theorem dX6_advance_197 : decode cX6_advance 197 = .ok (.aload_n 0, 1) := by decide +kernel
theorem dX6_advance_198 : decode cX6_advance 198 = .ok (.sipush 1000, 3) := by decide +kernel
theorem dX6_advance_201 : decode cX6_advance 201 = .ok (.aload_n 0, 1) := by decide +kernel
theorem dX6_advance_202 : decode cX6_advance 202 = .ok (.getfield 116, 3) := by decide +kernel
theorem dX6_advance_205 : decode cX6_advance 205 = .ok (.bipush 10, 2) := by decide +kernel
theorem dX6_advance_207 : decode cX6_advance 207 = .ok (.imul, 1) := by decide +kernel
theorem dX6_advance_208 : decode cX6_advance 208 = .ok (.aload_n 0, 1) := by decide +kernel
theorem dX6_advance_209 : decode cX6_advance 209 = .ok (.getfield 18, 3) := by decide +kernel
theorem dX6_advance_212 : decode cX6_advance 212 = .ok (.aload_n 0, 1) := by decide +kernel
theorem dX6_advance_213 : decode cX6_advance 213 = .ok (.getfield 26, 3) := by decide +kernel
theorem dX6_advance_216 : decode cX6_advance 216 = .ok (.baload, 1) := by decide +kernel
theorem dX6_advance_217 : decode cX6_advance 217 = .ok (.iadd, 1) := by decide +kernel
theorem dX6_advance_218 : decode cX6_advance 218 = .ok (.bipush 48, 2) := by decide +kernel
theorem dX6_advance_220 : decode cX6_advance 220 = .ok (.isub, 1) := by decide +kernel
theorem dX6_advance_221 : decode cX6_advance 221 = .ok (.invokestatic 174, 3) := by decide +kernel
theorem dX6_advance_224 : decode cX6_advance 224 = .ok (.putfield 116, 3) := by decide +kernel
theorem dX6_advance_227 : decode cX6_advance 227 = .ok (.aload_n 0, 1) := by decide +kernel
theorem dX6_advance_228 : decode cX6_advance 228 = .ok (.dup, 1) := by decide +kernel
theorem dX6_advance_229 : decode cX6_advance 229 = .ok (.getfield 26, 3) := by decide +kernel
theorem dX6_advance_232 : decode cX6_advance 232 = .ok (.iconst 1, 1) := by decide +kernel
theorem dX6_advance_233 : decode cX6_advance 233 = .ok (.iadd, 1) := by decide +kernel
theorem dX6_advance_234 : decode cX6_advance 234 = .ok (.putfield 26, 3) := by decide +kernel
theorem dX6_advance_237 : decode cX6_advance 237 = .ok (.goto (-66), 3) := by decide +kernel
theorem dX6_advance_240 : decode cX6_advance 240 = .ok (.aload_n 0, 1) := by decide +kernel
theorem dX6_advance_241 : decode cX6_advance 241 = .ok (.aload_n 0, 1) := by decide +kernel
theorem dX6_advance_242 : decode cX6_advance 242 = .ok (.getfield 18, 3) := by decide +kernel
theorem dX6_advance_245 : decode cX6_advance 245 = .ok (.aload_n 0, 1) := by decide +kernel
theorem dX6_advance_246 : decode cX6_advance 246 = .ok (.getfield 26, 3) := by decide +kernel
theorem dX6_advance_249 : decode cX6_advance 249 = .ok (.baload, 1) := by decide +kernel
theorem dX6_advance_250 : decode cX6_advance 250 = .ok (.bipush 59, 2) := by decide +kernel
theorem dX6_advance_252 : decode cX6_advance 252 = .ok (.if_icmp .ne 7, 3) := by decide +kernel
theorem dX6_advance_255 : decode cX6_advance 255 = .ok (.iconst 3, 1) := by decide +kernel
theorem dX6_advance_256 : decode cX6_advance 256 = .ok (.goto 4, 3) := by decide +kernel
theorem dX6_advance_259 : decode cX6_advance 259 = .ok (.iconst 4, 1) := by decide +kernel
theorem dX6_advance_260 : decode cX6_advance 260 = .ok (.putfield 41, 3) := by decide +kernel
theorem dX6_advance_263 : decode cX6_advance 263 = .ok (.aload_n 0, 1) := by decide +kernel
theorem dX6_advance_264 : decode cX6_advance 264 = .ok (.dup, 1) := by decide +kernel
theorem dX6_advance_265 : decode cX6_advance 265 = .ok (.getfield 26, 3) := by decide +kernel
theorem dX6_advance_268 : decode cX6_advance 268 = .ok (.iconst 1, 1) := by decide +kernel
theorem dX6_advance_269 : decode cX6_advance 269 = .ok (.iadd, 1) := by decide +kernel
theorem dX6_advance_270 : decode cX6_advance 270 = .ok (.putfield 26, 3) := by decide +kernel
theorem dX6_advance_273 : decode cX6_advance 273 = .ok (.return_, 1) := by decide +kernel
theorem dX6_isLowerCase_0 : decode cX6_isLowerCase 0 = .ok (.iload_n 0, 1) := by decide +kernel
theorem dX6_isLowerCase_1 : decode cX6_isLowerCase 1 = .ok (.bipush 97, 2) := by decide +kernel
theorem dX6_isLowerCase_3 : decode cX6_isLowerCase 3 = .ok (.if_icmp .lt 13, 3) := by decide +kernel
theorem dX6_isLowerCase_6 : decode cX6_isLowerCase 6 = .ok (.iload_n 0, 1) := by decide +kernel
theorem dX6_isLowerCase_7 : decode cX6_isLowerCase 7 = .ok (.bipush 122, 2) := by decide +kernel
theorem dX6_isLowerCase_9 : decode cX6_isLowerCase 9 = .ok (.if_icmp .gt 7, 3) := by decide +kernel
theorem dX6_isLowerCase_12 : decode cX6_isLowerCase 12 = .ok (.iconst 1, 1) := by decide +kernel
theorem dX6_isLowerCase_13 : decode cX6_isLowerCase 13 = .ok (.goto 4, 3) := by decide +kernel
theorem dX6_isLowerCase_16 : decode cX6_isLowerCase 16 = .ok (.iconst 0, 1) := by decide +kernel
theorem dX6_isLowerCase_17 : decode cX6_isLowerCase 17 = .ok (.ireturn, 1) := by decide +kernel
theorem dX6_isDigit_0 : decode cX6_isDigit 0 = .ok (.iload_n 0, 1) := by decide +kernel
theorem dX6_isDigit_1 : decode cX6_isDigit 1 = .ok (.bipush 48, 2) := by decide +kernel
theorem dX6_isDigit_3 : decode cX6_isDigit 3 = .ok (.if_icmp .lt 13, 3) := by decide +kernel
theorem dX6_isDigit_6 : decode cX6_isDigit 6 = .ok (.iload_n 0, 1) := by decide +kernel
theorem dX6_isDigit_7 : decode cX6_isDigit 7 = .ok (.bipush 57, 2) := by decide +kernel
theorem dX6_isDigit_9 : decode cX6_isDigit 9 = .ok (.if_icmp .gt 7, 3) := by decide +kernel
theorem dX6_isDigit_12 : decode cX6_isDigit 12 = .ok (.iconst 1, 1) := by decide +kernel
theorem dX6_isDigit_13 : decode cX6_isDigit 13 = .ok (.goto 4, 3) := by decide +kernel
theorem dX6_isDigit_16 : decode cX6_isDigit 16 = .ok (.iconst 0, 1) := by decide +kernel
theorem dX6_isDigit_17 : decode cX6_isDigit 17 = .ok (.ireturn, 1) := by decide +kernel
theorem dX6_isWord_0 : decode cX6_isWord 0 = .ok (.aload_n 0, 1) := by decide +kernel
theorem dX6_isWord_1 : decode cX6_isWord 1 = .ok (.getfield 41, 3) := by decide +kernel
theorem dX6_isWord_4 : decode cX6_isWord 4 = .ok (.iconst 1, 1) := by decide +kernel
theorem dX6_isWord_5 : decode cX6_isWord 5 = .ok (.if_icmp .ne 19, 3) := by decide +kernel
theorem dX6_isWord_8 : decode cX6_isWord 8 = .ok (.aload_n 0, 1) := by decide +kernel
theorem dX6_isWord_9 : decode cX6_isWord 9 = .ok (.getfield 26, 3) := by decide +kernel
theorem dX6_isWord_12 : decode cX6_isWord 12 = .ok (.aload_n 0, 1) := by decide +kernel
theorem dX6_isWord_13 : decode cX6_isWord 13 = .ok (.getfield 165, 3) := by decide +kernel
theorem dX6_isWord_16 : decode cX6_isWord 16 = .ok (.isub, 1) := by decide +kernel
theorem dX6_isWord_17 : decode cX6_isWord 17 = .ok (.aload_n 1, 1) := by decide +kernel
theorem dX6_isWord_18 : decode cX6_isWord 18 = .ok (.invokevirtual 179, 3) := by decide +kernel
theorem dX6_isWord_21 : decode cX6_isWord 21 = .ok (.if_icmp .eq 5, 3) := by decide +kernel
theorem dX6_isWord_24 : decode cX6_isWord 24 = .ok (.iconst 0, 1) := by decide +kernel
theorem dX6_isWord_25 : decode cX6_isWord 25 = .ok (.ireturn, 1) := by decide +kernel
theorem dX6_isWord_26 : decode cX6_isWord 26 = .ok (.iconst 0, 1) := by decide +kernel
theorem dX6_isWord_27 : decode cX6_isWord 27 = .ok (.istore_n 2, 1) := by decide +kernel
theorem dX6_isWord_28 : decode cX6_isWord 28 = .ok (.iload_n 2, 1) := by decide +kernel
theorem dX6_isWord_29 : decode cX6_isWord 29 = .ok (.aload_n 1, 1) := by decide +kernel
theorem dX6_isWord_30 : decode cX6_isWord 30 = .ok (.invokevirtual 179, 3) := by decide +kernel
theorem dX6_isWord_33 : decode cX6_isWord 33 = .ok (.if_icmp .ge 30, 3) := by decide +kernel
theorem dX6_isWord_36 : decode cX6_isWord 36 = .ok (.aload_n 0, 1) := by decide +kernel
theorem dX6_isWord_37 : decode cX6_isWord 37 = .ok (.getfield 18, 3) := by decide +kernel
theorem dX6_isWord_40 : decode cX6_isWord 40 = .ok (.aload_n 0, 1) := by decide +kernel
theorem dX6_isWord_41 : decode cX6_isWord 41 = .ok (.getfield 165, 3) := by decide +kernel
theorem dX6_isWord_44 : decode cX6_isWord 44 = .ok (.iload_n 2, 1) := by decide +kernel
theorem dX6_isWord_45 : decode cX6_isWord 45 = .ok (.iadd, 1) := by decide +kernel
theorem dX6_isWord_46 : decode cX6_isWord 46 = .ok (.baload, 1) := by decide +kernel
theorem dX6_isWord_47 : decode cX6_isWord 47 = .ok (.aload_n 1, 1) := by decide +kernel
theorem dX6_isWord_48 : decode cX6_isWord 48 = .ok (.iload_n 2, 1) := by decide +kernel
theorem dX6_isWord_49 : decode cX6_isWord 49 = .ok (.invokevirtual 183, 3) := by decide +kernel
theorem dX6_isWord_52 : decode cX6_isWord 52 = .ok (.if_icmp .eq 5, 3) := by decide +kernel
theorem dX6_isWord_55 : decode cX6_isWord 55 = .ok (.iconst 0, 1) := by decide +kernel
theorem dX6_isWord_56 : decode cX6_isWord 56 = .ok (.ireturn, 1) := by decide +kernel
theorem dX6_isWord_57 : decode cX6_isWord 57 = .ok (.iinc 2 1, 3) := by decide +kernel
theorem dX6_isWord_60 : decode cX6_isWord 60 = .ok (.goto (-32), 3) := by decide +kernel
theorem dX6_isWord_63 : decode cX6_isWord 63 = .ok (.iconst 1, 1) := by decide +kernel
theorem dX6_isWord_64 : decode cX6_isWord 64 = .ok (.ireturn, 1) := by decide +kernel
theorem dX7_letterAt_0 : decode cX7_letterAt 0 = .ok (.iload_n 1, 1) := by decide +kernel
theorem dX7_letterAt_1 : decode cX7_letterAt 1 = .ok (.ifCond .lt 9, 3) := by decide +kernel
theorem dX7_letterAt_4 : decode cX7_letterAt 4 = .ok (.iload_n 1, 1) := by decide +kernel
theorem dX7_letterAt_5 : decode cX7_letterAt 5 = .ok (.bipush 6, 2) := by decide +kernel
theorem dX7_letterAt_7 : decode cX7_letterAt 7 = .ok (.if_icmp .lt 7, 3) := by decide +kernel
theorem dX7_letterAt_10 : decode cX7_letterAt 10 = .ok (.iconst 0, 1) := by decide +kernel
theorem dX7_letterAt_11 : decode cX7_letterAt 11 = .ok (.goto 11, 3) := by decide +kernel
theorem dX7_letterAt_14 : decode cX7_letterAt 14 = .ok (.iload_n 0, 1) := by decide +kernel
theorem dX7_letterAt_15 : decode cX7_letterAt 15 = .ok (.iconst 3, 1) := by decide +kernel
theorem dX7_letterAt_16 : decode cX7_letterAt 16 = .ok (.iload_n 1, 1) := by decide +kernel
theorem dX7_letterAt_17 : decode cX7_letterAt 17 = .ok (.imul, 1) := by decide +kernel
theorem dX7_letterAt_18 : decode cX7_letterAt 18 = .ok (.ishr, 1) := by decide +kernel
theorem dX7_letterAt_19 : decode cX7_letterAt 19 = .ok (.bipush 7, 2) := by decide +kernel
theorem dX7_letterAt_21 : decode cX7_letterAt 21 = .ok (.iand, 1) := by decide +kernel
theorem dX7_letterAt_22 : decode cX7_letterAt 22 = .ok (.ireturn, 1) := by decide +kernel
theorem dX7_size_0 : decode cX7_size 0 = .ok (.iconst 0, 1) := by decide +kernel
theorem dX7_size_1 : decode cX7_size 1 = .ok (.istore_n 1, 1) := by decide +kernel
theorem dX7_size_2 : decode cX7_size 2 = .ok (.iload_n 1, 1) := by decide +kernel
theorem dX7_size_3 : decode cX7_size 3 = .ok (.bipush 6, 2) := by decide +kernel
theorem dX7_size_5 : decode cX7_size 5 = .ok (.if_icmp .ge 17, 3) := by decide +kernel
theorem dX7_size_8 : decode cX7_size 8 = .ok (.iload_n 0, 1) := by decide +kernel
theorem dX7_size_9 : decode cX7_size 9 = .ok (.iconst 3, 1) := by decide +kernel
theorem dX7_size_10 : decode cX7_size 10 = .ok (.iload_n 1, 1) := by decide +kernel
theorem dX7_size_11 : decode cX7_size 11 = .ok (.imul, 1) := by decide +kernel
theorem dX7_size_12 : decode cX7_size 12 = .ok (.ishr, 1) := by decide +kernel
theorem dX7_size_13 : decode cX7_size 13 = .ok (.ifCond .eq 9, 3) := by decide +kernel
theorem dX7_size_16 : decode cX7_size 16 = .ok (.iinc 1 1, 3) := by decide +kernel
theorem dX7_size_19 : decode cX7_size 19 = .ok (.goto (-17), 3) := by decide +kernel
theorem dX7_size_22 : decode cX7_size 22 = .ok (.iload_n 1, 1) := by decide +kernel
theorem dX7_size_23 : decode cX7_size 23 = .ok (.ireturn, 1) := by decide +kernel
theorem dX7_with_0 : decode cX7_with 0 = .ok (.iload_n 0, 1) := by decide +kernel
theorem dX7_with_1 : decode cX7_with 1 = .ok (.bipush 7, 2) := by decide +kernel
theorem dX7_with_3 : decode cX7_with 3 = .ok (.iconst 3, 1) := by decide +kernel
theorem dX7_with_4 : decode cX7_with 4 = .ok (.iload_n 1, 1) := by decide +kernel
theorem dX7_with_5 : decode cX7_with 5 = .ok (.imul, 1) := by decide +kernel
theorem dX7_with_6 : decode cX7_with 6 = .ok (.ishl, 1) := by decide +kernel
theorem dX7_with_7 : decode cX7_with 7 = .ok (.iconst (-1), 1) := by decide +kernel
theorem dX7_with_8 : decode cX7_with 8 = .ok (.ixor, 1) := by decide +kernel
theorem dX7_with_9 : decode cX7_with 9 = .ok (.iand, 1) := by decide +kernel
theorem dX7_with_10 : decode cX7_with 10 = .ok (.iload_n 2, 1) := by decide +kernel
theorem dX7_with_11 : decode cX7_with 11 = .ok (.iconst 3, 1) := by decide +kernel
theorem dX7_with_12 : decode cX7_with 12 = .ok (.iload_n 1, 1) := by decide +kernel
theorem dX7_with_13 : decode cX7_with 13 = .ok (.imul, 1) := by decide +kernel
theorem dX7_with_14 : decode cX7_with 14 = .ok (.ishl, 1) := by decide +kernel
theorem dX7_with_15 : decode cX7_with 15 = .ok (.ior, 1) := by decide +kernel
theorem dX7_with_16 : decode cX7_with 16 = .ok (.ireturn, 1) := by decide +kernel
theorem dX7_reversed_0 : decode cX7_reversed 0 = .ok (.iconst 0, 1) := by decide +kernel
theorem dX7_reversed_1 : decode cX7_reversed 1 = .ok (.istore_n 1, 1) := by decide +kernel
theorem dX7_reversed_2 : decode cX7_reversed 2 = .ok (.iload_n 0, 1) := by decide +kernel
theorem dX7_reversed_3 : decode cX7_reversed 3 = .ok (.istore_n 2, 1) := by decide +kernel
theorem dX7_reversed_4 : decode cX7_reversed 4 = .ok (.iconst 0, 1) := by decide +kernel
theorem dX7_reversed_5 : decode cX7_reversed 5 = .ok (.istore_n 3, 1) := by decide +kernel
theorem dX7_reversed_6 : decode cX7_reversed 6 = .ok (.iload_n 3, 1) := by decide +kernel
theorem dX7_reversed_7 : decode cX7_reversed 7 = .ok (.bipush 6, 2) := by decide +kernel
theorem dX7_reversed_9 : decode cX7_reversed 9 = .ok (.if_icmp .ge 26, 3) := by decide +kernel
theorem dX7_reversed_12 : decode cX7_reversed 12 = .ok (.iload_n 2, 1) := by decide +kernel
theorem dX7_reversed_13 : decode cX7_reversed 13 = .ok (.ifCond .eq 22, 3) := by decide +kernel
theorem dX7_reversed_16 : decode cX7_reversed 16 = .ok (.iload_n 1, 1) := by decide +kernel
theorem dX7_reversed_17 : decode cX7_reversed 17 = .ok (.iconst 3, 1) := by decide +kernel
theorem dX7_reversed_18 : decode cX7_reversed 18 = .ok (.ishl, 1) := by decide +kernel
theorem dX7_reversed_19 : decode cX7_reversed 19 = .ok (.iload_n 2, 1) := by decide +kernel
theorem dX7_reversed_20 : decode cX7_reversed 20 = .ok (.bipush 7, 2) := by decide +kernel
theorem dX7_reversed_22 : decode cX7_reversed 22 = .ok (.iand, 1) := by decide +kernel
theorem dX7_reversed_23 : decode cX7_reversed 23 = .ok (.ior, 1) := by decide +kernel
theorem dX7_reversed_24 : decode cX7_reversed 24 = .ok (.istore_n 1, 1) := by decide +kernel
theorem dX7_reversed_25 : decode cX7_reversed 25 = .ok (.iload_n 2, 1) := by decide +kernel
theorem dX7_reversed_26 : decode cX7_reversed 26 = .ok (.iconst 3, 1) := by decide +kernel
theorem dX7_reversed_27 : decode cX7_reversed 27 = .ok (.ishr, 1) := by decide +kernel
theorem dX7_reversed_28 : decode cX7_reversed 28 = .ok (.istore_n 2, 1) := by decide +kernel
theorem dX7_reversed_29 : decode cX7_reversed 29 = .ok (.iinc 3 1, 3) := by decide +kernel
theorem dX7_reversed_32 : decode cX7_reversed 32 = .ok (.goto (-26), 3) := by decide +kernel
theorem dX7_reversed_35 : decode cX7_reversed 35 = .ok (.iload_n 1, 1) := by decide +kernel
theorem dX7_reversed_36 : decode cX7_reversed 36 = .ok (.ireturn, 1) := by decide +kernel
theorem dX7_replaced_0 : decode cX7_replaced 0 = .ok (.iload_n 0, 1) := by decide +kernel
theorem dX7_replaced_1 : decode cX7_replaced 1 = .ok (.istore_n 3, 1) := by decide +kernel
theorem dX7_replaced_2 : decode cX7_replaced 2 = .ok (.iconst 0, 1) := by decide +kernel
theorem dX7_replaced_3 : decode cX7_replaced 3 = .ok (.istore 4, 2) := by decide +kernel
theorem dX7_replaced_5 : decode cX7_replaced 5 = .ok (.iload 4, 2) := by decide +kernel
theorem dX7_replaced_7 : decode cX7_replaced 7 = .ok (.bipush 6, 2) := by decide +kernel
theorem dX7_replaced_9 : decode cX7_replaced 9 = .ok (.if_icmp .ge 33, 3) := by decide +kernel
theorem dX7_replaced_12 : decode cX7_replaced 12 = .ok (.iload_n 0, 1) := by decide +kernel
theorem dX7_replaced_13 : decode cX7_replaced 13 = .ok (.iconst 3, 1) := by decide +kernel
theorem dX7_replaced_14 : decode cX7_replaced 14 = .ok (.iload 4, 2) := by decide +kernel
theorem dX7_replaced_16 : decode cX7_replaced 16 = .ok (.imul, 1) := by decide +kernel
theorem dX7_replaced_17 : decode cX7_replaced 17 = .ok (.ishr, 1) := by decide +kernel
theorem dX7_replaced_18 : decode cX7_replaced 18 = .ok (.bipush 7, 2) := by decide +kernel
theorem dX7_replaced_20 : decode cX7_replaced 20 = .ok (.iand, 1) := by decide +kernel
theorem dX7_replaced_21 : decode cX7_replaced 21 = .ok (.iload_n 1, 1) := by decide +kernel
theorem dX7_replaced_22 : decode cX7_replaced 22 = .ok (.if_icmp .ne 14, 3) := by decide +kernel
theorem dX7_replaced_25 : decode cX7_replaced 25 = .ok (.iload_n 3, 1) := by decide +kernel
theorem dX7_replaced_26 : decode cX7_replaced 26 = .ok (.iload_n 1, 1) := by decide +kernel
theorem dX7_replaced_27 : decode cX7_replaced 27 = .ok (.iload_n 2, 1) := by decide +kernel
theorem dX7_replaced_28 : decode cX7_replaced 28 = .ok (.ixor, 1) := by decide +kernel
theorem dX7_replaced_29 : decode cX7_replaced 29 = .ok (.iconst 3, 1) := by decide +kernel
theorem dX7_replaced_30 : decode cX7_replaced 30 = .ok (.iload 4, 2) := by decide +kernel
theorem dX7_replaced_32 : decode cX7_replaced 32 = .ok (.imul, 1) := by decide +kernel
theorem dX7_replaced_33 : decode cX7_replaced 33 = .ok (.ishl, 1) := by decide +kernel
theorem dX7_replaced_34 : decode cX7_replaced 34 = .ok (.ixor, 1) := by decide +kernel
theorem dX7_replaced_35 : decode cX7_replaced 35 = .ok (.istore_n 3, 1) := by decide +kernel
theorem dX7_replaced_36 : decode cX7_replaced 36 = .ok (.iinc 4 1, 3) := by decide +kernel
theorem dX7_replaced_39 : decode cX7_replaced 39 = .ok (.goto (-34), 3) := by decide +kernel
theorem dX7_replaced_42 : decode cX7_replaced 42 = .ok (.iload_n 3, 1) := by decide +kernel
theorem dX7_replaced_43 : decode cX7_replaced 43 = .ok (.ireturn, 1) := by decide +kernel
theorem dX8_init_0 : decode cX8_init 0 = .ok (.aload_n 0, 1) := by decide +kernel
theorem dX8_init_1 : decode cX8_init 1 = .ok (.invokespecial 3, 3) := by decide +kernel
theorem dX8_init_4 : decode cX8_init 4 = .ok (.aload_n 0, 1) := by decide +kernel
theorem dX8_init_5 : decode cX8_init 5 = .ok (.sipush 128, 3) := by decide +kernel
theorem dX8_init_8 : decode cX8_init 8 = .ok (.newarray .int, 2) := by decide +kernel
theorem dX8_init_10 : decode cX8_init 10 = .ok (.putfield 9, 3) := by decide +kernel
theorem dX8_init_13 : decode cX8_init 13 = .ok (.aload_n 0, 1) := by decide +kernel
theorem dX8_init_14 : decode cX8_init 14 = .ok (.aload_n 1, 1) := by decide +kernel
theorem dX8_init_15 : decode cX8_init 15 = .ok (.putfield 15, 3) := by decide +kernel
theorem dX8_init_18 : decode cX8_init 18 = .ok (.aload_n 0, 1) := by decide +kernel
theorem dX8_init_19 : decode cX8_init 19 = .ok (.aload_n 2, 1) := by decide +kernel
theorem dX8_init_20 : decode cX8_init 20 = .ok (.putfield 19, 3) := by decide +kernel
theorem dX8_init_23 : decode cX8_init 23 = .ok (.aload_n 0, 1) := by decide +kernel
theorem dX8_init_24 : decode cX8_init 24 = .ok (.invokevirtual 23, 3) := by decide +kernel
theorem dX8_init_27 : decode cX8_init 27 = .ok (.return_, 1) := by decide +kernel
theorem dX8_forget_0 : decode cX8_forget 0 = .ok (.iconst 0, 1) := by decide +kernel
theorem dX8_forget_1 : decode cX8_forget 1 = .ok (.istore_n 1, 1) := by decide +kernel
theorem dX8_forget_2 : decode cX8_forget 2 = .ok (.iload_n 1, 1) := by decide +kernel
theorem dX8_forget_3 : decode cX8_forget 3 = .ok (.sipush 128, 3) := by decide +kernel
theorem dX8_forget_6 : decode cX8_forget 6 = .ok (.if_icmp .ge 16, 3) := by decide +kernel
theorem dX8_forget_9 : decode cX8_forget 9 = .ok (.aload_n 0, 1) := by decide +kernel
theorem dX8_forget_10 : decode cX8_forget 10 = .ok (.getfield 9, 3) := by decide +kernel
theorem dX8_forget_13 : decode cX8_forget 13 = .ok (.iload_n 1, 1) := by decide +kernel
theorem dX8_forget_14 : decode cX8_forget 14 = .ok (.iconst (-1), 1) := by decide +kernel
theorem dX8_forget_15 : decode cX8_forget 15 = .ok (.iastore, 1) := by decide +kernel
theorem dX8_forget_16 : decode cX8_forget 16 = .ok (.iinc 1 1, 3) := by decide +kernel
theorem dX8_forget_19 : decode cX8_forget 19 = .ok (.goto (-17), 3) := by decide +kernel
theorem dX8_forget_22 : decode cX8_forget 22 = .ok (.return_, 1) := by decide +kernel
theorem dX8_worthOf_0 : decode cX8_worthOf 0 = .ok (.aload_n 0, 1) := by decide +kernel
theorem dX8_worthOf_1 : decode cX8_worthOf 1 = .ok (.getfield 9, 3) := by decide +kernel
theorem dX8_worthOf_4 : decode cX8_worthOf 4 = .ok (.iload_n 1, 1) := by decide +kernel
theorem dX8_worthOf_5 : decode cX8_worthOf 5 = .ok (.iaload, 1) := by decide +kernel
theorem dX8_worthOf_6 : decode cX8_worthOf 6 = .ok (.iconst (-1), 1) := by decide +kernel
theorem dX8_worthOf_7 : decode cX8_worthOf 7 = .ok (.if_icmp .ne 33, 3) := by decide +kernel
theorem dX8_worthOf_10 : decode cX8_worthOf 10 = .ok (.aload_n 0, 1) := by decide +kernel
theorem dX8_worthOf_11 : decode cX8_worthOf 11 = .ok (.getfield 19, 3) := by decide +kernel
theorem dX8_worthOf_14 : decode cX8_worthOf 14 = .ok (.iload_n 1, 1) := by decide +kernel
theorem dX8_worthOf_15 : decode cX8_worthOf 15 = .ok (.iconst 1, 1) := by decide +kernel
theorem dX8_worthOf_16 : decode cX8_worthOf 16 = .ok (.invokevirtual 26, 3) := by decide +kernel
theorem dX8_worthOf_19 : decode cX8_worthOf 19 = .ok (.aload_n 0, 1) := by decide +kernel
theorem dX8_worthOf_20 : decode cX8_worthOf 20 = .ok (.getfield 9, 3) := by decide +kernel
theorem dX8_worthOf_23 : decode cX8_worthOf 23 = .ok (.iload_n 1, 1) := by decide +kernel
theorem dX8_worthOf_24 : decode cX8_worthOf 24 = .ok (.aload_n 0, 1) := by decide +kernel
theorem dX8_worthOf_25 : decode cX8_worthOf 25 = .ok (.getfield 19, 3) := by decide +kernel
theorem dX8_worthOf_28 : decode cX8_worthOf 28 = .ok (.iconst 0, 1) := by decide +kernel
theorem dX8_worthOf_29 : decode cX8_worthOf 29 = .ok (.aload_n 0, 1) := by decide +kernel
theorem dX8_worthOf_30 : decode cX8_worthOf 30 = .ok (.getfield 15, 3) := by decide +kernel
theorem dX8_worthOf_33 : decode cX8_worthOf 33 = .ok (.getfield 32, 3) := by decide +kernel
theorem dX8_worthOf_36 : decode cX8_worthOf 36 = .ok (.invokevirtual 38, 3) := by decide +kernel
theorem dX8_worthOf_39 : decode cX8_worthOf 39 = .ok (.iastore, 1) := by decide +kernel
theorem dX8_worthOf_40 : decode cX8_worthOf 40 = .ok (.aload_n 0, 1) := by decide +kernel
theorem dX8_worthOf_41 : decode cX8_worthOf 41 = .ok (.getfield 9, 3) := by decide +kernel
theorem dX8_worthOf_44 : decode cX8_worthOf 44 = .ok (.iload_n 1, 1) := by decide +kernel
theorem dX8_worthOf_45 : decode cX8_worthOf 45 = .ok (.iaload, 1) := by decide +kernel
theorem dX8_worthOf_46 : decode cX8_worthOf 46 = .ok (.ireturn, 1) := by decide +kernel
theorem dX8_gainInAllOrders_0 : decode cX8_gainInAllOrders 0 = .ok (.iconst 0, 1) := by decide +kernel
theorem dX8_gainInAllOrders_1 : decode cX8_gainInAllOrders 1 = .ok (.istore_n 2, 1) := by decide +kernel
theorem dX8_gainInAllOrders_2 : decode cX8_gainInAllOrders 2 = .ok (.iconst 0, 1) := by decide +kernel
theorem dX8_gainInAllOrders_3 : decode cX8_gainInAllOrders 3 = .ok (.istore_n 3, 1) := by decide +kernel
theorem dX8_gainInAllOrders_4 : decode cX8_gainInAllOrders 4 = .ok (.iload_n 3, 1) := by decide +kernel
theorem dX8_gainInAllOrders_5 : decode cX8_gainInAllOrders 5 = .ok (.aload_n 0, 1) := by decide +kernel
theorem dX8_gainInAllOrders_6 : decode cX8_gainInAllOrders 6 = .ok (.getfield 15, 3) := by decide +kernel
theorem dX8_gainInAllOrders_9 : decode cX8_gainInAllOrders 9 = .ok (.invokevirtual 42, 3) := by decide +kernel
theorem dX8_gainInAllOrders_12 : decode cX8_gainInAllOrders 12 = .ok (.if_icmp .gt 67, 3) := by decide +kernel
theorem dX8_gainInAllOrders_15 : decode cX8_gainInAllOrders 15 = .ok (.iload_n 3, 1) := by decide +kernel
theorem dX8_gainInAllOrders_16 : decode cX8_gainInAllOrders 16 = .ok (.iload_n 1, 1) := by decide +kernel
theorem dX8_gainInAllOrders_17 : decode cX8_gainInAllOrders 17 = .ok (.ishr, 1) := by decide +kernel
theorem dX8_gainInAllOrders_18 : decode cX8_gainInAllOrders 18 = .ok (.iconst 1, 1) := by decide +kernel
theorem dX8_gainInAllOrders_19 : decode cX8_gainInAllOrders 19 = .ok (.iand, 1) := by decide +kernel
theorem dX8_gainInAllOrders_20 : decode cX8_gainInAllOrders 20 = .ok (.ifCond .ne 53, 3) := by decide +kernel
theorem dX8_gainInAllOrders_23 : decode cX8_gainInAllOrders 23 = .ok (.iload_n 3, 1) := by decide +kernel
theorem dX8_gainInAllOrders_24 : decode cX8_gainInAllOrders 24 = .ok (.invokestatic 46, 3) := by decide +kernel
theorem dX8_gainInAllOrders_27 : decode cX8_gainInAllOrders 27 = .ok (.istore 4, 2) := by decide +kernel
theorem dX8_gainInAllOrders_29 : decode cX8_gainInAllOrders 29 = .ok (.iload 4, 2) := by decide +kernel
theorem dX8_gainInAllOrders_31 : decode cX8_gainInAllOrders 31 = .ok (.invokestatic 52, 3) := by decide +kernel
theorem dX8_gainInAllOrders_34 : decode cX8_gainInAllOrders 34 = .ok (.aload_n 0, 1) := by decide +kernel
theorem dX8_gainInAllOrders_35 : decode cX8_gainInAllOrders 35 = .ok (.getfield 15, 3) := by decide +kernel
theorem dX8_gainInAllOrders_38 : decode cX8_gainInAllOrders 38 = .ok (.getfield 55, 3) := by decide +kernel
theorem dX8_gainInAllOrders_41 : decode cX8_gainInAllOrders 41 = .ok (.iconst 1, 1) := by decide +kernel
theorem dX8_gainInAllOrders_42 : decode cX8_gainInAllOrders 42 = .ok (.isub, 1) := by decide +kernel
theorem dX8_gainInAllOrders_43 : decode cX8_gainInAllOrders 43 = .ok (.iload 4, 2) := by decide +kernel
theorem dX8_gainInAllOrders_45 : decode cX8_gainInAllOrders 45 = .ok (.isub, 1) := by decide +kernel
theorem dX8_gainInAllOrders_46 : decode cX8_gainInAllOrders 46 = .ok (.invokestatic 52, 3) := by decide +kernel
theorem dX8_gainInAllOrders_49 : decode cX8_gainInAllOrders 49 = .ok (.imul, 1) := by decide +kernel
theorem dX8_gainInAllOrders_50 : decode cX8_gainInAllOrders 50 = .ok (.istore 5, 2) := by decide +kernel
theorem dX8_gainInAllOrders_52 : decode cX8_gainInAllOrders 52 = .ok (.iload_n 2, 1) := by decide +kernel
theorem dX8_gainInAllOrders_53 : decode cX8_gainInAllOrders 53 = .ok (.iload 5, 2) := by decide +kernel
theorem dX8_gainInAllOrders_55 : decode cX8_gainInAllOrders 55 = .ok (.aload_n 0, 1) := by decide +kernel
theorem dX8_gainInAllOrders_56 : decode cX8_gainInAllOrders 56 = .ok (.iload_n 3, 1) := by decide +kernel
theorem dX8_gainInAllOrders_57 : decode cX8_gainInAllOrders 57 = .ok (.iconst 1, 1) := by decide +kernel
theorem dX8_gainInAllOrders_58 : decode cX8_gainInAllOrders 58 = .ok (.iload_n 1, 1) := by decide +kernel
theorem dX8_gainInAllOrders_59 : decode cX8_gainInAllOrders 59 = .ok (.ishl, 1) := by decide +kernel
theorem dX8_gainInAllOrders_60 : decode cX8_gainInAllOrders 60 = .ok (.ior, 1) := by decide +kernel
theorem dX8_gainInAllOrders_61 : decode cX8_gainInAllOrders 61 = .ok (.invokevirtual 58, 3) := by decide +kernel
theorem dX8_gainInAllOrders_64 : decode cX8_gainInAllOrders 64 = .ok (.aload_n 0, 1) := by decide +kernel
theorem dX8_gainInAllOrders_65 : decode cX8_gainInAllOrders 65 = .ok (.iload_n 3, 1) := by decide +kernel
theorem dX8_gainInAllOrders_66 : decode cX8_gainInAllOrders 66 = .ok (.invokevirtual 58, 3) := by decide +kernel
theorem dX8_gainInAllOrders_69 : decode cX8_gainInAllOrders 69 = .ok (.isub, 1) := by decide +kernel
theorem dX8_gainInAllOrders_70 : decode cX8_gainInAllOrders 70 = .ok (.imul, 1) := by decide +kernel
theorem dX8_gainInAllOrders_71 : decode cX8_gainInAllOrders 71 = .ok (.iadd, 1) := by decide +kernel
theorem dX8_gainInAllOrders_72 : decode cX8_gainInAllOrders 72 = .ok (.istore_n 2, 1) := by decide +kernel
theorem dX8_gainInAllOrders_73 : decode cX8_gainInAllOrders 73 = .ok (.iinc 3 1, 3) := by decide +kernel
theorem dX8_gainInAllOrders_76 : decode cX8_gainInAllOrders 76 = .ok (.goto (-72), 3) := by decide +kernel
theorem dX8_gainInAllOrders_79 : decode cX8_gainInAllOrders 79 = .ok (.iload_n 2, 1) := by decide +kernel
theorem dX8_gainInAllOrders_80 : decode cX8_gainInAllOrders 80 = .ok (.ireturn, 1) := by decide +kernel
theorem dX8_factorial_0 : decode cX8_factorial 0 = .ok (.iconst 1, 1) := by decide +kernel
theorem dX8_factorial_1 : decode cX8_factorial 1 = .ok (.istore_n 1, 1) := by decide +kernel
theorem dX8_factorial_2 : decode cX8_factorial 2 = .ok (.iconst 2, 1) := by decide +kernel
theorem dX8_factorial_3 : decode cX8_factorial 3 = .ok (.istore_n 2, 1) := by decide +kernel
theorem dX8_factorial_4 : decode cX8_factorial 4 = .ok (.iload_n 2, 1) := by decide +kernel
theorem dX8_factorial_5 : decode cX8_factorial 5 = .ok (.iload_n 0, 1) := by decide +kernel
theorem dX8_factorial_6 : decode cX8_factorial 6 = .ok (.if_icmp .gt 19, 3) := by decide +kernel
theorem dX8_factorial_9 : decode cX8_factorial 9 = .ok (.iload_n 2, 1) := by decide +kernel
theorem dX8_factorial_10 : decode cX8_factorial 10 = .ok (.bipush 7, 2) := by decide +kernel
theorem dX8_factorial_12 : decode cX8_factorial 12 = .ok (.if_icmp .gt 13, 3) := by decide +kernel
theorem dX8_factorial_15 : decode cX8_factorial 15 = .ok (.iload_n 1, 1) := by decide +kernel
theorem dX8_factorial_16 : decode cX8_factorial 16 = .ok (.iload_n 2, 1) := by decide +kernel
theorem dX8_factorial_17 : decode cX8_factorial 17 = .ok (.imul, 1) := by decide +kernel
theorem dX8_factorial_18 : decode cX8_factorial 18 = .ok (.istore_n 1, 1) := by decide +kernel
theorem dX8_factorial_19 : decode cX8_factorial 19 = .ok (.iinc 2 1, 3) := by decide +kernel
theorem dX8_factorial_22 : decode cX8_factorial 22 = .ok (.goto (-18), 3) := by decide +kernel
theorem dX8_factorial_25 : decode cX8_factorial 25 = .ok (.iload_n 1, 1) := by decide +kernel
theorem dX8_factorial_26 : decode cX8_factorial 26 = .ok (.ireturn, 1) := by decide +kernel
theorem dX8_leastLightingAll_0 : decode cX8_leastLightingAll 0 = .ok (.iconst (-1), 1) := by decide +kernel
theorem dX8_leastLightingAll_1 : decode cX8_leastLightingAll 1 = .ok (.istore_n 1, 1) := by decide +kernel
theorem dX8_leastLightingAll_2 : decode cX8_leastLightingAll 2 = .ok (.iconst 0, 1) := by decide +kernel
theorem dX8_leastLightingAll_3 : decode cX8_leastLightingAll 3 = .ok (.istore_n 2, 1) := by decide +kernel
theorem dX8_leastLightingAll_4 : decode cX8_leastLightingAll 4 = .ok (.iload_n 2, 1) := by decide +kernel
theorem dX8_leastLightingAll_5 : decode cX8_leastLightingAll 5 = .ok (.aload_n 0, 1) := by decide +kernel
theorem dX8_leastLightingAll_6 : decode cX8_leastLightingAll 6 = .ok (.getfield 15, 3) := by decide +kernel
theorem dX8_leastLightingAll_9 : decode cX8_leastLightingAll 9 = .ok (.invokevirtual 42, 3) := by decide +kernel
theorem dX8_leastLightingAll_12 : decode cX8_leastLightingAll 12 = .ok (.if_icmp .gt 52, 3) := by decide +kernel
theorem dX8_leastLightingAll_15 : decode cX8_leastLightingAll 15 = .ok (.iload_n 1, 1) := by decide +kernel
theorem dX8_leastLightingAll_16 : decode cX8_leastLightingAll 16 = .ok (.iconst (-1), 1) := by decide +kernel
theorem dX8_leastLightingAll_17 : decode cX8_leastLightingAll 17 = .ok (.if_icmp .eq 14, 3) := by decide +kernel
theorem dX8_leastLightingAll_20 : decode cX8_leastLightingAll 20 = .ok (.iload_n 2, 1) := by decide +kernel
theorem dX8_leastLightingAll_21 : decode cX8_leastLightingAll 21 = .ok (.invokestatic 46, 3) := by decide +kernel
theorem dX8_leastLightingAll_24 : decode cX8_leastLightingAll 24 = .ok (.iload_n 1, 1) := by decide +kernel
theorem dX8_leastLightingAll_25 : decode cX8_leastLightingAll 25 = .ok (.invokestatic 46, 3) := by decide +kernel
theorem dX8_leastLightingAll_28 : decode cX8_leastLightingAll 28 = .ok (.if_icmp .ge 7, 3) := by decide +kernel
theorem dX8_leastLightingAll_31 : decode cX8_leastLightingAll 31 = .ok (.iconst 1, 1) := by decide +kernel
theorem dX8_leastLightingAll_32 : decode cX8_leastLightingAll 32 = .ok (.goto 4, 3) := by decide +kernel
theorem dX8_leastLightingAll_35 : decode cX8_leastLightingAll 35 = .ok (.iconst 0, 1) := by decide +kernel
theorem dX8_leastLightingAll_36 : decode cX8_leastLightingAll 36 = .ok (.istore_n 3, 1) := by decide +kernel
theorem dX8_leastLightingAll_37 : decode cX8_leastLightingAll 37 = .ok (.iload_n 3, 1) := by decide +kernel
theorem dX8_leastLightingAll_38 : decode cX8_leastLightingAll 38 = .ok (.ifCond .eq 20, 3) := by decide +kernel
theorem dX8_leastLightingAll_41 : decode cX8_leastLightingAll 41 = .ok (.aload_n 0, 1) := by decide +kernel
theorem dX8_leastLightingAll_42 : decode cX8_leastLightingAll 42 = .ok (.iload_n 2, 1) := by decide +kernel
theorem dX8_leastLightingAll_43 : decode cX8_leastLightingAll 43 = .ok (.invokevirtual 58, 3) := by decide +kernel
theorem dX8_leastLightingAll_46 : decode cX8_leastLightingAll 46 = .ok (.aload_n 0, 1) := by decide +kernel
theorem dX8_leastLightingAll_47 : decode cX8_leastLightingAll 47 = .ok (.getfield 15, 3) := by decide +kernel
theorem dX8_leastLightingAll_50 : decode cX8_leastLightingAll 50 = .ok (.getfield 55, 3) := by decide +kernel
theorem dX8_leastLightingAll_53 : decode cX8_leastLightingAll 53 = .ok (.if_icmp .ne 5, 3) := by decide +kernel
theorem dX8_leastLightingAll_56 : decode cX8_leastLightingAll 56 = .ok (.iload_n 2, 1) := by decide +kernel
theorem dX8_leastLightingAll_57 : decode cX8_leastLightingAll 57 = .ok (.istore_n 1, 1) := by decide +kernel
theorem dX8_leastLightingAll_58 : decode cX8_leastLightingAll 58 = .ok (.iinc 2 1, 3) := by decide +kernel
theorem dX8_leastLightingAll_61 : decode cX8_leastLightingAll 61 = .ok (.goto (-57), 3) := by decide +kernel
theorem dX8_leastLightingAll_64 : decode cX8_leastLightingAll 64 = .ok (.iload_n 1, 1) := by decide +kernel
theorem dX8_leastLightingAll_65 : decode cX8_leastLightingAll 65 = .ok (.ireturn, 1) := by decide +kernel
theorem dX9_init_0 : decode cX9_init 0 = .ok (.aload_n 0, 1) := by decide +kernel
theorem dX9_init_1 : decode cX9_init 1 = .ok (.invokespecial 3, 3) := by decide +kernel
theorem dX9_init_4 : decode cX9_init 4 = .ok (.aload_n 0, 1) := by decide +kernel
theorem dX9_init_5 : decode cX9_init 5 = .ok (.iconst 4, 1) := by decide +kernel
theorem dX9_init_6 : decode cX9_init 6 = .ok (.newarray .int, 2) := by decide +kernel
theorem dX9_init_8 : decode cX9_init 8 = .ok (.putfield 11, 3) := by decide +kernel
theorem dX9_init_11 : decode cX9_init 11 = .ok (.aload_n 0, 1) := by decide +kernel
theorem dX9_init_12 : decode cX9_init 12 = .ok (.iconst 4, 1) := by decide +kernel
theorem dX9_init_13 : decode cX9_init 13 = .ok (.newarray .int, 2) := by decide +kernel
theorem dX9_init_15 : decode cX9_init 15 = .ok (.putfield 15, 3) := by decide +kernel
theorem dX9_init_18 : decode cX9_init 18 = .ok (.aload_n 0, 1) := by decide +kernel
theorem dX9_init_19 : decode cX9_init 19 = .ok (.iconst 4, 1) := by decide +kernel
theorem dX9_init_20 : decode cX9_init 20 = .ok (.bipush 60, 2) := by decide +kernel
theorem dX9_init_22 : decode cX9_init 22 = .ok (.multianewarray 18 2, 4) := by decide +kernel
theorem dX9_init_26 : decode cX9_init 26 = .ok (.putfield 20, 3) := by decide +kernel
theorem dX9_init_29 : decode cX9_init 29 = .ok (.iconst 0, 1) := by decide +kernel
theorem dX9_init_30 : decode cX9_init 30 = .ok (.istore_n 1, 1) := by decide +kernel
theorem dX9_init_31 : decode cX9_init 31 = .ok (.iload_n 1, 1) := by decide +kernel
theorem dX9_init_32 : decode cX9_init 32 = .ok (.iconst 4, 1) := by decide +kernel
theorem dX9_init_33 : decode cX9_init 33 = .ok (.if_icmp .ge 16, 3) := by decide +kernel
theorem dX9_init_36 : decode cX9_init 36 = .ok (.aload_n 0, 1) := by decide +kernel
theorem dX9_init_37 : decode cX9_init 37 = .ok (.getfield 11, 3) := by decide +kernel
theorem dX9_init_40 : decode cX9_init 40 = .ok (.iload_n 1, 1) := by decide +kernel
theorem dX9_init_41 : decode cX9_init 41 = .ok (.iconst (-1), 1) := by decide +kernel
theorem dX9_init_42 : decode cX9_init 42 = .ok (.iastore, 1) := by decide +kernel
theorem dX9_init_43 : decode cX9_init 43 = .ok (.iinc 1 1, 3) := by decide +kernel
theorem dX9_init_46 : decode cX9_init 46 = .ok (.goto (-15), 3) := by decide +kernel
theorem dX9_init_49 : decode cX9_init 49 = .ok (.return_, 1) := by decide +kernel
theorem dX9_noSlot_0 : decode cX9_noSlot 0 = .ok (.iload_n 0, 1) := by decide +kernel
theorem dX9_noSlot_1 : decode cX9_noSlot 1 = .ok (.ifCond .lt 8, 3) := by decide +kernel
theorem dX9_noSlot_4 : decode cX9_noSlot 4 = .ok (.iload_n 0, 1) := by decide +kernel
theorem dX9_noSlot_5 : decode cX9_noSlot 5 = .ok (.iconst 4, 1) := by decide +kernel
theorem dX9_noSlot_6 : decode cX9_noSlot 6 = .ok (.if_icmp .lt 7, 3) := by decide +kernel
theorem dX9_noSlot_9 : decode cX9_noSlot 9 = .ok (.iconst 1, 1) := by decide +kernel
theorem dX9_noSlot_10 : decode cX9_noSlot 10 = .ok (.goto 4, 3) := by decide +kernel
theorem dX9_noSlot_13 : decode cX9_noSlot 13 = .ok (.iconst 0, 1) := by decide +kernel
theorem dX9_noSlot_14 : decode cX9_noSlot 14 = .ok (.ireturn, 1) := by decide +kernel
theorem dX9_hasRow_0 : decode cX9_hasRow 0 = .ok (.aload_n 0, 1) := by decide +kernel
theorem dX9_hasRow_1 : decode cX9_hasRow 1 = .ok (.getfield 11, 3) := by decide +kernel
theorem dX9_hasRow_4 : decode cX9_hasRow 4 = .ok (.iload_n 1, 1) := by decide +kernel
theorem dX9_hasRow_5 : decode cX9_hasRow 5 = .ok (.iaload, 1) := by decide +kernel
theorem dX9_hasRow_6 : decode cX9_hasRow 6 = .ok (.iconst (-1), 1) := by decide +kernel
theorem dX9_hasRow_7 : decode cX9_hasRow 7 = .ok (.if_icmp .eq 7, 3) := by decide +kernel
theorem dX9_hasRow_10 : decode cX9_hasRow 10 = .ok (.iconst 1, 1) := by decide +kernel
theorem dX9_hasRow_11 : decode cX9_hasRow 11 = .ok (.goto 4, 3) := by decide +kernel
theorem dX9_hasRow_14 : decode cX9_hasRow 14 = .ok (.iconst 0, 1) := by decide +kernel
theorem dX9_hasRow_15 : decode cX9_hasRow 15 = .ok (.ireturn, 1) := by decide +kernel
theorem dX9_rowsHeld_0 : decode cX9_rowsHeld 0 = .ok (.iconst 0, 1) := by decide +kernel
theorem dX9_rowsHeld_1 : decode cX9_rowsHeld 1 = .ok (.istore_n 1, 1) := by decide +kernel
theorem dX9_rowsHeld_2 : decode cX9_rowsHeld 2 = .ok (.iconst 0, 1) := by decide +kernel
theorem dX9_rowsHeld_3 : decode cX9_rowsHeld 3 = .ok (.istore_n 2, 1) := by decide +kernel
theorem dX9_rowsHeld_4 : decode cX9_rowsHeld 4 = .ok (.iload_n 2, 1) := by decide +kernel
theorem dX9_rowsHeld_5 : decode cX9_rowsHeld 5 = .ok (.iconst 4, 1) := by decide +kernel
theorem dX9_rowsHeld_6 : decode cX9_rowsHeld 6 = .ok (.if_icmp .ge 20, 3) := by decide +kernel
theorem dX9_rowsHeld_9 : decode cX9_rowsHeld 9 = .ok (.aload_n 0, 1) := by decide +kernel
theorem dX9_rowsHeld_10 : decode cX9_rowsHeld 10 = .ok (.iload_n 2, 1) := by decide +kernel
theorem dX9_rowsHeld_11 : decode cX9_rowsHeld 11 = .ok (.invokevirtual 23, 3) := by decide +kernel
theorem dX9_rowsHeld_14 : decode cX9_rowsHeld 14 = .ok (.ifCond .eq 6, 3) := by decide +kernel
theorem dX9_rowsHeld_17 : decode cX9_rowsHeld 17 = .ok (.iinc 1 1, 3) := by decide +kernel
theorem dX9_rowsHeld_20 : decode cX9_rowsHeld 20 = .ok (.iinc 2 1, 3) := by decide +kernel
theorem dX9_rowsHeld_23 : decode cX9_rowsHeld 23 = .ok (.goto (-19), 3) := by decide +kernel
theorem dX9_rowsHeld_26 : decode cX9_rowsHeld 26 = .ok (.iload_n 1, 1) := by decide +kernel
theorem dX9_rowsHeld_27 : decode cX9_rowsHeld 27 = .ok (.ireturn, 1) := by decide +kernel
theorem dX9_begin_0 : decode cX9_begin 0 = .ok (.aload_n 0, 1) := by decide +kernel
theorem dX9_begin_1 : decode cX9_begin 1 = .ok (.getfield 11, 3) := by decide +kernel
theorem dX9_begin_4 : decode cX9_begin 4 = .ok (.iload_n 1, 1) := by decide +kernel
theorem dX9_begin_5 : decode cX9_begin 5 = .ok (.iload_n 2, 1) := by decide +kernel
theorem dX9_begin_6 : decode cX9_begin 6 = .ok (.iastore, 1) := by decide +kernel
theorem dX9_begin_7 : decode cX9_begin 7 = .ok (.aload_n 0, 1) := by decide +kernel
theorem dX9_begin_8 : decode cX9_begin 8 = .ok (.getfield 15, 3) := by decide +kernel
theorem dX9_begin_11 : decode cX9_begin 11 = .ok (.iload_n 1, 1) := by decide +kernel
theorem dX9_begin_12 : decode cX9_begin 12 = .ok (.iload_n 3, 1) := by decide +kernel
theorem dX9_begin_13 : decode cX9_begin 13 = .ok (.iastore, 1) := by decide +kernel
theorem dX9_begin_14 : decode cX9_begin 14 = .ok (.iconst 0, 1) := by decide +kernel
theorem dX9_begin_15 : decode cX9_begin 15 = .ok (.istore 4, 2) := by decide +kernel
theorem dX9_begin_17 : decode cX9_begin 17 = .ok (.iload 4, 2) := by decide +kernel
theorem dX9_begin_19 : decode cX9_begin 19 = .ok (.bipush 60, 2) := by decide +kernel
theorem dX9_begin_21 : decode cX9_begin 21 = .ok (.if_icmp .ge 19, 3) := by decide +kernel
theorem dX9_begin_24 : decode cX9_begin 24 = .ok (.aload_n 0, 1) := by decide +kernel
theorem dX9_begin_25 : decode cX9_begin 25 = .ok (.getfield 20, 3) := by decide +kernel
theorem dX9_begin_28 : decode cX9_begin 28 = .ok (.iload_n 1, 1) := by decide +kernel
theorem dX9_begin_29 : decode cX9_begin 29 = .ok (.aaload, 1) := by decide +kernel
theorem dX9_begin_30 : decode cX9_begin 30 = .ok (.iload 4, 2) := by decide +kernel
theorem dX9_begin_32 : decode cX9_begin 32 = .ok (.lconst 0, 1) := by decide +kernel
theorem dX9_begin_33 : decode cX9_begin 33 = .ok (.lastore, 1) := by decide +kernel
theorem dX9_begin_34 : decode cX9_begin 34 = .ok (.iinc 4 1, 3) := by decide +kernel
theorem dX9_begin_37 : decode cX9_begin 37 = .ok (.goto (-20), 3) := by decide +kernel
theorem dX9_begin_40 : decode cX9_begin 40 = .ok (.return_, 1) := by decide +kernel
theorem dX9_areBeyond_0 : decode cX9_areBeyond 0 = .ok (.iload_n 2, 1) := by decide +kernel
theorem dX9_areBeyond_1 : decode cX9_areBeyond 1 = .ok (.ifCond .lt 23, 3) := by decide +kernel
theorem dX9_areBeyond_4 : decode cX9_areBeyond 4 = .ok (.iload_n 3, 1) := by decide +kernel
theorem dX9_areBeyond_5 : decode cX9_areBeyond 5 = .ok (.ifCond .lt 19, 3) := by decide +kernel
theorem dX9_areBeyond_8 : decode cX9_areBeyond 8 = .ok (.iload_n 2, 1) := by decide +kernel
theorem dX9_areBeyond_9 : decode cX9_areBeyond 9 = .ok (.i2l, 1) := by decide +kernel
theorem dX9_areBeyond_10 : decode cX9_areBeyond 10 = .ok (.iload_n 3, 1) := by decide +kernel
theorem dX9_areBeyond_11 : decode cX9_areBeyond 11 = .ok (.i2l, 1) := by decide +kernel
theorem dX9_areBeyond_12 : decode cX9_areBeyond 12 = .ok (.ladd, 1) := by decide +kernel
theorem dX9_areBeyond_13 : decode cX9_areBeyond 13 = .ok (.aload_n 0, 1) := by decide +kernel
theorem dX9_areBeyond_14 : decode cX9_areBeyond 14 = .ok (.getfield 15, 3) := by decide +kernel
theorem dX9_areBeyond_17 : decode cX9_areBeyond 17 = .ok (.iload_n 1, 1) := by decide +kernel
theorem dX9_areBeyond_18 : decode cX9_areBeyond 18 = .ok (.iaload, 1) := by decide +kernel
theorem dX9_areBeyond_19 : decode cX9_areBeyond 19 = .ok (.i2l, 1) := by decide +kernel
theorem dX9_areBeyond_20 : decode cX9_areBeyond 20 = .ok (.lcmp, 1) := by decide +kernel
theorem dX9_areBeyond_21 : decode cX9_areBeyond 21 = .ok (.ifCond .le 7, 3) := by decide +kernel
theorem dX9_areBeyond_24 : decode cX9_areBeyond 24 = .ok (.iconst 1, 1) := by decide +kernel
theorem dX9_areBeyond_25 : decode cX9_areBeyond 25 = .ok (.goto 4, 3) := by decide +kernel
theorem dX9_areBeyond_28 : decode cX9_areBeyond 28 = .ok (.iconst 0, 1) := by decide +kernel
theorem dX9_areBeyond_29 : decode cX9_areBeyond 29 = .ok (.ireturn, 1) := by decide +kernel
theorem dX9_put_0 : decode cX9_put 0 = .ok (.bipush 64, 2) := by decide +kernel
theorem dX9_put_2 : decode cX9_put 2 = .ok (.bipush 8, 2) := by decide +kernel
theorem dX9_put_4 : decode cX9_put 4 = .ok (.aload_n 0, 1) := by decide +kernel
theorem dX9_put_5 : decode cX9_put 5 = .ok (.getfield 11, 3) := by decide +kernel
theorem dX9_put_8 : decode cX9_put 8 = .ok (.iload_n 1, 1) := by decide +kernel
theorem dX9_put_9 : decode cX9_put 9 = .ok (.iaload, 1) := by decide +kernel
theorem dX9_put_10 : decode cX9_put 10 = .ok (.ishl, 1) := by decide +kernel
theorem dX9_put_11 : decode cX9_put 11 = .ok (.isub, 1) := by decide +kernel
theorem dX9_put_12 : decode cX9_put 12 = .ok (.istore 5, 2) := by decide +kernel
theorem dX9_put_14 : decode cX9_put 14 = .ok (.aload_n 0, 1) := by decide +kernel
theorem dX9_put_15 : decode cX9_put 15 = .ok (.getfield 20, 3) := by decide +kernel
theorem dX9_put_18 : decode cX9_put 18 = .ok (.iload_n 1, 1) := by decide +kernel
theorem dX9_put_19 : decode cX9_put 19 = .ok (.aaload, 1) := by decide +kernel
theorem dX9_put_20 : decode cX9_put 20 = .ok (.iload_n 2, 1) := by decide +kernel
theorem dX9_put_21 : decode cX9_put 21 = .ok (.lload_n 3, 1) := by decide +kernel
theorem dX9_put_22 : decode cX9_put 22 = .ok (.iload 5, 2) := by decide +kernel
theorem dX9_put_24 : decode cX9_put 24 = .ok (.lshl, 1) := by decide +kernel
theorem dX9_put_25 : decode cX9_put 25 = .ok (.iload 5, 2) := by decide +kernel
theorem dX9_put_27 : decode cX9_put 27 = .ok (.lshr, 1) := by decide +kernel
theorem dX9_put_28 : decode cX9_put 28 = .ok (.lastore, 1) := by decide +kernel
theorem dX9_put_29 : decode cX9_put 29 = .ok (.return_, 1) := by decide +kernel
theorem dX9_saying_0 : decode cX9_saying 0 = .ok (.aload_n 0, 1) := by decide +kernel
theorem dX9_saying_1 : decode cX9_saying 1 = .ok (.getfield 15, 3) := by decide +kernel
theorem dX9_saying_4 : decode cX9_saying 4 = .ok (.iload_n 1, 1) := by decide +kernel
theorem dX9_saying_5 : decode cX9_saying 5 = .ok (.iaload, 1) := by decide +kernel
theorem dX9_saying_6 : decode cX9_saying 6 = .ok (.istore_n 2, 1) := by decide +kernel
theorem dX9_saying_7 : decode cX9_saying 7 = .ok (.iload_n 2, 1) := by decide +kernel
theorem dX9_saying_8 : decode cX9_saying 8 = .ok (.bipush 6, 2) := by decide +kernel
theorem dX9_saying_10 : decode cX9_saying 10 = .ok (.if_icmp .le 5, 3) := by decide +kernel
theorem dX9_saying_13 : decode cX9_saying 13 = .ok (.iconst 0, 1) := by decide +kernel
theorem dX9_saying_14 : decode cX9_saying 14 = .ok (.ireturn, 1) := by decide +kernel
theorem dX9_saying_15 : decode cX9_saying 15 = .ok (.iconst 0, 1) := by decide +kernel
theorem dX9_saying_16 : decode cX9_saying 16 = .ok (.istore_n 3, 1) := by decide +kernel
theorem dX9_saying_17 : decode cX9_saying 17 = .ok (.iconst 0, 1) := by decide +kernel
theorem dX9_saying_18 : decode cX9_saying 18 = .ok (.istore 4, 2) := by decide +kernel
theorem dX9_saying_20 : decode cX9_saying 20 = .ok (.iload 4, 2) := by decide +kernel
theorem dX9_saying_22 : decode cX9_saying 22 = .ok (.iload_n 2, 1) := by decide +kernel
theorem dX9_saying_23 : decode cX9_saying 23 = .ok (.if_icmp .ge 48, 3) := by decide +kernel
theorem dX9_saying_26 : decode cX9_saying 26 = .ok (.aload_n 0, 1) := by decide +kernel
theorem dX9_saying_27 : decode cX9_saying 27 = .ok (.getfield 20, 3) := by decide +kernel
theorem dX9_saying_30 : decode cX9_saying 30 = .ok (.iload_n 1, 1) := by decide +kernel
theorem dX9_saying_31 : decode cX9_saying 31 = .ok (.aaload, 1) := by decide +kernel
theorem dX9_saying_32 : decode cX9_saying 32 = .ok (.iload 4, 2) := by decide +kernel
theorem dX9_saying_34 : decode cX9_saying 34 = .ok (.laload, 1) := by decide +kernel
theorem dX9_saying_35 : decode cX9_saying 35 = .ok (.lstore 5, 2) := by decide +kernel
theorem dX9_saying_37 : decode cX9_saying 37 = .ok (.lload 5, 2) := by decide +kernel
theorem dX9_saying_39 : decode cX9_saying 39 = .ok (.lconst 1, 1) := by decide +kernel
theorem dX9_saying_40 : decode cX9_saying 40 = .ok (.lcmp, 1) := by decide +kernel
theorem dX9_saying_41 : decode cX9_saying 41 = .ok (.ifCond .lt 12, 3) := by decide +kernel
theorem dX9_saying_44 : decode cX9_saying 44 = .ok (.lload 5, 2) := by decide +kernel
theorem dX9_saying_46 : decode cX9_saying 46 = .ok (.ldc2_w 29, 3) := by decide +kernel
theorem dX9_saying_49 : decode cX9_saying 49 = .ok (.lcmp, 1) := by decide +kernel
theorem dX9_saying_50 : decode cX9_saying 50 = .ok (.ifCond .le 5, 3) := by decide +kernel
theorem dX9_saying_53 : decode cX9_saying 53 = .ok (.iconst 0, 1) := by decide +kernel
theorem dX9_saying_54 : decode cX9_saying 54 = .ok (.ireturn, 1) := by decide +kernel
theorem dX9_saying_55 : decode cX9_saying 55 = .ok (.iload_n 3, 1) := by decide +kernel
theorem dX9_saying_56 : decode cX9_saying 56 = .ok (.iload 4, 2) := by decide +kernel
theorem dX9_saying_58 : decode cX9_saying 58 = .ok (.lload 5, 2) := by decide +kernel
theorem dX9_saying_60 : decode cX9_saying 60 = .ok (.l2i, 1) := by decide +kernel
theorem dX9_saying_61 : decode cX9_saying 61 = .ok (.invokestatic 31, 3) := by decide +kernel
theorem dX9_saying_64 : decode cX9_saying 64 = .ok (.istore_n 3, 1) := by decide +kernel
theorem dX9_saying_65 : decode cX9_saying 65 = .ok (.iinc 4 1, 3) := by decide +kernel
theorem dX9_saying_68 : decode cX9_saying 68 = .ok (.goto (-48), 3) := by decide +kernel
theorem dX9_saying_71 : decode cX9_saying 71 = .ok (.iload_n 3, 1) := by decide +kernel
theorem dX9_saying_72 : decode cX9_saying 72 = .ok (.ireturn, 1) := by decide +kernel
theorem dX10_init_0 : decode cX10_init 0 = .ok (.aload_n 0, 1) := by decide +kernel
theorem dX10_init_1 : decode cX10_init 1 = .ok (.invokespecial 3, 3) := by decide +kernel
theorem dX10_init_4 : decode cX10_init 4 = .ok (.aload_n 0, 1) := by decide +kernel
theorem dX10_init_5 : decode cX10_init 5 = .ok (.aload_n 1, 1) := by decide +kernel
theorem dX10_init_6 : decode cX10_init 6 = .ok (.putfield 9, 3) := by decide +kernel
theorem dX10_init_9 : decode cX10_init 9 = .ok (.aload_n 0, 1) := by decide +kernel
theorem dX10_init_10 : decode cX10_init 10 = .ok (.aload_n 2, 1) := by decide +kernel
theorem dX10_init_11 : decode cX10_init 11 = .ok (.putfield 15, 3) := by decide +kernel
theorem dX10_init_14 : decode cX10_init 14 = .ok (.return_, 1) := by decide +kernel
theorem dX10_strongestGust_0 : decode cX10_strongestGust 0 = .ok (.iconst (-1), 1) := by decide +kernel
theorem dX10_strongestGust_1 : decode cX10_strongestGust 1 = .ok (.istore_n 3, 1) := by decide +kernel
theorem dX10_strongestGust_2 : decode cX10_strongestGust 2 = .ok (.iload_n 2, 1) := by decide +kernel
theorem dX10_strongestGust_3 : decode cX10_strongestGust 3 = .ok (.istore 4, 2) := by decide +kernel
theorem dX10_strongestGust_5 : decode cX10_strongestGust 5 = .ok (.aload_n 0, 1) := by decide +kernel
theorem dX10_strongestGust_6 : decode cX10_strongestGust 6 = .ok (.getfield 15, 3) := by decide +kernel
theorem dX10_strongestGust_9 : decode cX10_strongestGust 9 = .ok (.invokevirtual 19, 3) := by decide +kernel
theorem dX10_strongestGust_12 : decode cX10_strongestGust 12 = .ok (.aload_n 0, 1) := by decide +kernel
theorem dX10_strongestGust_13 : decode cX10_strongestGust 13 = .ok (.getfield 15, 3) := by decide +kernel
theorem dX10_strongestGust_16 : decode cX10_strongestGust 16 = .ok (.iload_n 1, 1) := by decide +kernel
theorem dX10_strongestGust_17 : decode cX10_strongestGust 17 = .ok (.putfield 24, 3) := by decide +kernel
theorem dX10_strongestGust_20 : decode cX10_strongestGust 20 = .ok (.iconst 0, 1) := by decide +kernel
theorem dX10_strongestGust_21 : decode cX10_strongestGust 21 = .ok (.istore 5, 2) := by decide +kernel
theorem dX10_strongestGust_23 : decode cX10_strongestGust 23 = .ok (.iload 5, 2) := by decide +kernel
theorem dX10_strongestGust_25 : decode cX10_strongestGust 25 = .ok (.aload_n 0, 1) := by decide +kernel
theorem dX10_strongestGust_26 : decode cX10_strongestGust 26 = .ok (.getfield 9, 3) := by decide +kernel
theorem dX10_strongestGust_29 : decode cX10_strongestGust 29 = .ok (.getfield 28, 3) := by decide +kernel
theorem dX10_strongestGust_32 : decode cX10_strongestGust 32 = .ok (.if_icmp .ge 49, 3) := by decide +kernel
theorem dX10_strongestGust_35 : decode cX10_strongestGust 35 = .ok (.aload_n 0, 1) := by decide +kernel
theorem dX10_strongestGust_36 : decode cX10_strongestGust 36 = .ok (.getfield 15, 3) := by decide +kernel
theorem dX10_strongestGust_39 : decode cX10_strongestGust 39 = .ok (.iload 5, 2) := by decide +kernel
theorem dX10_strongestGust_41 : decode cX10_strongestGust 41 = .ok (.putfield 33, 3) := by decide +kernel
theorem dX10_strongestGust_44 : decode cX10_strongestGust 44 = .ok (.aload_n 0, 1) := by decide +kernel
theorem dX10_strongestGust_45 : decode cX10_strongestGust 45 = .ok (.getfield 15, 3) := by decide +kernel
theorem dX10_strongestGust_48 : decode cX10_strongestGust 48 = .ok (.iconst 0, 1) := by decide +kernel
theorem dX10_strongestGust_49 : decode cX10_strongestGust 49 = .ok (.aload_n 0, 1) := by decide +kernel
theorem dX10_strongestGust_50 : decode cX10_strongestGust 50 = .ok (.getfield 9, 3) := by decide +kernel
theorem dX10_strongestGust_53 : decode cX10_strongestGust 53 = .ok (.getfield 36, 3) := by decide +kernel
theorem dX10_strongestGust_56 : decode cX10_strongestGust 56 = .ok (.invokevirtual 39, 3) := by decide +kernel
theorem dX10_strongestGust_59 : decode cX10_strongestGust 59 = .ok (.istore 6, 2) := by decide +kernel
theorem dX10_strongestGust_61 : decode cX10_strongestGust 61 = .ok (.iload 6, 2) := by decide +kernel
theorem dX10_strongestGust_63 : decode cX10_strongestGust 63 = .ok (.iload 4, 2) := by decide +kernel
theorem dX10_strongestGust_65 : decode cX10_strongestGust 65 = .ok (.if_icmp .ge 10, 3) := by decide +kernel
theorem dX10_strongestGust_68 : decode cX10_strongestGust 68 = .ok (.iload 6, 2) := by decide +kernel
theorem dX10_strongestGust_70 : decode cX10_strongestGust 70 = .ok (.istore 4, 2) := by decide +kernel
theorem dX10_strongestGust_72 : decode cX10_strongestGust 72 = .ok (.iload 5, 2) := by decide +kernel
theorem dX10_strongestGust_74 : decode cX10_strongestGust 74 = .ok (.istore_n 3, 1) := by decide +kernel
theorem dX10_strongestGust_75 : decode cX10_strongestGust 75 = .ok (.iinc 5 1, 3) := by decide +kernel
theorem dX10_strongestGust_78 : decode cX10_strongestGust 78 = .ok (.goto (-55), 3) := by decide +kernel
theorem dX10_strongestGust_81 : decode cX10_strongestGust 81 = .ok (.iload_n 3, 1) := by decide +kernel
theorem dX10_strongestGust_82 : decode cX10_strongestGust 82 = .ok (.ireturn, 1) := by decide +kernel
theorem dX10_heaviestDraught_0 : decode cX10_heaviestDraught 0 = .ok (.iconst (-1), 1) := by decide +kernel
theorem dX10_heaviestDraught_1 : decode cX10_heaviestDraught 1 = .ok (.istore_n 2, 1) := by decide +kernel
theorem dX10_heaviestDraught_2 : decode cX10_heaviestDraught 2 = .ok (.iload_n 1, 1) := by decide +kernel
theorem dX10_heaviestDraught_3 : decode cX10_heaviestDraught 3 = .ok (.istore_n 3, 1) := by decide +kernel
theorem dX10_heaviestDraught_4 : decode cX10_heaviestDraught 4 = .ok (.aload_n 0, 1) := by decide +kernel
theorem dX10_heaviestDraught_5 : decode cX10_heaviestDraught 5 = .ok (.getfield 15, 3) := by decide +kernel
theorem dX10_heaviestDraught_8 : decode cX10_heaviestDraught 8 = .ok (.invokevirtual 19, 3) := by decide +kernel
theorem dX10_heaviestDraught_11 : decode cX10_heaviestDraught 11 = .ok (.iconst 0, 1) := by decide +kernel
theorem dX10_heaviestDraught_12 : decode cX10_heaviestDraught 12 = .ok (.istore 4, 2) := by decide +kernel
theorem dX10_heaviestDraught_14 : decode cX10_heaviestDraught 14 = .ok (.iload 4, 2) := by decide +kernel
theorem dX10_heaviestDraught_16 : decode cX10_heaviestDraught 16 = .ok (.aload_n 0, 1) := by decide +kernel
theorem dX10_heaviestDraught_17 : decode cX10_heaviestDraught 17 = .ok (.getfield 9, 3) := by decide +kernel
theorem dX10_heaviestDraught_20 : decode cX10_heaviestDraught 20 = .ok (.getfield 43, 3) := by decide +kernel
theorem dX10_heaviestDraught_23 : decode cX10_heaviestDraught 23 = .ok (.if_icmp .ge 47, 3) := by decide +kernel
theorem dX10_heaviestDraught_26 : decode cX10_heaviestDraught 26 = .ok (.aload_n 0, 1) := by decide +kernel
theorem dX10_heaviestDraught_27 : decode cX10_heaviestDraught 27 = .ok (.getfield 15, 3) := by decide +kernel
theorem dX10_heaviestDraught_30 : decode cX10_heaviestDraught 30 = .ok (.iload 4, 2) := by decide +kernel
theorem dX10_heaviestDraught_32 : decode cX10_heaviestDraught 32 = .ok (.putfield 46, 3) := by decide +kernel
theorem dX10_heaviestDraught_35 : decode cX10_heaviestDraught 35 = .ok (.aload_n 0, 1) := by decide +kernel
theorem dX10_heaviestDraught_36 : decode cX10_heaviestDraught 36 = .ok (.getfield 15, 3) := by decide +kernel
theorem dX10_heaviestDraught_39 : decode cX10_heaviestDraught 39 = .ok (.iconst 0, 1) := by decide +kernel
theorem dX10_heaviestDraught_40 : decode cX10_heaviestDraught 40 = .ok (.aload_n 0, 1) := by decide +kernel
theorem dX10_heaviestDraught_41 : decode cX10_heaviestDraught 41 = .ok (.getfield 9, 3) := by decide +kernel
theorem dX10_heaviestDraught_44 : decode cX10_heaviestDraught 44 = .ok (.getfield 36, 3) := by decide +kernel
theorem dX10_heaviestDraught_47 : decode cX10_heaviestDraught 47 = .ok (.invokevirtual 39, 3) := by decide +kernel
theorem dX10_heaviestDraught_50 : decode cX10_heaviestDraught 50 = .ok (.istore 5, 2) := by decide +kernel
theorem dX10_heaviestDraught_52 : decode cX10_heaviestDraught 52 = .ok (.iload 5, 2) := by decide +kernel
theorem dX10_heaviestDraught_54 : decode cX10_heaviestDraught 54 = .ok (.iload_n 3, 1) := by decide +kernel
theorem dX10_heaviestDraught_55 : decode cX10_heaviestDraught 55 = .ok (.if_icmp .le 9, 3) := by decide +kernel
theorem dX10_heaviestDraught_58 : decode cX10_heaviestDraught 58 = .ok (.iload 5, 2) := by decide +kernel
theorem dX10_heaviestDraught_60 : decode cX10_heaviestDraught 60 = .ok (.istore_n 3, 1) := by decide +kernel
theorem dX10_heaviestDraught_61 : decode cX10_heaviestDraught 61 = .ok (.iload 4, 2) := by decide +kernel
theorem dX10_heaviestDraught_63 : decode cX10_heaviestDraught 63 = .ok (.istore_n 2, 1) := by decide +kernel
theorem dX10_heaviestDraught_64 : decode cX10_heaviestDraught 64 = .ok (.iinc 4 1, 3) := by decide +kernel
theorem dX10_heaviestDraught_67 : decode cX10_heaviestDraught 67 = .ok (.goto (-53), 3) := by decide +kernel
theorem dX10_heaviestDraught_70 : decode cX10_heaviestDraught 70 = .ok (.iload_n 2, 1) := by decide +kernel
theorem dX10_heaviestDraught_71 : decode cX10_heaviestDraught 71 = .ok (.ireturn, 1) := by decide +kernel
theorem dX10_chooseOpening_0 : decode cX10_chooseOpening 0 = .ok (.aload_n 0, 1) := by decide +kernel
theorem dX10_chooseOpening_1 : decode cX10_chooseOpening 1 = .ok (.iconst (-1), 1) := by decide +kernel
theorem dX10_chooseOpening_2 : decode cX10_chooseOpening 2 = .ok (.putfield 49, 3) := by decide +kernel
theorem dX10_chooseOpening_5 : decode cX10_chooseOpening 5 = .ok (.iconst (-1), 1) := by decide +kernel
theorem dX10_chooseOpening_6 : decode cX10_chooseOpening 6 = .ok (.istore_n 1, 1) := by decide +kernel
theorem dX10_chooseOpening_7 : decode cX10_chooseOpening 7 = .ok (.iconst 0, 1) := by decide +kernel
theorem dX10_chooseOpening_8 : decode cX10_chooseOpening 8 = .ok (.istore_n 2, 1) := by decide +kernel
theorem dX10_chooseOpening_9 : decode cX10_chooseOpening 9 = .ok (.iload_n 2, 1) := by decide +kernel
theorem dX10_chooseOpening_10 : decode cX10_chooseOpening 10 = .ok (.aload_n 0, 1) := by decide +kernel
theorem dX10_chooseOpening_11 : decode cX10_chooseOpening 11 = .ok (.getfield 9, 3) := by decide +kernel
theorem dX10_chooseOpening_14 : decode cX10_chooseOpening 14 = .ok (.getfield 28, 3) := by decide +kernel
theorem dX10_chooseOpening_17 : decode cX10_chooseOpening 17 = .ok (.if_icmp .ge 32, 3) := by decide +kernel
theorem dX10_chooseOpening_20 : decode cX10_chooseOpening 20 = .ok (.aload_n 0, 1) := by decide +kernel
theorem dX10_chooseOpening_21 : decode cX10_chooseOpening 21 = .ok (.iload_n 2, 1) := by decide +kernel
theorem dX10_chooseOpening_22 : decode cX10_chooseOpening 22 = .ok (.invokevirtual 52, 3) := by decide +kernel
theorem dX10_chooseOpening_25 : decode cX10_chooseOpening 25 = .ok (.aload_n 0, 1) := by decide +kernel
theorem dX10_chooseOpening_26 : decode cX10_chooseOpening 26 = .ok (.getfield 56, 3) := by decide +kernel
theorem dX10_chooseOpening_29 : decode cX10_chooseOpening 29 = .ok (.iload_n 1, 1) := by decide +kernel
theorem dX10_chooseOpening_30 : decode cX10_chooseOpening 30 = .ok (.if_icmp .le 13, 3) := by decide +kernel
theorem dX10_chooseOpening_33 : decode cX10_chooseOpening 33 = .ok (.aload_n 0, 1) := by decide +kernel
theorem dX10_chooseOpening_34 : decode cX10_chooseOpening 34 = .ok (.getfield 56, 3) := by decide +kernel
theorem dX10_chooseOpening_37 : decode cX10_chooseOpening 37 = .ok (.istore_n 1, 1) := by decide +kernel
theorem dX10_chooseOpening_38 : decode cX10_chooseOpening 38 = .ok (.aload_n 0, 1) := by decide +kernel
theorem dX10_chooseOpening_39 : decode cX10_chooseOpening 39 = .ok (.iload_n 2, 1) := by decide +kernel
theorem dX10_chooseOpening_40 : decode cX10_chooseOpening 40 = .ok (.putfield 49, 3) := by decide +kernel
theorem dX10_chooseOpening_43 : decode cX10_chooseOpening 43 = .ok (.iinc 2 1, 3) := by decide +kernel
theorem dX10_chooseOpening_46 : decode cX10_chooseOpening 46 = .ok (.goto (-37), 3) := by decide +kernel
theorem dX10_chooseOpening_49 : decode cX10_chooseOpening 49 = .ok (.aload_n 0, 1) := by decide +kernel
theorem dX10_chooseOpening_50 : decode cX10_chooseOpening 50 = .ok (.iload_n 1, 1) := by decide +kernel
theorem dX10_chooseOpening_51 : decode cX10_chooseOpening 51 = .ok (.putfield 56, 3) := by decide +kernel
theorem dX10_chooseOpening_54 : decode cX10_chooseOpening 54 = .ok (.return_, 1) := by decide +kernel
theorem dX10_chooseReply_0 : decode cX10_chooseReply 0 = .ok (.aload_n 0, 1) := by decide +kernel
theorem dX10_chooseReply_1 : decode cX10_chooseReply 1 = .ok (.iconst (-1), 1) := by decide +kernel
theorem dX10_chooseReply_2 : decode cX10_chooseReply 2 = .ok (.putfield 59, 3) := by decide +kernel
theorem dX10_chooseReply_5 : decode cX10_chooseReply 5 = .ok (.aload_n 0, 1) := by decide +kernel
theorem dX10_chooseReply_6 : decode cX10_chooseReply 6 = .ok (.bipush 8, 2) := by decide +kernel
theorem dX10_chooseReply_8 : decode cX10_chooseReply 8 = .ok (.putfield 56, 3) := by decide +kernel
theorem dX10_chooseReply_11 : decode cX10_chooseReply 11 = .ok (.aload_n 0, 1) := by decide +kernel
theorem dX10_chooseReply_12 : decode cX10_chooseReply 12 = .ok (.getfield 15, 3) := by decide +kernel
theorem dX10_chooseReply_15 : decode cX10_chooseReply 15 = .ok (.invokevirtual 19, 3) := by decide +kernel
theorem dX10_chooseReply_18 : decode cX10_chooseReply 18 = .ok (.aload_n 0, 1) := by decide +kernel
theorem dX10_chooseReply_19 : decode cX10_chooseReply 19 = .ok (.getfield 15, 3) := by decide +kernel
theorem dX10_chooseReply_22 : decode cX10_chooseReply 22 = .ok (.iload_n 1, 1) := by decide +kernel
theorem dX10_chooseReply_23 : decode cX10_chooseReply 23 = .ok (.putfield 62, 3) := by decide +kernel
theorem dX10_chooseReply_26 : decode cX10_chooseReply 26 = .ok (.aload_n 0, 1) := by decide +kernel
theorem dX10_chooseReply_27 : decode cX10_chooseReply 27 = .ok (.getfield 15, 3) := by decide +kernel
theorem dX10_chooseReply_30 : decode cX10_chooseReply 30 = .ok (.iconst 1, 1) := by decide +kernel
theorem dX10_chooseReply_31 : decode cX10_chooseReply 31 = .ok (.putfield 24, 3) := by decide +kernel
theorem dX10_chooseReply_34 : decode cX10_chooseReply 34 = .ok (.iconst 0, 1) := by decide +kernel
theorem dX10_chooseReply_35 : decode cX10_chooseReply 35 = .ok (.istore_n 2, 1) := by decide +kernel
theorem dX10_chooseReply_36 : decode cX10_chooseReply 36 = .ok (.iload_n 2, 1) := by decide +kernel
theorem dX10_chooseReply_37 : decode cX10_chooseReply 37 = .ok (.aload_n 0, 1) := by decide +kernel
theorem dX10_chooseReply_38 : decode cX10_chooseReply 38 = .ok (.getfield 9, 3) := by decide +kernel
theorem dX10_chooseReply_41 : decode cX10_chooseReply 41 = .ok (.getfield 28, 3) := by decide +kernel
theorem dX10_chooseReply_44 : decode cX10_chooseReply 44 = .ok (.if_icmp .ge 51, 3) := by decide +kernel
theorem dX10_chooseReply_47 : decode cX10_chooseReply 47 = .ok (.aload_n 0, 1) := by decide +kernel
theorem dX10_chooseReply_48 : decode cX10_chooseReply 48 = .ok (.getfield 15, 3) := by decide +kernel
theorem dX10_chooseReply_51 : decode cX10_chooseReply 51 = .ok (.iload_n 2, 1) := by decide +kernel
theorem dX10_chooseReply_52 : decode cX10_chooseReply 52 = .ok (.putfield 33, 3) := by decide +kernel
theorem dX10_chooseReply_55 : decode cX10_chooseReply 55 = .ok (.aload_n 0, 1) := by decide +kernel
theorem dX10_chooseReply_56 : decode cX10_chooseReply 56 = .ok (.getfield 15, 3) := by decide +kernel
theorem dX10_chooseReply_59 : decode cX10_chooseReply 59 = .ok (.iconst 0, 1) := by decide +kernel
theorem dX10_chooseReply_60 : decode cX10_chooseReply 60 = .ok (.aload_n 0, 1) := by decide +kernel
theorem dX10_chooseReply_61 : decode cX10_chooseReply 61 = .ok (.getfield 9, 3) := by decide +kernel
theorem dX10_chooseReply_64 : decode cX10_chooseReply 64 = .ok (.getfield 36, 3) := by decide +kernel
theorem dX10_chooseReply_67 : decode cX10_chooseReply 67 = .ok (.invokevirtual 39, 3) := by decide +kernel
theorem dX10_chooseReply_70 : decode cX10_chooseReply 70 = .ok (.istore_n 3, 1) := by decide +kernel
theorem dX10_chooseReply_71 : decode cX10_chooseReply 71 = .ok (.iload_n 3, 1) := by decide +kernel
theorem dX10_chooseReply_72 : decode cX10_chooseReply 72 = .ok (.aload_n 0, 1) := by decide +kernel
theorem dX10_chooseReply_73 : decode cX10_chooseReply 73 = .ok (.getfield 56, 3) := by decide +kernel
theorem dX10_chooseReply_76 : decode cX10_chooseReply 76 = .ok (.if_icmp .ge 13, 3) := by decide +kernel
theorem dX10_chooseReply_79 : decode cX10_chooseReply 79 = .ok (.aload_n 0, 1) := by decide +kernel
theorem dX10_chooseReply_80 : decode cX10_chooseReply 80 = .ok (.iload_n 3, 1) := by decide +kernel
theorem dX10_chooseReply_81 : decode cX10_chooseReply 81 = .ok (.putfield 56, 3) := by decide +kernel
theorem dX10_chooseReply_84 : decode cX10_chooseReply 84 = .ok (.aload_n 0, 1) := by decide +kernel
theorem dX10_chooseReply_85 : decode cX10_chooseReply 85 = .ok (.iload_n 2, 1) := by decide +kernel
theorem dX10_chooseReply_86 : decode cX10_chooseReply 86 = .ok (.putfield 59, 3) := by decide +kernel
theorem dX10_chooseReply_89 : decode cX10_chooseReply 89 = .ok (.iinc 2 1, 3) := by decide +kernel
theorem dX10_chooseReply_92 : decode cX10_chooseReply 92 = .ok (.goto (-56), 3) := by decide +kernel
theorem dX10_chooseReply_95 : decode cX10_chooseReply 95 = .ok (.return_, 1) := by decide +kernel
theorem dX10_gain_0 : decode cX10_gain 0 = .ok (.aload_n 0, 1) := by decide +kernel
theorem dX10_gain_1 : decode cX10_gain 1 = .ok (.getfield 15, 3) := by decide +kernel
theorem dX10_gain_4 : decode cX10_gain 4 = .ok (.invokevirtual 19, 3) := by decide +kernel
theorem dX10_gain_7 : decode cX10_gain 7 = .ok (.aload_n 0, 1) := by decide +kernel
theorem dX10_gain_8 : decode cX10_gain 8 = .ok (.getfield 15, 3) := by decide +kernel
theorem dX10_gain_11 : decode cX10_gain 11 = .ok (.iload_n 3, 1) := by decide +kernel
theorem dX10_gain_12 : decode cX10_gain 12 = .ok (.iload_n 1, 1) := by decide +kernel
theorem dX10_gain_13 : decode cX10_gain 13 = .ok (.ishl, 1) := by decide +kernel
theorem dX10_gain_14 : decode cX10_gain 14 = .ok (.iload 4, 2) := by decide +kernel
theorem dX10_gain_16 : decode cX10_gain 16 = .ok (.iload_n 2, 1) := by decide +kernel
theorem dX10_gain_17 : decode cX10_gain 17 = .ok (.ishl, 1) := by decide +kernel
theorem dX10_gain_18 : decode cX10_gain 18 = .ok (.ior, 1) := by decide +kernel
theorem dX10_gain_19 : decode cX10_gain 19 = .ok (.putfield 65, 3) := by decide +kernel
theorem dX10_gain_22 : decode cX10_gain 22 = .ok (.aload_n 0, 1) := by decide +kernel
theorem dX10_gain_23 : decode cX10_gain 23 = .ok (.getfield 15, 3) := by decide +kernel
theorem dX10_gain_26 : decode cX10_gain 26 = .ok (.iconst 0, 1) := by decide +kernel
theorem dX10_gain_27 : decode cX10_gain 27 = .ok (.aload_n 0, 1) := by decide +kernel
theorem dX10_gain_28 : decode cX10_gain 28 = .ok (.getfield 9, 3) := by decide +kernel
theorem dX10_gain_31 : decode cX10_gain 31 = .ok (.getfield 36, 3) := by decide +kernel
theorem dX10_gain_34 : decode cX10_gain 34 = .ok (.invokevirtual 39, 3) := by decide +kernel
theorem dX10_gain_37 : decode cX10_gain 37 = .ok (.pop, 1) := by decide +kernel
theorem dX10_gain_38 : decode cX10_gain 38 = .ok (.aload_n 0, 1) := by decide +kernel
theorem dX10_gain_39 : decode cX10_gain 39 = .ok (.getfield 15, 3) := by decide +kernel
theorem dX10_gain_42 : decode cX10_gain 42 = .ok (.getfield 68, 3) := by decide +kernel
theorem dX10_gain_45 : decode cX10_gain 45 = .ok (.aload_n 0, 1) := by decide +kernel
theorem dX10_gain_46 : decode cX10_gain 46 = .ok (.getfield 9, 3) := by decide +kernel
theorem dX10_gain_49 : decode cX10_gain 49 = .ok (.getfield 36, 3) := by decide +kernel
theorem dX10_gain_52 : decode cX10_gain 52 = .ok (.bipush 7, 2) := by decide +kernel
theorem dX10_gain_54 : decode cX10_gain 54 = .ok (.imul, 1) := by decide +kernel
theorem dX10_gain_55 : decode cX10_gain 55 = .ok (.iload_n 1, 1) := by decide +kernel
theorem dX10_gain_56 : decode cX10_gain 56 = .ok (.iadd, 1) := by decide +kernel
theorem dX10_gain_57 : decode cX10_gain 57 = .ok (.iaload, 1) := by decide +kernel
theorem dX10_gain_58 : decode cX10_gain 58 = .ok (.invokestatic 72, 3) := by decide +kernel
theorem dX10_gain_61 : decode cX10_gain 61 = .ok (.istore 5, 2) := by decide +kernel
theorem dX10_gain_63 : decode cX10_gain 63 = .ok (.iload 5, 2) := by decide +kernel
theorem dX10_gain_65 : decode cX10_gain 65 = .ok (.iload_n 3, 1) := by decide +kernel
theorem dX10_gain_66 : decode cX10_gain 66 = .ok (.iconst 1, 1) := by decide +kernel
theorem dX10_gain_67 : decode cX10_gain 67 = .ok (.if_icmp .ne 7, 3) := by decide +kernel
theorem dX10_gain_70 : decode cX10_gain 70 = .ok (.iconst 2, 1) := by decide +kernel
theorem dX10_gain_71 : decode cX10_gain 71 = .ok (.goto 4, 3) := by decide +kernel
theorem dX10_gain_74 : decode cX10_gain 74 = .ok (.iconst 0, 1) := by decide +kernel
theorem dX10_gain_75 : decode cX10_gain 75 = .ok (.iadd, 1) := by decide +kernel
theorem dX10_gain_76 : decode cX10_gain 76 = .ok (.ireturn, 1) := by decide +kernel
theorem dX11_init_0 : decode cX11_init 0 = .ok (.aload_n 0, 1) := by decide +kernel
theorem dX11_init_1 : decode cX11_init 1 = .ok (.invokespecial 3, 3) := by decide +kernel
theorem dX11_init_4 : decode cX11_init 4 = .ok (.aload_n 0, 1) := by decide +kernel
theorem dX11_init_5 : decode cX11_init 5 = .ok (.sipush 600, 3) := by decide +kernel
theorem dX11_init_8 : decode cX11_init 8 = .ok (.newarray .byte, 2) := by decide +kernel
theorem dX11_init_10 : decode cX11_init 10 = .ok (.putfield 9, 3) := by decide +kernel
theorem dX11_init_13 : decode cX11_init 13 = .ok (.aload_n 0, 1) := by decide +kernel
theorem dX11_init_14 : decode cX11_init 14 = .ok (.iconst 0, 1) := by decide +kernel
theorem dX11_init_15 : decode cX11_init 15 = .ok (.putfield 13, 3) := by decide +kernel
theorem dX11_init_18 : decode cX11_init 18 = .ok (.aload_n 0, 1) := by decide +kernel
theorem dX11_init_19 : decode cX11_init 19 = .ok (.iconst 0, 1) := by decide +kernel
theorem dX11_init_20 : decode cX11_init 20 = .ok (.putfield 17, 3) := by decide +kernel
theorem dX11_init_23 : decode cX11_init 23 = .ok (.aload_n 0, 1) := by decide +kernel
theorem dX11_init_24 : decode cX11_init 24 = .ok (.iconst (-1), 1) := by decide +kernel
theorem dX11_init_25 : decode cX11_init 25 = .ok (.putfield 20, 3) := by decide +kernel
theorem dX11_init_28 : decode cX11_init 28 = .ok (.aload_n 0, 1) := by decide +kernel
theorem dX11_init_29 : decode cX11_init 29 = .ok (.new 23, 3) := by decide +kernel
theorem dX11_init_32 : decode cX11_init 32 = .ok (.dup, 1) := by decide +kernel
theorem dX11_init_33 : decode cX11_init 33 = .ok (.aload_n 0, 1) := by decide +kernel
theorem dX11_init_34 : decode cX11_init 34 = .ok (.getfield 9, 3) := by decide +kernel
theorem dX11_init_37 : decode cX11_init 37 = .ok (.invokespecial 25, 3) := by decide +kernel
theorem dX11_init_40 : decode cX11_init 40 = .ok (.putfield 28, 3) := by decide +kernel
theorem dX11_init_43 : decode cX11_init 43 = .ok (.aload_n 0, 1) := by decide +kernel
theorem dX11_init_44 : decode cX11_init 44 = .ok (.new 32, 3) := by decide +kernel
theorem dX11_init_47 : decode cX11_init 47 = .ok (.dup, 1) := by decide +kernel
theorem dX11_init_48 : decode cX11_init 48 = .ok (.invokespecial 34, 3) := by decide +kernel
theorem dX11_init_51 : decode cX11_init 51 = .ok (.putfield 35, 3) := by decide +kernel
theorem dX11_init_54 : decode cX11_init 54 = .ok (.aload_n 0, 1) := by decide +kernel
theorem dX11_init_55 : decode cX11_init 55 = .ok (.new 39, 3) := by decide +kernel
theorem dX11_init_58 : decode cX11_init 58 = .ok (.dup, 1) := by decide +kernel
theorem dX11_init_59 : decode cX11_init 59 = .ok (.invokespecial 41, 3) := by decide +kernel
theorem dX11_init_62 : decode cX11_init 62 = .ok (.putfield 42, 3) := by decide +kernel
theorem dX11_init_65 : decode cX11_init 65 = .ok (.aload_n 0, 1) := by decide +kernel
theorem dX11_init_66 : decode cX11_init 66 = .ok (.new 46, 3) := by decide +kernel
theorem dX11_init_69 : decode cX11_init 69 = .ok (.dup, 1) := by decide +kernel
theorem dX11_init_70 : decode cX11_init 70 = .ok (.invokespecial 48, 3) := by decide +kernel
theorem dX11_init_73 : decode cX11_init 73 = .ok (.putfield 49, 3) := by decide +kernel
theorem dX11_init_76 : decode cX11_init 76 = .ok (.aload_n 0, 1) := by decide +kernel
theorem dX11_init_77 : decode cX11_init 77 = .ok (.iconst 3, 1) := by decide +kernel
theorem dX11_init_78 : decode cX11_init 78 = .ok (.anewarray 32, 3) := by decide +kernel
theorem dX11_init_81 : decode cX11_init 81 = .ok (.putfield 53, 3) := by decide +kernel
theorem dX11_init_84 : decode cX11_init 84 = .ok (.aload_n 0, 1) := by decide +kernel
theorem dX11_init_85 : decode cX11_init 85 = .ok (.iconst 3, 1) := by decide +kernel
theorem dX11_init_86 : decode cX11_init 86 = .ok (.anewarray 39, 3) := by decide +kernel
theorem dX11_init_89 : decode cX11_init 89 = .ok (.putfield 57, 3) := by decide +kernel
theorem dX11_init_92 : decode cX11_init 92 = .ok (.aload_n 0, 1) := by decide +kernel
theorem dX11_init_93 : decode cX11_init 93 = .ok (.iconst 3, 1) := by decide +kernel
theorem dX11_init_94 : decode cX11_init 94 = .ok (.newarray .boolean, 2) := by decide +kernel
theorem dX11_init_96 : decode cX11_init 96 = .ok (.putfield 61, 3) := by decide +kernel
theorem dX11_init_99 : decode cX11_init 99 = .ok (.iconst 0, 1) := by decide +kernel
theorem dX11_init_100 : decode cX11_init 100 = .ok (.istore_n 1, 1) := by decide +kernel
theorem dX11_init_101 : decode cX11_init 101 = .ok (.iload_n 1, 1) := by decide +kernel
theorem dX11_init_102 : decode cX11_init 102 = .ok (.iconst 3, 1) := by decide +kernel
theorem dX11_init_103 : decode cX11_init 103 = .ok (.if_icmp .ge 35, 3) := by decide +kernel
theorem dX11_init_106 : decode cX11_init 106 = .ok (.aload_n 0, 1) := by decide +kernel
theorem dX11_init_107 : decode cX11_init 107 = .ok (.getfield 53, 3) := by decide +kernel
theorem dX11_init_110 : decode cX11_init 110 = .ok (.iload_n 1, 1) := by decide +kernel
theorem dX11_init_111 : decode cX11_init 111 = .ok (.new 32, 3) := by decide +kernel
theorem dX11_init_114 : decode cX11_init 114 = .ok (.dup, 1) := by decide +kernel
theorem dX11_init_115 : decode cX11_init 115 = .ok (.invokespecial 34, 3) := by decide +kernel
theorem dX11_init_118 : decode cX11_init 118 = .ok (.aastore, 1) := by decide +kernel
theorem dX11_init_119 : decode cX11_init 119 = .ok (.aload_n 0, 1) := by decide +kernel
theorem dX11_init_120 : decode cX11_init 120 = .ok (.getfield 57, 3) := by decide +kernel
theorem dX11_init_123 : decode cX11_init 123 = .ok (.iload_n 1, 1) := by decide +kernel
theorem dX11_init_124 : decode cX11_init 124 = .ok (.new 39, 3) := by decide +kernel
theorem dX11_init_127 : decode cX11_init 127 = .ok (.dup, 1) := by decide +kernel
theorem dX11_init_128 : decode cX11_init 128 = .ok (.invokespecial 41, 3) := by decide +kernel
theorem dX11_init_131 : decode cX11_init 131 = .ok (.aastore, 1) := by decide +kernel
theorem dX11_init_132 : decode cX11_init 132 = .ok (.iinc 1 1, 3) := by decide +kernel
theorem dX11_init_135 : decode cX11_init 135 = .ok (.goto (-34), 3) := by decide +kernel
theorem dX11_init_138 : decode cX11_init 138 = .ok (.aload_n 0, 1) := by decide +kernel
theorem dX11_init_139 : decode cX11_init 139 = .ok (.new 65, 3) := by decide +kernel
theorem dX11_init_142 : decode cX11_init 142 = .ok (.dup, 1) := by decide +kernel
theorem dX11_init_143 : decode cX11_init 143 = .ok (.aload_n 0, 1) := by decide +kernel
theorem dX11_init_144 : decode cX11_init 144 = .ok (.getfield 35, 3) := by decide +kernel
theorem dX11_init_147 : decode cX11_init 147 = .ok (.aload_n 0, 1) := by decide +kernel
theorem dX11_init_148 : decode cX11_init 148 = .ok (.getfield 42, 3) := by decide +kernel
theorem dX11_init_151 : decode cX11_init 151 = .ok (.invokespecial 67, 3) := by decide +kernel
theorem dX11_init_154 : decode cX11_init 154 = .ok (.putfield 70, 3) := by decide +kernel
theorem dX11_init_157 : decode cX11_init 157 = .ok (.aload_n 0, 1) := by decide +kernel
theorem dX11_init_158 : decode cX11_init 158 = .ok (.new 65, 3) := by decide +kernel
theorem dX11_init_161 : decode cX11_init 161 = .ok (.dup, 1) := by decide +kernel
theorem dX11_init_162 : decode cX11_init 162 = .ok (.aload_n 0, 1) := by decide +kernel
theorem dX11_init_163 : decode cX11_init 163 = .ok (.getfield 35, 3) := by decide +kernel
theorem dX11_init_166 : decode cX11_init 166 = .ok (.aload_n 0, 1) := by decide +kernel
theorem dX11_init_167 : decode cX11_init 167 = .ok (.getfield 42, 3) := by decide +kernel
theorem dX11_init_170 : decode cX11_init 170 = .ok (.invokespecial 67, 3) := by decide +kernel
theorem dX11_init_173 : decode cX11_init 173 = .ok (.putfield 74, 3) := by decide +kernel
theorem dX11_init_176 : decode cX11_init 176 = .ok (.aload_n 0, 1) := by decide +kernel
theorem dX11_init_177 : decode cX11_init 177 = .ok (.new 77, 3) := by decide +kernel
theorem dX11_init_180 : decode cX11_init 180 = .ok (.dup, 1) := by decide +kernel
theorem dX11_init_181 : decode cX11_init 181 = .ok (.aload_n 0, 1) := by decide +kernel
theorem dX11_init_182 : decode cX11_init 182 = .ok (.getfield 35, 3) := by decide +kernel
theorem dX11_init_185 : decode cX11_init 185 = .ok (.aload_n 0, 1) := by decide +kernel
theorem dX11_init_186 : decode cX11_init 186 = .ok (.getfield 74, 3) := by decide +kernel
theorem dX11_init_189 : decode cX11_init 189 = .ok (.invokespecial 79, 3) := by decide +kernel
theorem dX11_init_192 : decode cX11_init 192 = .ok (.putfield 82, 3) := by decide +kernel
theorem dX11_init_195 : decode cX11_init 195 = .ok (.aload_n 0, 1) := by decide +kernel
theorem dX11_init_196 : decode cX11_init 196 = .ok (.new 86, 3) := by decide +kernel
theorem dX11_init_199 : decode cX11_init 199 = .ok (.dup, 1) := by decide +kernel
theorem dX11_init_200 : decode cX11_init 200 = .ok (.aload_n 0, 1) := by decide +kernel
theorem dX11_init_201 : decode cX11_init 201 = .ok (.getfield 35, 3) := by decide +kernel
theorem dX11_init_204 : decode cX11_init 204 = .ok (.aload_n 0, 1) := by decide +kernel
theorem dX11_init_205 : decode cX11_init 205 = .ok (.getfield 74, 3) := by decide +kernel
theorem dX11_init_208 : decode cX11_init 208 = .ok (.invokespecial 88, 3) := by decide +kernel
theorem dX11_init_211 : decode cX11_init 211 = .ok (.putfield 89, 3) := by decide +kernel
theorem dX11_init_214 : decode cX11_init 214 = .ok (.aload_n 0, 1) := by decide +kernel
theorem dX11_init_215 : decode cX11_init 215 = .ok (.new 93, 3) := by decide +kernel
theorem dX11_init_218 : decode cX11_init 218 = .ok (.dup, 1) := by decide +kernel
theorem dX11_init_219 : decode cX11_init 219 = .ok (.aload_n 0, 1) := by decide +kernel
theorem dX11_init_220 : decode cX11_init 220 = .ok (.getfield 35, 3) := by decide +kernel
theorem dX11_init_223 : decode cX11_init 223 = .ok (.aload_n 0, 1) := by decide +kernel
theorem dX11_init_224 : decode cX11_init 224 = .ok (.getfield 74, 3) := by decide +kernel
theorem dX11_init_227 : decode cX11_init 227 = .ok (.invokespecial 95, 3) := by decide +kernel
theorem dX11_init_230 : decode cX11_init 230 = .ok (.putfield 96, 3) := by decide +kernel
theorem dX11_init_233 : decode cX11_init 233 = .ok (.aload_n 0, 1) := by decide +kernel
theorem dX11_init_234 : decode cX11_init 234 = .ok (.new 100, 3) := by decide +kernel
theorem dX11_init_237 : decode cX11_init 237 = .ok (.dup, 1) := by decide +kernel
theorem dX11_init_238 : decode cX11_init 238 = .ok (.aload_n 0, 1) := by decide +kernel
theorem dX11_init_239 : decode cX11_init 239 = .ok (.getfield 35, 3) := by decide +kernel
theorem dX11_init_242 : decode cX11_init 242 = .ok (.aload_n 0, 1) := by decide +kernel
theorem dX11_init_243 : decode cX11_init 243 = .ok (.getfield 74, 3) := by decide +kernel
theorem dX11_init_246 : decode cX11_init 246 = .ok (.aload_n 0, 1) := by decide +kernel
theorem dX11_init_247 : decode cX11_init 247 = .ok (.getfield 49, 3) := by decide +kernel
theorem dX11_init_250 : decode cX11_init 250 = .ok (.invokespecial 102, 3) := by decide +kernel
theorem dX11_init_253 : decode cX11_init 253 = .ok (.putfield 105, 3) := by decide +kernel
theorem dX11_init_256 : decode cX11_init 256 = .ok (.aload_n 0, 1) := by decide +kernel
theorem dX11_init_257 : decode cX11_init 257 = .ok (.new 109, 3) := by decide +kernel
theorem dX11_init_260 : decode cX11_init 260 = .ok (.dup, 1) := by decide +kernel
theorem dX11_init_261 : decode cX11_init 261 = .ok (.aload_n 0, 1) := by decide +kernel
theorem dX11_init_262 : decode cX11_init 262 = .ok (.getfield 35, 3) := by decide +kernel
theorem dX11_init_265 : decode cX11_init 265 = .ok (.aload_n 0, 1) := by decide +kernel
theorem dX11_init_266 : decode cX11_init 266 = .ok (.getfield 74, 3) := by decide +kernel
theorem dX11_init_269 : decode cX11_init 269 = .ok (.invokespecial 111, 3) := by decide +kernel
theorem dX11_init_272 : decode cX11_init 272 = .ok (.putfield 112, 3) := by decide +kernel
theorem dX11_init_275 : decode cX11_init 275 = .ok (.aload_n 0, 1) := by decide +kernel
theorem dX11_init_276 : decode cX11_init 276 = .ok (.iconst 0, 1) := by decide +kernel
theorem dX11_init_277 : decode cX11_init 277 = .ok (.putfield 116, 3) := by decide +kernel
theorem dX11_init_280 : decode cX11_init 280 = .ok (.return_, 1) := by decide +kernel
theorem dX11_feed_0 : decode cX11_feed 0 = .ok (.aload_n 0, 1) := by decide +kernel
theorem dX11_feed_1 : decode cX11_feed 1 = .ok (.getfield 13, 3) := by decide +kernel
theorem dX11_feed_4 : decode cX11_feed 4 = .ok (.bipush 20, 2) := by decide +kernel
theorem dX11_feed_6 : decode cX11_feed 6 = .ok (.iadd, 1) := by decide +kernel
theorem dX11_feed_7 : decode cX11_feed 7 = .ok (.sipush 600, 3) := by decide +kernel
theorem dX11_feed_10 : decode cX11_feed 10 = .ok (.if_icmp .le 5, 3) := by decide +kernel
theorem dX11_feed_13 : decode cX11_feed 13 = .ok (.iconst (-1), 1) := by decide +kernel
theorem dX11_feed_14 : decode cX11_feed 14 = .ok (.ireturn, 1) := by decide +kernel
theorem dX11_feed_15 : decode cX11_feed 15 = .ok (.aload_n 0, 1) := by decide +kernel
theorem dX11_feed_16 : decode cX11_feed 16 = .ok (.iload_n 1, 1) := by decide +kernel
theorem dX11_feed_17 : decode cX11_feed 17 = .ok (.invokevirtual 120, 3) := by decide +kernel
theorem dX11_feed_20 : decode cX11_feed 20 = .ok (.aload_n 0, 1) := by decide +kernel
theorem dX11_feed_21 : decode cX11_feed 21 = .ok (.iload_n 2, 1) := by decide +kernel
theorem dX11_feed_22 : decode cX11_feed 22 = .ok (.invokevirtual 120, 3) := by decide +kernel
theorem dX11_feed_25 : decode cX11_feed 25 = .ok (.aload_n 0, 1) := by decide +kernel
theorem dX11_feed_26 : decode cX11_feed 26 = .ok (.iload_n 3, 1) := by decide +kernel
theorem dX11_feed_27 : decode cX11_feed 27 = .ok (.invokevirtual 120, 3) := by decide +kernel
theorem dX11_feed_30 : decode cX11_feed 30 = .ok (.aload_n 0, 1) := by decide +kernel
theorem dX11_feed_31 : decode cX11_feed 31 = .ok (.iload 4, 2) := by decide +kernel
theorem dX11_feed_33 : decode cX11_feed 33 = .ok (.invokevirtual 120, 3) := by decide +kernel
theorem dX11_feed_36 : decode cX11_feed 36 = .ok (.aload_n 0, 1) := by decide +kernel
theorem dX11_feed_37 : decode cX11_feed 37 = .ok (.iload 5, 2) := by decide +kernel
theorem dX11_feed_39 : decode cX11_feed 39 = .ok (.invokevirtual 120, 3) := by decide +kernel
theorem dX11_feed_42 : decode cX11_feed 42 = .ok (.aload_n 0, 1) := by decide +kernel
theorem dX11_feed_43 : decode cX11_feed 43 = .ok (.getfield 13, 3) := by decide +kernel
theorem dX11_feed_46 : decode cX11_feed 46 = .ok (.ireturn, 1) := by decide +kernel
theorem dX11_putBytes_0 : decode cX11_putBytes 0 = .ok (.bipush 24, 2) := by decide +kernel
theorem dX11_putBytes_2 : decode cX11_putBytes 2 = .ok (.istore_n 2, 1) := by decide +kernel
theorem dX11_putBytes_3 : decode cX11_putBytes 3 = .ok (.iload_n 2, 1) := by decide +kernel
theorem dX11_putBytes_4 : decode cX11_putBytes 4 = .ok (.ifCond .lt 32, 3) := by decide +kernel
theorem dX11_putBytes_7 : decode cX11_putBytes 7 = .ok (.aload_n 0, 1) := by decide +kernel
theorem dX11_putBytes_8 : decode cX11_putBytes 8 = .ok (.getfield 9, 3) := by decide +kernel
theorem dX11_putBytes_11 : decode cX11_putBytes 11 = .ok (.aload_n 0, 1) := by decide +kernel
theorem dX11_putBytes_12 : decode cX11_putBytes 12 = .ok (.getfield 13, 3) := by decide +kernel
theorem dX11_putBytes_15 : decode cX11_putBytes 15 = .ok (.iload_n 1, 1) := by decide +kernel
theorem dX11_putBytes_16 : decode cX11_putBytes 16 = .ok (.iload_n 2, 1) := by decide +kernel
theorem dX11_putBytes_17 : decode cX11_putBytes 17 = .ok (.ishr, 1) := by decide +kernel
theorem dX11_putBytes_18 : decode cX11_putBytes 18 = .ok (.i2b, 1) := by decide +kernel
theorem dX11_putBytes_19 : decode cX11_putBytes 19 = .ok (.bastore, 1) := by decide +kernel
theorem dX11_putBytes_20 : decode cX11_putBytes 20 = .ok (.aload_n 0, 1) := by decide +kernel
theorem dX11_putBytes_21 : decode cX11_putBytes 21 = .ok (.dup, 1) := by decide +kernel
theorem dX11_putBytes_22 : decode cX11_putBytes 22 = .ok (.getfield 13, 3) := by decide +kernel
theorem dX11_putBytes_25 : decode cX11_putBytes 25 = .ok (.iconst 1, 1) := by decide +kernel
theorem dX11_putBytes_26 : decode cX11_putBytes 26 = .ok (.iadd, 1) := by decide +kernel
theorem dX11_putBytes_27 : decode cX11_putBytes 27 = .ok (.putfield 13, 3) := by decide +kernel
theorem dX11_putBytes_30 : decode cX11_putBytes 30 = .ok (.iinc 2 (-8), 3) := by decide +kernel
theorem dX11_putBytes_33 : decode cX11_putBytes 33 = .ok (.goto (-30), 3) := by decide +kernel
theorem dX11_putBytes_36 : decode cX11_putBytes 36 = .ok (.return_, 1) := by decide +kernel
theorem dX11_end_0 : decode cX11_end 0 = .ok (.iload_n 1, 1) := by decide +kernel
theorem dX11_end_1 : decode cX11_end 1 = .ok (.ifCond .lt 11, 3) := by decide +kernel
theorem dX11_end_4 : decode cX11_end 4 = .ok (.iload_n 1, 1) := by decide +kernel
theorem dX11_end_5 : decode cX11_end 5 = .ok (.aload_n 0, 1) := by decide +kernel
theorem dX11_end_6 : decode cX11_end 6 = .ok (.getfield 13, 3) := by decide +kernel
theorem dX11_end_9 : decode cX11_end 9 = .ok (.if_icmp .le 5, 3) := by decide +kernel
theorem dX11_end_12 : decode cX11_end 12 = .ok (.iconst (-1), 1) := by decide +kernel
theorem dX11_end_13 : decode cX11_end 13 = .ok (.ireturn, 1) := by decide +kernel
theorem dX11_end_14 : decode cX11_end 14 = .ok (.aload_n 0, 1) := by decide +kernel
theorem dX11_end_15 : decode cX11_end 15 = .ok (.iload_n 1, 1) := by decide +kernel
theorem dX11_end_16 : decode cX11_end 16 = .ok (.putfield 13, 3) := by decide +kernel
theorem dX11_end_19 : decode cX11_end 19 = .ok (.iload_n 1, 1) := by decide +kernel
theorem dX11_end_20 : decode cX11_end 20 = .ok (.ireturn, 1) := by decide +kernel
theorem dX11_night_0 : decode cX11_night 0 = .ok (.aload_n 0, 1) := by decide +kernel
theorem dX11_night_1 : decode cX11_night 1 = .ok (.getfield 28, 3) := by decide +kernel
theorem dX11_night_4 : decode cX11_night 4 = .ok (.aload_n 0, 1) := by decide +kernel
theorem dX11_night_5 : decode cX11_night 5 = .ok (.getfield 13, 3) := by decide +kernel
theorem dX11_night_8 : decode cX11_night 8 = .ok (.invokevirtual 124, 3) := by decide +kernel
theorem dX11_night_11 : decode cX11_night 11 = .ok (.astore_n 1, 1) := by decide +kernel
theorem dX11_night_12 : decode cX11_night 12 = .ok (.aload_n 0, 1) := by decide +kernel
theorem dX11_night_13 : decode cX11_night 13 = .ok (.aload_n 0, 1) := by decide +kernel
theorem dX11_night_14 : decode cX11_night 14 = .ok (.getfield 28, 3) := by decide +kernel
theorem dX11_night_17 : decode cX11_night 17 = .ok (.getfield 128, 3) := by decide +kernel
theorem dX11_night_20 : decode cX11_night 20 = .ok (.putfield 17, 3) := by decide +kernel
theorem dX11_night_23 : decode cX11_night 23 = .ok (.aload_n 0, 1) := by decide +kernel
theorem dX11_night_24 : decode cX11_night 24 = .ok (.aload_n 0, 1) := by decide +kernel
theorem dX11_night_25 : decode cX11_night 25 = .ok (.getfield 28, 3) := by decide +kernel
theorem dX11_night_28 : decode cX11_night 28 = .ok (.getfield 129, 3) := by decide +kernel
theorem dX11_night_31 : decode cX11_night 31 = .ok (.putfield 20, 3) := by decide +kernel
theorem dX11_night_34 : decode cX11_night 34 = .ok (.aload_n 0, 1) := by decide +kernel
theorem dX11_night_35 : decode cX11_night 35 = .ok (.iconst 0, 1) := by decide +kernel
theorem dX11_night_36 : decode cX11_night 36 = .ok (.putfield 13, 3) := by decide +kernel
theorem dX11_night_39 : decode cX11_night 39 = .ok (.aload_n 0, 1) := by decide +kernel
theorem dX11_night_40 : decode cX11_night 40 = .ok (.getfield 17, 3) := by decide +kernel
theorem dX11_night_43 : decode cX11_night 43 = .ok (.ifCond .eq 6, 3) := by decide +kernel
theorem dX11_night_46 : decode cX11_night 46 = .ok (.bipush (-4), 2) := by decide +kernel
theorem dX11_night_48 : decode cX11_night 48 = .ok (.ireturn, 1) := by decide +kernel
theorem dX11_night_49 : decode cX11_night 49 = .ok (.aload_n 0, 1) := by decide +kernel
theorem dX11_night_50 : decode cX11_night 50 = .ok (.getfield 35, 3) := by decide +kernel
theorem dX11_night_53 : decode cX11_night 53 = .ok (.aload_n 1, 1) := by decide +kernel
theorem dX11_night_54 : decode cX11_night 54 = .ok (.invokevirtual 132, 3) := by decide +kernel
theorem dX11_night_57 : decode cX11_night 57 = .ok (.aload_n 0, 1) := by decide +kernel
theorem dX11_night_58 : decode cX11_night 58 = .ok (.getfield 42, 3) := by decide +kernel
theorem dX11_night_61 : decode cX11_night 61 = .ok (.iconst 0, 1) := by decide +kernel
theorem dX11_night_62 : decode cX11_night 62 = .ok (.putfield 136, 3) := by decide +kernel
theorem dX11_night_65 : decode cX11_night 65 = .ok (.aload_n 0, 1) := by decide +kernel
theorem dX11_night_66 : decode cX11_night 66 = .ok (.invokevirtual 139, 3) := by decide +kernel
theorem dX11_night_69 : decode cX11_night 69 = .ok (.aload_n 0, 1) := by decide +kernel
theorem dX11_night_70 : decode cX11_night 70 = .ok (.getfield 35, 3) := by decide +kernel
theorem dX11_night_73 : decode cX11_night 73 = .ok (.getfield 142, 3) := by decide +kernel
theorem dX11_night_76 : decode cX11_night 76 = .ok (.ireturn, 1) := by decide +kernel
theorem dX11_fault_0 : decode cX11_fault 0 = .ok (.iload_n 1, 1) := by decide +kernel
theorem dX11_fault_1 : decode cX11_fault 1 = .ok (.ifCond .ne 8, 3) := by decide +kernel
theorem dX11_fault_4 : decode cX11_fault 4 = .ok (.aload_n 0, 1) := by decide +kernel
theorem dX11_fault_5 : decode cX11_fault 5 = .ok (.getfield 17, 3) := by decide +kernel
theorem dX11_fault_8 : decode cX11_fault 8 = .ok (.ireturn, 1) := by decide +kernel
theorem dX11_fault_9 : decode cX11_fault 9 = .ok (.iload_n 1, 1) := by decide +kernel
theorem dX11_fault_10 : decode cX11_fault 10 = .ok (.iconst 1, 1) := by decide +kernel
theorem dX11_fault_11 : decode cX11_fault 11 = .ok (.if_icmp .ne 10, 3) := by decide +kernel
theorem dX11_fault_14 : decode cX11_fault 14 = .ok (.aload_n 0, 1) := by decide +kernel
theorem dX11_fault_15 : decode cX11_fault 15 = .ok (.getfield 20, 3) := by decide +kernel
theorem dX11_fault_18 : decode cX11_fault 18 = .ok (.goto 4, 3) := by decide +kernel
theorem dX11_fault_21 : decode cX11_fault 21 = .ok (.iconst (-1), 1) := by decide +kernel
theorem dX11_fault_22 : decode cX11_fault 22 = .ok (.ireturn, 1) := by decide +kernel
theorem dX11_pew_0 : decode cX11_pew 0 = .ok (.aload_n 0, 1) := by decide +kernel
theorem dX11_pew_1 : decode cX11_pew 1 = .ok (.iload_n 1, 1) := by decide +kernel
theorem dX11_pew_2 : decode cX11_pew 2 = .ok (.invokevirtual 145, 3) := by decide +kernel
theorem dX11_pew_5 : decode cX11_pew 5 = .ok (.ifCond .ne 12, 3) := by decide +kernel
theorem dX11_pew_8 : decode cX11_pew 8 = .ok (.iload_n 2, 1) := by decide +kernel
theorem dX11_pew_9 : decode cX11_pew 9 = .ok (.ifCond .lt 8, 3) := by decide +kernel
theorem dX11_pew_12 : decode cX11_pew 12 = .ok (.iload_n 2, 1) := by decide +kernel
theorem dX11_pew_13 : decode cX11_pew 13 = .ok (.iconst 2, 1) := by decide +kernel
theorem dX11_pew_14 : decode cX11_pew 14 = .ok (.if_icmp .le 6, 3) := by decide +kernel
theorem dX11_pew_17 : decode cX11_pew 17 = .ok (.bipush (-2), 2) := by decide +kernel
theorem dX11_pew_19 : decode cX11_pew 19 = .ok (.ireturn, 1) := by decide +kernel
theorem dX11_pew_20 : decode cX11_pew 20 = .ok (.iload_n 2, 1) := by decide +kernel
theorem dX11_pew_21 : decode cX11_pew 21 = .ok (.ifCond .ne 13, 3) := by decide +kernel
theorem dX11_pew_24 : decode cX11_pew 24 = .ok (.aload_n 0, 1) := by decide +kernel
theorem dX11_pew_25 : decode cX11_pew 25 = .ok (.getfield 35, 3) := by decide +kernel
theorem dX11_pew_28 : decode cX11_pew 28 = .ok (.getfield 149, 3) := by decide +kernel
theorem dX11_pew_31 : decode cX11_pew 31 = .ok (.iload_n 1, 1) := by decide +kernel
theorem dX11_pew_32 : decode cX11_pew 32 = .ok (.iaload, 1) := by decide +kernel
theorem dX11_pew_33 : decode cX11_pew 33 = .ok (.ireturn, 1) := by decide +kernel
theorem dX11_pew_34 : decode cX11_pew 34 = .ok (.iload_n 2, 1) := by decide +kernel
theorem dX11_pew_35 : decode cX11_pew 35 = .ok (.iconst 1, 1) := by decide +kernel
theorem dX11_pew_36 : decode cX11_pew 36 = .ok (.if_icmp .ne 15, 3) := by decide +kernel
theorem dX11_pew_39 : decode cX11_pew 39 = .ok (.aload_n 0, 1) := by decide +kernel
theorem dX11_pew_40 : decode cX11_pew 40 = .ok (.getfield 35, 3) := by decide +kernel
theorem dX11_pew_43 : decode cX11_pew 43 = .ok (.getfield 153, 3) := by decide +kernel
theorem dX11_pew_46 : decode cX11_pew 46 = .ok (.iload_n 1, 1) := by decide +kernel
theorem dX11_pew_47 : decode cX11_pew 47 = .ok (.iaload, 1) := by decide +kernel
