theorem dX12_far_55 : decode cX12_far 55 = .ok (.iconst 0, 1) := by decide +kernel
theorem dX12_far_56 : decode cX12_far 56 = .ok (.istore 6, 2) := by decide +kernel
theorem dX12_far_58 : decode cX12_far 58 = .ok (.iload 6, 2) := by decide +kernel
theorem dX12_far_60 : decode cX12_far 60 = .ok (.aload_n 0, 1) := by decide +kernel
theorem dX12_far_61 : decode cX12_far 61 = .ok (.invokevirtual 74, 3) := by decide +kernel
theorem dX12_far_64 : decode cX12_far 64 = .ok (.if_icmp .ge 34, 3) := by decide +kernel
theorem dX12_far_67 : decode cX12_far 67 = .ok (.iload 5, 2) := by decide +kernel
theorem dX12_far_69 : decode cX12_far 69 = .ok (.iload_n 3, 1) := by decide +kernel
theorem dX12_far_70 : decode cX12_far 70 = .ok (.iload 6, 2) := by decide +kernel
theorem dX12_far_72 : decode cX12_far 72 = .ok (.invokestatic 237, 3) := by decide +kernel
theorem dX12_far_75 : decode cX12_far 75 = .ok (.iconst 1, 1) := by decide +kernel
theorem dX12_far_76 : decode cX12_far 76 = .ok (.if_icmp .ne 12, 3) := by decide +kernel
theorem dX12_far_79 : decode cX12_far 79 = .ok (.aload_n 0, 1) := by decide +kernel
theorem dX12_far_80 : decode cX12_far 80 = .ok (.iload 6, 2) := by decide +kernel
theorem dX12_far_82 : decode cX12_far 82 = .ok (.invokevirtual 240, 3) := by decide +kernel
theorem dX12_far_85 : decode cX12_far 85 = .ok (.goto 4, 3) := by decide +kernel
theorem dX12_far_88 : decode cX12_far 88 = .ok (.iconst 0, 1) := by decide +kernel
theorem dX12_far_89 : decode cX12_far 89 = .ok (.ior, 1) := by decide +kernel
theorem dX12_far_90 : decode cX12_far 90 = .ok (.istore 5, 2) := by decide +kernel
theorem dX12_far_92 : decode cX12_far 92 = .ok (.iinc 6 1, 3) := by decide +kernel
theorem dX12_far_95 : decode cX12_far 95 = .ok (.goto (-37), 3) := by decide +kernel
theorem dX12_far_98 : decode cX12_far 98 = .ok (.iload 5, 2) := by decide +kernel
theorem dX12_far_100 : decode cX12_far 100 = .ok (.istore_n 3, 1) := by decide +kernel
theorem dX12_far_101 : decode cX12_far 101 = .ok (.iinc 4 1, 3) := by decide +kernel
theorem dX12_far_104 : decode cX12_far 104 = .ok (.goto (-71), 3) := by decide +kernel
theorem dX12_far_107 : decode cX12_far 107 = .ok (.iconst (-1), 1) := by decide +kernel
theorem dX12_far_108 : decode cX12_far 108 = .ok (.ireturn, 1) := by decide +kernel
theorem dX12_asItIs_0 : decode cX12_asItIs 0 = .ok (.aload_n 0, 1) := by decide +kernel
theorem dX12_asItIs_1 : decode cX12_asItIs 1 = .ok (.aload_n 0, 1) := by decide +kernel
theorem dX12_asItIs_2 : decode cX12_asItIs 2 = .ok (.getfield 9, 3) := by decide +kernel
theorem dX12_asItIs_5 : decode cX12_asItIs 5 = .ok (.iconst 1, 1) := by decide +kernel
theorem dX12_asItIs_6 : decode cX12_asItIs 6 = .ok (.iaload, 1) := by decide +kernel
theorem dX12_asItIs_7 : decode cX12_asItIs 7 = .ok (.putfield 243, 3) := by decide +kernel
theorem dX12_asItIs_10 : decode cX12_asItIs 10 = .ok (.aload_n 0, 1) := by decide +kernel
theorem dX12_asItIs_11 : decode cX12_asItIs 11 = .ok (.iconst 0, 1) := by decide +kernel
theorem dX12_asItIs_12 : decode cX12_asItIs 12 = .ok (.putfield 246, 3) := by decide +kernel
theorem dX12_asItIs_15 : decode cX12_asItIs 15 = .ok (.aload_n 0, 1) := by decide +kernel
theorem dX12_asItIs_16 : decode cX12_asItIs 16 = .ok (.iconst (-1), 1) := by decide +kernel
theorem dX12_asItIs_17 : decode cX12_asItIs 17 = .ok (.putfield 249, 3) := by decide +kernel
theorem dX12_asItIs_20 : decode cX12_asItIs 20 = .ok (.aload_n 0, 1) := by decide +kernel
theorem dX12_asItIs_21 : decode cX12_asItIs 21 = .ok (.iconst 1, 1) := by decide +kernel
theorem dX12_asItIs_22 : decode cX12_asItIs 22 = .ok (.putfield 252, 3) := by decide +kernel
theorem dX12_asItIs_25 : decode cX12_asItIs 25 = .ok (.aload_n 0, 1) := by decide +kernel
theorem dX12_asItIs_26 : decode cX12_asItIs 26 = .ok (.iconst (-1), 1) := by decide +kernel
theorem dX12_asItIs_27 : decode cX12_asItIs 27 = .ok (.putfield 255, 3) := by decide +kernel
theorem dX12_asItIs_30 : decode cX12_asItIs 30 = .ok (.aload_n 0, 1) := by decide +kernel
theorem dX12_asItIs_31 : decode cX12_asItIs 31 = .ok (.iconst (-1), 1) := by decide +kernel
theorem dX12_asItIs_32 : decode cX12_asItIs 32 = .ok (.putfield 258, 3) := by decide +kernel
theorem dX12_asItIs_35 : decode cX12_asItIs 35 = .ok (.aload_n 0, 1) := by decide +kernel
theorem dX12_asItIs_36 : decode cX12_asItIs 36 = .ok (.iconst (-1), 1) := by decide +kernel
theorem dX12_asItIs_37 : decode cX12_asItIs 37 = .ok (.putfield 261, 3) := by decide +kernel
theorem dX12_asItIs_40 : decode cX12_asItIs 40 = .ok (.aload_n 0, 1) := by decide +kernel
theorem dX12_asItIs_41 : decode cX12_asItIs 41 = .ok (.iconst (-1), 1) := by decide +kernel
theorem dX12_asItIs_42 : decode cX12_asItIs 42 = .ok (.putfield 264, 3) := by decide +kernel
theorem dX12_asItIs_45 : decode cX12_asItIs 45 = .ok (.aload_n 0, 1) := by decide +kernel
theorem dX12_asItIs_46 : decode cX12_asItIs 46 = .ok (.iconst 0, 1) := by decide +kernel
theorem dX12_asItIs_47 : decode cX12_asItIs 47 = .ok (.putfield 234, 3) := by decide +kernel
theorem dX12_asItIs_50 : decode cX12_asItIs 50 = .ok (.return_, 1) := by decide +kernel
theorem dX12_saysOf_0 : decode cX12_saysOf 0 = .ok (.aload_n 0, 1) := by decide +kernel
theorem dX12_saysOf_1 : decode cX12_saysOf 1 = .ok (.getfield 34, 3) := by decide +kernel
theorem dX12_saysOf_4 : decode cX12_saysOf 4 = .ok (.bipush 7, 2) := by decide +kernel
theorem dX12_saysOf_6 : decode cX12_saysOf 6 = .ok (.iload_n 2, 1) := by decide +kernel
theorem dX12_saysOf_7 : decode cX12_saysOf 7 = .ok (.imul, 1) := by decide +kernel
theorem dX12_saysOf_8 : decode cX12_saysOf 8 = .ok (.iload_n 1, 1) := by decide +kernel
theorem dX12_saysOf_9 : decode cX12_saysOf 9 = .ok (.iadd, 1) := by decide +kernel
theorem dX12_saysOf_10 : decode cX12_saysOf 10 = .ok (.iaload, 1) := by decide +kernel
theorem dX12_saysOf_11 : decode cX12_saysOf 11 = .ok (.ireturn, 1) := by decide +kernel
theorem dX12_lights_0 : decode cX12_lights 0 = .ok (.bipush 7, 2) := by decide +kernel
theorem dX12_lights_2 : decode cX12_lights 2 = .ok (.iload_n 3, 1) := by decide +kernel
theorem dX12_lights_3 : decode cX12_lights 3 = .ok (.imul, 1) := by decide +kernel
theorem dX12_lights_4 : decode cX12_lights 4 = .ok (.iload_n 1, 1) := by decide +kernel
theorem dX12_lights_5 : decode cX12_lights 5 = .ok (.iadd, 1) := by decide +kernel
theorem dX12_lights_6 : decode cX12_lights 6 = .ok (.istore 4, 2) := by decide +kernel
theorem dX12_lights_8 : decode cX12_lights 8 = .ok (.aload_n 0, 1) := by decide +kernel
theorem dX12_lights_9 : decode cX12_lights 9 = .ok (.getfield 40, 3) := by decide +kernel
theorem dX12_lights_12 : decode cX12_lights 12 = .ok (.iload 4, 2) := by decide +kernel
theorem dX12_lights_14 : decode cX12_lights 14 = .ok (.aload_n 0, 1) := by decide +kernel
theorem dX12_lights_15 : decode cX12_lights 15 = .ok (.getfield 34, 3) := by decide +kernel
theorem dX12_lights_18 : decode cX12_lights 18 = .ok (.iload 4, 2) := by decide +kernel
theorem dX12_lights_20 : decode cX12_lights 20 = .ok (.iaload, 1) := by decide +kernel
theorem dX12_lights_21 : decode cX12_lights 21 = .ok (.ifCond .le 13, 3) := by decide +kernel
theorem dX12_lights_24 : decode cX12_lights 24 = .ok (.aload_n 0, 1) := by decide +kernel
theorem dX12_lights_25 : decode cX12_lights 25 = .ok (.getfield 40, 3) := by decide +kernel
theorem dX12_lights_28 : decode cX12_lights 28 = .ok (.iload 4, 2) := by decide +kernel
theorem dX12_lights_30 : decode cX12_lights 30 = .ok (.iaload, 1) := by decide +kernel
theorem dX12_lights_31 : decode cX12_lights 31 = .ok (.goto 4, 3) := by decide +kernel
theorem dX12_lights_34 : decode cX12_lights 34 = .ok (.iload_n 3, 1) := by decide +kernel
theorem dX12_lights_35 : decode cX12_lights 35 = .ok (.iastore, 1) := by decide +kernel
theorem dX12_lights_36 : decode cX12_lights 36 = .ok (.aload_n 0, 1) := by decide +kernel
theorem dX12_lights_37 : decode cX12_lights 37 = .ok (.getfield 34, 3) := by decide +kernel
theorem dX12_lights_40 : decode cX12_lights 40 = .ok (.iload 4, 2) := by decide +kernel
theorem dX12_lights_42 : decode cX12_lights 42 = .ok (.iload_n 2, 1) := by decide +kernel
theorem dX12_lights_43 : decode cX12_lights 43 = .ok (.iastore, 1) := by decide +kernel
theorem dX12_lights_44 : decode cX12_lights 44 = .ok (.aload_n 0, 1) := by decide +kernel
theorem dX12_lights_45 : decode cX12_lights 45 = .ok (.getfield 37, 3) := by decide +kernel
theorem dX12_lights_48 : decode cX12_lights 48 = .ok (.iload 4, 2) := by decide +kernel
theorem dX12_lights_50 : decode cX12_lights 50 = .ok (.iconst (-1), 1) := by decide +kernel
theorem dX12_lights_51 : decode cX12_lights 51 = .ok (.iastore, 1) := by decide +kernel
theorem dX12_lights_52 : decode cX12_lights 52 = .ok (.aload_n 0, 1) := by decide +kernel
theorem dX12_lights_53 : decode cX12_lights 53 = .ok (.getfield 43, 3) := by decide +kernel
theorem dX12_lights_56 : decode cX12_lights 56 = .ok (.iload 4, 2) := by decide +kernel
theorem dX12_lights_58 : decode cX12_lights 58 = .ok (.iconst 0, 1) := by decide +kernel
theorem dX12_lights_59 : decode cX12_lights 59 = .ok (.iastore, 1) := by decide +kernel
theorem dX12_lights_60 : decode cX12_lights 60 = .ok (.return_, 1) := by decide +kernel
theorem dX12_putsOut_0 : decode cX12_putsOut 0 = .ok (.bipush 7, 2) := by decide +kernel
theorem dX12_putsOut_2 : decode cX12_putsOut 2 = .ok (.iload_n 2, 1) := by decide +kernel
theorem dX12_putsOut_3 : decode cX12_putsOut 3 = .ok (.imul, 1) := by decide +kernel
theorem dX12_putsOut_4 : decode cX12_putsOut 4 = .ok (.iload_n 1, 1) := by decide +kernel
theorem dX12_putsOut_5 : decode cX12_putsOut 5 = .ok (.iadd, 1) := by decide +kernel
theorem dX12_putsOut_6 : decode cX12_putsOut 6 = .ok (.istore_n 3, 1) := by decide +kernel
theorem dX12_putsOut_7 : decode cX12_putsOut 7 = .ok (.aload_n 0, 1) := by decide +kernel
theorem dX12_putsOut_8 : decode cX12_putsOut 8 = .ok (.getfield 34, 3) := by decide +kernel
theorem dX12_putsOut_11 : decode cX12_putsOut 11 = .ok (.iload_n 3, 1) := by decide +kernel
theorem dX12_putsOut_12 : decode cX12_putsOut 12 = .ok (.iconst 0, 1) := by decide +kernel
theorem dX12_putsOut_13 : decode cX12_putsOut 13 = .ok (.iastore, 1) := by decide +kernel
theorem dX12_putsOut_14 : decode cX12_putsOut 14 = .ok (.aload_n 0, 1) := by decide +kernel
theorem dX12_putsOut_15 : decode cX12_putsOut 15 = .ok (.getfield 37, 3) := by decide +kernel
theorem dX12_putsOut_18 : decode cX12_putsOut 18 = .ok (.iload_n 3, 1) := by decide +kernel
theorem dX12_putsOut_19 : decode cX12_putsOut 19 = .ok (.iconst (-1), 1) := by decide +kernel
theorem dX12_putsOut_20 : decode cX12_putsOut 20 = .ok (.iastore, 1) := by decide +kernel
theorem dX12_putsOut_21 : decode cX12_putsOut 21 = .ok (.aload_n 0, 1) := by decide +kernel
theorem dX12_putsOut_22 : decode cX12_putsOut 22 = .ok (.getfield 40, 3) := by decide +kernel
theorem dX12_putsOut_25 : decode cX12_putsOut 25 = .ok (.iload_n 3, 1) := by decide +kernel
theorem dX12_putsOut_26 : decode cX12_putsOut 26 = .ok (.iconst (-1), 1) := by decide +kernel
theorem dX12_putsOut_27 : decode cX12_putsOut 27 = .ok (.iastore, 1) := by decide +kernel
theorem dX12_putsOut_28 : decode cX12_putsOut 28 = .ok (.aload_n 0, 1) := by decide +kernel
theorem dX12_putsOut_29 : decode cX12_putsOut 29 = .ok (.getfield 43, 3) := by decide +kernel
theorem dX12_putsOut_32 : decode cX12_putsOut 32 = .ok (.iload_n 3, 1) := by decide +kernel
theorem dX12_putsOut_33 : decode cX12_putsOut 33 = .ok (.iconst (-1), 1) := by decide +kernel
theorem dX12_putsOut_34 : decode cX12_putsOut 34 = .ok (.iastore, 1) := by decide +kernel
theorem dX12_putsOut_35 : decode cX12_putsOut 35 = .ok (.return_, 1) := by decide +kernel
theorem dX12_beginNight_0 : decode cX12_beginNight 0 = .ok (.iconst 0, 1) := by decide +kernel
theorem dX12_beginNight_1 : decode cX12_beginNight 1 = .ok (.istore_n 1, 1) := by decide +kernel
theorem dX12_beginNight_2 : decode cX12_beginNight 2 = .ok (.iload_n 1, 1) := by decide +kernel
theorem dX12_beginNight_3 : decode cX12_beginNight 3 = .ok (.aload_n 0, 1) := by decide +kernel
theorem dX12_beginNight_4 : decode cX12_beginNight 4 = .ok (.invokevirtual 74, 3) := by decide +kernel
theorem dX12_beginNight_7 : decode cX12_beginNight 7 = .ok (.if_icmp .ge 45, 3) := by decide +kernel
theorem dX12_beginNight_10 : decode cX12_beginNight 10 = .ok (.aload_n 0, 1) := by decide +kernel
theorem dX12_beginNight_11 : decode cX12_beginNight 11 = .ok (.iload_n 1, 1) := by decide +kernel
theorem dX12_beginNight_12 : decode cX12_beginNight 12 = .ok (.iconst 0, 1) := by decide +kernel
theorem dX12_beginNight_13 : decode cX12_beginNight 13 = .ok (.invokevirtual 267, 3) := by decide +kernel
theorem dX12_beginNight_16 : decode cX12_beginNight 16 = .ok (.aload_n 0, 1) := by decide +kernel
theorem dX12_beginNight_17 : decode cX12_beginNight 17 = .ok (.getfield 249, 3) := by decide +kernel
theorem dX12_beginNight_20 : decode cX12_beginNight 20 = .ok (.iconst (-1), 1) := by decide +kernel
theorem dX12_beginNight_21 : decode cX12_beginNight 21 = .ok (.if_icmp .eq 25, 3) := by decide +kernel
theorem dX12_beginNight_24 : decode cX12_beginNight 24 = .ok (.aload_n 0, 1) := by decide +kernel
theorem dX12_beginNight_25 : decode cX12_beginNight 25 = .ok (.getfield 249, 3) := by decide +kernel
theorem dX12_beginNight_28 : decode cX12_beginNight 28 = .ok (.iload_n 1, 1) := by decide +kernel
theorem dX12_beginNight_29 : decode cX12_beginNight 29 = .ok (.invokestatic 237, 3) := by decide +kernel
theorem dX12_beginNight_32 : decode cX12_beginNight 32 = .ok (.iconst 1, 1) := by decide +kernel
theorem dX12_beginNight_33 : decode cX12_beginNight 33 = .ok (.if_icmp .ne 13, 3) := by decide +kernel
theorem dX12_beginNight_36 : decode cX12_beginNight 36 = .ok (.aload_n 0, 1) := by decide +kernel
theorem dX12_beginNight_37 : decode cX12_beginNight 37 = .ok (.iload_n 1, 1) := by decide +kernel
theorem dX12_beginNight_38 : decode cX12_beginNight 38 = .ok (.aload_n 0, 1) := by decide +kernel
theorem dX12_beginNight_39 : decode cX12_beginNight 39 = .ok (.getfield 252, 3) := by decide +kernel
theorem dX12_beginNight_42 : decode cX12_beginNight 42 = .ok (.iconst 0, 1) := by decide +kernel
theorem dX12_beginNight_43 : decode cX12_beginNight 43 = .ok (.invokevirtual 271, 3) := by decide +kernel
theorem dX12_beginNight_46 : decode cX12_beginNight 46 = .ok (.iinc 1 1, 3) := by decide +kernel
theorem dX12_beginNight_49 : decode cX12_beginNight 49 = .ok (.goto (-47), 3) := by decide +kernel
theorem dX12_beginNight_52 : decode cX12_beginNight 52 = .ok (.iconst 0, 1) := by decide +kernel
theorem dX12_beginNight_53 : decode cX12_beginNight 53 = .ok (.istore_n 1, 1) := by decide +kernel
theorem dX12_beginNight_54 : decode cX12_beginNight 54 = .ok (.iload_n 1, 1) := by decide +kernel
theorem dX12_beginNight_55 : decode cX12_beginNight 55 = .ok (.aload_n 0, 1) := by decide +kernel
theorem dX12_beginNight_56 : decode cX12_beginNight 56 = .ok (.getfield 9, 3) := by decide +kernel
theorem dX12_beginNight_59 : decode cX12_beginNight 59 = .ok (.iconst 5, 1) := by decide +kernel
theorem dX12_beginNight_60 : decode cX12_beginNight 60 = .ok (.iaload, 1) := by decide +kernel
theorem dX12_beginNight_61 : decode cX12_beginNight 61 = .ok (.if_icmp .ge 46, 3) := by decide +kernel
theorem dX12_beginNight_64 : decode cX12_beginNight 64 = .ok (.aload_n 0, 1) := by decide +kernel
theorem dX12_beginNight_65 : decode cX12_beginNight 65 = .ok (.getfield 249, 3) := by decide +kernel
theorem dX12_beginNight_68 : decode cX12_beginNight 68 = .ok (.iconst (-1), 1) := by decide +kernel
theorem dX12_beginNight_69 : decode cX12_beginNight 69 = .ok (.if_icmp .ne 38, 3) := by decide +kernel
theorem dX12_beginNight_72 : decode cX12_beginNight 72 = .ok (.aload_n 0, 1) := by decide +kernel
theorem dX12_beginNight_73 : decode cX12_beginNight 73 = .ok (.aload_n 0, 1) := by decide +kernel
theorem dX12_beginNight_74 : decode cX12_beginNight 74 = .ok (.getfield 9, 3) := by decide +kernel
theorem dX12_beginNight_77 : decode cX12_beginNight 77 = .ok (.bipush 54, 2) := by decide +kernel
theorem dX12_beginNight_79 : decode cX12_beginNight 79 = .ok (.iconst 2, 1) := by decide +kernel
theorem dX12_beginNight_80 : decode cX12_beginNight 80 = .ok (.iload_n 1, 1) := by decide +kernel
theorem dX12_beginNight_81 : decode cX12_beginNight 81 = .ok (.imul, 1) := by decide +kernel
theorem dX12_beginNight_82 : decode cX12_beginNight 82 = .ok (.iadd, 1) := by decide +kernel
theorem dX12_beginNight_83 : decode cX12_beginNight 83 = .ok (.iaload, 1) := by decide +kernel
theorem dX12_beginNight_84 : decode cX12_beginNight 84 = .ok (.aload_n 0, 1) := by decide +kernel
theorem dX12_beginNight_85 : decode cX12_beginNight 85 = .ok (.getfield 9, 3) := by decide +kernel
theorem dX12_beginNight_88 : decode cX12_beginNight 88 = .ok (.bipush 54, 2) := by decide +kernel
theorem dX12_beginNight_90 : decode cX12_beginNight 90 = .ok (.iconst 2, 1) := by decide +kernel
theorem dX12_beginNight_91 : decode cX12_beginNight 91 = .ok (.iload_n 1, 1) := by decide +kernel
theorem dX12_beginNight_92 : decode cX12_beginNight 92 = .ok (.imul, 1) := by decide +kernel
theorem dX12_beginNight_93 : decode cX12_beginNight 93 = .ok (.iadd, 1) := by decide +kernel
theorem dX12_beginNight_94 : decode cX12_beginNight 94 = .ok (.iconst 1, 1) := by decide +kernel
theorem dX12_beginNight_95 : decode cX12_beginNight 95 = .ok (.iadd, 1) := by decide +kernel
theorem dX12_beginNight_96 : decode cX12_beginNight 96 = .ok (.iaload, 1) := by decide +kernel
theorem dX12_beginNight_97 : decode cX12_beginNight 97 = .ok (.iconst 0, 1) := by decide +kernel
theorem dX12_beginNight_98 : decode cX12_beginNight 98 = .ok (.invokevirtual 271, 3) := by decide +kernel
theorem dX12_beginNight_101 : decode cX12_beginNight 101 = .ok (.iinc 1 1, 3) := by decide +kernel
theorem dX12_beginNight_104 : decode cX12_beginNight 104 = .ok (.goto (-50), 3) := by decide +kernel
theorem dX12_beginNight_107 : decode cX12_beginNight 107 = .ok (.return_, 1) := by decide +kernel
theorem dX12_beginHour_0 : decode cX12_beginHour 0 = .ok (.iconst 0, 1) := by decide +kernel
theorem dX12_beginHour_1 : decode cX12_beginHour 1 = .ok (.istore_n 2, 1) := by decide +kernel
theorem dX12_beginHour_2 : decode cX12_beginHour 2 = .ok (.iload_n 2, 1) := by decide +kernel
theorem dX12_beginHour_3 : decode cX12_beginHour 3 = .ok (.aload_n 0, 1) := by decide +kernel
theorem dX12_beginHour_4 : decode cX12_beginHour 4 = .ok (.getfield 9, 3) := by decide +kernel
theorem dX12_beginHour_7 : decode cX12_beginHour 7 = .ok (.bipush 7, 2) := by decide +kernel
theorem dX12_beginHour_9 : decode cX12_beginHour 9 = .ok (.iaload, 1) := by decide +kernel
theorem dX12_beginHour_10 : decode cX12_beginHour 10 = .ok (.if_icmp .ge 59, 3) := by decide +kernel
theorem dX12_beginHour_13 : decode cX12_beginHour 13 = .ok (.aload_n 0, 1) := by decide +kernel
theorem dX12_beginHour_14 : decode cX12_beginHour 14 = .ok (.getfield 249, 3) := by decide +kernel
theorem dX12_beginHour_17 : decode cX12_beginHour 17 = .ok (.iconst (-1), 1) := by decide +kernel
theorem dX12_beginHour_18 : decode cX12_beginHour 18 = .ok (.if_icmp .ne 51, 3) := by decide +kernel
theorem dX12_beginHour_21 : decode cX12_beginHour 21 = .ok (.aload_n 0, 1) := by decide +kernel
theorem dX12_beginHour_22 : decode cX12_beginHour 22 = .ok (.getfield 9, 3) := by decide +kernel
theorem dX12_beginHour_25 : decode cX12_beginHour 25 = .ok (.bipush 74, 2) := by decide +kernel
theorem dX12_beginHour_27 : decode cX12_beginHour 27 = .ok (.iload_n 2, 1) := by decide +kernel
theorem dX12_beginHour_28 : decode cX12_beginHour 28 = .ok (.iadd, 1) := by decide +kernel
theorem dX12_beginHour_29 : decode cX12_beginHour 29 = .ok (.iaload, 1) := by decide +kernel
theorem dX12_beginHour_30 : decode cX12_beginHour 30 = .ok (.istore_n 3, 1) := by decide +kernel
theorem dX12_beginHour_31 : decode cX12_beginHour 31 = .ok (.iload_n 3, 1) := by decide +kernel
theorem dX12_beginHour_32 : decode cX12_beginHour 32 = .ok (.sipush 10000, 3) := by decide +kernel
theorem dX12_beginHour_35 : decode cX12_beginHour 35 = .ok (.if_icmp .lt 28, 3) := by decide +kernel
theorem dX12_beginHour_38 : decode cX12_beginHour 38 = .ok (.iload_n 3, 1) := by decide +kernel
theorem dX12_beginHour_39 : decode cX12_beginHour 39 = .ok (.bipush 100, 2) := by decide +kernel
theorem dX12_beginHour_41 : decode cX12_beginHour 41 = .ok (.irem, 1) := by decide +kernel
theorem dX12_beginHour_42 : decode cX12_beginHour 42 = .ok (.iload_n 1, 1) := by decide +kernel
theorem dX12_beginHour_43 : decode cX12_beginHour 43 = .ok (.if_icmp .ne 20, 3) := by decide +kernel
theorem dX12_beginHour_46 : decode cX12_beginHour 46 = .ok (.aload_n 0, 1) := by decide +kernel
theorem dX12_beginHour_47 : decode cX12_beginHour 47 = .ok (.iload_n 3, 1) := by decide +kernel
theorem dX12_beginHour_48 : decode cX12_beginHour 48 = .ok (.bipush 100, 2) := by decide +kernel
theorem dX12_beginHour_50 : decode cX12_beginHour 50 = .ok (.idiv, 1) := by decide +kernel
theorem dX12_beginHour_51 : decode cX12_beginHour 51 = .ok (.bipush 100, 2) := by decide +kernel
theorem dX12_beginHour_53 : decode cX12_beginHour 53 = .ok (.irem, 1) := by decide +kernel
theorem dX12_beginHour_54 : decode cX12_beginHour 54 = .ok (.iload_n 3, 1) := by decide +kernel
theorem dX12_beginHour_55 : decode cX12_beginHour 55 = .ok (.sipush 10000, 3) := by decide +kernel
theorem dX12_beginHour_58 : decode cX12_beginHour 58 = .ok (.idiv, 1) := by decide +kernel
theorem dX12_beginHour_59 : decode cX12_beginHour 59 = .ok (.iload_n 1, 1) := by decide +kernel
theorem dX12_beginHour_60 : decode cX12_beginHour 60 = .ok (.invokevirtual 271, 3) := by decide +kernel
theorem dX12_beginHour_63 : decode cX12_beginHour 63 = .ok (.iinc 2 1, 3) := by decide +kernel
theorem dX12_beginHour_66 : decode cX12_beginHour 66 = .ok (.goto (-64), 3) := by decide +kernel
theorem dX12_beginHour_69 : decode cX12_beginHour 69 = .ok (.iload_n 1, 1) := by decide +kernel
theorem dX12_beginHour_70 : decode cX12_beginHour 70 = .ok (.ifCond .ne 21, 3) := by decide +kernel
theorem dX12_beginHour_73 : decode cX12_beginHour 73 = .ok (.aload_n 0, 1) := by decide +kernel
theorem dX12_beginHour_74 : decode cX12_beginHour 74 = .ok (.getfield 255, 3) := by decide +kernel
theorem dX12_beginHour_77 : decode cX12_beginHour 77 = .ok (.iconst (-1), 1) := by decide +kernel
theorem dX12_beginHour_78 : decode cX12_beginHour 78 = .ok (.if_icmp .eq 13, 3) := by decide +kernel
theorem dX12_beginHour_81 : decode cX12_beginHour 81 = .ok (.aload_n 0, 1) := by decide +kernel
theorem dX12_beginHour_82 : decode cX12_beginHour 82 = .ok (.aload_n 0, 1) := by decide +kernel
theorem dX12_beginHour_83 : decode cX12_beginHour 83 = .ok (.getfield 255, 3) := by decide +kernel
theorem dX12_beginHour_86 : decode cX12_beginHour 86 = .ok (.iconst 1, 1) := by decide +kernel
theorem dX12_beginHour_87 : decode cX12_beginHour 87 = .ok (.iconst 0, 1) := by decide +kernel
theorem dX12_beginHour_88 : decode cX12_beginHour 88 = .ok (.invokevirtual 271, 3) := by decide +kernel
theorem dX12_beginHour_91 : decode cX12_beginHour 91 = .ok (.iconst 0, 1) := by decide +kernel
theorem dX12_beginHour_92 : decode cX12_beginHour 92 = .ok (.istore_n 2, 1) := by decide +kernel
theorem dX12_beginHour_93 : decode cX12_beginHour 93 = .ok (.iload_n 2, 1) := by decide +kernel
theorem dX12_beginHour_94 : decode cX12_beginHour 94 = .ok (.aload_n 0, 1) := by decide +kernel
theorem dX12_beginHour_95 : decode cX12_beginHour 95 = .ok (.getfield 9, 3) := by decide +kernel
theorem dX12_beginHour_98 : decode cX12_beginHour 98 = .ok (.bipush 6, 2) := by decide +kernel
theorem dX12_beginHour_100 : decode cX12_beginHour 100 = .ok (.iaload, 1) := by decide +kernel
theorem dX12_beginHour_101 : decode cX12_beginHour 101 = .ok (.if_icmp .ge 50, 3) := by decide +kernel
theorem dX12_beginHour_104 : decode cX12_beginHour 104 = .ok (.aload_n 0, 1) := by decide +kernel
theorem dX12_beginHour_105 : decode cX12_beginHour 105 = .ok (.getfield 9, 3) := by decide +kernel
theorem dX12_beginHour_108 : decode cX12_beginHour 108 = .ok (.bipush 62, 2) := by decide +kernel
theorem dX12_beginHour_110 : decode cX12_beginHour 110 = .ok (.iconst 2, 1) := by decide +kernel
theorem dX12_beginHour_111 : decode cX12_beginHour 111 = .ok (.iload_n 2, 1) := by decide +kernel
theorem dX12_beginHour_112 : decode cX12_beginHour 112 = .ok (.imul, 1) := by decide +kernel
theorem dX12_beginHour_113 : decode cX12_beginHour 113 = .ok (.iadd, 1) := by decide +kernel
theorem dX12_beginHour_114 : decode cX12_beginHour 114 = .ok (.iconst 1, 1) := by decide +kernel
theorem dX12_beginHour_115 : decode cX12_beginHour 115 = .ok (.iadd, 1) := by decide +kernel
theorem dX12_beginHour_116 : decode cX12_beginHour 116 = .ok (.iaload, 1) := by decide +kernel
theorem dX12_beginHour_117 : decode cX12_beginHour 117 = .ok (.iload_n 1, 1) := by decide +kernel
theorem dX12_beginHour_118 : decode cX12_beginHour 118 = .ok (.if_icmp .ne 27, 3) := by decide +kernel
theorem dX12_beginHour_121 : decode cX12_beginHour 121 = .ok (.iload_n 2, 1) := by decide +kernel
theorem dX12_beginHour_122 : decode cX12_beginHour 122 = .ok (.aload_n 0, 1) := by decide +kernel
theorem dX12_beginHour_123 : decode cX12_beginHour 123 = .ok (.getfield 264, 3) := by decide +kernel
theorem dX12_beginHour_126 : decode cX12_beginHour 126 = .ok (.if_icmp .eq 19, 3) := by decide +kernel
theorem dX12_beginHour_129 : decode cX12_beginHour 129 = .ok (.aload_n 0, 1) := by decide +kernel
theorem dX12_beginHour_130 : decode cX12_beginHour 130 = .ok (.aload_n 0, 1) := by decide +kernel
theorem dX12_beginHour_131 : decode cX12_beginHour 131 = .ok (.getfield 9, 3) := by decide +kernel
theorem dX12_beginHour_134 : decode cX12_beginHour 134 = .ok (.bipush 62, 2) := by decide +kernel
theorem dX12_beginHour_136 : decode cX12_beginHour 136 = .ok (.iconst 2, 1) := by decide +kernel
theorem dX12_beginHour_137 : decode cX12_beginHour 137 = .ok (.iload_n 2, 1) := by decide +kernel
theorem dX12_beginHour_138 : decode cX12_beginHour 138 = .ok (.imul, 1) := by decide +kernel
theorem dX12_beginHour_139 : decode cX12_beginHour 139 = .ok (.iadd, 1) := by decide +kernel
theorem dX12_beginHour_140 : decode cX12_beginHour 140 = .ok (.iaload, 1) := by decide +kernel
theorem dX12_beginHour_141 : decode cX12_beginHour 141 = .ok (.iload_n 1, 1) := by decide +kernel
theorem dX12_beginHour_142 : decode cX12_beginHour 142 = .ok (.invokevirtual 267, 3) := by decide +kernel
theorem dX12_beginHour_145 : decode cX12_beginHour 145 = .ok (.iinc 2 1, 3) := by decide +kernel
theorem dX12_beginHour_148 : decode cX12_beginHour 148 = .ok (.goto (-55), 3) := by decide +kernel
theorem dX12_beginHour_151 : decode cX12_beginHour 151 = .ok (.iconst 0, 1) := by decide +kernel
theorem dX12_beginHour_152 : decode cX12_beginHour 152 = .ok (.istore_n 2, 1) := by decide +kernel
theorem dX12_beginHour_153 : decode cX12_beginHour 153 = .ok (.iload_n 2, 1) := by decide +kernel
theorem dX12_beginHour_154 : decode cX12_beginHour 154 = .ok (.aload_n 0, 1) := by decide +kernel
theorem dX12_beginHour_155 : decode cX12_beginHour 155 = .ok (.getfield 9, 3) := by decide +kernel
theorem dX12_beginHour_158 : decode cX12_beginHour 158 = .ok (.bipush 7, 2) := by decide +kernel
theorem dX12_beginHour_160 : decode cX12_beginHour 160 = .ok (.iaload, 1) := by decide +kernel
theorem dX12_beginHour_161 : decode cX12_beginHour 161 = .ok (.if_icmp .ge 43, 3) := by decide +kernel
theorem dX12_beginHour_164 : decode cX12_beginHour 164 = .ok (.aload_n 0, 1) := by decide +kernel
theorem dX12_beginHour_165 : decode cX12_beginHour 165 = .ok (.getfield 9, 3) := by decide +kernel
theorem dX12_beginHour_168 : decode cX12_beginHour 168 = .ok (.bipush 74, 2) := by decide +kernel
theorem dX12_beginHour_170 : decode cX12_beginHour 170 = .ok (.iload_n 2, 1) := by decide +kernel
theorem dX12_beginHour_171 : decode cX12_beginHour 171 = .ok (.iadd, 1) := by decide +kernel
theorem dX12_beginHour_172 : decode cX12_beginHour 172 = .ok (.iaload, 1) := by decide +kernel
theorem dX12_beginHour_173 : decode cX12_beginHour 173 = .ok (.istore_n 3, 1) := by decide +kernel
theorem dX12_beginHour_174 : decode cX12_beginHour 174 = .ok (.iload_n 3, 1) := by decide +kernel
theorem dX12_beginHour_175 : decode cX12_beginHour 175 = .ok (.sipush 10000, 3) := by decide +kernel
theorem dX12_beginHour_178 : decode cX12_beginHour 178 = .ok (.if_icmp .ge 20, 3) := by decide +kernel
theorem dX12_beginHour_181 : decode cX12_beginHour 181 = .ok (.iload_n 3, 1) := by decide +kernel
theorem dX12_beginHour_182 : decode cX12_beginHour 182 = .ok (.bipush 100, 2) := by decide +kernel
theorem dX12_beginHour_184 : decode cX12_beginHour 184 = .ok (.irem, 1) := by decide +kernel
theorem dX12_beginHour_185 : decode cX12_beginHour 185 = .ok (.iload_n 1, 1) := by decide +kernel
theorem dX12_beginHour_186 : decode cX12_beginHour 186 = .ok (.if_icmp .ne 12, 3) := by decide +kernel
theorem dX12_beginHour_189 : decode cX12_beginHour 189 = .ok (.aload_n 0, 1) := by decide +kernel
theorem dX12_beginHour_190 : decode cX12_beginHour 190 = .ok (.iload_n 3, 1) := by decide +kernel
theorem dX12_beginHour_191 : decode cX12_beginHour 191 = .ok (.bipush 100, 2) := by decide +kernel
theorem dX12_beginHour_193 : decode cX12_beginHour 193 = .ok (.idiv, 1) := by decide +kernel
theorem dX12_beginHour_194 : decode cX12_beginHour 194 = .ok (.iload_n 1, 1) := by decide +kernel
theorem dX12_beginHour_195 : decode cX12_beginHour 195 = .ok (.invokevirtual 267, 3) := by decide +kernel
theorem dX12_beginHour_198 : decode cX12_beginHour 198 = .ok (.iinc 2 1, 3) := by decide +kernel
theorem dX12_beginHour_201 : decode cX12_beginHour 201 = .ok (.goto (-48), 3) := by decide +kernel
theorem dX12_beginHour_204 : decode cX12_beginHour 204 = .ok (.aload_n 0, 1) := by decide +kernel
theorem dX12_beginHour_205 : decode cX12_beginHour 205 = .ok (.getfield 261, 3) := by decide +kernel
theorem dX12_beginHour_208 : decode cX12_beginHour 208 = .ok (.iload_n 1, 1) := by decide +kernel
theorem dX12_beginHour_209 : decode cX12_beginHour 209 = .ok (.if_icmp .ne 12, 3) := by decide +kernel
theorem dX12_beginHour_212 : decode cX12_beginHour 212 = .ok (.aload_n 0, 1) := by decide +kernel
theorem dX12_beginHour_213 : decode cX12_beginHour 213 = .ok (.aload_n 0, 1) := by decide +kernel
theorem dX12_beginHour_214 : decode cX12_beginHour 214 = .ok (.getfield 258, 3) := by decide +kernel
theorem dX12_beginHour_217 : decode cX12_beginHour 217 = .ok (.iload_n 1, 1) := by decide +kernel
theorem dX12_beginHour_218 : decode cX12_beginHour 218 = .ok (.invokevirtual 267, 3) := by decide +kernel
theorem dX12_beginHour_221 : decode cX12_beginHour 221 = .ok (.return_, 1) := by decide +kernel
theorem dX12_isBetter_0 : decode cX12_isBetter 0 = .ok (.aload_n 0, 1) := by decide +kernel
theorem dX12_isBetter_1 : decode cX12_isBetter 1 = .ok (.getfield 243, 3) := by decide +kernel
theorem dX12_isBetter_4 : decode cX12_isBetter 4 = .ok (.ifCond .ne 5, 3) := by decide +kernel
theorem dX12_isBetter_7 : decode cX12_isBetter 7 = .ok (.iconst 0, 1) := by decide +kernel
theorem dX12_isBetter_8 : decode cX12_isBetter 8 = .ok (.ireturn, 1) := by decide +kernel
theorem dX12_isBetter_9 : decode cX12_isBetter 9 = .ok (.aload_n 0, 1) := by decide +kernel
theorem dX12_isBetter_10 : decode cX12_isBetter 10 = .ok (.getfield 243, 3) := by decide +kernel
theorem dX12_isBetter_13 : decode cX12_isBetter 13 = .ok (.iconst 1, 1) := by decide +kernel
theorem dX12_isBetter_14 : decode cX12_isBetter 14 = .ok (.if_icmp .ne 5, 3) := by decide +kernel
theorem dX12_isBetter_17 : decode cX12_isBetter 17 = .ok (.iconst 1, 1) := by decide +kernel
theorem dX12_isBetter_18 : decode cX12_isBetter 18 = .ok (.ireturn, 1) := by decide +kernel
theorem dX12_isBetter_19 : decode cX12_isBetter 19 = .ok (.aload_n 0, 1) := by decide +kernel
theorem dX12_isBetter_20 : decode cX12_isBetter 20 = .ok (.getfield 243, 3) := by decide +kernel
theorem dX12_isBetter_23 : decode cX12_isBetter 23 = .ok (.iconst 2, 1) := by decide +kernel
theorem dX12_isBetter_24 : decode cX12_isBetter 24 = .ok (.if_icmp .ne 30, 3) := by decide +kernel
theorem dX12_isBetter_27 : decode cX12_isBetter 27 = .ok (.aload_n 0, 1) := by decide +kernel
theorem dX12_isBetter_28 : decode cX12_isBetter 28 = .ok (.iload_n 1, 1) := by decide +kernel
theorem dX12_isBetter_29 : decode cX12_isBetter 29 = .ok (.iload_n 3, 1) := by decide +kernel
theorem dX12_isBetter_30 : decode cX12_isBetter 30 = .ok (.invokevirtual 275, 3) := by decide +kernel
theorem dX12_isBetter_33 : decode cX12_isBetter 33 = .ok (.invokestatic 225, 3) := by decide +kernel
theorem dX12_isBetter_36 : decode cX12_isBetter 36 = .ok (.aload_n 0, 1) := by decide +kernel
theorem dX12_isBetter_37 : decode cX12_isBetter 37 = .ok (.iload_n 2, 1) := by decide +kernel
theorem dX12_isBetter_38 : decode cX12_isBetter 38 = .ok (.iload_n 3, 1) := by decide +kernel
theorem dX12_isBetter_39 : decode cX12_isBetter 39 = .ok (.invokevirtual 275, 3) := by decide +kernel
theorem dX12_isBetter_42 : decode cX12_isBetter 42 = .ok (.invokestatic 225, 3) := by decide +kernel
theorem dX12_isBetter_45 : decode cX12_isBetter 45 = .ok (.if_icmp .le 7, 3) := by decide +kernel
theorem dX12_isBetter_48 : decode cX12_isBetter 48 = .ok (.iconst 1, 1) := by decide +kernel
theorem dX12_isBetter_49 : decode cX12_isBetter 49 = .ok (.goto 4, 3) := by decide +kernel
theorem dX12_isBetter_52 : decode cX12_isBetter 52 = .ok (.iconst 0, 1) := by decide +kernel
theorem dX12_isBetter_53 : decode cX12_isBetter 53 = .ok (.ireturn, 1) := by decide +kernel
theorem dX12_isBetter_54 : decode cX12_isBetter 54 = .ok (.aload_n 0, 1) := by decide +kernel
theorem dX12_isBetter_55 : decode cX12_isBetter 55 = .ok (.getfield 40, 3) := by decide +kernel
theorem dX12_isBetter_58 : decode cX12_isBetter 58 = .ok (.bipush 7, 2) := by decide +kernel
theorem dX12_isBetter_60 : decode cX12_isBetter 60 = .ok (.iload_n 3, 1) := by decide +kernel
theorem dX12_isBetter_61 : decode cX12_isBetter 61 = .ok (.imul, 1) := by decide +kernel
theorem dX12_isBetter_62 : decode cX12_isBetter 62 = .ok (.iload_n 1, 1) := by decide +kernel
theorem dX12_isBetter_63 : decode cX12_isBetter 63 = .ok (.iadd, 1) := by decide +kernel
theorem dX12_isBetter_64 : decode cX12_isBetter 64 = .ok (.iaload, 1) := by decide +kernel
theorem dX12_isBetter_65 : decode cX12_isBetter 65 = .ok (.aload_n 0, 1) := by decide +kernel
theorem dX12_isBetter_66 : decode cX12_isBetter 66 = .ok (.getfield 40, 3) := by decide +kernel
theorem dX12_isBetter_69 : decode cX12_isBetter 69 = .ok (.bipush 7, 2) := by decide +kernel
theorem dX12_isBetter_71 : decode cX12_isBetter 71 = .ok (.iload_n 3, 1) := by decide +kernel
theorem dX12_isBetter_72 : decode cX12_isBetter 72 = .ok (.imul, 1) := by decide +kernel
theorem dX12_isBetter_73 : decode cX12_isBetter 73 = .ok (.iload_n 2, 1) := by decide +kernel
theorem dX12_isBetter_74 : decode cX12_isBetter 74 = .ok (.iadd, 1) := by decide +kernel
theorem dX12_isBetter_75 : decode cX12_isBetter 75 = .ok (.iaload, 1) := by decide +kernel
theorem dX12_isBetter_76 : decode cX12_isBetter 76 = .ok (.if_icmp .le 7, 3) := by decide +kernel
theorem dX12_isBetter_79 : decode cX12_isBetter 79 = .ok (.iconst 1, 1) := by decide +kernel
theorem dX12_isBetter_80 : decode cX12_isBetter 80 = .ok (.goto 4, 3) := by decide +kernel
theorem dX12_isBetter_83 : decode cX12_isBetter 83 = .ok (.iconst 0, 1) := by decide +kernel
theorem dX12_isBetter_84 : decode cX12_isBetter 84 = .ok (.ireturn, 1) := by decide +kernel
theorem dX12_heardBy_0 : decode cX12_heardBy 0 = .ok (.iconst (-1), 1) := by decide +kernel
theorem dX12_heardBy_1 : decode cX12_heardBy 1 = .ok (.istore_n 3, 1) := by decide +kernel
theorem dX12_heardBy_2 : decode cX12_heardBy 2 = .ok (.iconst 0, 1) := by decide +kernel
theorem dX12_heardBy_3 : decode cX12_heardBy 3 = .ok (.istore 4, 2) := by decide +kernel
theorem dX12_heardBy_5 : decode cX12_heardBy 5 = .ok (.iload 4, 2) := by decide +kernel
theorem dX12_heardBy_7 : decode cX12_heardBy 7 = .ok (.aload_n 0, 1) := by decide +kernel
theorem dX12_heardBy_8 : decode cX12_heardBy 8 = .ok (.invokevirtual 74, 3) := by decide +kernel
theorem dX12_heardBy_11 : decode cX12_heardBy 11 = .ok (.if_icmp .ge 58, 3) := by decide +kernel
theorem dX12_heardBy_14 : decode cX12_heardBy 14 = .ok (.aload_n 0, 1) := by decide +kernel
theorem dX12_heardBy_15 : decode cX12_heardBy 15 = .ok (.iload_n 1, 1) := by decide +kernel
theorem dX12_heardBy_16 : decode cX12_heardBy 16 = .ok (.invokevirtual 240, 3) := by decide +kernel
theorem dX12_heardBy_19 : decode cX12_heardBy 19 = .ok (.iload 4, 2) := by decide +kernel
theorem dX12_heardBy_21 : decode cX12_heardBy 21 = .ok (.invokestatic 237, 3) := by decide +kernel
theorem dX12_heardBy_24 : decode cX12_heardBy 24 = .ok (.ifCond .eq 39, 3) := by decide +kernel
theorem dX12_heardBy_27 : decode cX12_heardBy 27 = .ok (.aload_n 0, 1) := by decide +kernel
theorem dX12_heardBy_28 : decode cX12_heardBy 28 = .ok (.iload 4, 2) := by decide +kernel
theorem dX12_heardBy_30 : decode cX12_heardBy 30 = .ok (.iload_n 2, 1) := by decide +kernel
theorem dX12_heardBy_31 : decode cX12_heardBy 31 = .ok (.invokevirtual 275, 3) := by decide +kernel
theorem dX12_heardBy_34 : decode cX12_heardBy 34 = .ok (.ifCond .ne 6, 3) := by decide +kernel
theorem dX12_heardBy_37 : decode cX12_heardBy 37 = .ok (.goto 26, 3) := by decide +kernel
theorem dX12_heardBy_40 : decode cX12_heardBy 40 = .ok (.iload_n 3, 1) := by decide +kernel
theorem dX12_heardBy_41 : decode cX12_heardBy 41 = .ok (.iconst (-1), 1) := by decide +kernel
theorem dX12_heardBy_42 : decode cX12_heardBy 42 = .ok (.if_icmp .eq 14, 3) := by decide +kernel
theorem dX12_heardBy_45 : decode cX12_heardBy 45 = .ok (.aload_n 0, 1) := by decide +kernel
theorem dX12_heardBy_46 : decode cX12_heardBy 46 = .ok (.iload 4, 2) := by decide +kernel
theorem dX12_heardBy_48 : decode cX12_heardBy 48 = .ok (.iload_n 3, 1) := by decide +kernel
theorem dX12_heardBy_49 : decode cX12_heardBy 49 = .ok (.iload_n 2, 1) := by decide +kernel
theorem dX12_heardBy_50 : decode cX12_heardBy 50 = .ok (.invokevirtual 278, 3) := by decide +kernel
theorem dX12_heardBy_53 : decode cX12_heardBy 53 = .ok (.ifCond .eq 8, 3) := by decide +kernel
theorem dX12_heardBy_56 : decode cX12_heardBy 56 = .ok (.iload 4, 2) := by decide +kernel
theorem dX12_heardBy_58 : decode cX12_heardBy 58 = .ok (.goto 4, 3) := by decide +kernel
theorem dX12_heardBy_61 : decode cX12_heardBy 61 = .ok (.iload_n 3, 1) := by decide +kernel
theorem dX12_heardBy_62 : decode cX12_heardBy 62 = .ok (.istore_n 3, 1) := by decide +kernel
theorem dX12_heardBy_63 : decode cX12_heardBy 63 = .ok (.iinc 4 1, 3) := by decide +kernel
theorem dX12_heardBy_66 : decode cX12_heardBy 66 = .ok (.goto (-61), 3) := by decide +kernel
theorem dX12_heardBy_69 : decode cX12_heardBy 69 = .ok (.iload_n 3, 1) := by decide +kernel
theorem dX12_heardBy_70 : decode cX12_heardBy 70 = .ok (.ireturn, 1) := by decide +kernel
theorem dX12_goesOn_0 : decode cX12_goesOn 0 = .ok (.bipush 7, 2) := by decide +kernel
theorem dX12_goesOn_2 : decode cX12_goesOn 2 = .ok (.iload_n 2, 1) := by decide +kernel
theorem dX12_goesOn_3 : decode cX12_goesOn 3 = .ok (.imul, 1) := by decide +kernel
theorem dX12_goesOn_4 : decode cX12_goesOn 4 = .ok (.iload_n 1, 1) := by decide +kernel
theorem dX12_goesOn_5 : decode cX12_goesOn 5 = .ok (.iadd, 1) := by decide +kernel
theorem dX12_goesOn_6 : decode cX12_goesOn 6 = .ok (.istore_n 3, 1) := by decide +kernel
theorem dX12_goesOn_7 : decode cX12_goesOn 7 = .ok (.iload_n 3, 1) := by decide +kernel
theorem dX12_goesOn_8 : decode cX12_goesOn 8 = .ok (.bipush 7, 2) := by decide +kernel
theorem dX12_goesOn_10 : decode cX12_goesOn 10 = .ok (.iadd, 1) := by decide +kernel
theorem dX12_goesOn_11 : decode cX12_goesOn 11 = .ok (.istore 4, 2) := by decide +kernel
theorem dX12_goesOn_13 : decode cX12_goesOn 13 = .ok (.aload_n 0, 1) := by decide +kernel
theorem dX12_goesOn_14 : decode cX12_goesOn 14 = .ok (.getfield 34, 3) := by decide +kernel
theorem dX12_goesOn_17 : decode cX12_goesOn 17 = .ok (.iload 4, 2) := by decide +kernel
theorem dX12_goesOn_19 : decode cX12_goesOn 19 = .ok (.aload_n 0, 1) := by decide +kernel
theorem dX12_goesOn_20 : decode cX12_goesOn 20 = .ok (.getfield 34, 3) := by decide +kernel
theorem dX12_goesOn_23 : decode cX12_goesOn 23 = .ok (.iload_n 3, 1) := by decide +kernel
theorem dX12_goesOn_24 : decode cX12_goesOn 24 = .ok (.iaload, 1) := by decide +kernel
theorem dX12_goesOn_25 : decode cX12_goesOn 25 = .ok (.iastore, 1) := by decide +kernel
theorem dX12_goesOn_26 : decode cX12_goesOn 26 = .ok (.aload_n 0, 1) := by decide +kernel
theorem dX12_goesOn_27 : decode cX12_goesOn 27 = .ok (.getfield 37, 3) := by decide +kernel
theorem dX12_goesOn_30 : decode cX12_goesOn 30 = .ok (.iload 4, 2) := by decide +kernel
theorem dX12_goesOn_32 : decode cX12_goesOn 32 = .ok (.aload_n 0, 1) := by decide +kernel
theorem dX12_goesOn_33 : decode cX12_goesOn 33 = .ok (.getfield 37, 3) := by decide +kernel
theorem dX12_goesOn_36 : decode cX12_goesOn 36 = .ok (.iload_n 3, 1) := by decide +kernel
theorem dX12_goesOn_37 : decode cX12_goesOn 37 = .ok (.iaload, 1) := by decide +kernel
theorem dX12_goesOn_38 : decode cX12_goesOn 38 = .ok (.iastore, 1) := by decide +kernel
theorem dX12_goesOn_39 : decode cX12_goesOn 39 = .ok (.aload_n 0, 1) := by decide +kernel
theorem dX12_goesOn_40 : decode cX12_goesOn 40 = .ok (.getfield 40, 3) := by decide +kernel
theorem dX12_goesOn_43 : decode cX12_goesOn 43 = .ok (.iload 4, 2) := by decide +kernel
theorem dX12_goesOn_45 : decode cX12_goesOn 45 = .ok (.aload_n 0, 1) := by decide +kernel
theorem dX12_goesOn_46 : decode cX12_goesOn 46 = .ok (.getfield 40, 3) := by decide +kernel
theorem dX12_goesOn_49 : decode cX12_goesOn 49 = .ok (.iload_n 3, 1) := by decide +kernel
theorem dX12_goesOn_50 : decode cX12_goesOn 50 = .ok (.iaload, 1) := by decide +kernel
theorem dX12_goesOn_51 : decode cX12_goesOn 51 = .ok (.iastore, 1) := by decide +kernel
theorem dX12_goesOn_52 : decode cX12_goesOn 52 = .ok (.aload_n 0, 1) := by decide +kernel
theorem dX12_goesOn_53 : decode cX12_goesOn 53 = .ok (.getfield 43, 3) := by decide +kernel
theorem dX12_goesOn_56 : decode cX12_goesOn 56 = .ok (.iload 4, 2) := by decide +kernel
theorem dX12_goesOn_58 : decode cX12_goesOn 58 = .ok (.aload_n 0, 1) := by decide +kernel
theorem dX12_goesOn_59 : decode cX12_goesOn 59 = .ok (.getfield 43, 3) := by decide +kernel
theorem dX12_goesOn_62 : decode cX12_goesOn 62 = .ok (.iload_n 3, 1) := by decide +kernel
theorem dX12_goesOn_63 : decode cX12_goesOn 63 = .ok (.iaload, 1) := by decide +kernel
theorem dX12_goesOn_64 : decode cX12_goesOn 64 = .ok (.iastore, 1) := by decide +kernel
theorem dX12_goesOn_65 : decode cX12_goesOn 65 = .ok (.aload_n 0, 1) := by decide +kernel
theorem dX12_goesOn_66 : decode cX12_goesOn 66 = .ok (.getfield 34, 3) := by decide +kernel
theorem dX12_goesOn_69 : decode cX12_goesOn 69 = .ok (.iload_n 3, 1) := by decide +kernel
theorem dX12_goesOn_70 : decode cX12_goesOn 70 = .ok (.iaload, 1) := by decide +kernel
theorem dX12_goesOn_71 : decode cX12_goesOn 71 = .ok (.ifCond .gt 15, 3) := by decide +kernel
theorem dX12_goesOn_74 : decode cX12_goesOn 74 = .ok (.aload_n 0, 1) := by decide +kernel
theorem dX12_goesOn_75 : decode cX12_goesOn 75 = .ok (.getfield 246, 3) := by decide +kernel
theorem dX12_goesOn_78 : decode cX12_goesOn 78 = .ok (.iload_n 2, 1) := by decide +kernel
theorem dX12_goesOn_79 : decode cX12_goesOn 79 = .ok (.invokestatic 237, 3) := by decide +kernel
theorem dX12_goesOn_82 : decode cX12_goesOn 82 = .ok (.iconst 1, 1) := by decide +kernel
theorem dX12_goesOn_83 : decode cX12_goesOn 83 = .ok (.if_icmp .ne 7, 3) := by decide +kernel
theorem dX12_goesOn_86 : decode cX12_goesOn 86 = .ok (.iconst (-1), 1) := by decide +kernel
theorem dX12_goesOn_87 : decode cX12_goesOn 87 = .ok (.goto 9, 3) := by decide +kernel
theorem dX12_goesOn_90 : decode cX12_goesOn 90 = .ok (.aload_n 0, 1) := by decide +kernel
theorem dX12_goesOn_91 : decode cX12_goesOn 91 = .ok (.iload_n 1, 1) := by decide +kernel
theorem dX12_goesOn_92 : decode cX12_goesOn 92 = .ok (.iload_n 2, 1) := by decide +kernel
theorem dX12_goesOn_93 : decode cX12_goesOn 93 = .ok (.invokevirtual 282, 3) := by decide +kernel
theorem dX12_goesOn_96 : decode cX12_goesOn 96 = .ok (.istore 5, 2) := by decide +kernel
theorem dX12_goesOn_98 : decode cX12_goesOn 98 = .ok (.iload 5, 2) := by decide +kernel
theorem dX12_goesOn_100 : decode cX12_goesOn 100 = .ok (.iconst (-1), 1) := by decide +kernel
theorem dX12_goesOn_101 : decode cX12_goesOn 101 = .ok (.if_icmp .ne 7, 3) := by decide +kernel
theorem dX12_goesOn_104 : decode cX12_goesOn 104 = .ok (.iconst 0, 1) := by decide +kernel
theorem dX12_goesOn_105 : decode cX12_goesOn 105 = .ok (.goto 15, 3) := by decide +kernel
theorem dX12_goesOn_108 : decode cX12_goesOn 108 = .ok (.aload_n 0, 1) := by decide +kernel
theorem dX12_goesOn_109 : decode cX12_goesOn 109 = .ok (.iload_n 1, 1) := by decide +kernel
theorem dX12_goesOn_110 : decode cX12_goesOn 110 = .ok (.aload_n 0, 1) := by decide +kernel
theorem dX12_goesOn_111 : decode cX12_goesOn 111 = .ok (.iload 5, 2) := by decide +kernel
theorem dX12_goesOn_113 : decode cX12_goesOn 113 = .ok (.iload_n 2, 1) := by decide +kernel
theorem dX12_goesOn_114 : decode cX12_goesOn 114 = .ok (.invokevirtual 275, 3) := by decide +kernel
theorem dX12_goesOn_117 : decode cX12_goesOn 117 = .ok (.invokevirtual 285, 3) := by decide +kernel
theorem dX12_goesOn_120 : decode cX12_goesOn 120 = .ok (.istore 6, 2) := by decide +kernel
theorem dX12_goesOn_122 : decode cX12_goesOn 122 = .ok (.iload 6, 2) := by decide +kernel
theorem dX12_goesOn_124 : decode cX12_goesOn 124 = .ok (.ifCond .ne 4, 3) := by decide +kernel
theorem dX12_goesOn_127 : decode cX12_goesOn 127 = .ok (.return_, 1) := by decide +kernel
theorem dX12_goesOn_128 : decode cX12_goesOn 128 = .ok (.aload_n 0, 1) := by decide +kernel
theorem dX12_goesOn_129 : decode cX12_goesOn 129 = .ok (.getfield 34, 3) := by decide +kernel
theorem dX12_goesOn_132 : decode cX12_goesOn 132 = .ok (.iload 4, 2) := by decide +kernel
theorem dX12_goesOn_134 : decode cX12_goesOn 134 = .ok (.iload 6, 2) := by decide +kernel
theorem dX12_goesOn_136 : decode cX12_goesOn 136 = .ok (.iastore, 1) := by decide +kernel
theorem dX12_goesOn_137 : decode cX12_goesOn 137 = .ok (.aload_n 0, 1) := by decide +kernel
theorem dX12_goesOn_138 : decode cX12_goesOn 138 = .ok (.getfield 37, 3) := by decide +kernel
theorem dX12_goesOn_141 : decode cX12_goesOn 141 = .ok (.iload 4, 2) := by decide +kernel
theorem dX12_goesOn_143 : decode cX12_goesOn 143 = .ok (.iload 5, 2) := by decide +kernel
theorem dX12_goesOn_145 : decode cX12_goesOn 145 = .ok (.iastore, 1) := by decide +kernel
theorem dX12_goesOn_146 : decode cX12_goesOn 146 = .ok (.aload_n 0, 1) := by decide +kernel
theorem dX12_goesOn_147 : decode cX12_goesOn 147 = .ok (.getfield 40, 3) := by decide +kernel
theorem dX12_goesOn_150 : decode cX12_goesOn 150 = .ok (.iload 4, 2) := by decide +kernel
theorem dX12_goesOn_152 : decode cX12_goesOn 152 = .ok (.iload_n 2, 1) := by decide +kernel
theorem dX12_goesOn_153 : decode cX12_goesOn 153 = .ok (.iconst 1, 1) := by decide +kernel
theorem dX12_goesOn_154 : decode cX12_goesOn 154 = .ok (.iadd, 1) := by decide +kernel
theorem dX12_goesOn_155 : decode cX12_goesOn 155 = .ok (.iastore, 1) := by decide +kernel
theorem dX12_goesOn_156 : decode cX12_goesOn 156 = .ok (.aload_n 0, 1) := by decide +kernel
theorem dX12_goesOn_157 : decode cX12_goesOn 157 = .ok (.getfield 43, 3) := by decide +kernel
theorem dX12_goesOn_160 : decode cX12_goesOn 160 = .ok (.iload 4, 2) := by decide +kernel
theorem dX12_goesOn_162 : decode cX12_goesOn 162 = .ok (.aload_n 0, 1) := by decide +kernel
theorem dX12_goesOn_163 : decode cX12_goesOn 163 = .ok (.getfield 43, 3) := by decide +kernel
theorem dX12_goesOn_166 : decode cX12_goesOn 166 = .ok (.bipush 7, 2) := by decide +kernel
theorem dX12_goesOn_168 : decode cX12_goesOn 168 = .ok (.iload_n 2, 1) := by decide +kernel
theorem dX12_goesOn_169 : decode cX12_goesOn 169 = .ok (.imul, 1) := by decide +kernel
theorem dX12_goesOn_170 : decode cX12_goesOn 170 = .ok (.iload 5, 2) := by decide +kernel
theorem dX12_goesOn_172 : decode cX12_goesOn 172 = .ok (.iadd, 1) := by decide +kernel
theorem dX12_goesOn_173 : decode cX12_goesOn 173 = .ok (.iaload, 1) := by decide +kernel
theorem dX12_goesOn_174 : decode cX12_goesOn 174 = .ok (.iconst 1, 1) := by decide +kernel
theorem dX12_goesOn_175 : decode cX12_goesOn 175 = .ok (.iadd, 1) := by decide +kernel
theorem dX12_goesOn_176 : decode cX12_goesOn 176 = .ok (.iastore, 1) := by decide +kernel
theorem dX12_goesOn_177 : decode cX12_goesOn 177 = .ok (.return_, 1) := by decide +kernel
theorem dX12_goAll_0 : decode cX12_goAll 0 = .ok (.aload_n 0, 1) := by decide +kernel
theorem dX12_goAll_1 : decode cX12_goAll 1 = .ok (.invokevirtual 288, 3) := by decide +kernel
theorem dX12_goAll_4 : decode cX12_goAll 4 = .ok (.iconst 0, 1) := by decide +kernel
theorem dX12_goAll_5 : decode cX12_goAll 5 = .ok (.istore_n 1, 1) := by decide +kernel
theorem dX12_goAll_6 : decode cX12_goAll 6 = .ok (.iload_n 1, 1) := by decide +kernel
theorem dX12_goAll_7 : decode cX12_goAll 7 = .ok (.aload_n 0, 1) := by decide +kernel
theorem dX12_goAll_8 : decode cX12_goAll 8 = .ok (.invokevirtual 82, 3) := by decide +kernel
theorem dX12_goAll_11 : decode cX12_goAll 11 = .ok (.if_icmp .gt 44, 3) := by decide +kernel
theorem dX12_goAll_14 : decode cX12_goAll 14 = .ok (.aload_n 0, 1) := by decide +kernel
theorem dX12_goAll_15 : decode cX12_goAll 15 = .ok (.iload_n 1, 1) := by decide +kernel
theorem dX12_goAll_16 : decode cX12_goAll 16 = .ok (.invokevirtual 291, 3) := by decide +kernel
theorem dX12_goAll_19 : decode cX12_goAll 19 = .ok (.iconst 0, 1) := by decide +kernel
theorem dX12_goAll_20 : decode cX12_goAll 20 = .ok (.istore_n 2, 1) := by decide +kernel
theorem dX12_goAll_21 : decode cX12_goAll 21 = .ok (.iload_n 2, 1) := by decide +kernel
theorem dX12_goAll_22 : decode cX12_goAll 22 = .ok (.aload_n 0, 1) := by decide +kernel
theorem dX12_goAll_23 : decode cX12_goAll 23 = .ok (.invokevirtual 74, 3) := by decide +kernel
theorem dX12_goAll_26 : decode cX12_goAll 26 = .ok (.if_icmp .ge 23, 3) := by decide +kernel
theorem dX12_goAll_29 : decode cX12_goAll 29 = .ok (.iload_n 1, 1) := by decide +kernel
theorem dX12_goAll_30 : decode cX12_goAll 30 = .ok (.aload_n 0, 1) := by decide +kernel
theorem dX12_goAll_31 : decode cX12_goAll 31 = .ok (.invokevirtual 82, 3) := by decide +kernel
theorem dX12_goAll_34 : decode cX12_goAll 34 = .ok (.if_icmp .ge 15, 3) := by decide +kernel
theorem dX12_goAll_37 : decode cX12_goAll 37 = .ok (.aload_n 0, 1) := by decide +kernel
theorem dX12_goAll_38 : decode cX12_goAll 38 = .ok (.iload_n 2, 1) := by decide +kernel
theorem dX12_goAll_39 : decode cX12_goAll 39 = .ok (.iload_n 1, 1) := by decide +kernel
theorem dX12_goAll_40 : decode cX12_goAll 40 = .ok (.invokevirtual 294, 3) := by decide +kernel
theorem dX12_goAll_43 : decode cX12_goAll 43 = .ok (.iinc 2 1, 3) := by decide +kernel
theorem dX12_goAll_46 : decode cX12_goAll 46 = .ok (.goto (-25), 3) := by decide +kernel
theorem dX12_goAll_49 : decode cX12_goAll 49 = .ok (.iinc 1 1, 3) := by decide +kernel
theorem dX12_goAll_52 : decode cX12_goAll 52 = .ok (.goto (-46), 3) := by decide +kernel
theorem dX12_goAll_55 : decode cX12_goAll 55 = .ok (.return_, 1) := by decide +kernel
theorem dX12_asksNight_0 : decode cX12_asksNight 0 = .ok (.aload_n 0, 1) := by decide +kernel
theorem dX12_asksNight_1 : decode cX12_asksNight 1 = .ok (.invokevirtual 297, 3) := by decide +kernel
theorem dX12_asksNight_4 : decode cX12_asksNight 4 = .ok (.aload_n 0, 1) := by decide +kernel
theorem dX12_asksNight_5 : decode cX12_asksNight 5 = .ok (.invokevirtual 300, 3) := by decide +kernel
theorem dX12_asksNight_8 : decode cX12_asksNight 8 = .ok (.aload_n 0, 1) := by decide +kernel
theorem dX12_asksNight_9 : decode cX12_asksNight 9 = .ok (.invokevirtual 78, 3) := by decide +kernel
theorem dX12_asksNight_12 : decode cX12_asksNight 12 = .ok (.ireturn, 1) := by decide +kernel
theorem dX12_asksHour_0 : decode cX12_asksHour 0 = .ok (.aload_n 0, 1) := by decide +kernel
theorem dX12_asksHour_1 : decode cX12_asksHour 1 = .ok (.invokevirtual 303, 3) := by decide +kernel
theorem dX12_asksHour_4 : decode cX12_asksHour 4 = .ok (.pop, 1) := by decide +kernel
theorem dX12_asksHour_5 : decode cX12_asksHour 5 = .ok (.aload_n 0, 1) := by decide +kernel
theorem dX12_asksHour_6 : decode cX12_asksHour 6 = .ok (.iload_n 1, 1) := by decide +kernel
theorem dX12_asksHour_7 : decode cX12_asksHour 7 = .ok (.i2l, 1) := by decide +kernel
theorem dX12_asksHour_8 : decode cX12_asksHour 8 = .ok (.invokevirtual 306, 3) := by decide +kernel
theorem dX12_asksHour_11 : decode cX12_asksHour 11 = .ok (.ireturn, 1) := by decide +kernel
theorem dX12_asksPew_0 : decode cX12_asksPew 0 = .ok (.aload_n 0, 1) := by decide +kernel
theorem dX12_asksPew_1 : decode cX12_asksPew 1 = .ok (.invokevirtual 303, 3) := by decide +kernel
theorem dX12_asksPew_4 : decode cX12_asksPew 4 = .ok (.pop, 1) := by decide +kernel
theorem dX12_asksPew_5 : decode cX12_asksPew 5 = .ok (.aload_n 0, 1) := by decide +kernel
theorem dX12_asksPew_6 : decode cX12_asksPew 6 = .ok (.iload_n 1, 1) := by decide +kernel
theorem dX12_asksPew_7 : decode cX12_asksPew 7 = .ok (.i2l, 1) := by decide +kernel
theorem dX12_asksPew_8 : decode cX12_asksPew 8 = .ok (.invokevirtual 218, 3) := by decide +kernel
theorem dX12_asksPew_11 : decode cX12_asksPew 11 = .ok (.ireturn, 1) := by decide +kernel
theorem dX12_litAt_0 : decode cX12_litAt 0 = .ok (.iconst 0, 1) := by decide +kernel
theorem dX12_litAt_1 : decode cX12_litAt 1 = .ok (.istore_n 2, 1) := by decide +kernel
theorem dX12_litAt_2 : decode cX12_litAt 2 = .ok (.iconst 0, 1) := by decide +kernel
theorem dX12_litAt_3 : decode cX12_litAt 3 = .ok (.istore_n 3, 1) := by decide +kernel
theorem dX12_litAt_4 : decode cX12_litAt 4 = .ok (.iload_n 3, 1) := by decide +kernel
theorem dX12_litAt_5 : decode cX12_litAt 5 = .ok (.aload_n 0, 1) := by decide +kernel
theorem dX12_litAt_6 : decode cX12_litAt 6 = .ok (.invokevirtual 74, 3) := by decide +kernel
theorem dX12_litAt_9 : decode cX12_litAt 9 = .ok (.if_icmp .ge 28, 3) := by decide +kernel
theorem dX12_litAt_12 : decode cX12_litAt 12 = .ok (.iload_n 2, 1) := by decide +kernel
theorem dX12_litAt_13 : decode cX12_litAt 13 = .ok (.aload_n 0, 1) := by decide +kernel
theorem dX12_litAt_14 : decode cX12_litAt 14 = .ok (.iload_n 3, 1) := by decide +kernel
theorem dX12_litAt_15 : decode cX12_litAt 15 = .ok (.iload_n 1, 1) := by decide +kernel
theorem dX12_litAt_16 : decode cX12_litAt 16 = .ok (.invokevirtual 275, 3) := by decide +kernel
theorem dX12_litAt_19 : decode cX12_litAt 19 = .ok (.ifCond .le 9, 3) := by decide +kernel
theorem dX12_litAt_22 : decode cX12_litAt 22 = .ok (.iconst 1, 1) := by decide +kernel
theorem dX12_litAt_23 : decode cX12_litAt 23 = .ok (.iload_n 3, 1) := by decide +kernel
theorem dX12_litAt_24 : decode cX12_litAt 24 = .ok (.ishl, 1) := by decide +kernel
theorem dX12_litAt_25 : decode cX12_litAt 25 = .ok (.goto 4, 3) := by decide +kernel
theorem dX12_litAt_28 : decode cX12_litAt 28 = .ok (.iconst 0, 1) := by decide +kernel
theorem dX12_litAt_29 : decode cX12_litAt 29 = .ok (.ior, 1) := by decide +kernel
theorem dX12_litAt_30 : decode cX12_litAt 30 = .ok (.istore_n 2, 1) := by decide +kernel
theorem dX12_litAt_31 : decode cX12_litAt 31 = .ok (.iinc 3 1, 3) := by decide +kernel
theorem dX12_litAt_34 : decode cX12_litAt 34 = .ok (.goto (-30), 3) := by decide +kernel
theorem dX12_litAt_37 : decode cX12_litAt 37 = .ok (.iload_n 2, 1) := by decide +kernel
theorem dX12_litAt_38 : decode cX12_litAt 38 = .ok (.ireturn, 1) := by decide +kernel
theorem dX12_litLast_0 : decode cX12_litLast 0 = .ok (.aload_n 0, 1) := by decide +kernel
theorem dX12_litLast_1 : decode cX12_litLast 1 = .ok (.aload_n 0, 1) := by decide +kernel
theorem dX12_litLast_2 : decode cX12_litLast 2 = .ok (.invokevirtual 82, 3) := by decide +kernel
theorem dX12_litLast_5 : decode cX12_litLast 5 = .ok (.invokevirtual 309, 3) := by decide +kernel
theorem dX12_litLast_8 : decode cX12_litLast 8 = .ok (.ireturn, 1) := by decide +kernel
theorem dX12_lastMany_0 : decode cX12_lastMany 0 = .ok (.aload_n 0, 1) := by decide +kernel
theorem dX12_lastMany_1 : decode cX12_lastMany 1 = .ok (.invokevirtual 312, 3) := by decide +kernel
theorem dX12_lastMany_4 : decode cX12_lastMany 4 = .ok (.invokestatic 315, 3) := by decide +kernel
theorem dX12_lastMany_7 : decode cX12_lastMany 7 = .ok (.ireturn, 1) := by decide +kernel
theorem dX12_wordsAt_0 : decode cX12_wordsAt 0 = .ok (.iconst 0, 1) := by decide +kernel
theorem dX12_wordsAt_1 : decode cX12_wordsAt 1 = .ok (.istore_n 2, 1) := by decide +kernel
theorem dX12_wordsAt_2 : decode cX12_wordsAt 2 = .ok (.iconst 0, 1) := by decide +kernel
theorem dX12_wordsAt_3 : decode cX12_wordsAt 3 = .ok (.istore_n 3, 1) := by decide +kernel
theorem dX12_wordsAt_4 : decode cX12_wordsAt 4 = .ok (.iload_n 3, 1) := by decide +kernel
theorem dX12_wordsAt_5 : decode cX12_wordsAt 5 = .ok (.aload_n 0, 1) := by decide +kernel
theorem dX12_wordsAt_6 : decode cX12_wordsAt 6 = .ok (.invokevirtual 74, 3) := by decide +kernel
theorem dX12_wordsAt_9 : decode cX12_wordsAt 9 = .ok (.if_icmp .ge 21, 3) := by decide +kernel
theorem dX12_wordsAt_12 : decode cX12_wordsAt 12 = .ok (.iload_n 2, 1) := by decide +kernel
theorem dX12_wordsAt_13 : decode cX12_wordsAt 13 = .ok (.aload_n 0, 1) := by decide +kernel
theorem dX12_wordsAt_14 : decode cX12_wordsAt 14 = .ok (.iload_n 3, 1) := by decide +kernel
theorem dX12_wordsAt_15 : decode cX12_wordsAt 15 = .ok (.iload_n 1, 1) := by decide +kernel
theorem dX12_wordsAt_16 : decode cX12_wordsAt 16 = .ok (.invokevirtual 275, 3) := by decide +kernel
theorem dX12_wordsAt_19 : decode cX12_wordsAt 19 = .ok (.invokestatic 225, 3) := by decide +kernel
theorem dX12_wordsAt_22 : decode cX12_wordsAt 22 = .ok (.iadd, 1) := by decide +kernel
theorem dX12_wordsAt_23 : decode cX12_wordsAt 23 = .ok (.istore_n 2, 1) := by decide +kernel
theorem dX12_wordsAt_24 : decode cX12_wordsAt 24 = .ok (.iinc 3 1, 3) := by decide +kernel
theorem dX12_wordsAt_27 : decode cX12_wordsAt 27 = .ok (.goto (-23), 3) := by decide +kernel
theorem dX12_wordsAt_30 : decode cX12_wordsAt 30 = .ok (.iload_n 2, 1) := by decide +kernel
theorem dX12_wordsAt_31 : decode cX12_wordsAt 31 = .ok (.ireturn, 1) := by decide +kernel
theorem dX12_lit_0 : decode cX12_lit 0 = .ok (.aload_n 0, 1) := by decide +kernel
theorem dX12_lit_1 : decode cX12_lit 1 = .ok (.iload_n 1, 1) := by decide +kernel
theorem dX12_lit_2 : decode cX12_lit 2 = .ok (.invokevirtual 318, 3) := by decide +kernel
theorem dX12_lit_5 : decode cX12_lit 5 = .ok (.ifCond .eq 11, 3) := by decide +kernel
theorem dX12_lit_8 : decode cX12_lit 8 = .ok (.aload_n 0, 1) := by decide +kernel
theorem dX12_lit_9 : decode cX12_lit 9 = .ok (.iload_n 1, 1) := by decide +kernel
theorem dX12_lit_10 : decode cX12_lit 10 = .ok (.invokevirtual 309, 3) := by decide +kernel
theorem dX12_lit_13 : decode cX12_lit 13 = .ok (.goto 5, 3) := by decide +kernel
theorem dX12_lit_16 : decode cX12_lit 16 = .ok (.bipush (-2), 2) := by decide +kernel
theorem dX12_lit_18 : decode cX12_lit 18 = .ok (.ireturn, 1) := by decide +kernel
theorem dX12_letters_0 : decode cX12_letters 0 = .ok (.aload_n 0, 1) := by decide +kernel
theorem dX12_letters_1 : decode cX12_letters 1 = .ok (.iload_n 2, 1) := by decide +kernel
theorem dX12_letters_2 : decode cX12_letters 2 = .ok (.invokevirtual 318, 3) := by decide +kernel
theorem dX12_letters_5 : decode cX12_letters 5 = .ok (.ifCond .eq 24, 3) := by decide +kernel
theorem dX12_letters_8 : decode cX12_letters 8 = .ok (.aload_n 0, 1) := by decide +kernel
theorem dX12_letters_9 : decode cX12_letters 9 = .ok (.iload_n 1, 1) := by decide +kernel
theorem dX12_letters_10 : decode cX12_letters 10 = .ok (.i2l, 1) := by decide +kernel
theorem dX12_letters_11 : decode cX12_letters 11 = .ok (.invokevirtual 218, 3) := by decide +kernel
theorem dX12_letters_14 : decode cX12_letters 14 = .ok (.ifCond .eq 15, 3) := by decide +kernel
theorem dX12_letters_17 : decode cX12_letters 17 = .ok (.aload_n 0, 1) := by decide +kernel
theorem dX12_letters_18 : decode cX12_letters 18 = .ok (.iload_n 1, 1) := by decide +kernel
theorem dX12_letters_19 : decode cX12_letters 19 = .ok (.iload_n 2, 1) := by decide +kernel
theorem dX12_letters_20 : decode cX12_letters 20 = .ok (.invokevirtual 275, 3) := by decide +kernel
theorem dX12_letters_23 : decode cX12_letters 23 = .ok (.invokestatic 225, 3) := by decide +kernel
theorem dX12_letters_26 : decode cX12_letters 26 = .ok (.goto 5, 3) := by decide +kernel
theorem dX12_letters_29 : decode cX12_letters 29 = .ok (.bipush (-2), 2) := by decide +kernel
theorem dX12_letters_31 : decode cX12_letters 31 = .ok (.ireturn, 1) := by decide +kernel
theorem dX12_says_0 : decode cX12_says 0 = .ok (.aload_n 0, 1) := by decide +kernel
theorem dX12_says_1 : decode cX12_says 1 = .ok (.iload_n 2, 1) := by decide +kernel
theorem dX12_says_2 : decode cX12_says 2 = .ok (.invokevirtual 318, 3) := by decide +kernel
theorem dX12_says_5 : decode cX12_says 5 = .ok (.ifCond .eq 16, 3) := by decide +kernel
theorem dX12_says_8 : decode cX12_says 8 = .ok (.aload_n 0, 1) := by decide +kernel
theorem dX12_says_9 : decode cX12_says 9 = .ok (.iload_n 1, 1) := by decide +kernel
theorem dX12_says_10 : decode cX12_says 10 = .ok (.i2l, 1) := by decide +kernel
theorem dX12_says_11 : decode cX12_says 11 = .ok (.invokevirtual 218, 3) := by decide +kernel
theorem dX12_says_14 : decode cX12_says 14 = .ok (.ifCond .eq 7, 3) := by decide +kernel
theorem dX12_says_17 : decode cX12_says 17 = .ok (.iload_n 3, 1) := by decide +kernel
theorem dX12_says_18 : decode cX12_says 18 = .ok (.ifCond .ge 6, 3) := by decide +kernel
theorem dX12_says_21 : decode cX12_says 21 = .ok (.bipush (-2), 2) := by decide +kernel
theorem dX12_says_23 : decode cX12_says 23 = .ok (.ireturn, 1) := by decide +kernel
theorem dX12_says_24 : decode cX12_says 24 = .ok (.aload_n 0, 1) := by decide +kernel
theorem dX12_says_25 : decode cX12_says 25 = .ok (.iload_n 1, 1) := by decide +kernel
theorem dX12_says_26 : decode cX12_says 26 = .ok (.iload_n 2, 1) := by decide +kernel
theorem dX12_says_27 : decode cX12_says 27 = .ok (.invokevirtual 275, 3) := by decide +kernel
theorem dX12_says_30 : decode cX12_says 30 = .ok (.iload_n 3, 1) := by decide +kernel
theorem dX12_says_31 : decode cX12_says 31 = .ok (.invokestatic 231, 3) := by decide +kernel
theorem dX12_says_34 : decode cX12_says 34 = .ok (.ireturn, 1) := by decide +kernel
theorem dX12_from_0 : decode cX12_from 0 = .ok (.aload_n 0, 1) := by decide +kernel
theorem dX12_from_1 : decode cX12_from 1 = .ok (.iload_n 2, 1) := by decide +kernel
theorem dX12_from_2 : decode cX12_from 2 = .ok (.invokevirtual 318, 3) := by decide +kernel
theorem dX12_from_5 : decode cX12_from 5 = .ok (.ifCond .eq 26, 3) := by decide +kernel
theorem dX12_from_8 : decode cX12_from 8 = .ok (.aload_n 0, 1) := by decide +kernel
theorem dX12_from_9 : decode cX12_from 9 = .ok (.iload_n 1, 1) := by decide +kernel
theorem dX12_from_10 : decode cX12_from 10 = .ok (.i2l, 1) := by decide +kernel
theorem dX12_from_11 : decode cX12_from 11 = .ok (.invokevirtual 218, 3) := by decide +kernel
theorem dX12_from_14 : decode cX12_from 14 = .ok (.ifCond .eq 17, 3) := by decide +kernel
theorem dX12_from_17 : decode cX12_from 17 = .ok (.aload_n 0, 1) := by decide +kernel
theorem dX12_from_18 : decode cX12_from 18 = .ok (.getfield 37, 3) := by decide +kernel
theorem dX12_from_21 : decode cX12_from 21 = .ok (.bipush 7, 2) := by decide +kernel
theorem dX12_from_23 : decode cX12_from 23 = .ok (.iload_n 2, 1) := by decide +kernel
theorem dX12_from_24 : decode cX12_from 24 = .ok (.imul, 1) := by decide +kernel
theorem dX12_from_25 : decode cX12_from 25 = .ok (.iload_n 1, 1) := by decide +kernel
theorem dX12_from_26 : decode cX12_from 26 = .ok (.iadd, 1) := by decide +kernel
theorem dX12_from_27 : decode cX12_from 27 = .ok (.iaload, 1) := by decide +kernel
theorem dX12_from_28 : decode cX12_from 28 = .ok (.goto 5, 3) := by decide +kernel
theorem dX12_from_31 : decode cX12_from 31 = .ok (.bipush (-2), 2) := by decide +kernel
theorem dX12_from_33 : decode cX12_from 33 = .ok (.ireturn, 1) := by decide +kernel
theorem dX12_since_0 : decode cX12_since 0 = .ok (.aload_n 0, 1) := by decide +kernel
theorem dX12_since_1 : decode cX12_since 1 = .ok (.iload_n 2, 1) := by decide +kernel
theorem dX12_since_2 : decode cX12_since 2 = .ok (.invokevirtual 318, 3) := by decide +kernel
theorem dX12_since_5 : decode cX12_since 5 = .ok (.ifCond .eq 26, 3) := by decide +kernel
theorem dX12_since_8 : decode cX12_since 8 = .ok (.aload_n 0, 1) := by decide +kernel
theorem dX12_since_9 : decode cX12_since 9 = .ok (.iload_n 1, 1) := by decide +kernel
theorem dX12_since_10 : decode cX12_since 10 = .ok (.i2l, 1) := by decide +kernel
theorem dX12_since_11 : decode cX12_since 11 = .ok (.invokevirtual 218, 3) := by decide +kernel
theorem dX12_since_14 : decode cX12_since 14 = .ok (.ifCond .eq 17, 3) := by decide +kernel
theorem dX12_since_17 : decode cX12_since 17 = .ok (.aload_n 0, 1) := by decide +kernel
theorem dX12_since_18 : decode cX12_since 18 = .ok (.getfield 40, 3) := by decide +kernel
theorem dX12_since_21 : decode cX12_since 21 = .ok (.bipush 7, 2) := by decide +kernel
theorem dX12_since_23 : decode cX12_since 23 = .ok (.iload_n 2, 1) := by decide +kernel
theorem dX12_since_24 : decode cX12_since 24 = .ok (.imul, 1) := by decide +kernel
theorem dX12_since_25 : decode cX12_since 25 = .ok (.iload_n 1, 1) := by decide +kernel
theorem dX12_since_26 : decode cX12_since 26 = .ok (.iadd, 1) := by decide +kernel
theorem dX12_since_27 : decode cX12_since 27 = .ok (.iaload, 1) := by decide +kernel
theorem dX12_since_28 : decode cX12_since 28 = .ok (.goto 5, 3) := by decide +kernel
theorem dX12_since_31 : decode cX12_since 31 = .ok (.bipush (-2), 2) := by decide +kernel
theorem dX12_since_33 : decode cX12_since 33 = .ok (.ireturn, 1) := by decide +kernel
theorem dX12_depth_0 : decode cX12_depth 0 = .ok (.aload_n 0, 1) := by decide +kernel
theorem dX12_depth_1 : decode cX12_depth 1 = .ok (.iload_n 2, 1) := by decide +kernel
theorem dX12_depth_2 : decode cX12_depth 2 = .ok (.invokevirtual 318, 3) := by decide +kernel
theorem dX12_depth_5 : decode cX12_depth 5 = .ok (.ifCond .eq 26, 3) := by decide +kernel
theorem dX12_depth_8 : decode cX12_depth 8 = .ok (.aload_n 0, 1) := by decide +kernel
theorem dX12_depth_9 : decode cX12_depth 9 = .ok (.iload_n 1, 1) := by decide +kernel
theorem dX12_depth_10 : decode cX12_depth 10 = .ok (.i2l, 1) := by decide +kernel
theorem dX12_depth_11 : decode cX12_depth 11 = .ok (.invokevirtual 218, 3) := by decide +kernel
theorem dX12_depth_14 : decode cX12_depth 14 = .ok (.ifCond .eq 17, 3) := by decide +kernel
theorem dX12_depth_17 : decode cX12_depth 17 = .ok (.aload_n 0, 1) := by decide +kernel
theorem dX12_depth_18 : decode cX12_depth 18 = .ok (.getfield 43, 3) := by decide +kernel
theorem dX12_depth_21 : decode cX12_depth 21 = .ok (.bipush 7, 2) := by decide +kernel
theorem dX12_depth_23 : decode cX12_depth 23 = .ok (.iload_n 2, 1) := by decide +kernel
theorem dX12_depth_24 : decode cX12_depth 24 = .ok (.imul, 1) := by decide +kernel
theorem dX12_depth_25 : decode cX12_depth 25 = .ok (.iload_n 1, 1) := by decide +kernel
theorem dX12_depth_26 : decode cX12_depth 26 = .ok (.iadd, 1) := by decide +kernel
theorem dX12_depth_27 : decode cX12_depth 27 = .ok (.iaload, 1) := by decide +kernel
theorem dX12_depth_28 : decode cX12_depth 28 = .ok (.goto 5, 3) := by decide +kernel
theorem dX12_depth_31 : decode cX12_depth 31 = .ok (.bipush (-2), 2) := by decide +kernel
theorem dX12_depth_33 : decode cX12_depth 33 = .ok (.ireturn, 1) := by decide +kernel
theorem dX12_when_0 : decode cX12_when 0 = .ok (.aload_n 0, 1) := by decide +kernel
theorem dX12_when_1 : decode cX12_when 1 = .ok (.iload_n 1, 1) := by decide +kernel
theorem dX12_when_2 : decode cX12_when 2 = .ok (.invokevirtual 322, 3) := by decide +kernel
theorem dX12_when_5 : decode cX12_when 5 = .ok (.ifCond .ne 6, 3) := by decide +kernel
theorem dX12_when_8 : decode cX12_when 8 = .ok (.bipush (-2), 2) := by decide +kernel
theorem dX12_when_10 : decode cX12_when 10 = .ok (.ireturn, 1) := by decide +kernel
theorem dX12_when_11 : decode cX12_when 11 = .ok (.iconst 0, 1) := by decide +kernel
theorem dX12_when_12 : decode cX12_when 12 = .ok (.istore_n 2, 1) := by decide +kernel
theorem dX12_when_13 : decode cX12_when 13 = .ok (.iload_n 2, 1) := by decide +kernel
theorem dX12_when_14 : decode cX12_when 14 = .ok (.aload_n 0, 1) := by decide +kernel
theorem dX12_when_15 : decode cX12_when 15 = .ok (.invokevirtual 82, 3) := by decide +kernel
theorem dX12_when_18 : decode cX12_when 18 = .ok (.if_icmp .gt 20, 3) := by decide +kernel
theorem dX12_when_21 : decode cX12_when 21 = .ok (.aload_n 0, 1) := by decide +kernel
theorem dX12_when_22 : decode cX12_when 22 = .ok (.iload_n 1, 1) := by decide +kernel
theorem dX12_when_23 : decode cX12_when 23 = .ok (.iload_n 2, 1) := by decide +kernel
theorem dX12_when_24 : decode cX12_when 24 = .ok (.invokevirtual 275, 3) := by decide +kernel
theorem dX12_when_27 : decode cX12_when 27 = .ok (.ifCond .le 5, 3) := by decide +kernel
theorem dX12_when_30 : decode cX12_when 30 = .ok (.iload_n 2, 1) := by decide +kernel
theorem dX12_when_31 : decode cX12_when 31 = .ok (.ireturn, 1) := by decide +kernel
theorem dX12_when_32 : decode cX12_when 32 = .ok (.iinc 2 1, 3) := by decide +kernel
theorem dX12_when_35 : decode cX12_when 35 = .ok (.goto (-22), 3) := by decide +kernel
theorem dX12_when_38 : decode cX12_when 38 = .ok (.iconst (-1), 1) := by decide +kernel
theorem dX12_when_39 : decode cX12_when 39 = .ok (.ireturn, 1) := by decide +kernel
theorem dX12_often_0 : decode cX12_often 0 = .ok (.aload_n 0, 1) := by decide +kernel
theorem dX12_often_1 : decode cX12_often 1 = .ok (.iload_n 1, 1) := by decide +kernel
theorem dX12_often_2 : decode cX12_often 2 = .ok (.invokevirtual 322, 3) := by decide +kernel
theorem dX12_often_5 : decode cX12_often 5 = .ok (.ifCond .ne 6, 3) := by decide +kernel
theorem dX12_often_8 : decode cX12_often 8 = .ok (.bipush (-2), 2) := by decide +kernel
theorem dX12_often_10 : decode cX12_often 10 = .ok (.ireturn, 1) := by decide +kernel
theorem dX12_often_11 : decode cX12_often 11 = .ok (.iconst 0, 1) := by decide +kernel
theorem dX12_often_12 : decode cX12_often 12 = .ok (.istore_n 2, 1) := by decide +kernel
theorem dX12_often_13 : decode cX12_often 13 = .ok (.iconst 0, 1) := by decide +kernel
theorem dX12_often_14 : decode cX12_often 14 = .ok (.istore_n 3, 1) := by decide +kernel
theorem dX12_often_15 : decode cX12_often 15 = .ok (.iload_n 3, 1) := by decide +kernel
theorem dX12_often_16 : decode cX12_often 16 = .ok (.aload_n 0, 1) := by decide +kernel
theorem dX12_often_17 : decode cX12_often 17 = .ok (.invokevirtual 82, 3) := by decide +kernel
theorem dX12_often_20 : decode cX12_often 20 = .ok (.if_icmp .gt 26, 3) := by decide +kernel
theorem dX12_often_23 : decode cX12_often 23 = .ok (.iload_n 2, 1) := by decide +kernel
theorem dX12_often_24 : decode cX12_often 24 = .ok (.aload_n 0, 1) := by decide +kernel
theorem dX12_often_25 : decode cX12_often 25 = .ok (.iload_n 1, 1) := by decide +kernel
theorem dX12_often_26 : decode cX12_often 26 = .ok (.iload_n 3, 1) := by decide +kernel
theorem dX12_often_27 : decode cX12_often 27 = .ok (.invokevirtual 275, 3) := by decide +kernel
theorem dX12_often_30 : decode cX12_often 30 = .ok (.ifCond .le 7, 3) := by decide +kernel
theorem dX12_often_33 : decode cX12_often 33 = .ok (.iconst 1, 1) := by decide +kernel
theorem dX12_often_34 : decode cX12_often 34 = .ok (.goto 4, 3) := by decide +kernel
theorem dX12_often_37 : decode cX12_often 37 = .ok (.iconst 0, 1) := by decide +kernel
theorem dX12_often_38 : decode cX12_often 38 = .ok (.iadd, 1) := by decide +kernel
theorem dX12_often_39 : decode cX12_often 39 = .ok (.istore_n 2, 1) := by decide +kernel
theorem dX12_often_40 : decode cX12_often 40 = .ok (.iinc 3 1, 3) := by decide +kernel
theorem dX12_often_43 : decode cX12_often 43 = .ok (.goto (-28), 3) := by decide +kernel
theorem dX12_often_46 : decode cX12_often 46 = .ok (.iload_n 2, 1) := by decide +kernel
theorem dX12_often_47 : decode cX12_often 47 = .ok (.ireturn, 1) := by decide +kernel
theorem dX12_full_0 : decode cX12_full 0 = .ok (.aload_n 0, 1) := by decide +kernel
theorem dX12_full_1 : decode cX12_full 1 = .ok (.invokevirtual 303, 3) := by decide +kernel
theorem dX12_full_4 : decode cX12_full 4 = .ok (.ifCond .ne 6, 3) := by decide +kernel
theorem dX12_full_7 : decode cX12_full 7 = .ok (.bipush (-2), 2) := by decide +kernel
theorem dX12_full_9 : decode cX12_full 9 = .ok (.ireturn, 1) := by decide +kernel
theorem dX12_full_10 : decode cX12_full 10 = .ok (.iconst 0, 1) := by decide +kernel
theorem dX12_full_11 : decode cX12_full 11 = .ok (.istore_n 1, 1) := by decide +kernel
theorem dX12_full_12 : decode cX12_full 12 = .ok (.iload_n 1, 1) := by decide +kernel
theorem dX12_full_13 : decode cX12_full 13 = .ok (.aload_n 0, 1) := by decide +kernel
theorem dX12_full_14 : decode cX12_full 14 = .ok (.invokevirtual 82, 3) := by decide +kernel
theorem dX12_full_17 : decode cX12_full 17 = .ok (.if_icmp .gt 30, 3) := by decide +kernel
theorem dX12_full_20 : decode cX12_full 20 = .ok (.aload_n 0, 1) := by decide +kernel
theorem dX12_full_21 : decode cX12_full 21 = .ok (.invokevirtual 74, 3) := by decide +kernel
theorem dX12_full_24 : decode cX12_full 24 = .ok (.ifCond .le 23, 3) := by decide +kernel
theorem dX12_full_27 : decode cX12_full 27 = .ok (.aload_n 0, 1) := by decide +kernel
theorem dX12_full_28 : decode cX12_full 28 = .ok (.iload_n 1, 1) := by decide +kernel
theorem dX12_full_29 : decode cX12_full 29 = .ok (.invokevirtual 309, 3) := by decide +kernel
theorem dX12_full_32 : decode cX12_full 32 = .ok (.aload_n 0, 1) := by decide +kernel
theorem dX12_full_33 : decode cX12_full 33 = .ok (.invokevirtual 325, 3) := by decide +kernel
theorem dX12_full_36 : decode cX12_full 36 = .ok (.if_icmp .ne 5, 3) := by decide +kernel
theorem dX12_full_39 : decode cX12_full 39 = .ok (.iload_n 1, 1) := by decide +kernel
theorem dX12_full_40 : decode cX12_full 40 = .ok (.ireturn, 1) := by decide +kernel
theorem dX12_full_41 : decode cX12_full 41 = .ok (.iinc 1 1, 3) := by decide +kernel
theorem dX12_full_44 : decode cX12_full 44 = .ok (.goto (-32), 3) := by decide +kernel
theorem dX12_full_47 : decode cX12_full 47 = .ok (.iconst (-1), 1) := by decide +kernel
theorem dX12_full_48 : decode cX12_full 48 = .ok (.ireturn, 1) := by decide +kernel
theorem dX12_dark_0 : decode cX12_dark 0 = .ok (.aload_n 0, 1) := by decide +kernel
theorem dX12_dark_1 : decode cX12_dark 1 = .ok (.invokevirtual 303, 3) := by decide +kernel
theorem dX12_dark_4 : decode cX12_dark 4 = .ok (.ifCond .ne 6, 3) := by decide +kernel
theorem dX12_dark_7 : decode cX12_dark 7 = .ok (.bipush (-2), 2) := by decide +kernel
theorem dX12_dark_9 : decode cX12_dark 9 = .ok (.ireturn, 1) := by decide +kernel
theorem dX12_dark_10 : decode cX12_dark 10 = .ok (.iconst 0, 1) := by decide +kernel
theorem dX12_dark_11 : decode cX12_dark 11 = .ok (.istore_n 1, 1) := by decide +kernel
theorem dX12_dark_12 : decode cX12_dark 12 = .ok (.iconst 0, 1) := by decide +kernel
theorem dX12_dark_13 : decode cX12_dark 13 = .ok (.istore_n 2, 1) := by decide +kernel
theorem dX12_dark_14 : decode cX12_dark 14 = .ok (.iload_n 2, 1) := by decide +kernel
theorem dX12_dark_15 : decode cX12_dark 15 = .ok (.aload_n 0, 1) := by decide +kernel
theorem dX12_dark_16 : decode cX12_dark 16 = .ok (.invokevirtual 82, 3) := by decide +kernel
theorem dX12_dark_19 : decode cX12_dark 19 = .ok (.if_icmp .gt 17, 3) := by decide +kernel
theorem dX12_dark_22 : decode cX12_dark 22 = .ok (.iload_n 1, 1) := by decide +kernel
theorem dX12_dark_23 : decode cX12_dark 23 = .ok (.aload_n 0, 1) := by decide +kernel
theorem dX12_dark_24 : decode cX12_dark 24 = .ok (.iload_n 2, 1) := by decide +kernel
theorem dX12_dark_25 : decode cX12_dark 25 = .ok (.invokevirtual 309, 3) := by decide +kernel
theorem dX12_dark_28 : decode cX12_dark 28 = .ok (.ior, 1) := by decide +kernel
theorem dX12_dark_29 : decode cX12_dark 29 = .ok (.istore_n 1, 1) := by decide +kernel
theorem dX12_dark_30 : decode cX12_dark 30 = .ok (.iinc 2 1, 3) := by decide +kernel
theorem dX12_dark_33 : decode cX12_dark 33 = .ok (.goto (-19), 3) := by decide +kernel
theorem dX12_dark_36 : decode cX12_dark 36 = .ok (.aload_n 0, 1) := by decide +kernel
theorem dX12_dark_37 : decode cX12_dark 37 = .ok (.invokevirtual 325, 3) := by decide +kernel
theorem dX12_dark_40 : decode cX12_dark 40 = .ok (.iload_n 1, 1) := by decide +kernel
theorem dX12_dark_41 : decode cX12_dark 41 = .ok (.iconst (-1), 1) := by decide +kernel
theorem dX12_dark_42 : decode cX12_dark 42 = .ok (.ixor, 1) := by decide +kernel
theorem dX12_dark_43 : decode cX12_dark 43 = .ok (.iand, 1) := by decide +kernel
theorem dX12_dark_44 : decode cX12_dark 44 = .ok (.ireturn, 1) := by decide +kernel
theorem dX12_turnedAt_0 : decode cX12_turnedAt 0 = .ok (.iload_n 1, 1) := by decide +kernel
theorem dX12_turnedAt_1 : decode cX12_turnedAt 1 = .ok (.ifCond .ne 9, 3) := by decide +kernel
theorem dX12_turnedAt_4 : decode cX12_turnedAt 4 = .ok (.aload_n 0, 1) := by decide +kernel
theorem dX12_turnedAt_5 : decode cX12_turnedAt 5 = .ok (.iconst 0, 1) := by decide +kernel
theorem dX12_turnedAt_6 : decode cX12_turnedAt 6 = .ok (.invokevirtual 309, 3) := by decide +kernel
theorem dX12_turnedAt_9 : decode cX12_turnedAt 9 = .ok (.ireturn, 1) := by decide +kernel
theorem dX12_turnedAt_10 : decode cX12_turnedAt 10 = .ok (.iconst 0, 1) := by decide +kernel
theorem dX12_turnedAt_11 : decode cX12_turnedAt 11 = .ok (.istore_n 2, 1) := by decide +kernel
theorem dX12_turnedAt_12 : decode cX12_turnedAt 12 = .ok (.iconst 0, 1) := by decide +kernel
theorem dX12_turnedAt_13 : decode cX12_turnedAt 13 = .ok (.istore_n 3, 1) := by decide +kernel
theorem dX12_turnedAt_14 : decode cX12_turnedAt 14 = .ok (.iload_n 3, 1) := by decide +kernel
theorem dX12_turnedAt_15 : decode cX12_turnedAt 15 = .ok (.aload_n 0, 1) := by decide +kernel
theorem dX12_turnedAt_16 : decode cX12_turnedAt 16 = .ok (.invokevirtual 74, 3) := by decide +kernel
theorem dX12_turnedAt_19 : decode cX12_turnedAt 19 = .ok (.if_icmp .ge 36, 3) := by decide +kernel
theorem dX12_turnedAt_22 : decode cX12_turnedAt 22 = .ok (.iload_n 2, 1) := by decide +kernel
theorem dX12_turnedAt_23 : decode cX12_turnedAt 23 = .ok (.aload_n 0, 1) := by decide +kernel
theorem dX12_turnedAt_24 : decode cX12_turnedAt 24 = .ok (.iload_n 3, 1) := by decide +kernel
theorem dX12_turnedAt_25 : decode cX12_turnedAt 25 = .ok (.iload_n 1, 1) := by decide +kernel
theorem dX12_turnedAt_26 : decode cX12_turnedAt 26 = .ok (.invokevirtual 275, 3) := by decide +kernel
theorem dX12_turnedAt_29 : decode cX12_turnedAt 29 = .ok (.aload_n 0, 1) := by decide +kernel
theorem dX12_turnedAt_30 : decode cX12_turnedAt 30 = .ok (.iload_n 3, 1) := by decide +kernel
theorem dX12_turnedAt_31 : decode cX12_turnedAt 31 = .ok (.iload_n 1, 1) := by decide +kernel
theorem dX12_turnedAt_32 : decode cX12_turnedAt 32 = .ok (.iconst 1, 1) := by decide +kernel
theorem dX12_turnedAt_33 : decode cX12_turnedAt 33 = .ok (.isub, 1) := by decide +kernel
theorem dX12_turnedAt_34 : decode cX12_turnedAt 34 = .ok (.invokevirtual 275, 3) := by decide +kernel
theorem dX12_turnedAt_37 : decode cX12_turnedAt 37 = .ok (.if_icmp .eq 9, 3) := by decide +kernel
theorem dX12_turnedAt_40 : decode cX12_turnedAt 40 = .ok (.iconst 1, 1) := by decide +kernel
theorem dX12_turnedAt_41 : decode cX12_turnedAt 41 = .ok (.iload_n 3, 1) := by decide +kernel
theorem dX12_turnedAt_42 : decode cX12_turnedAt 42 = .ok (.ishl, 1) := by decide +kernel
theorem dX12_turnedAt_43 : decode cX12_turnedAt 43 = .ok (.goto 4, 3) := by decide +kernel
theorem dX12_turnedAt_46 : decode cX12_turnedAt 46 = .ok (.iconst 0, 1) := by decide +kernel
theorem dX12_turnedAt_47 : decode cX12_turnedAt 47 = .ok (.ior, 1) := by decide +kernel
theorem dX12_turnedAt_48 : decode cX12_turnedAt 48 = .ok (.istore_n 2, 1) := by decide +kernel
theorem dX12_turnedAt_49 : decode cX12_turnedAt 49 = .ok (.iinc 3 1, 3) := by decide +kernel
theorem dX12_turnedAt_52 : decode cX12_turnedAt 52 = .ok (.goto (-38), 3) := by decide +kernel
theorem dX12_turnedAt_55 : decode cX12_turnedAt 55 = .ok (.iload_n 2, 1) := by decide +kernel
theorem dX12_turnedAt_56 : decode cX12_turnedAt 56 = .ok (.ireturn, 1) := by decide +kernel
theorem dX12_turned_0 : decode cX12_turned 0 = .ok (.aload_n 0, 1) := by decide +kernel
theorem dX12_turned_1 : decode cX12_turned 1 = .ok (.iload_n 1, 1) := by decide +kernel
theorem dX12_turned_2 : decode cX12_turned 2 = .ok (.invokevirtual 318, 3) := by decide +kernel
theorem dX12_turned_5 : decode cX12_turned 5 = .ok (.ifCond .eq 11, 3) := by decide +kernel
theorem dX12_turned_8 : decode cX12_turned 8 = .ok (.aload_n 0, 1) := by decide +kernel
theorem dX12_turned_9 : decode cX12_turned 9 = .ok (.iload_n 1, 1) := by decide +kernel
theorem dX12_turned_10 : decode cX12_turned 10 = .ok (.invokevirtual 328, 3) := by decide +kernel
theorem dX12_turned_13 : decode cX12_turned 13 = .ok (.goto 5, 3) := by decide +kernel
theorem dX12_turned_16 : decode cX12_turned 16 = .ok (.bipush (-2), 2) := by decide +kernel
theorem dX12_turned_18 : decode cX12_turned 18 = .ok (.ireturn, 1) := by decide +kernel
theorem dX12_still_0 : decode cX12_still 0 = .ok (.aload_n 0, 1) := by decide +kernel
theorem dX12_still_1 : decode cX12_still 1 = .ok (.invokevirtual 303, 3) := by decide +kernel
theorem dX12_still_4 : decode cX12_still 4 = .ok (.ifCond .ne 6, 3) := by decide +kernel
theorem dX12_still_7 : decode cX12_still 7 = .ok (.bipush (-2), 2) := by decide +kernel
theorem dX12_still_9 : decode cX12_still 9 = .ok (.ireturn, 1) := by decide +kernel
theorem dX12_still_10 : decode cX12_still 10 = .ok (.aload_n 0, 1) := by decide +kernel
theorem dX12_still_11 : decode cX12_still 11 = .ok (.invokevirtual 82, 3) := by decide +kernel
theorem dX12_still_14 : decode cX12_still 14 = .ok (.istore_n 1, 1) := by decide +kernel
theorem dX12_still_15 : decode cX12_still 15 = .ok (.iload_n 1, 1) := by decide +kernel
theorem dX12_still_16 : decode cX12_still 16 = .ok (.ifCond .le 17, 3) := by decide +kernel
theorem dX12_still_19 : decode cX12_still 19 = .ok (.aload_n 0, 1) := by decide +kernel
theorem dX12_still_20 : decode cX12_still 20 = .ok (.iload_n 1, 1) := by decide +kernel
theorem dX12_still_21 : decode cX12_still 21 = .ok (.invokevirtual 328, 3) := by decide +kernel
theorem dX12_still_24 : decode cX12_still 24 = .ok (.ifCond .ne 9, 3) := by decide +kernel
theorem dX12_still_27 : decode cX12_still 27 = .ok (.iinc 1 (-1), 3) := by decide +kernel
theorem dX12_still_30 : decode cX12_still 30 = .ok (.goto (-15), 3) := by decide +kernel
theorem dX12_still_33 : decode cX12_still 33 = .ok (.iload_n 1, 1) := by decide +kernel
theorem dX12_still_34 : decode cX12_still 34 = .ok (.ireturn, 1) := by decide +kernel
theorem dX12_alikeTo_0 : decode cX12_alikeTo 0 = .ok (.iconst 0, 1) := by decide +kernel
theorem dX12_alikeTo_1 : decode cX12_alikeTo 1 = .ok (.istore_n 3, 1) := by decide +kernel
theorem dX12_alikeTo_2 : decode cX12_alikeTo 2 = .ok (.iconst 0, 1) := by decide +kernel
theorem dX12_alikeTo_3 : decode cX12_alikeTo 3 = .ok (.istore 4, 2) := by decide +kernel
theorem dX12_alikeTo_5 : decode cX12_alikeTo 5 = .ok (.iload 4, 2) := by decide +kernel
theorem dX12_alikeTo_7 : decode cX12_alikeTo 7 = .ok (.aload_n 0, 1) := by decide +kernel
theorem dX12_alikeTo_8 : decode cX12_alikeTo 8 = .ok (.invokevirtual 74, 3) := by decide +kernel
theorem dX12_alikeTo_11 : decode cX12_alikeTo 11 = .ok (.if_icmp .ge 45, 3) := by decide +kernel
theorem dX12_alikeTo_14 : decode cX12_alikeTo 14 = .ok (.iload_n 3, 1) := by decide +kernel
theorem dX12_alikeTo_15 : decode cX12_alikeTo 15 = .ok (.aload_n 0, 1) := by decide +kernel
theorem dX12_alikeTo_16 : decode cX12_alikeTo 16 = .ok (.iload_n 1, 1) := by decide +kernel
theorem dX12_alikeTo_17 : decode cX12_alikeTo 17 = .ok (.iload_n 2, 1) := by decide +kernel
theorem dX12_alikeTo_18 : decode cX12_alikeTo 18 = .ok (.invokevirtual 275, 3) := by decide +kernel
theorem dX12_alikeTo_21 : decode cX12_alikeTo 21 = .ok (.ifCond .le 26, 3) := by decide +kernel
theorem dX12_alikeTo_24 : decode cX12_alikeTo 24 = .ok (.aload_n 0, 1) := by decide +kernel
theorem dX12_alikeTo_25 : decode cX12_alikeTo 25 = .ok (.iload 4, 2) := by decide +kernel
theorem dX12_alikeTo_27 : decode cX12_alikeTo 27 = .ok (.iload_n 2, 1) := by decide +kernel
theorem dX12_alikeTo_28 : decode cX12_alikeTo 28 = .ok (.invokevirtual 275, 3) := by decide +kernel
theorem dX12_alikeTo_31 : decode cX12_alikeTo 31 = .ok (.aload_n 0, 1) := by decide +kernel
theorem dX12_alikeTo_32 : decode cX12_alikeTo 32 = .ok (.iload_n 1, 1) := by decide +kernel
theorem dX12_alikeTo_33 : decode cX12_alikeTo 33 = .ok (.iload_n 2, 1) := by decide +kernel
theorem dX12_alikeTo_34 : decode cX12_alikeTo 34 = .ok (.invokevirtual 275, 3) := by decide +kernel
theorem dX12_alikeTo_37 : decode cX12_alikeTo 37 = .ok (.if_icmp .ne 10, 3) := by decide +kernel
theorem dX12_alikeTo_40 : decode cX12_alikeTo 40 = .ok (.iconst 1, 1) := by decide +kernel
theorem dX12_alikeTo_41 : decode cX12_alikeTo 41 = .ok (.iload 4, 2) := by decide +kernel
theorem dX12_alikeTo_43 : decode cX12_alikeTo 43 = .ok (.ishl, 1) := by decide +kernel
theorem dX12_alikeTo_44 : decode cX12_alikeTo 44 = .ok (.goto 4, 3) := by decide +kernel
theorem dX12_alikeTo_47 : decode cX12_alikeTo 47 = .ok (.iconst 0, 1) := by decide +kernel
theorem dX12_alikeTo_48 : decode cX12_alikeTo 48 = .ok (.ior, 1) := by decide +kernel
theorem dX12_alikeTo_49 : decode cX12_alikeTo 49 = .ok (.istore_n 3, 1) := by decide +kernel
theorem dX12_alikeTo_50 : decode cX12_alikeTo 50 = .ok (.iinc 4 1, 3) := by decide +kernel
theorem dX12_alikeTo_53 : decode cX12_alikeTo 53 = .ok (.goto (-48), 3) := by decide +kernel
theorem dX12_alikeTo_56 : decode cX12_alikeTo 56 = .ok (.iload_n 3, 1) := by decide +kernel
theorem dX12_alikeTo_57 : decode cX12_alikeTo 57 = .ok (.ireturn, 1) := by decide +kernel
theorem dX12_alike_0 : decode cX12_alike 0 = .ok (.aload_n 0, 1) := by decide +kernel
theorem dX12_alike_1 : decode cX12_alike 1 = .ok (.iload_n 2, 1) := by decide +kernel
theorem dX12_alike_2 : decode cX12_alike 2 = .ok (.invokevirtual 318, 3) := by decide +kernel
theorem dX12_alike_5 : decode cX12_alike 5 = .ok (.ifCond .eq 21, 3) := by decide +kernel
theorem dX12_alike_8 : decode cX12_alike 8 = .ok (.aload_n 0, 1) := by decide +kernel
theorem dX12_alike_9 : decode cX12_alike 9 = .ok (.iload_n 1, 1) := by decide +kernel
theorem dX12_alike_10 : decode cX12_alike 10 = .ok (.i2l, 1) := by decide +kernel
theorem dX12_alike_11 : decode cX12_alike 11 = .ok (.invokevirtual 218, 3) := by decide +kernel
theorem dX12_alike_14 : decode cX12_alike 14 = .ok (.ifCond .eq 12, 3) := by decide +kernel
theorem dX12_alike_17 : decode cX12_alike 17 = .ok (.aload_n 0, 1) := by decide +kernel
theorem dX12_alike_18 : decode cX12_alike 18 = .ok (.iload_n 1, 1) := by decide +kernel
theorem dX12_alike_19 : decode cX12_alike 19 = .ok (.iload_n 2, 1) := by decide +kernel
theorem dX12_alike_20 : decode cX12_alike 20 = .ok (.invokevirtual 331, 3) := by decide +kernel
theorem dX12_alike_23 : decode cX12_alike 23 = .ok (.goto 5, 3) := by decide +kernel
theorem dX12_alike_26 : decode cX12_alike 26 = .ok (.bipush (-2), 2) := by decide +kernel
theorem dX12_alike_28 : decode cX12_alike 28 = .ok (.ireturn, 1) := by decide +kernel
theorem dX12_sorts_0 : decode cX12_sorts 0 = .ok (.aload_n 0, 1) := by decide +kernel
theorem dX12_sorts_1 : decode cX12_sorts 1 = .ok (.iload_n 1, 1) := by decide +kernel
theorem dX12_sorts_2 : decode cX12_sorts 2 = .ok (.invokevirtual 318, 3) := by decide +kernel
theorem dX12_sorts_5 : decode cX12_sorts 5 = .ok (.ifCond .ne 6, 3) := by decide +kernel
theorem dX12_sorts_8 : decode cX12_sorts 8 = .ok (.bipush (-2), 2) := by decide +kernel
theorem dX12_sorts_10 : decode cX12_sorts 10 = .ok (.ireturn, 1) := by decide +kernel
theorem dX12_sorts_11 : decode cX12_sorts 11 = .ok (.iconst 0, 1) := by decide +kernel
theorem dX12_sorts_12 : decode cX12_sorts 12 = .ok (.istore_n 2, 1) := by decide +kernel
theorem dX12_sorts_13 : decode cX12_sorts 13 = .ok (.iconst 0, 1) := by decide +kernel
theorem dX12_sorts_14 : decode cX12_sorts 14 = .ok (.istore_n 3, 1) := by decide +kernel
theorem dX12_sorts_15 : decode cX12_sorts 15 = .ok (.iload_n 3, 1) := by decide +kernel
theorem dX12_sorts_16 : decode cX12_sorts 16 = .ok (.aload_n 0, 1) := by decide +kernel
theorem dX12_sorts_17 : decode cX12_sorts 17 = .ok (.invokevirtual 74, 3) := by decide +kernel
theorem dX12_sorts_20 : decode cX12_sorts 20 = .ok (.if_icmp .ge 46, 3) := by decide +kernel
theorem dX12_sorts_23 : decode cX12_sorts 23 = .ok (.iload_n 2, 1) := by decide +kernel
theorem dX12_sorts_24 : decode cX12_sorts 24 = .ok (.aload_n 0, 1) := by decide +kernel
theorem dX12_sorts_25 : decode cX12_sorts 25 = .ok (.iload_n 3, 1) := by decide +kernel
theorem dX12_sorts_26 : decode cX12_sorts 26 = .ok (.iload_n 1, 1) := by decide +kernel
theorem dX12_sorts_27 : decode cX12_sorts 27 = .ok (.invokevirtual 331, 3) := by decide +kernel
theorem dX12_sorts_30 : decode cX12_sorts 30 = .ok (.iload_n 3, 1) := by decide +kernel
theorem dX12_sorts_31 : decode cX12_sorts 31 = .ok (.invokestatic 237, 3) := by decide +kernel
theorem dX12_sorts_34 : decode cX12_sorts 34 = .ok (.iconst 1, 1) := by decide +kernel
theorem dX12_sorts_35 : decode cX12_sorts 35 = .ok (.if_icmp .ne 22, 3) := by decide +kernel
theorem dX12_sorts_38 : decode cX12_sorts 38 = .ok (.aload_n 0, 1) := by decide +kernel
theorem dX12_sorts_39 : decode cX12_sorts 39 = .ok (.iload_n 3, 1) := by decide +kernel
theorem dX12_sorts_40 : decode cX12_sorts 40 = .ok (.iload_n 1, 1) := by decide +kernel
theorem dX12_sorts_41 : decode cX12_sorts 41 = .ok (.invokevirtual 331, 3) := by decide +kernel
theorem dX12_sorts_44 : decode cX12_sorts 44 = .ok (.iconst 1, 1) := by decide +kernel
theorem dX12_sorts_45 : decode cX12_sorts 45 = .ok (.iload_n 3, 1) := by decide +kernel
theorem dX12_sorts_46 : decode cX12_sorts 46 = .ok (.ishl, 1) := by decide +kernel
theorem dX12_sorts_47 : decode cX12_sorts 47 = .ok (.iconst 1, 1) := by decide +kernel
theorem dX12_sorts_48 : decode cX12_sorts 48 = .ok (.isub, 1) := by decide +kernel
theorem dX12_sorts_49 : decode cX12_sorts 49 = .ok (.iand, 1) := by decide +kernel
theorem dX12_sorts_50 : decode cX12_sorts 50 = .ok (.ifCond .ne 7, 3) := by decide +kernel
theorem dX12_sorts_53 : decode cX12_sorts 53 = .ok (.iconst 1, 1) := by decide +kernel
theorem dX12_sorts_54 : decode cX12_sorts 54 = .ok (.goto 4, 3) := by decide +kernel
theorem dX12_sorts_57 : decode cX12_sorts 57 = .ok (.iconst 0, 1) := by decide +kernel
theorem dX12_sorts_58 : decode cX12_sorts 58 = .ok (.iadd, 1) := by decide +kernel
theorem dX12_sorts_59 : decode cX12_sorts 59 = .ok (.istore_n 2, 1) := by decide +kernel
theorem dX12_sorts_60 : decode cX12_sorts 60 = .ok (.iinc 3 1, 3) := by decide +kernel
theorem dX12_sorts_63 : decode cX12_sorts 63 = .ok (.goto (-48), 3) := by decide +kernel
theorem dX12_sorts_66 : decode cX12_sorts 66 = .ok (.iload_n 2, 1) := by decide +kernel
theorem dX12_sorts_67 : decode cX12_sorts 67 = .ok (.ireturn, 1) := by decide +kernel
theorem dX12_longestBy_0 : decode cX12_longestBy 0 = .ok (.iconst (-1), 1) := by decide +kernel
theorem dX12_longestBy_1 : decode cX12_longestBy 1 = .ok (.istore_n 3, 1) := by decide +kernel
theorem dX12_longestBy_2 : decode cX12_longestBy 2 = .ok (.iconst 0, 1) := by decide +kernel
theorem dX12_longestBy_3 : decode cX12_longestBy 3 = .ok (.istore 4, 2) := by decide +kernel
theorem dX12_longestBy_5 : decode cX12_longestBy 5 = .ok (.iload 4, 2) := by decide +kernel
theorem dX12_longestBy_7 : decode cX12_longestBy 7 = .ok (.aload_n 0, 1) := by decide +kernel
theorem dX12_longestBy_8 : decode cX12_longestBy 8 = .ok (.invokevirtual 74, 3) := by decide +kernel
theorem dX12_longestBy_11 : decode cX12_longestBy 11 = .ok (.if_icmp .ge 56, 3) := by decide +kernel
theorem dX12_longestBy_14 : decode cX12_longestBy 14 = .ok (.aload_n 0, 1) := by decide +kernel
theorem dX12_longestBy_15 : decode cX12_longestBy 15 = .ok (.iload 4, 2) := by decide +kernel
theorem dX12_longestBy_17 : decode cX12_longestBy 17 = .ok (.iload_n 1, 1) := by decide +kernel
theorem dX12_longestBy_18 : decode cX12_longestBy 18 = .ok (.invokevirtual 275, 3) := by decide +kernel
theorem dX12_longestBy_21 : decode cX12_longestBy 21 = .ok (.ifCond .ne 6, 3) := by decide +kernel
theorem dX12_longestBy_24 : decode cX12_longestBy 24 = .ok (.goto 37, 3) := by decide +kernel
theorem dX12_longestBy_27 : decode cX12_longestBy 27 = .ok (.iload_n 3, 1) := by decide +kernel
theorem dX12_longestBy_28 : decode cX12_longestBy 28 = .ok (.iconst (-1), 1) := by decide +kernel
theorem dX12_longestBy_29 : decode cX12_longestBy 29 = .ok (.if_icmp .eq 29, 3) := by decide +kernel
theorem dX12_longestBy_32 : decode cX12_longestBy 32 = .ok (.iload_n 2, 1) := by decide +kernel
theorem dX12_longestBy_33 : decode cX12_longestBy 33 = .ok (.aload_n 0, 1) := by decide +kernel
theorem dX12_longestBy_34 : decode cX12_longestBy 34 = .ok (.iload 4, 2) := by decide +kernel
theorem dX12_longestBy_36 : decode cX12_longestBy 36 = .ok (.iload_n 1, 1) := by decide +kernel
theorem dX12_longestBy_37 : decode cX12_longestBy 37 = .ok (.invokevirtual 275, 3) := by decide +kernel
theorem dX12_longestBy_40 : decode cX12_longestBy 40 = .ok (.invokestatic 225, 3) := by decide +kernel
theorem dX12_longestBy_43 : decode cX12_longestBy 43 = .ok (.imul, 1) := by decide +kernel
theorem dX12_longestBy_44 : decode cX12_longestBy 44 = .ok (.iload_n 2, 1) := by decide +kernel
theorem dX12_longestBy_45 : decode cX12_longestBy 45 = .ok (.aload_n 0, 1) := by decide +kernel
theorem dX12_longestBy_46 : decode cX12_longestBy 46 = .ok (.iload_n 3, 1) := by decide +kernel
theorem dX12_longestBy_47 : decode cX12_longestBy 47 = .ok (.iload_n 1, 1) := by decide +kernel
theorem dX12_longestBy_48 : decode cX12_longestBy 48 = .ok (.invokevirtual 275, 3) := by decide +kernel
theorem dX12_longestBy_51 : decode cX12_longestBy 51 = .ok (.invokestatic 225, 3) := by decide +kernel
theorem dX12_longestBy_54 : decode cX12_longestBy 54 = .ok (.imul, 1) := by decide +kernel
theorem dX12_longestBy_55 : decode cX12_longestBy 55 = .ok (.if_icmp .le 6, 3) := by decide +kernel
theorem dX12_longestBy_58 : decode cX12_longestBy 58 = .ok (.iload 4, 2) := by decide +kernel
theorem dX12_longestBy_60 : decode cX12_longestBy 60 = .ok (.istore_n 3, 1) := by decide +kernel
theorem dX12_longestBy_61 : decode cX12_longestBy 61 = .ok (.iinc 4 1, 3) := by decide +kernel
theorem dX12_longestBy_64 : decode cX12_longestBy 64 = .ok (.goto (-59), 3) := by decide +kernel
theorem dX12_longestBy_67 : decode cX12_longestBy 67 = .ok (.iload_n 3, 1) := by decide +kernel
theorem dX12_longestBy_68 : decode cX12_longestBy 68 = .ok (.ireturn, 1) := by decide +kernel
theorem dX12_longest_0 : decode cX12_longest 0 = .ok (.aload_n 0, 1) := by decide +kernel
theorem dX12_longest_1 : decode cX12_longest 1 = .ok (.iload_n 1, 1) := by decide +kernel
theorem dX12_longest_2 : decode cX12_longest 2 = .ok (.invokevirtual 318, 3) := by decide +kernel
theorem dX12_longest_5 : decode cX12_longest 5 = .ok (.ifCond .eq 12, 3) := by decide +kernel
theorem dX12_longest_8 : decode cX12_longest 8 = .ok (.aload_n 0, 1) := by decide +kernel
theorem dX12_longest_9 : decode cX12_longest 9 = .ok (.iload_n 1, 1) := by decide +kernel
theorem dX12_longest_10 : decode cX12_longest 10 = .ok (.iconst 1, 1) := by decide +kernel
theorem dX12_longest_11 : decode cX12_longest 11 = .ok (.invokevirtual 334, 3) := by decide +kernel
theorem dX12_longest_14 : decode cX12_longest 14 = .ok (.goto 5, 3) := by decide +kernel
theorem dX12_longest_17 : decode cX12_longest 17 = .ok (.bipush (-2), 2) := by decide +kernel
theorem dX12_longest_19 : decode cX12_longest 19 = .ok (.ireturn, 1) := by decide +kernel
theorem dX12_shortest_0 : decode cX12_shortest 0 = .ok (.aload_n 0, 1) := by decide +kernel
theorem dX12_shortest_1 : decode cX12_shortest 1 = .ok (.iload_n 1, 1) := by decide +kernel
theorem dX12_shortest_2 : decode cX12_shortest 2 = .ok (.invokevirtual 318, 3) := by decide +kernel
theorem dX12_shortest_5 : decode cX12_shortest 5 = .ok (.ifCond .eq 12, 3) := by decide +kernel
theorem dX12_shortest_8 : decode cX12_shortest 8 = .ok (.aload_n 0, 1) := by decide +kernel
theorem dX12_shortest_9 : decode cX12_shortest 9 = .ok (.iload_n 1, 1) := by decide +kernel
theorem dX12_shortest_10 : decode cX12_shortest 10 = .ok (.iconst (-1), 1) := by decide +kernel
theorem dX12_shortest_11 : decode cX12_shortest 11 = .ok (.invokevirtual 334, 3) := by decide +kernel
theorem dX12_shortest_14 : decode cX12_shortest 14 = .ok (.goto 5, 3) := by decide +kernel
theorem dX12_shortest_17 : decode cX12_shortest 17 = .ok (.bipush (-2), 2) := by decide +kernel
theorem dX12_shortest_19 : decode cX12_shortest 19 = .ok (.ireturn, 1) := by decide +kernel
theorem dX12_words_0 : decode cX12_words 0 = .ok (.aload_n 0, 1) := by decide +kernel
theorem dX12_words_1 : decode cX12_words 1 = .ok (.iload_n 1, 1) := by decide +kernel
theorem dX12_words_2 : decode cX12_words 2 = .ok (.invokevirtual 318, 3) := by decide +kernel
theorem dX12_words_5 : decode cX12_words 5 = .ok (.ifCond .eq 11, 3) := by decide +kernel
theorem dX12_words_8 : decode cX12_words 8 = .ok (.aload_n 0, 1) := by decide +kernel
theorem dX12_words_9 : decode cX12_words 9 = .ok (.iload_n 1, 1) := by decide +kernel
theorem dX12_words_10 : decode cX12_words 10 = .ok (.invokevirtual 337, 3) := by decide +kernel
theorem dX12_words_13 : decode cX12_words 13 = .ok (.goto 5, 3) := by decide +kernel
theorem dX12_words_16 : decode cX12_words 16 = .ok (.bipush (-2), 2) := by decide +kernel
theorem dX12_words_18 : decode cX12_words 18 = .ok (.ireturn, 1) := by decide +kernel
theorem dX12_spoken_0 : decode cX12_spoken 0 = .ok (.aload_n 0, 1) := by decide +kernel
theorem dX12_spoken_1 : decode cX12_spoken 1 = .ok (.iload_n 2, 1) := by decide +kernel
theorem dX12_spoken_2 : decode cX12_spoken 2 = .ok (.invokevirtual 318, 3) := by decide +kernel
theorem dX12_spoken_5 : decode cX12_spoken 5 = .ok (.ifCond .eq 15, 3) := by decide +kernel
theorem dX12_spoken_8 : decode cX12_spoken 8 = .ok (.iload_n 1, 1) := by decide +kernel
theorem dX12_spoken_9 : decode cX12_spoken 9 = .ok (.i2l, 1) := by decide +kernel
theorem dX12_spoken_10 : decode cX12_spoken 10 = .ok (.lconst 1, 1) := by decide +kernel
theorem dX12_spoken_11 : decode cX12_spoken 11 = .ok (.ldc2_w 183, 3) := by decide +kernel
theorem dX12_spoken_14 : decode cX12_spoken 14 = .ok (.invokestatic 70, 3) := by decide +kernel
theorem dX12_spoken_17 : decode cX12_spoken 17 = .ok (.ifCond .ne 6, 3) := by decide +kernel
theorem dX12_spoken_20 : decode cX12_spoken 20 = .ok (.bipush (-2), 2) := by decide +kernel
theorem dX12_spoken_22 : decode cX12_spoken 22 = .ok (.ireturn, 1) := by decide +kernel
theorem dX12_spoken_23 : decode cX12_spoken 23 = .ok (.iconst 0, 1) := by decide +kernel
theorem dX12_spoken_24 : decode cX12_spoken 24 = .ok (.istore_n 3, 1) := by decide +kernel
theorem dX12_spoken_25 : decode cX12_spoken 25 = .ok (.iconst 0, 1) := by decide +kernel
theorem dX12_spoken_26 : decode cX12_spoken 26 = .ok (.istore 4, 2) := by decide +kernel
theorem dX12_spoken_28 : decode cX12_spoken 28 = .ok (.iload 4, 2) := by decide +kernel
theorem dX12_spoken_30 : decode cX12_spoken 30 = .ok (.aload_n 0, 1) := by decide +kernel
theorem dX12_spoken_31 : decode cX12_spoken 31 = .ok (.invokevirtual 74, 3) := by decide +kernel
theorem dX12_spoken_34 : decode cX12_spoken 34 = .ok (.if_icmp .ge 48, 3) := by decide +kernel
theorem dX12_spoken_37 : decode cX12_spoken 37 = .ok (.aload_n 0, 1) := by decide +kernel
theorem dX12_spoken_38 : decode cX12_spoken 38 = .ok (.iload 4, 2) := by decide +kernel
theorem dX12_spoken_40 : decode cX12_spoken 40 = .ok (.iload_n 2, 1) := by decide +kernel
theorem dX12_spoken_41 : decode cX12_spoken 41 = .ok (.invokevirtual 275, 3) := by decide +kernel
theorem dX12_spoken_44 : decode cX12_spoken 44 = .ok (.istore 5, 2) := by decide +kernel
theorem dX12_spoken_46 : decode cX12_spoken 46 = .ok (.iload 5, 2) := by decide +kernel
theorem dX12_spoken_48 : decode cX12_spoken 48 = .ok (.ifCond .le 28, 3) := by decide +kernel
theorem dX12_spoken_51 : decode cX12_spoken 51 = .ok (.iload_n 3, 1) := by decide +kernel
theorem dX12_spoken_52 : decode cX12_spoken 52 = .ok (.iload 5, 2) := by decide +kernel
theorem dX12_spoken_54 : decode cX12_spoken 54 = .ok (.iconst 5, 1) := by decide +kernel
theorem dX12_spoken_55 : decode cX12_spoken 55 = .ok (.irem, 1) := by decide +kernel
theorem dX12_spoken_56 : decode cX12_spoken 56 = .ok (.iload_n 1, 1) := by decide +kernel
theorem dX12_spoken_57 : decode cX12_spoken 57 = .ok (.if_icmp .ne 7, 3) := by decide +kernel
theorem dX12_spoken_60 : decode cX12_spoken 60 = .ok (.iconst 1, 1) := by decide +kernel
theorem dX12_spoken_61 : decode cX12_spoken 61 = .ok (.goto 4, 3) := by decide +kernel
theorem dX12_spoken_64 : decode cX12_spoken 64 = .ok (.iconst 0, 1) := by decide +kernel
theorem dX12_spoken_65 : decode cX12_spoken 65 = .ok (.iadd, 1) := by decide +kernel
theorem dX12_spoken_66 : decode cX12_spoken 66 = .ok (.istore_n 3, 1) := by decide +kernel
theorem dX12_spoken_67 : decode cX12_spoken 67 = .ok (.iload 5, 2) := by decide +kernel
theorem dX12_spoken_69 : decode cX12_spoken 69 = .ok (.iconst 5, 1) := by decide +kernel
theorem dX12_spoken_70 : decode cX12_spoken 70 = .ok (.idiv, 1) := by decide +kernel
theorem dX12_spoken_71 : decode cX12_spoken 71 = .ok (.istore 5, 2) := by decide +kernel
theorem dX12_spoken_73 : decode cX12_spoken 73 = .ok (.goto (-27), 3) := by decide +kernel
theorem dX12_spoken_76 : decode cX12_spoken 76 = .ok (.iinc 4 1, 3) := by decide +kernel
theorem dX12_spoken_79 : decode cX12_spoken 79 = .ok (.goto (-51), 3) := by decide +kernel
theorem dX12_spoken_82 : decode cX12_spoken 82 = .ok (.iload_n 3, 1) := by decide +kernel
theorem dX12_spoken_83 : decode cX12_spoken 83 = .ok (.ireturn, 1) := by decide +kernel
theorem dX12_taught_0 : decode cX12_taught 0 = .ok (.aload_n 0, 1) := by decide +kernel
theorem dX12_taught_1 : decode cX12_taught 1 = .ok (.iload_n 1, 1) := by decide +kernel
theorem dX12_taught_2 : decode cX12_taught 2 = .ok (.invokevirtual 322, 3) := by decide +kernel
theorem dX12_taught_5 : decode cX12_taught 5 = .ok (.ifCond .ne 6, 3) := by decide +kernel
theorem dX12_taught_8 : decode cX12_taught 8 = .ok (.bipush (-2), 2) := by decide +kernel
theorem dX12_taught_10 : decode cX12_taught 10 = .ok (.ireturn, 1) := by decide +kernel
theorem dX12_taught_11 : decode cX12_taught 11 = .ok (.iconst 0, 1) := by decide +kernel
theorem dX12_taught_12 : decode cX12_taught 12 = .ok (.istore_n 2, 1) := by decide +kernel
theorem dX12_taught_13 : decode cX12_taught 13 = .ok (.iconst 0, 1) := by decide +kernel
theorem dX12_taught_14 : decode cX12_taught 14 = .ok (.istore_n 3, 1) := by decide +kernel
theorem dX12_taught_15 : decode cX12_taught 15 = .ok (.iload_n 3, 1) := by decide +kernel
theorem dX12_taught_16 : decode cX12_taught 16 = .ok (.aload_n 0, 1) := by decide +kernel
theorem dX12_taught_17 : decode cX12_taught 17 = .ok (.invokevirtual 82, 3) := by decide +kernel
theorem dX12_taught_20 : decode cX12_taught 20 = .ok (.if_icmp .gt 54, 3) := by decide +kernel
theorem dX12_taught_23 : decode cX12_taught 23 = .ok (.iconst 0, 1) := by decide +kernel
theorem dX12_taught_24 : decode cX12_taught 24 = .ok (.istore 4, 2) := by decide +kernel
theorem dX12_taught_26 : decode cX12_taught 26 = .ok (.iload 4, 2) := by decide +kernel
theorem dX12_taught_28 : decode cX12_taught 28 = .ok (.aload_n 0, 1) := by decide +kernel
theorem dX12_taught_29 : decode cX12_taught 29 = .ok (.invokevirtual 74, 3) := by decide +kernel
theorem dX12_taught_32 : decode cX12_taught 32 = .ok (.if_icmp .ge 36, 3) := by decide +kernel
theorem dX12_taught_35 : decode cX12_taught 35 = .ok (.iload_n 2, 1) := by decide +kernel
theorem dX12_taught_36 : decode cX12_taught 36 = .ok (.aload_n 0, 1) := by decide +kernel
theorem dX12_taught_37 : decode cX12_taught 37 = .ok (.getfield 37, 3) := by decide +kernel
theorem dX12_taught_40 : decode cX12_taught 40 = .ok (.bipush 7, 2) := by decide +kernel
theorem dX12_taught_42 : decode cX12_taught 42 = .ok (.iload_n 3, 1) := by decide +kernel
theorem dX12_taught_43 : decode cX12_taught 43 = .ok (.imul, 1) := by decide +kernel
theorem dX12_taught_44 : decode cX12_taught 44 = .ok (.iload 4, 2) := by decide +kernel
theorem dX12_taught_46 : decode cX12_taught 46 = .ok (.iadd, 1) := by decide +kernel
theorem dX12_taught_47 : decode cX12_taught 47 = .ok (.iaload, 1) := by decide +kernel
theorem dX12_taught_48 : decode cX12_taught 48 = .ok (.iload_n 1, 1) := by decide +kernel
theorem dX12_taught_49 : decode cX12_taught 49 = .ok (.if_icmp .ne 10, 3) := by decide +kernel
theorem dX12_taught_52 : decode cX12_taught 52 = .ok (.iconst 1, 1) := by decide +kernel
theorem dX12_taught_53 : decode cX12_taught 53 = .ok (.iload 4, 2) := by decide +kernel
theorem dX12_taught_55 : decode cX12_taught 55 = .ok (.ishl, 1) := by decide +kernel
theorem dX12_taught_56 : decode cX12_taught 56 = .ok (.goto 4, 3) := by decide +kernel
theorem dX12_taught_59 : decode cX12_taught 59 = .ok (.iconst 0, 1) := by decide +kernel
theorem dX12_taught_60 : decode cX12_taught 60 = .ok (.ior, 1) := by decide +kernel
theorem dX12_taught_61 : decode cX12_taught 61 = .ok (.istore_n 2, 1) := by decide +kernel
theorem dX12_taught_62 : decode cX12_taught 62 = .ok (.iinc 4 1, 3) := by decide +kernel
theorem dX12_taught_65 : decode cX12_taught 65 = .ok (.goto (-39), 3) := by decide +kernel
theorem dX12_taught_68 : decode cX12_taught 68 = .ok (.iinc 3 1, 3) := by decide +kernel
theorem dX12_taught_71 : decode cX12_taught 71 = .ok (.goto (-56), 3) := by decide +kernel
theorem dX12_taught_74 : decode cX12_taught 74 = .ok (.iload_n 2, 1) := by decide +kernel
theorem dX12_taught_75 : decode cX12_taught 75 = .ok (.ireturn, 1) := by decide +kernel
theorem dX12_deepest_0 : decode cX12_deepest 0 = .ok (.aload_n 0, 1) := by decide +kernel
theorem dX12_deepest_1 : decode cX12_deepest 1 = .ok (.invokevirtual 303, 3) := by decide +kernel
theorem dX12_deepest_4 : decode cX12_deepest 4 = .ok (.ifCond .ne 6, 3) := by decide +kernel
theorem dX12_deepest_7 : decode cX12_deepest 7 = .ok (.bipush (-2), 2) := by decide +kernel
theorem dX12_deepest_9 : decode cX12_deepest 9 = .ok (.ireturn, 1) := by decide +kernel
theorem dX12_deepest_10 : decode cX12_deepest 10 = .ok (.iconst (-1), 1) := by decide +kernel
theorem dX12_deepest_11 : decode cX12_deepest 11 = .ok (.istore_n 1, 1) := by decide +kernel
theorem dX12_deepest_12 : decode cX12_deepest 12 = .ok (.iconst 0, 1) := by decide +kernel
theorem dX12_deepest_13 : decode cX12_deepest 13 = .ok (.istore_n 2, 1) := by decide +kernel
theorem dX12_deepest_14 : decode cX12_deepest 14 = .ok (.iload_n 2, 1) := by decide +kernel
theorem dX12_deepest_15 : decode cX12_deepest 15 = .ok (.aload_n 0, 1) := by decide +kernel
theorem dX12_deepest_16 : decode cX12_deepest 16 = .ok (.invokevirtual 82, 3) := by decide +kernel
theorem dX12_deepest_19 : decode cX12_deepest 19 = .ok (.if_icmp .gt 41, 3) := by decide +kernel
theorem dX12_deepest_22 : decode cX12_deepest 22 = .ok (.iconst 0, 1) := by decide +kernel
theorem dX12_deepest_23 : decode cX12_deepest 23 = .ok (.istore_n 3, 1) := by decide +kernel
theorem dX12_deepest_24 : decode cX12_deepest 24 = .ok (.iload_n 3, 1) := by decide +kernel
theorem dX12_deepest_25 : decode cX12_deepest 25 = .ok (.aload_n 0, 1) := by decide +kernel
theorem dX12_deepest_26 : decode cX12_deepest 26 = .ok (.invokevirtual 74, 3) := by decide +kernel
theorem dX12_deepest_29 : decode cX12_deepest 29 = .ok (.if_icmp .ge 25, 3) := by decide +kernel
theorem dX12_deepest_32 : decode cX12_deepest 32 = .ok (.iload_n 1, 1) := by decide +kernel
theorem dX12_deepest_33 : decode cX12_deepest 33 = .ok (.aload_n 0, 1) := by decide +kernel
theorem dX12_deepest_34 : decode cX12_deepest 34 = .ok (.getfield 43, 3) := by decide +kernel
theorem dX12_deepest_37 : decode cX12_deepest 37 = .ok (.bipush 7, 2) := by decide +kernel
theorem dX12_deepest_39 : decode cX12_deepest 39 = .ok (.iload_n 2, 1) := by decide +kernel
theorem dX12_deepest_40 : decode cX12_deepest 40 = .ok (.imul, 1) := by decide +kernel
theorem dX12_deepest_41 : decode cX12_deepest 41 = .ok (.iload_n 3, 1) := by decide +kernel
theorem dX12_deepest_42 : decode cX12_deepest 42 = .ok (.iadd, 1) := by decide +kernel
theorem dX12_deepest_43 : decode cX12_deepest 43 = .ok (.iaload, 1) := by decide +kernel
theorem dX12_deepest_44 : decode cX12_deepest 44 = .ok (.invokestatic 340, 3) := by decide +kernel
theorem dX12_deepest_47 : decode cX12_deepest 47 = .ok (.istore_n 1, 1) := by decide +kernel
theorem dX12_deepest_48 : decode cX12_deepest 48 = .ok (.iinc 3 1, 3) := by decide +kernel
theorem dX12_deepest_51 : decode cX12_deepest 51 = .ok (.goto (-27), 3) := by decide +kernel
theorem dX12_deepest_54 : decode cX12_deepest 54 = .ok (.iinc 2 1, 3) := by decide +kernel
theorem dX12_deepest_57 : decode cX12_deepest 57 = .ok (.goto (-43), 3) := by decide +kernel
theorem dX12_deepest_60 : decode cX12_deepest 60 = .ok (.iload_n 1, 1) := by decide +kernel
theorem dX12_deepest_61 : decode cX12_deepest 61 = .ok (.ireturn, 1) := by decide +kernel
theorem dX12_fresh_0 : decode cX12_fresh 0 = .ok (.aload_n 0, 1) := by decide +kernel
theorem dX12_fresh_1 : decode cX12_fresh 1 = .ok (.iload_n 1, 1) := by decide +kernel
theorem dX12_fresh_2 : decode cX12_fresh 2 = .ok (.invokevirtual 318, 3) := by decide +kernel
theorem dX12_fresh_5 : decode cX12_fresh 5 = .ok (.ifCond .ne 6, 3) := by decide +kernel
theorem dX12_fresh_8 : decode cX12_fresh 8 = .ok (.bipush (-2), 2) := by decide +kernel
theorem dX12_fresh_10 : decode cX12_fresh 10 = .ok (.ireturn, 1) := by decide +kernel
theorem dX12_fresh_11 : decode cX12_fresh 11 = .ok (.iconst 0, 1) := by decide +kernel
theorem dX12_fresh_12 : decode cX12_fresh 12 = .ok (.istore_n 2, 1) := by decide +kernel
theorem dX12_fresh_13 : decode cX12_fresh 13 = .ok (.iconst 0, 1) := by decide +kernel
theorem dX12_fresh_14 : decode cX12_fresh 14 = .ok (.istore_n 3, 1) := by decide +kernel
theorem dX12_fresh_15 : decode cX12_fresh 15 = .ok (.iload_n 3, 1) := by decide +kernel
theorem dX12_fresh_16 : decode cX12_fresh 16 = .ok (.aload_n 0, 1) := by decide +kernel
theorem dX12_fresh_17 : decode cX12_fresh 17 = .ok (.invokevirtual 74, 3) := by decide +kernel
theorem dX12_fresh_20 : decode cX12_fresh 20 = .ok (.if_icmp .ge 34, 3) := by decide +kernel
theorem dX12_fresh_23 : decode cX12_fresh 23 = .ok (.iload_n 2, 1) := by decide +kernel
theorem dX12_fresh_24 : decode cX12_fresh 24 = .ok (.aload_n 0, 1) := by decide +kernel
theorem dX12_fresh_25 : decode cX12_fresh 25 = .ok (.getfield 40, 3) := by decide +kernel
theorem dX12_fresh_28 : decode cX12_fresh 28 = .ok (.bipush 7, 2) := by decide +kernel
theorem dX12_fresh_30 : decode cX12_fresh 30 = .ok (.iload_n 1, 1) := by decide +kernel
theorem dX12_fresh_31 : decode cX12_fresh 31 = .ok (.imul, 1) := by decide +kernel
theorem dX12_fresh_32 : decode cX12_fresh 32 = .ok (.iload_n 3, 1) := by decide +kernel
theorem dX12_fresh_33 : decode cX12_fresh 33 = .ok (.iadd, 1) := by decide +kernel
theorem dX12_fresh_34 : decode cX12_fresh 34 = .ok (.iaload, 1) := by decide +kernel
theorem dX12_fresh_35 : decode cX12_fresh 35 = .ok (.iload_n 1, 1) := by decide +kernel
theorem dX12_fresh_36 : decode cX12_fresh 36 = .ok (.if_icmp .ne 9, 3) := by decide +kernel
theorem dX12_fresh_39 : decode cX12_fresh 39 = .ok (.iconst 1, 1) := by decide +kernel
theorem dX12_fresh_40 : decode cX12_fresh 40 = .ok (.iload_n 3, 1) := by decide +kernel
theorem dX12_fresh_41 : decode cX12_fresh 41 = .ok (.ishl, 1) := by decide +kernel
theorem dX12_fresh_42 : decode cX12_fresh 42 = .ok (.goto 4, 3) := by decide +kernel
theorem dX12_fresh_45 : decode cX12_fresh 45 = .ok (.iconst 0, 1) := by decide +kernel
theorem dX12_fresh_46 : decode cX12_fresh 46 = .ok (.ior, 1) := by decide +kernel
theorem dX12_fresh_47 : decode cX12_fresh 47 = .ok (.istore_n 2, 1) := by decide +kernel
theorem dX12_fresh_48 : decode cX12_fresh 48 = .ok (.iinc 3 1, 3) := by decide +kernel
theorem dX12_fresh_51 : decode cX12_fresh 51 = .ok (.goto (-36), 3) := by decide +kernel
theorem dX12_fresh_54 : decode cX12_fresh 54 = .ok (.iload_n 2, 1) := by decide +kernel
theorem dX12_fresh_55 : decode cX12_fresh 55 = .ok (.ireturn, 1) := by decide +kernel
theorem dX12_gone_0 : decode cX12_gone 0 = .ok (.aload_n 0, 1) := by decide +kernel
theorem dX12_gone_1 : decode cX12_gone 1 = .ok (.iload_n 1, 1) := by decide +kernel
theorem dX12_gone_2 : decode cX12_gone 2 = .ok (.invokevirtual 318, 3) := by decide +kernel
theorem dX12_gone_5 : decode cX12_gone 5 = .ok (.ifCond .ne 6, 3) := by decide +kernel
theorem dX12_gone_8 : decode cX12_gone 8 = .ok (.bipush (-2), 2) := by decide +kernel
theorem dX12_gone_10 : decode cX12_gone 10 = .ok (.ireturn, 1) := by decide +kernel
theorem dX12_gone_11 : decode cX12_gone 11 = .ok (.iload_n 1, 1) := by decide +kernel
theorem dX12_gone_12 : decode cX12_gone 12 = .ok (.ifCond .ne 7, 3) := by decide +kernel
theorem dX12_gone_15 : decode cX12_gone 15 = .ok (.iconst 0, 1) := by decide +kernel
theorem dX12_gone_16 : decode cX12_gone 16 = .ok (.goto 18, 3) := by decide +kernel
theorem dX12_gone_19 : decode cX12_gone 19 = .ok (.aload_n 0, 1) := by decide +kernel
theorem dX12_gone_20 : decode cX12_gone 20 = .ok (.iload_n 1, 1) := by decide +kernel
theorem dX12_gone_21 : decode cX12_gone 21 = .ok (.iconst 1, 1) := by decide +kernel
theorem dX12_gone_22 : decode cX12_gone 22 = .ok (.isub, 1) := by decide +kernel
theorem dX12_gone_23 : decode cX12_gone 23 = .ok (.invokevirtual 309, 3) := by decide +kernel
theorem dX12_gone_26 : decode cX12_gone 26 = .ok (.aload_n 0, 1) := by decide +kernel
theorem dX12_gone_27 : decode cX12_gone 27 = .ok (.iload_n 1, 1) := by decide +kernel
theorem dX12_gone_28 : decode cX12_gone 28 = .ok (.invokevirtual 309, 3) := by decide +kernel
theorem dX12_gone_31 : decode cX12_gone 31 = .ok (.iconst (-1), 1) := by decide +kernel
theorem dX12_gone_32 : decode cX12_gone 32 = .ok (.ixor, 1) := by decide +kernel
theorem dX12_gone_33 : decode cX12_gone 33 = .ok (.iand, 1) := by decide +kernel
theorem dX12_gone_34 : decode cX12_gone 34 = .ok (.ireturn, 1) := by decide +kernel
theorem dX12_numberAt_0 : decode cX12_numberAt 0 = .ok (.aload_n 0, 1) := by decide +kernel
theorem dX12_numberAt_1 : decode cX12_numberAt 1 = .ok (.getfield 58, 3) := by decide +kernel
theorem dX12_numberAt_4 : decode cX12_numberAt 4 = .ok (.bipush 60, 2) := by decide +kernel
theorem dX12_numberAt_6 : decode cX12_numberAt 6 = .ok (.iload_n 1, 1) := by decide +kernel
theorem dX12_numberAt_7 : decode cX12_numberAt 7 = .ok (.imul, 1) := by decide +kernel
theorem dX12_numberAt_8 : decode cX12_numberAt 8 = .ok (.iload_n 2, 1) := by decide +kernel
theorem dX12_numberAt_9 : decode cX12_numberAt 9 = .ok (.iadd, 1) := by decide +kernel
theorem dX12_numberAt_10 : decode cX12_numberAt 10 = .ok (.laload, 1) := by decide +kernel
theorem dX12_numberAt_11 : decode cX12_numberAt 11 = .ok (.lreturn, 1) := by decide +kernel
theorem dX12_askRow_0 : decode cX12_askRow 0 = .ok (.iload_n 1, 1) := by decide +kernel
theorem dX12_askRow_1 : decode cX12_askRow 1 = .ok (.invokestatic 343, 3) := by decide +kernel
theorem dX12_askRow_4 : decode cX12_askRow 4 = .ok (.ifCond .eq 21, 3) := by decide +kernel
theorem dX12_askRow_7 : decode cX12_askRow 7 = .ok (.aload_n 0, 1) := by decide +kernel
theorem dX12_askRow_8 : decode cX12_askRow 8 = .ok (.iload_n 2, 1) := by decide +kernel
theorem dX12_askRow_9 : decode cX12_askRow 9 = .ok (.i2l, 1) := by decide +kernel
theorem dX12_askRow_10 : decode cX12_askRow 10 = .ok (.invokevirtual 218, 3) := by decide +kernel
theorem dX12_askRow_13 : decode cX12_askRow 13 = .ok (.ifCond .eq 12, 3) := by decide +kernel
theorem dX12_askRow_16 : decode cX12_askRow 16 = .ok (.aload_n 0, 1) := by decide +kernel
theorem dX12_askRow_17 : decode cX12_askRow 17 = .ok (.iload_n 3, 1) := by decide +kernel
theorem dX12_askRow_18 : decode cX12_askRow 18 = .ok (.i2l, 1) := by decide +kernel
theorem dX12_askRow_19 : decode cX12_askRow 19 = .ok (.invokevirtual 218, 3) := by decide +kernel
theorem dX12_askRow_22 : decode cX12_askRow 22 = .ok (.ifCond .ne 6, 3) := by decide +kernel
theorem dX12_askRow_25 : decode cX12_askRow 25 = .ok (.bipush (-2), 2) := by decide +kernel
theorem dX12_askRow_27 : decode cX12_askRow 27 = .ok (.ireturn, 1) := by decide +kernel
theorem dX12_askRow_28 : decode cX12_askRow 28 = .ok (.aload_n 0, 1) := by decide +kernel
theorem dX12_askRow_29 : decode cX12_askRow 29 = .ok (.getfield 52, 3) := by decide +kernel
theorem dX12_askRow_32 : decode cX12_askRow 32 = .ok (.iload_n 1, 1) := by decide +kernel
theorem dX12_askRow_33 : decode cX12_askRow 33 = .ok (.iaload, 1) := by decide +kernel
theorem dX12_askRow_34 : decode cX12_askRow 34 = .ok (.iconst (-1), 1) := by decide +kernel
theorem dX12_askRow_35 : decode cX12_askRow 35 = .ok (.if_icmp .ne 6, 3) := by decide +kernel
theorem dX12_askRow_38 : decode cX12_askRow 38 = .ok (.bipush (-6), 2) := by decide +kernel
theorem dX12_askRow_40 : decode cX12_askRow 40 = .ok (.ireturn, 1) := by decide +kernel
theorem dX12_askRow_41 : decode cX12_askRow 41 = .ok (.aload_n 0, 1) := by decide +kernel
theorem dX12_askRow_42 : decode cX12_askRow 42 = .ok (.getfield 52, 3) := by decide +kernel
theorem dX12_askRow_45 : decode cX12_askRow 45 = .ok (.iload_n 1, 1) := by decide +kernel
theorem dX12_askRow_46 : decode cX12_askRow 46 = .ok (.iaload, 1) := by decide +kernel
theorem dX12_askRow_47 : decode cX12_askRow 47 = .ok (.i2l, 1) := by decide +kernel
theorem dX12_askRow_48 : decode cX12_askRow 48 = .ok (.lconst 1, 1) := by decide +kernel
theorem dX12_askRow_49 : decode cX12_askRow 49 = .ok (.ldc2_w 346, 3) := by decide +kernel
theorem dX12_askRow_52 : decode cX12_askRow 52 = .ok (.invokestatic 70, 3) := by decide +kernel
theorem dX12_askRow_55 : decode cX12_askRow 55 = .ok (.ifCond .ne 6, 3) := by decide +kernel
theorem dX12_askRow_58 : decode cX12_askRow 58 = .ok (.bipush (-2), 2) := by decide +kernel
theorem dX12_askRow_60 : decode cX12_askRow 60 = .ok (.ireturn, 1) := by decide +kernel
theorem dX12_askRow_61 : decode cX12_askRow 61 = .ok (.aload_n 0, 1) := by decide +kernel
theorem dX12_askRow_62 : decode cX12_askRow 62 = .ok (.iconst 0, 1) := by decide +kernel
theorem dX12_askRow_63 : decode cX12_askRow 63 = .ok (.putfield 348, 3) := by decide +kernel
theorem dX12_askRow_66 : decode cX12_askRow 66 = .ok (.iconst 0, 1) := by decide +kernel
theorem dX12_askRow_67 : decode cX12_askRow 67 = .ok (.istore 4, 2) := by decide +kernel
theorem dX12_askRow_69 : decode cX12_askRow 69 = .ok (.iload 4, 2) := by decide +kernel
theorem dX12_askRow_71 : decode cX12_askRow 71 = .ok (.aload_n 0, 1) := by decide +kernel
theorem dX12_askRow_72 : decode cX12_askRow 72 = .ok (.getfield 52, 3) := by decide +kernel
theorem dX12_askRow_75 : decode cX12_askRow 75 = .ok (.iload_n 1, 1) := by decide +kernel
theorem dX12_askRow_76 : decode cX12_askRow 76 = .ok (.iaload, 1) := by decide +kernel
theorem dX12_askRow_77 : decode cX12_askRow 77 = .ok (.if_icmp .ge 48, 3) := by decide +kernel
theorem dX12_askRow_80 : decode cX12_askRow 80 = .ok (.aload_n 0, 1) := by decide +kernel
theorem dX12_askRow_81 : decode cX12_askRow 81 = .ok (.iload_n 1, 1) := by decide +kernel
theorem dX12_askRow_82 : decode cX12_askRow 82 = .ok (.iload 4, 2) := by decide +kernel
theorem dX12_askRow_84 : decode cX12_askRow 84 = .ok (.invokevirtual 351, 3) := by decide +kernel
theorem dX12_askRow_87 : decode cX12_askRow 87 = .ok (.lconst 1, 1) := by decide +kernel
theorem dX12_askRow_88 : decode cX12_askRow 88 = .ok (.ldc2_w 183, 3) := by decide +kernel
theorem dX12_askRow_91 : decode cX12_askRow 91 = .ok (.invokestatic 70, 3) := by decide +kernel
theorem dX12_askRow_94 : decode cX12_askRow 94 = .ok (.ifCond .ne 6, 3) := by decide +kernel
theorem dX12_askRow_97 : decode cX12_askRow 97 = .ok (.bipush (-2), 2) := by decide +kernel
theorem dX12_askRow_99 : decode cX12_askRow 99 = .ok (.ireturn, 1) := by decide +kernel
theorem dX12_askRow_100 : decode cX12_askRow 100 = .ok (.aload_n 0, 1) := by decide +kernel
theorem dX12_askRow_101 : decode cX12_askRow 101 = .ok (.iconst 5, 1) := by decide +kernel
theorem dX12_askRow_102 : decode cX12_askRow 102 = .ok (.aload_n 0, 1) := by decide +kernel
theorem dX12_askRow_103 : decode cX12_askRow 103 = .ok (.getfield 348, 3) := by decide +kernel
theorem dX12_askRow_106 : decode cX12_askRow 106 = .ok (.imul, 1) := by decide +kernel
theorem dX12_askRow_107 : decode cX12_askRow 107 = .ok (.aload_n 0, 1) := by decide +kernel
theorem dX12_askRow_108 : decode cX12_askRow 108 = .ok (.iload_n 1, 1) := by decide +kernel
theorem dX12_askRow_109 : decode cX12_askRow 109 = .ok (.iload 4, 2) := by decide +kernel
theorem dX12_askRow_111 : decode cX12_askRow 111 = .ok (.invokevirtual 351, 3) := by decide +kernel
theorem dX12_askRow_114 : decode cX12_askRow 114 = .ok (.l2i, 1) := by decide +kernel
theorem dX12_askRow_115 : decode cX12_askRow 115 = .ok (.iadd, 1) := by decide +kernel
theorem dX12_askRow_116 : decode cX12_askRow 116 = .ok (.putfield 348, 3) := by decide +kernel
theorem dX12_askRow_119 : decode cX12_askRow 119 = .ok (.iinc 4 1, 3) := by decide +kernel
theorem dX12_askRow_122 : decode cX12_askRow 122 = .ok (.goto (-53), 3) := by decide +kernel
theorem dX12_askRow_125 : decode cX12_askRow 125 = .ok (.iconst 0, 1) := by decide +kernel
theorem dX12_askRow_126 : decode cX12_askRow 126 = .ok (.ireturn, 1) := by decide +kernel
theorem dX12_heardTwice_0 : decode cX12_heardTwice 0 = .ok (.aload_n 0, 1) := by decide +kernel
theorem dX12_heardTwice_1 : decode cX12_heardTwice 1 = .ok (.iload_n 1, 1) := by decide +kernel
theorem dX12_heardTwice_2 : decode cX12_heardTwice 2 = .ok (.iload_n 3, 1) := by decide +kernel
theorem dX12_heardTwice_3 : decode cX12_heardTwice 3 = .ok (.invokevirtual 285, 3) := by decide +kernel
theorem dX12_heardTwice_6 : decode cX12_heardTwice 6 = .ok (.istore 4, 2) := by decide +kernel
theorem dX12_heardTwice_8 : decode cX12_heardTwice 8 = .ok (.iload 4, 2) := by decide +kernel
theorem dX12_heardTwice_10 : decode cX12_heardTwice 10 = .ok (.ifCond .ne 7, 3) := by decide +kernel
theorem dX12_heardTwice_13 : decode cX12_heardTwice 13 = .ok (.iconst 0, 1) := by decide +kernel
theorem dX12_heardTwice_14 : decode cX12_heardTwice 14 = .ok (.goto 10, 3) := by decide +kernel
theorem dX12_heardTwice_17 : decode cX12_heardTwice 17 = .ok (.aload_n 0, 1) := by decide +kernel
theorem dX12_heardTwice_18 : decode cX12_heardTwice 18 = .ok (.iload_n 2, 1) := by decide +kernel
theorem dX12_heardTwice_19 : decode cX12_heardTwice 19 = .ok (.iload 4, 2) := by decide +kernel
theorem dX12_heardTwice_21 : decode cX12_heardTwice 21 = .ok (.invokevirtual 285, 3) := by decide +kernel
theorem dX12_heardTwice_24 : decode cX12_heardTwice 24 = .ok (.ireturn, 1) := by decide +kernel
theorem dX12_hears_0 : decode cX12_hears 0 = .ok (.aload_n 0, 1) := by decide +kernel
theorem dX12_hears_1 : decode cX12_hears 1 = .ok (.iload_n 1, 1) := by decide +kernel
theorem dX12_hears_2 : decode cX12_hears 2 = .ok (.iload_n 2, 1) := by decide +kernel
theorem dX12_hears_3 : decode cX12_hears 3 = .ok (.iload_n 3, 1) := by decide +kernel
theorem dX12_hears_4 : decode cX12_hears 4 = .ok (.invokevirtual 355, 3) := by decide +kernel
theorem dX12_hears_7 : decode cX12_hears 7 = .ok (.istore 4, 2) := by decide +kernel
theorem dX12_hears_9 : decode cX12_hears 9 = .ok (.iload 4, 2) := by decide +kernel
theorem dX12_hears_11 : decode cX12_hears 11 = .ok (.ifCond .ge 8, 3) := by decide +kernel
theorem dX12_hears_14 : decode cX12_hears 14 = .ok (.iload 4, 2) := by decide +kernel
theorem dX12_hears_16 : decode cX12_hears 16 = .ok (.goto 16, 3) := by decide +kernel
theorem dX12_hears_19 : decode cX12_hears 19 = .ok (.aload_n 0, 1) := by decide +kernel
theorem dX12_hears_20 : decode cX12_hears 20 = .ok (.iload_n 2, 1) := by decide +kernel
theorem dX12_hears_21 : decode cX12_hears 21 = .ok (.iload_n 3, 1) := by decide +kernel
theorem dX12_hears_22 : decode cX12_hears 22 = .ok (.aload_n 0, 1) := by decide +kernel
theorem dX12_hears_23 : decode cX12_hears 23 = .ok (.getfield 348, 3) := by decide +kernel
theorem dX12_hears_26 : decode cX12_hears 26 = .ok (.invokevirtual 359, 3) := by decide +kernel
theorem dX12_hears_29 : decode cX12_hears 29 = .ok (.invokestatic 225, 3) := by decide +kernel
theorem dX12_hears_32 : decode cX12_hears 32 = .ok (.ireturn, 1) := by decide +kernel
theorem dX12_heard_0 : decode cX12_heard 0 = .ok (.iload 4, 2) := by decide +kernel
theorem dX12_heard_2 : decode cX12_heard 2 = .ok (.ifCond .ge 8, 3) := by decide +kernel
theorem dX12_heard_5 : decode cX12_heard 5 = .ok (.bipush (-2), 2) := by decide +kernel
theorem dX12_heard_7 : decode cX12_heard 7 = .ok (.goto 10, 3) := by decide +kernel
theorem dX12_heard_10 : decode cX12_heard 10 = .ok (.aload_n 0, 1) := by decide +kernel
theorem dX12_heard_11 : decode cX12_heard 11 = .ok (.iload_n 1, 1) := by decide +kernel
theorem dX12_heard_12 : decode cX12_heard 12 = .ok (.iload_n 2, 1) := by decide +kernel
theorem dX12_heard_13 : decode cX12_heard 13 = .ok (.iload_n 3, 1) := by decide +kernel
theorem dX12_heard_14 : decode cX12_heard 14 = .ok (.invokevirtual 355, 3) := by decide +kernel
theorem dX12_heard_17 : decode cX12_heard 17 = .ok (.istore 5, 2) := by decide +kernel
theorem dX12_heard_19 : decode cX12_heard 19 = .ok (.iload 5, 2) := by decide +kernel
theorem dX12_heard_21 : decode cX12_heard 21 = .ok (.ifCond .ge 8, 3) := by decide +kernel
theorem dX12_heard_24 : decode cX12_heard 24 = .ok (.iload 5, 2) := by decide +kernel
theorem dX12_heard_26 : decode cX12_heard 26 = .ok (.goto 18, 3) := by decide +kernel
theorem dX12_heard_29 : decode cX12_heard 29 = .ok (.aload_n 0, 1) := by decide +kernel
theorem dX12_heard_30 : decode cX12_heard 30 = .ok (.iload_n 2, 1) := by decide +kernel
theorem dX12_heard_31 : decode cX12_heard 31 = .ok (.iload_n 3, 1) := by decide +kernel
theorem dX12_heard_32 : decode cX12_heard 32 = .ok (.aload_n 0, 1) := by decide +kernel
theorem dX12_heard_33 : decode cX12_heard 33 = .ok (.getfield 348, 3) := by decide +kernel
theorem dX12_heard_36 : decode cX12_heard 36 = .ok (.invokevirtual 359, 3) := by decide +kernel
theorem dX12_heard_39 : decode cX12_heard 39 = .ok (.iload 4, 2) := by decide +kernel
theorem dX12_heard_41 : decode cX12_heard 41 = .ok (.invokestatic 231, 3) := by decide +kernel
theorem dX12_heard_44 : decode cX12_heard 44 = .ok (.ireturn, 1) := by decide +kernel
theorem dX12_round_0 : decode cX12_round 0 = .ok (.aload_n 0, 1) := by decide +kernel
theorem dX12_round_1 : decode cX12_round 1 = .ok (.iload_n 1, 1) := by decide +kernel
theorem dX12_round_2 : decode cX12_round 2 = .ok (.iload_n 2, 1) := by decide +kernel
theorem dX12_round_3 : decode cX12_round 3 = .ok (.iload_n 3, 1) := by decide +kernel
theorem dX12_round_4 : decode cX12_round 4 = .ok (.invokevirtual 355, 3) := by decide +kernel
theorem dX12_round_7 : decode cX12_round 7 = .ok (.istore 4, 2) := by decide +kernel
theorem dX12_round_9 : decode cX12_round 9 = .ok (.iload 4, 2) := by decide +kernel
theorem dX12_round_11 : decode cX12_round 11 = .ok (.ifCond .ge 6, 3) := by decide +kernel
theorem dX12_round_14 : decode cX12_round 14 = .ok (.iload 4, 2) := by decide +kernel
theorem dX12_round_16 : decode cX12_round 16 = .ok (.ireturn, 1) := by decide +kernel
theorem dX12_round_17 : decode cX12_round 17 = .ok (.aload_n 0, 1) := by decide +kernel
theorem dX12_round_18 : decode cX12_round 18 = .ok (.getfield 348, 3) := by decide +kernel
theorem dX12_round_21 : decode cX12_round 21 = .ok (.istore 5, 2) := by decide +kernel
theorem dX12_round_23 : decode cX12_round 23 = .ok (.iconst 1, 1) := by decide +kernel
theorem dX12_round_24 : decode cX12_round 24 = .ok (.istore 6, 2) := by decide +kernel
theorem dX12_round_26 : decode cX12_round 26 = .ok (.iload 6, 2) := by decide +kernel
theorem dX12_round_28 : decode cX12_round 28 = .ok (.bipush 50, 2) := by decide +kernel
theorem dX12_round_30 : decode cX12_round 30 = .ok (.if_icmp .gt 38, 3) := by decide +kernel
theorem dX12_round_33 : decode cX12_round 33 = .ok (.aload_n 0, 1) := by decide +kernel
theorem dX12_round_34 : decode cX12_round 34 = .ok (.iload_n 2, 1) := by decide +kernel
theorem dX12_round_35 : decode cX12_round 35 = .ok (.iload_n 3, 1) := by decide +kernel
theorem dX12_round_36 : decode cX12_round 36 = .ok (.iload 5, 2) := by decide +kernel
theorem dX12_round_38 : decode cX12_round 38 = .ok (.invokevirtual 359, 3) := by decide +kernel
theorem dX12_round_41 : decode cX12_round 41 = .ok (.istore 5, 2) := by decide +kernel
theorem dX12_round_43 : decode cX12_round 43 = .ok (.iload 5, 2) := by decide +kernel
theorem dX12_round_45 : decode cX12_round 45 = .ok (.aload_n 0, 1) := by decide +kernel
theorem dX12_round_46 : decode cX12_round 46 = .ok (.getfield 348, 3) := by decide +kernel
theorem dX12_round_49 : decode cX12_round 49 = .ok (.if_icmp .ne 6, 3) := by decide +kernel
theorem dX12_round_52 : decode cX12_round 52 = .ok (.iload 6, 2) := by decide +kernel
theorem dX12_round_54 : decode cX12_round 54 = .ok (.ireturn, 1) := by decide +kernel
theorem dX12_round_55 : decode cX12_round 55 = .ok (.iload 5, 2) := by decide +kernel
theorem dX12_round_57 : decode cX12_round 57 = .ok (.ifCond .ne 5, 3) := by decide +kernel
theorem dX12_round_60 : decode cX12_round 60 = .ok (.iconst (-1), 1) := by decide +kernel
theorem dX12_round_61 : decode cX12_round 61 = .ok (.ireturn, 1) := by decide +kernel
theorem dX12_round_62 : decode cX12_round 62 = .ok (.iinc 6 1, 3) := by decide +kernel
theorem dX12_round_65 : decode cX12_round 65 = .ok (.goto (-39), 3) := by decide +kernel
theorem dX12_round_68 : decode cX12_round 68 = .ok (.iconst (-1), 1) := by decide +kernel
theorem dX12_round_69 : decode cX12_round 69 = .ok (.ireturn, 1) := by decide +kernel
theorem dX12_isSaying_0 : decode cX12_isSaying 0 = .ok (.iload_n 1, 1) := by decide +kernel
theorem dX12_isSaying_1 : decode cX12_isSaying 1 = .ok (.istore_n 2, 1) := by decide +kernel
theorem dX12_isSaying_2 : decode cX12_isSaying 2 = .ok (.iload_n 2, 1) := by decide +kernel
theorem dX12_isSaying_3 : decode cX12_isSaying 3 = .ok (.ifCond .le 18, 3) := by decide +kernel
theorem dX12_isSaying_6 : decode cX12_isSaying 6 = .ok (.iload_n 2, 1) := by decide +kernel
theorem dX12_isSaying_7 : decode cX12_isSaying 7 = .ok (.iconst 5, 1) := by decide +kernel
theorem dX12_isSaying_8 : decode cX12_isSaying 8 = .ok (.irem, 1) := by decide +kernel
theorem dX12_isSaying_9 : decode cX12_isSaying 9 = .ok (.ifCond .ne 5, 3) := by decide +kernel
theorem dX12_isSaying_12 : decode cX12_isSaying 12 = .ok (.iconst 0, 1) := by decide +kernel
theorem dX12_isSaying_13 : decode cX12_isSaying 13 = .ok (.ireturn, 1) := by decide +kernel
theorem dX12_isSaying_14 : decode cX12_isSaying 14 = .ok (.iload_n 2, 1) := by decide +kernel
theorem dX12_isSaying_15 : decode cX12_isSaying 15 = .ok (.iconst 5, 1) := by decide +kernel
theorem dX12_isSaying_16 : decode cX12_isSaying 16 = .ok (.idiv, 1) := by decide +kernel
theorem dX12_isSaying_17 : decode cX12_isSaying 17 = .ok (.istore_n 2, 1) := by decide +kernel
theorem dX12_isSaying_18 : decode cX12_isSaying 18 = .ok (.goto (-16), 3) := by decide +kernel
theorem dX12_isSaying_21 : decode cX12_isSaying 21 = .ok (.iconst 1, 1) := by decide +kernel
theorem dX12_isSaying_22 : decode cX12_isSaying 22 = .ok (.ireturn, 1) := by decide +kernel
theorem dX12_layFirst_0 : decode cX12_layFirst 0 = .ok (.aload_n 0, 1) := by decide +kernel
theorem dX12_layFirst_1 : decode cX12_layFirst 1 = .ok (.iconst 0, 1) := by decide +kernel
theorem dX12_layFirst_2 : decode cX12_layFirst 2 = .ok (.putfield 362, 3) := by decide +kernel
theorem dX12_layFirst_5 : decode cX12_layFirst 5 = .ok (.aload_n 0, 1) := by decide +kernel
theorem dX12_layFirst_6 : decode cX12_layFirst 6 = .ok (.iconst 0, 1) := by decide +kernel
theorem dX12_layFirst_7 : decode cX12_layFirst 7 = .ok (.putfield 365, 3) := by decide +kernel
theorem dX12_layFirst_10 : decode cX12_layFirst 10 = .ok (.aload_n 0, 1) := by decide +kernel
theorem dX12_layFirst_11 : decode cX12_layFirst 11 = .ok (.invokevirtual 297, 3) := by decide +kernel
theorem dX12_layFirst_14 : decode cX12_layFirst 14 = .ok (.aload_n 0, 1) := by decide +kernel
theorem dX12_layFirst_15 : decode cX12_layFirst 15 = .ok (.iconst 1, 1) := by decide +kernel
theorem dX12_layFirst_16 : decode cX12_layFirst 16 = .ok (.iload_n 1, 1) := by decide +kernel
theorem dX12_layFirst_17 : decode cX12_layFirst 17 = .ok (.ishl, 1) := by decide +kernel
theorem dX12_layFirst_18 : decode cX12_layFirst 18 = .ok (.putfield 249, 3) := by decide +kernel
theorem dX12_layFirst_21 : decode cX12_layFirst 21 = .ok (.iconst 5, 1) := by decide +kernel
theorem dX12_layFirst_22 : decode cX12_layFirst 22 = .ok (.istore_n 3, 1) := by decide +kernel
theorem dX12_layFirst_23 : decode cX12_layFirst 23 = .ok (.iconst 1, 1) := by decide +kernel
theorem dX12_layFirst_24 : decode cX12_layFirst 24 = .ok (.istore 4, 2) := by decide +kernel
theorem dX12_layFirst_26 : decode cX12_layFirst 26 = .ok (.iload 4, 2) := by decide +kernel
theorem dX12_layFirst_28 : decode cX12_layFirst 28 = .ok (.iconst 4, 1) := by decide +kernel
theorem dX12_layFirst_29 : decode cX12_layFirst 29 = .ok (.if_icmp .gt 108, 3) := by decide +kernel
theorem dX12_layFirst_32 : decode cX12_layFirst 32 = .ok (.aload_n 0, 1) := by decide +kernel
theorem dX12_layFirst_33 : decode cX12_layFirst 33 = .ok (.getfield 365, 3) := by decide +kernel
theorem dX12_layFirst_36 : decode cX12_layFirst 36 = .ok (.ifCond .ne 101, 3) := by decide +kernel
theorem dX12_layFirst_39 : decode cX12_layFirst 39 = .ok (.iload_n 3, 1) := by decide +kernel
theorem dX12_layFirst_40 : decode cX12_layFirst 40 = .ok (.iconst 5, 1) := by decide +kernel
theorem dX12_layFirst_41 : decode cX12_layFirst 41 = .ok (.idiv, 1) := by decide +kernel
theorem dX12_layFirst_42 : decode cX12_layFirst 42 = .ok (.istore 5, 2) := by decide +kernel
theorem dX12_layFirst_44 : decode cX12_layFirst 44 = .ok (.iload 5, 2) := by decide +kernel
theorem dX12_layFirst_46 : decode cX12_layFirst 46 = .ok (.iload_n 3, 1) := by decide +kernel
theorem dX12_layFirst_47 : decode cX12_layFirst 47 = .ok (.if_icmp .ge 80, 3) := by decide +kernel
theorem dX12_layFirst_50 : decode cX12_layFirst 50 = .ok (.aload_n 0, 1) := by decide +kernel
theorem dX12_layFirst_51 : decode cX12_layFirst 51 = .ok (.iload 5, 2) := by decide +kernel
theorem dX12_layFirst_53 : decode cX12_layFirst 53 = .ok (.invokevirtual 368, 3) := by decide +kernel
theorem dX12_layFirst_56 : decode cX12_layFirst 56 = .ok (.ifCond .ne 6, 3) := by decide +kernel
theorem dX12_layFirst_59 : decode cX12_layFirst 59 = .ok (.goto 62, 3) := by decide +kernel
theorem dX12_layFirst_62 : decode cX12_layFirst 62 = .ok (.aload_n 0, 1) := by decide +kernel
theorem dX12_layFirst_63 : decode cX12_layFirst 63 = .ok (.iload 5, 2) := by decide +kernel
theorem dX12_layFirst_65 : decode cX12_layFirst 65 = .ok (.putfield 252, 3) := by decide +kernel
theorem dX12_layFirst_68 : decode cX12_layFirst 68 = .ok (.aload_n 0, 1) := by decide +kernel
theorem dX12_layFirst_69 : decode cX12_layFirst 69 = .ok (.invokevirtual 300, 3) := by decide +kernel
theorem dX12_layFirst_72 : decode cX12_layFirst 72 = .ok (.aload_n 0, 1) := by decide +kernel
theorem dX12_layFirst_73 : decode cX12_layFirst 73 = .ok (.iload_n 2, 1) := by decide +kernel
theorem dX12_layFirst_74 : decode cX12_layFirst 74 = .ok (.aload_n 0, 1) := by decide +kernel
theorem dX12_layFirst_75 : decode cX12_layFirst 75 = .ok (.invokevirtual 82, 3) := by decide +kernel
theorem dX12_layFirst_78 : decode cX12_layFirst 78 = .ok (.invokevirtual 275, 3) := by decide +kernel
theorem dX12_layFirst_81 : decode cX12_layFirst 81 = .ok (.aload_n 0, 1) := by decide +kernel
theorem dX12_layFirst_82 : decode cX12_layFirst 82 = .ok (.getfield 348, 3) := by decide +kernel
theorem dX12_layFirst_85 : decode cX12_layFirst 85 = .ok (.if_icmp .eq 6, 3) := by decide +kernel
theorem dX12_layFirst_88 : decode cX12_layFirst 88 = .ok (.goto 33, 3) := by decide +kernel
theorem dX12_layFirst_91 : decode cX12_layFirst 91 = .ok (.aload_n 0, 1) := by decide +kernel
theorem dX12_layFirst_92 : decode cX12_layFirst 92 = .ok (.aload_n 0, 1) := by decide +kernel
theorem dX12_layFirst_93 : decode cX12_layFirst 93 = .ok (.getfield 365, 3) := by decide +kernel
theorem dX12_layFirst_96 : decode cX12_layFirst 96 = .ok (.ifCond .ne 8, 3) := by decide +kernel
theorem dX12_layFirst_99 : decode cX12_layFirst 99 = .ok (.iload 5, 2) := by decide +kernel
theorem dX12_layFirst_101 : decode cX12_layFirst 101 = .ok (.goto 7, 3) := by decide +kernel
theorem dX12_layFirst_104 : decode cX12_layFirst 104 = .ok (.aload_n 0, 1) := by decide +kernel
theorem dX12_layFirst_105 : decode cX12_layFirst 105 = .ok (.getfield 362, 3) := by decide +kernel
theorem dX12_layFirst_108 : decode cX12_layFirst 108 = .ok (.putfield 362, 3) := by decide +kernel
theorem dX12_layFirst_111 : decode cX12_layFirst 111 = .ok (.aload_n 0, 1) := by decide +kernel
theorem dX12_layFirst_112 : decode cX12_layFirst 112 = .ok (.dup, 1) := by decide +kernel
theorem dX12_layFirst_113 : decode cX12_layFirst 113 = .ok (.getfield 365, 3) := by decide +kernel
theorem dX12_layFirst_116 : decode cX12_layFirst 116 = .ok (.iconst 1, 1) := by decide +kernel
theorem dX12_layFirst_117 : decode cX12_layFirst 117 = .ok (.iadd, 1) := by decide +kernel
theorem dX12_layFirst_118 : decode cX12_layFirst 118 = .ok (.putfield 365, 3) := by decide +kernel
theorem dX12_layFirst_121 : decode cX12_layFirst 121 = .ok (.iinc 5 1, 3) := by decide +kernel
theorem dX12_layFirst_124 : decode cX12_layFirst 124 = .ok (.goto (-80), 3) := by decide +kernel
theorem dX12_layFirst_127 : decode cX12_layFirst 127 = .ok (.iload_n 3, 1) := by decide +kernel
theorem dX12_layFirst_128 : decode cX12_layFirst 128 = .ok (.iconst 5, 1) := by decide +kernel
theorem dX12_layFirst_129 : decode cX12_layFirst 129 = .ok (.imul, 1) := by decide +kernel
theorem dX12_layFirst_130 : decode cX12_layFirst 130 = .ok (.istore_n 3, 1) := by decide +kernel
theorem dX12_layFirst_131 : decode cX12_layFirst 131 = .ok (.iinc 4 1, 3) := by decide +kernel
theorem dX12_layFirst_134 : decode cX12_layFirst 134 = .ok (.goto (-108), 3) := by decide +kernel
theorem dX12_layFirst_137 : decode cX12_layFirst 137 = .ok (.return_, 1) := by decide +kernel
theorem dX12_askFirst_0 : decode cX12_askFirst 0 = .ok (.aload_n 0, 1) := by decide +kernel
theorem dX12_askFirst_1 : decode cX12_askFirst 1 = .ok (.iload_n 1, 1) := by decide +kernel
theorem dX12_askFirst_2 : decode cX12_askFirst 2 = .ok (.iload_n 2, 1) := by decide +kernel
theorem dX12_askFirst_3 : decode cX12_askFirst 3 = .ok (.iload_n 3, 1) := by decide +kernel
theorem dX12_askFirst_4 : decode cX12_askFirst 4 = .ok (.invokevirtual 355, 3) := by decide +kernel
theorem dX12_askFirst_7 : decode cX12_askFirst 7 = .ok (.istore 4, 2) := by decide +kernel
theorem dX12_askFirst_9 : decode cX12_askFirst 9 = .ok (.iload 4, 2) := by decide +kernel
theorem dX12_askFirst_11 : decode cX12_askFirst 11 = .ok (.ifCond .ne 9, 3) := by decide +kernel
theorem dX12_askFirst_14 : decode cX12_askFirst 14 = .ok (.aload_n 0, 1) := by decide +kernel
theorem dX12_askFirst_15 : decode cX12_askFirst 15 = .ok (.iload_n 2, 1) := by decide +kernel
theorem dX12_askFirst_16 : decode cX12_askFirst 16 = .ok (.iload_n 3, 1) := by decide +kernel
theorem dX12_askFirst_17 : decode cX12_askFirst 17 = .ok (.invokevirtual 371, 3) := by decide +kernel
theorem dX12_askFirst_20 : decode cX12_askFirst 20 = .ok (.iload 4, 2) := by decide +kernel
theorem dX12_askFirst_22 : decode cX12_askFirst 22 = .ok (.ireturn, 1) := by decide +kernel
theorem dX12_first_0 : decode cX12_first 0 = .ok (.aload_n 0, 1) := by decide +kernel
theorem dX12_first_1 : decode cX12_first 1 = .ok (.iload_n 1, 1) := by decide +kernel
theorem dX12_first_2 : decode cX12_first 2 = .ok (.iload_n 2, 1) := by decide +kernel
theorem dX12_first_3 : decode cX12_first 3 = .ok (.iload_n 3, 1) := by decide +kernel
theorem dX12_first_4 : decode cX12_first 4 = .ok (.invokevirtual 374, 3) := by decide +kernel
theorem dX12_first_7 : decode cX12_first 7 = .ok (.istore 4, 2) := by decide +kernel
theorem dX12_first_9 : decode cX12_first 9 = .ok (.iload 4, 2) := by decide +kernel
theorem dX12_first_11 : decode cX12_first 11 = .ok (.ifCond .ge 8, 3) := by decide +kernel
theorem dX12_first_14 : decode cX12_first 14 = .ok (.iload 4, 2) := by decide +kernel
theorem dX12_first_16 : decode cX12_first 16 = .ok (.goto 21, 3) := by decide +kernel
theorem dX12_first_19 : decode cX12_first 19 = .ok (.aload_n 0, 1) := by decide +kernel
theorem dX12_first_20 : decode cX12_first 20 = .ok (.getfield 365, 3) := by decide +kernel
theorem dX12_first_23 : decode cX12_first 23 = .ok (.ifCond .ne 7, 3) := by decide +kernel
theorem dX12_first_26 : decode cX12_first 26 = .ok (.iconst (-1), 1) := by decide +kernel
theorem dX12_first_27 : decode cX12_first 27 = .ok (.goto 10, 3) := by decide +kernel
theorem dX12_first_30 : decode cX12_first 30 = .ok (.aload_n 0, 1) := by decide +kernel
theorem dX12_first_31 : decode cX12_first 31 = .ok (.getfield 362, 3) := by decide +kernel
theorem dX12_first_34 : decode cX12_first 34 = .ok (.invokestatic 225, 3) := by decide +kernel
theorem dX12_first_37 : decode cX12_first 37 = .ok (.ireturn, 1) := by decide +kernel
theorem dX12_letter_0 : decode cX12_letter 0 = .ok (.iload 4, 2) := by decide +kernel
theorem dX12_letter_2 : decode cX12_letter 2 = .ok (.ifCond .ge 8, 3) := by decide +kernel
theorem dX12_letter_5 : decode cX12_letter 5 = .ok (.bipush (-2), 2) := by decide +kernel
theorem dX12_letter_7 : decode cX12_letter 7 = .ok (.goto 10, 3) := by decide +kernel
theorem dX12_letter_10 : decode cX12_letter 10 = .ok (.aload_n 0, 1) := by decide +kernel
theorem dX12_letter_11 : decode cX12_letter 11 = .ok (.iload_n 1, 1) := by decide +kernel
theorem dX12_letter_12 : decode cX12_letter 12 = .ok (.iload_n 2, 1) := by decide +kernel
theorem dX12_letter_13 : decode cX12_letter 13 = .ok (.iload_n 3, 1) := by decide +kernel
theorem dX12_letter_14 : decode cX12_letter 14 = .ok (.invokevirtual 374, 3) := by decide +kernel
theorem dX12_letter_17 : decode cX12_letter 17 = .ok (.istore 5, 2) := by decide +kernel
theorem dX12_letter_19 : decode cX12_letter 19 = .ok (.iload 5, 2) := by decide +kernel
theorem dX12_letter_21 : decode cX12_letter 21 = .ok (.ifCond .ge 8, 3) := by decide +kernel
theorem dX12_letter_24 : decode cX12_letter 24 = .ok (.iload 5, 2) := by decide +kernel
theorem dX12_letter_26 : decode cX12_letter 26 = .ok (.goto 12, 3) := by decide +kernel
theorem dX12_letter_29 : decode cX12_letter 29 = .ok (.aload_n 0, 1) := by decide +kernel
theorem dX12_letter_30 : decode cX12_letter 30 = .ok (.getfield 362, 3) := by decide +kernel
theorem dX12_letter_33 : decode cX12_letter 33 = .ok (.iload 4, 2) := by decide +kernel
theorem dX12_letter_35 : decode cX12_letter 35 = .ok (.invokestatic 231, 3) := by decide +kernel
theorem dX12_letter_38 : decode cX12_letter 38 = .ok (.ireturn, 1) := by decide +kernel
theorem dX12_ways_0 : decode cX12_ways 0 = .ok (.aload_n 0, 1) := by decide +kernel
theorem dX12_ways_1 : decode cX12_ways 1 = .ok (.iload_n 1, 1) := by decide +kernel
theorem dX12_ways_2 : decode cX12_ways 2 = .ok (.iload_n 2, 1) := by decide +kernel
theorem dX12_ways_3 : decode cX12_ways 3 = .ok (.iload_n 3, 1) := by decide +kernel
theorem dX12_ways_4 : decode cX12_ways 4 = .ok (.invokevirtual 374, 3) := by decide +kernel
theorem dX12_ways_7 : decode cX12_ways 7 = .ok (.istore 4, 2) := by decide +kernel
theorem dX12_ways_9 : decode cX12_ways 9 = .ok (.iload 4, 2) := by decide +kernel
theorem dX12_ways_11 : decode cX12_ways 11 = .ok (.ifCond .ge 8, 3) := by decide +kernel
theorem dX12_ways_14 : decode cX12_ways 14 = .ok (.iload 4, 2) := by decide +kernel
theorem dX12_ways_16 : decode cX12_ways 16 = .ok (.goto 7, 3) := by decide +kernel
theorem dX12_ways_19 : decode cX12_ways 19 = .ok (.aload_n 0, 1) := by decide +kernel
theorem dX12_ways_20 : decode cX12_ways 20 = .ok (.getfield 365, 3) := by decide +kernel
theorem dX12_ways_23 : decode cX12_ways 23 = .ok (.ireturn, 1) := by decide +kernel
theorem dX12_worthOf_0 : decode cX12_worthOf 0 = .ok (.aload_n 0, 1) := by decide +kernel
theorem dX12_worthOf_1 : decode cX12_worthOf 1 = .ok (.iload_n 1, 1) := by decide +kernel
theorem dX12_worthOf_2 : decode cX12_worthOf 2 = .ok (.putfield 249, 3) := by decide +kernel
theorem dX12_worthOf_5 : decode cX12_worthOf 5 = .ok (.aload_n 0, 1) := by decide +kernel
theorem dX12_worthOf_6 : decode cX12_worthOf 6 = .ok (.invokevirtual 300, 3) := by decide +kernel
theorem dX12_worthOf_9 : decode cX12_worthOf 9 = .ok (.aload_n 0, 1) := by decide +kernel
theorem dX12_worthOf_10 : decode cX12_worthOf 10 = .ok (.invokevirtual 377, 3) := by decide +kernel
theorem dX12_worthOf_13 : decode cX12_worthOf 13 = .ok (.ireturn, 1) := by decide +kernel
theorem dX12_worth_0 : decode cX12_worth 0 = .ok (.aload_n 0, 1) := by decide +kernel
theorem dX12_worth_1 : decode cX12_worth 1 = .ok (.invokevirtual 297, 3) := by decide +kernel
theorem dX12_worth_4 : decode cX12_worth 4 = .ok (.aload_n 0, 1) := by decide +kernel
theorem dX12_worth_5 : decode cX12_worth 5 = .ok (.invokevirtual 78, 3) := by decide +kernel
theorem dX12_worth_8 : decode cX12_worth 8 = .ok (.ifCond .eq 25, 3) := by decide +kernel
theorem dX12_worth_11 : decode cX12_worth 11 = .ok (.iload_n 1, 1) := by decide +kernel
theorem dX12_worth_12 : decode cX12_worth 12 = .ok (.i2l, 1) := by decide +kernel
theorem dX12_worth_13 : decode cX12_worth 13 = .ok (.lconst 0, 1) := by decide +kernel
theorem dX12_worth_14 : decode cX12_worth 14 = .ok (.aload_n 0, 1) := by decide +kernel
theorem dX12_worth_15 : decode cX12_worth 15 = .ok (.invokevirtual 325, 3) := by decide +kernel
theorem dX12_worth_18 : decode cX12_worth 18 = .ok (.i2l, 1) := by decide +kernel
theorem dX12_worth_19 : decode cX12_worth 19 = .ok (.invokestatic 70, 3) := by decide +kernel
theorem dX12_worth_22 : decode cX12_worth 22 = .ok (.ifCond .eq 11, 3) := by decide +kernel
theorem dX12_worth_25 : decode cX12_worth 25 = .ok (.aload_n 0, 1) := by decide +kernel
theorem dX12_worth_26 : decode cX12_worth 26 = .ok (.iload_n 1, 1) := by decide +kernel
theorem dX12_worth_27 : decode cX12_worth 27 = .ok (.invokevirtual 380, 3) := by decide +kernel
theorem dX12_worth_30 : decode cX12_worth 30 = .ok (.goto 5, 3) := by decide +kernel
theorem dX12_worth_33 : decode cX12_worth 33 = .ok (.bipush (-2), 2) := by decide +kernel
theorem dX12_worth_35 : decode cX12_worth 35 = .ok (.ireturn, 1) := by decide +kernel
theorem dX12_best_0 : decode cX12_best 0 = .ok (.aload_n 0, 1) := by decide +kernel
theorem dX12_best_1 : decode cX12_best 1 = .ok (.invokevirtual 297, 3) := by decide +kernel
theorem dX12_best_4 : decode cX12_best 4 = .ok (.aload_n 0, 1) := by decide +kernel
theorem dX12_best_5 : decode cX12_best 5 = .ok (.invokevirtual 78, 3) := by decide +kernel
theorem dX12_best_8 : decode cX12_best 8 = .ok (.ifCond .ne 6, 3) := by decide +kernel
theorem dX12_best_11 : decode cX12_best 11 = .ok (.bipush (-2), 2) := by decide +kernel
theorem dX12_best_13 : decode cX12_best 13 = .ok (.ireturn, 1) := by decide +kernel
theorem dX12_best_14 : decode cX12_best 14 = .ok (.iconst (-1), 1) := by decide +kernel
theorem dX12_best_15 : decode cX12_best 15 = .ok (.istore_n 1, 1) := by decide +kernel
theorem dX12_best_16 : decode cX12_best 16 = .ok (.iconst (-1), 1) := by decide +kernel
theorem dX12_best_17 : decode cX12_best 17 = .ok (.istore_n 2, 1) := by decide +kernel
theorem dX12_best_18 : decode cX12_best 18 = .ok (.iconst 0, 1) := by decide +kernel
theorem dX12_best_19 : decode cX12_best 19 = .ok (.istore_n 3, 1) := by decide +kernel
theorem dX12_best_20 : decode cX12_best 20 = .ok (.iload_n 3, 1) := by decide +kernel
theorem dX12_best_21 : decode cX12_best 21 = .ok (.aload_n 0, 1) := by decide +kernel
theorem dX12_best_22 : decode cX12_best 22 = .ok (.invokevirtual 74, 3) := by decide +kernel
theorem dX12_best_25 : decode cX12_best 25 = .ok (.if_icmp .ge 32, 3) := by decide +kernel
theorem dX12_best_28 : decode cX12_best 28 = .ok (.aload_n 0, 1) := by decide +kernel
theorem dX12_best_29 : decode cX12_best 29 = .ok (.iconst 1, 1) := by decide +kernel
theorem dX12_best_30 : decode cX12_best 30 = .ok (.iload_n 3, 1) := by decide +kernel
theorem dX12_best_31 : decode cX12_best 31 = .ok (.ishl, 1) := by decide +kernel
theorem dX12_best_32 : decode cX12_best 32 = .ok (.invokevirtual 380, 3) := by decide +kernel
theorem dX12_best_35 : decode cX12_best 35 = .ok (.istore 4, 2) := by decide +kernel
theorem dX12_best_37 : decode cX12_best 37 = .ok (.iload 4, 2) := by decide +kernel
theorem dX12_best_39 : decode cX12_best 39 = .ok (.iload_n 2, 1) := by decide +kernel
theorem dX12_best_40 : decode cX12_best 40 = .ok (.if_icmp .gt 6, 3) := by decide +kernel
theorem dX12_best_43 : decode cX12_best 43 = .ok (.goto 8, 3) := by decide +kernel
theorem dX12_best_46 : decode cX12_best 46 = .ok (.iload 4, 2) := by decide +kernel
theorem dX12_best_48 : decode cX12_best 48 = .ok (.istore_n 2, 1) := by decide +kernel
theorem dX12_best_49 : decode cX12_best 49 = .ok (.iload_n 3, 1) := by decide +kernel
theorem dX12_best_50 : decode cX12_best 50 = .ok (.istore_n 1, 1) := by decide +kernel
theorem dX12_best_51 : decode cX12_best 51 = .ok (.iinc 3 1, 3) := by decide +kernel
theorem dX12_best_54 : decode cX12_best 54 = .ok (.goto (-34), 3) := by decide +kernel
theorem dX12_best_57 : decode cX12_best 57 = .ok (.iload_n 1, 1) := by decide +kernel
theorem dX12_best_58 : decode cX12_best 58 = .ok (.ireturn, 1) := by decide +kernel
theorem dX12_factorial_0 : decode cX12_factorial 0 = .ok (.iconst 1, 1) := by decide +kernel
theorem dX12_factorial_1 : decode cX12_factorial 1 = .ok (.istore_n 1, 1) := by decide +kernel
theorem dX12_factorial_2 : decode cX12_factorial 2 = .ok (.iconst 2, 1) := by decide +kernel
theorem dX12_factorial_3 : decode cX12_factorial 3 = .ok (.istore_n 2, 1) := by decide +kernel
theorem dX12_factorial_4 : decode cX12_factorial 4 = .ok (.iload_n 2, 1) := by decide +kernel
theorem dX12_factorial_5 : decode cX12_factorial 5 = .ok (.iload_n 0, 1) := by decide +kernel
theorem dX12_factorial_6 : decode cX12_factorial 6 = .ok (.if_icmp .gt 13, 3) := by decide +kernel
theorem dX12_factorial_9 : decode cX12_factorial 9 = .ok (.iload_n 1, 1) := by decide +kernel
theorem dX12_factorial_10 : decode cX12_factorial 10 = .ok (.iload_n 2, 1) := by decide +kernel
theorem dX12_factorial_11 : decode cX12_factorial 11 = .ok (.imul, 1) := by decide +kernel
theorem dX12_factorial_12 : decode cX12_factorial 12 = .ok (.istore_n 1, 1) := by decide +kernel
theorem dX12_factorial_13 : decode cX12_factorial 13 = .ok (.iinc 2 1, 3) := by decide +kernel
theorem dX12_factorial_16 : decode cX12_factorial 16 = .ok (.goto (-12), 3) := by decide +kernel
theorem dX12_factorial_19 : decode cX12_factorial 19 = .ok (.iload_n 1, 1) := by decide +kernel
theorem dX12_factorial_20 : decode cX12_factorial 20 = .ok (.ireturn, 1) := by decide +kernel
theorem dX12_divisor_0 : decode cX12_divisor 0 = .ok (.lload_n 0, 1) := by decide +kernel
theorem dX12_divisor_1 : decode cX12_divisor 1 = .ok (.invokestatic 383, 3) := by decide +kernel
theorem dX12_divisor_4 : decode cX12_divisor 4 = .ok (.lstore 4, 2) := by decide +kernel
theorem dX12_divisor_6 : decode cX12_divisor 6 = .ok (.lload_n 2, 1) := by decide +kernel
theorem dX12_divisor_7 : decode cX12_divisor 7 = .ok (.lstore 6, 2) := by decide +kernel
theorem dX12_divisor_9 : decode cX12_divisor 9 = .ok (.lload 6, 2) := by decide +kernel
theorem dX12_divisor_11 : decode cX12_divisor 11 = .ok (.lconst 0, 1) := by decide +kernel
theorem dX12_divisor_12 : decode cX12_divisor 12 = .ok (.lcmp, 1) := by decide +kernel
theorem dX12_divisor_13 : decode cX12_divisor 13 = .ok (.ifCond .eq 21, 3) := by decide +kernel
theorem dX12_divisor_16 : decode cX12_divisor 16 = .ok (.lload 4, 2) := by decide +kernel
theorem dX12_divisor_18 : decode cX12_divisor 18 = .ok (.lload 6, 2) := by decide +kernel
theorem dX12_divisor_20 : decode cX12_divisor 20 = .ok (.lrem, 1) := by decide +kernel
theorem dX12_divisor_21 : decode cX12_divisor 21 = .ok (.lstore 8, 2) := by decide +kernel
theorem dX12_divisor_23 : decode cX12_divisor 23 = .ok (.lload 6, 2) := by decide +kernel
theorem dX12_divisor_25 : decode cX12_divisor 25 = .ok (.lstore 4, 2) := by decide +kernel
theorem dX12_divisor_27 : decode cX12_divisor 27 = .ok (.lload 8, 2) := by decide +kernel
theorem dX12_divisor_29 : decode cX12_divisor 29 = .ok (.lstore 6, 2) := by decide +kernel
theorem dX12_divisor_31 : decode cX12_divisor 31 = .ok (.goto (-22), 3) := by decide +kernel
theorem dX12_divisor_34 : decode cX12_divisor 34 = .ok (.lload 4, 2) := by decide +kernel
theorem dX12_divisor_36 : decode cX12_divisor 36 = .ok (.lreturn, 1) := by decide +kernel
theorem dX12_part_0 : decode cX12_part 0 = .ok (.iload 4, 2) := by decide +kernel
theorem dX12_part_2 : decode cX12_part 2 = .ok (.ifCond .ne 7, 3) := by decide +kernel
theorem dX12_part_5 : decode cX12_part 5 = .ok (.lload_n 0, 1) := by decide +kernel
theorem dX12_part_6 : decode cX12_part 6 = .ok (.goto 4, 3) := by decide +kernel
theorem dX12_part_9 : decode cX12_part 9 = .ok (.lload_n 2, 1) := by decide +kernel
theorem dX12_part_10 : decode cX12_part 10 = .ok (.lload_n 0, 1) := by decide +kernel
theorem dX12_part_11 : decode cX12_part 11 = .ok (.lload_n 2, 1) := by decide +kernel
theorem dX12_part_12 : decode cX12_part 12 = .ok (.invokestatic 387, 3) := by decide +kernel
theorem dX12_part_15 : decode cX12_part 15 = .ok (.ldiv, 1) := by decide +kernel
theorem dX12_part_16 : decode cX12_part 16 = .ok (.lreturn, 1) := by decide +kernel
theorem dX12_share_0 : decode cX12_share 0 = .ok (.aload_n 0, 1) := by decide +kernel
theorem dX12_share_1 : decode cX12_share 1 = .ok (.invokevirtual 297, 3) := by decide +kernel
theorem dX12_share_4 : decode cX12_share 4 = .ok (.aload_n 0, 1) := by decide +kernel
theorem dX12_share_5 : decode cX12_share 5 = .ok (.iload_n 1, 1) := by decide +kernel
theorem dX12_share_6 : decode cX12_share 6 = .ok (.i2l, 1) := by decide +kernel
theorem dX12_share_7 : decode cX12_share 7 = .ok (.invokevirtual 218, 3) := by decide +kernel
theorem dX12_share_10 : decode cX12_share 10 = .ok (.ifCond .eq 13, 3) := by decide +kernel
theorem dX12_share_13 : decode cX12_share 13 = .ok (.iload_n 2, 1) := by decide +kernel
theorem dX12_share_14 : decode cX12_share 14 = .ok (.i2l, 1) := by decide +kernel
theorem dX12_share_15 : decode cX12_share 15 = .ok (.lconst 0, 1) := by decide +kernel
theorem dX12_share_16 : decode cX12_share 16 = .ok (.lconst 1, 1) := by decide +kernel
theorem dX12_share_17 : decode cX12_share 17 = .ok (.invokestatic 70, 3) := by decide +kernel
theorem dX12_share_20 : decode cX12_share 20 = .ok (.ifCond .ne 6, 3) := by decide +kernel
theorem dX12_share_23 : decode cX12_share 23 = .ok (.bipush (-2), 2) := by decide +kernel
theorem dX12_share_25 : decode cX12_share 25 = .ok (.ireturn, 1) := by decide +kernel
theorem dX12_share_26 : decode cX12_share 26 = .ok (.aload_n 0, 1) := by decide +kernel
theorem dX12_share_27 : decode cX12_share 27 = .ok (.invokevirtual 74, 3) := by decide +kernel
theorem dX12_share_30 : decode cX12_share 30 = .ok (.istore_n 3, 1) := by decide +kernel
theorem dX12_share_31 : decode cX12_share 31 = .ok (.iconst 0, 1) := by decide +kernel
theorem dX12_share_32 : decode cX12_share 32 = .ok (.istore 4, 2) := by decide +kernel
theorem dX12_share_34 : decode cX12_share 34 = .ok (.iload 4, 2) := by decide +kernel
theorem dX12_share_36 : decode cX12_share 36 = .ok (.iconst 1, 1) := by decide +kernel
theorem dX12_share_37 : decode cX12_share 37 = .ok (.iload_n 3, 1) := by decide +kernel
theorem dX12_share_38 : decode cX12_share 38 = .ok (.ishl, 1) := by decide +kernel
theorem dX12_share_39 : decode cX12_share 39 = .ok (.if_icmp .ge 22, 3) := by decide +kernel
theorem dX12_share_42 : decode cX12_share 42 = .ok (.aload_n 0, 1) := by decide +kernel
theorem dX12_share_43 : decode cX12_share 43 = .ok (.getfield 46, 3) := by decide +kernel
theorem dX12_share_46 : decode cX12_share 46 = .ok (.iload 4, 2) := by decide +kernel
theorem dX12_share_48 : decode cX12_share 48 = .ok (.aload_n 0, 1) := by decide +kernel
theorem dX12_share_49 : decode cX12_share 49 = .ok (.iload 4, 2) := by decide +kernel
theorem dX12_share_51 : decode cX12_share 51 = .ok (.invokevirtual 380, 3) := by decide +kernel
theorem dX12_share_54 : decode cX12_share 54 = .ok (.iastore, 1) := by decide +kernel
theorem dX12_share_55 : decode cX12_share 55 = .ok (.iinc 4 1, 3) := by decide +kernel
theorem dX12_share_58 : decode cX12_share 58 = .ok (.goto (-24), 3) := by decide +kernel
theorem dX12_share_61 : decode cX12_share 61 = .ok (.lconst 0, 1) := by decide +kernel
theorem dX12_share_62 : decode cX12_share 62 = .ok (.lstore 4, 2) := by decide +kernel
theorem dX12_share_64 : decode cX12_share 64 = .ok (.iconst 0, 1) := by decide +kernel
theorem dX12_share_65 : decode cX12_share 65 = .ok (.istore 6, 2) := by decide +kernel
theorem dX12_share_67 : decode cX12_share 67 = .ok (.iload 6, 2) := by decide +kernel
theorem dX12_share_69 : decode cX12_share 69 = .ok (.iconst 1, 1) := by decide +kernel
theorem dX12_share_70 : decode cX12_share 70 = .ok (.iload_n 3, 1) := by decide +kernel
theorem dX12_share_71 : decode cX12_share 71 = .ok (.ishl, 1) := by decide +kernel
theorem dX12_share_72 : decode cX12_share 72 = .ok (.if_icmp .ge 67, 3) := by decide +kernel
theorem dX12_share_75 : decode cX12_share 75 = .ok (.iload 6, 2) := by decide +kernel
theorem dX12_share_77 : decode cX12_share 77 = .ok (.iload_n 1, 1) := by decide +kernel
theorem dX12_share_78 : decode cX12_share 78 = .ok (.invokestatic 237, 3) := by decide +kernel
theorem dX12_share_81 : decode cX12_share 81 = .ok (.ifCond .ne 52, 3) := by decide +kernel
theorem dX12_share_84 : decode cX12_share 84 = .ok (.lload 4, 2) := by decide +kernel
theorem dX12_share_86 : decode cX12_share 86 = .ok (.iload 6, 2) := by decide +kernel
theorem dX12_share_88 : decode cX12_share 88 = .ok (.invokestatic 315, 3) := by decide +kernel
theorem dX12_share_91 : decode cX12_share 91 = .ok (.invokestatic 391, 3) := by decide +kernel
theorem dX12_share_94 : decode cX12_share 94 = .ok (.i2l, 1) := by decide +kernel
theorem dX12_share_95 : decode cX12_share 95 = .ok (.iload_n 3, 1) := by decide +kernel
theorem dX12_share_96 : decode cX12_share 96 = .ok (.iconst 1, 1) := by decide +kernel
theorem dX12_share_97 : decode cX12_share 97 = .ok (.isub, 1) := by decide +kernel
theorem dX12_share_98 : decode cX12_share 98 = .ok (.iload 6, 2) := by decide +kernel
theorem dX12_share_100 : decode cX12_share 100 = .ok (.invokestatic 315, 3) := by decide +kernel
theorem dX12_share_103 : decode cX12_share 103 = .ok (.isub, 1) := by decide +kernel
theorem dX12_share_104 : decode cX12_share 104 = .ok (.invokestatic 391, 3) := by decide +kernel
theorem dX12_share_107 : decode cX12_share 107 = .ok (.i2l, 1) := by decide +kernel
theorem dX12_share_108 : decode cX12_share 108 = .ok (.lmul, 1) := by decide +kernel
theorem dX12_share_109 : decode cX12_share 109 = .ok (.aload_n 0, 1) := by decide +kernel
theorem dX12_share_110 : decode cX12_share 110 = .ok (.getfield 46, 3) := by decide +kernel
theorem dX12_share_113 : decode cX12_share 113 = .ok (.iload 6, 2) := by decide +kernel
theorem dX12_share_115 : decode cX12_share 115 = .ok (.iconst 1, 1) := by decide +kernel
theorem dX12_share_116 : decode cX12_share 116 = .ok (.iload_n 1, 1) := by decide +kernel
theorem dX12_share_117 : decode cX12_share 117 = .ok (.ishl, 1) := by decide +kernel
theorem dX12_share_118 : decode cX12_share 118 = .ok (.ior, 1) := by decide +kernel
theorem dX12_share_119 : decode cX12_share 119 = .ok (.iaload, 1) := by decide +kernel
theorem dX12_share_120 : decode cX12_share 120 = .ok (.aload_n 0, 1) := by decide +kernel
theorem dX12_share_121 : decode cX12_share 121 = .ok (.getfield 46, 3) := by decide +kernel
theorem dX12_share_124 : decode cX12_share 124 = .ok (.iload 6, 2) := by decide +kernel
theorem dX12_share_126 : decode cX12_share 126 = .ok (.iaload, 1) := by decide +kernel
theorem dX12_share_127 : decode cX12_share 127 = .ok (.isub, 1) := by decide +kernel
theorem dX12_share_128 : decode cX12_share 128 = .ok (.i2l, 1) := by decide +kernel
theorem dX12_share_129 : decode cX12_share 129 = .ok (.lmul, 1) := by decide +kernel
theorem dX12_share_130 : decode cX12_share 130 = .ok (.ladd, 1) := by decide +kernel
theorem dX12_share_131 : decode cX12_share 131 = .ok (.lstore 4, 2) := by decide +kernel
theorem dX12_share_133 : decode cX12_share 133 = .ok (.iinc 6 1, 3) := by decide +kernel
theorem dX12_share_136 : decode cX12_share 136 = .ok (.goto (-69), 3) := by decide +kernel
theorem dX12_share_139 : decode cX12_share 139 = .ok (.lload 4, 2) := by decide +kernel
theorem dX12_share_141 : decode cX12_share 141 = .ok (.iload_n 3, 1) := by decide +kernel
theorem dX12_share_142 : decode cX12_share 142 = .ok (.invokestatic 391, 3) := by decide +kernel
theorem dX12_share_145 : decode cX12_share 145 = .ok (.i2l, 1) := by decide +kernel
theorem dX12_share_146 : decode cX12_share 146 = .ok (.iload_n 2, 1) := by decide +kernel
theorem dX12_share_147 : decode cX12_share 147 = .ok (.invokestatic 394, 3) := by decide +kernel
theorem dX12_share_150 : decode cX12_share 150 = .ok (.l2i, 1) := by decide +kernel
theorem dX12_share_151 : decode cX12_share 151 = .ok (.ireturn, 1) := by decide +kernel
theorem dX12_fewestOf_0 : decode cX12_fewestOf 0 = .ok (.iconst (-1), 1) := by decide +kernel
theorem dX12_fewestOf_1 : decode cX12_fewestOf 1 = .ok (.istore_n 1, 1) := by decide +kernel
theorem dX12_fewestOf_2 : decode cX12_fewestOf 2 = .ok (.iconst 0, 1) := by decide +kernel
theorem dX12_fewestOf_3 : decode cX12_fewestOf 3 = .ok (.istore_n 2, 1) := by decide +kernel
theorem dX12_fewestOf_4 : decode cX12_fewestOf 4 = .ok (.iload_n 2, 1) := by decide +kernel
theorem dX12_fewestOf_5 : decode cX12_fewestOf 5 = .ok (.aload_n 0, 1) := by decide +kernel
theorem dX12_fewestOf_6 : decode cX12_fewestOf 6 = .ok (.invokevirtual 325, 3) := by decide +kernel
theorem dX12_fewestOf_9 : decode cX12_fewestOf 9 = .ok (.if_icmp .gt 42, 3) := by decide +kernel
theorem dX12_fewestOf_12 : decode cX12_fewestOf 12 = .ok (.iload_n 1, 1) := by decide +kernel
theorem dX12_fewestOf_13 : decode cX12_fewestOf 13 = .ok (.iconst (-1), 1) := by decide +kernel
theorem dX12_fewestOf_14 : decode cX12_fewestOf 14 = .ok (.if_icmp .eq 17, 3) := by decide +kernel
theorem dX12_fewestOf_17 : decode cX12_fewestOf 17 = .ok (.iload_n 2, 1) := by decide +kernel
theorem dX12_fewestOf_18 : decode cX12_fewestOf 18 = .ok (.invokestatic 315, 3) := by decide +kernel
theorem dX12_fewestOf_21 : decode cX12_fewestOf 21 = .ok (.iload_n 1, 1) := by decide +kernel
theorem dX12_fewestOf_22 : decode cX12_fewestOf 22 = .ok (.invokestatic 315, 3) := by decide +kernel
theorem dX12_fewestOf_25 : decode cX12_fewestOf 25 = .ok (.if_icmp .lt 6, 3) := by decide +kernel
theorem dX12_fewestOf_28 : decode cX12_fewestOf 28 = .ok (.goto 17, 3) := by decide +kernel
theorem dX12_fewestOf_31 : decode cX12_fewestOf 31 = .ok (.aload_n 0, 1) := by decide +kernel
theorem dX12_fewestOf_32 : decode cX12_fewestOf 32 = .ok (.iload_n 2, 1) := by decide +kernel
theorem dX12_fewestOf_33 : decode cX12_fewestOf 33 = .ok (.invokevirtual 380, 3) := by decide +kernel
theorem dX12_fewestOf_36 : decode cX12_fewestOf 36 = .ok (.aload_n 0, 1) := by decide +kernel
theorem dX12_fewestOf_37 : decode cX12_fewestOf 37 = .ok (.invokevirtual 74, 3) := by decide +kernel
theorem dX12_fewestOf_40 : decode cX12_fewestOf 40 = .ok (.if_icmp .ne 5, 3) := by decide +kernel
theorem dX12_fewestOf_43 : decode cX12_fewestOf 43 = .ok (.iload_n 2, 1) := by decide +kernel
theorem dX12_fewestOf_44 : decode cX12_fewestOf 44 = .ok (.istore_n 1, 1) := by decide +kernel
theorem dX12_fewestOf_45 : decode cX12_fewestOf 45 = .ok (.iinc 2 1, 3) := by decide +kernel
theorem dX12_fewestOf_48 : decode cX12_fewestOf 48 = .ok (.goto (-44), 3) := by decide +kernel
theorem dX12_fewestOf_51 : decode cX12_fewestOf 51 = .ok (.iload_n 1, 1) := by decide +kernel
theorem dX12_fewestOf_52 : decode cX12_fewestOf 52 = .ok (.ireturn, 1) := by decide +kernel
theorem dX12_fewest_0 : decode cX12_fewest 0 = .ok (.aload_n 0, 1) := by decide +kernel
theorem dX12_fewest_1 : decode cX12_fewest 1 = .ok (.invokevirtual 297, 3) := by decide +kernel
theorem dX12_fewest_4 : decode cX12_fewest 4 = .ok (.aload_n 0, 1) := by decide +kernel
theorem dX12_fewest_5 : decode cX12_fewest 5 = .ok (.invokevirtual 78, 3) := by decide +kernel
theorem dX12_fewest_8 : decode cX12_fewest 8 = .ok (.ifCond .ne 6, 3) := by decide +kernel
theorem dX12_fewest_11 : decode cX12_fewest 11 = .ok (.bipush (-2), 2) := by decide +kernel
theorem dX12_fewest_13 : decode cX12_fewest 13 = .ok (.ireturn, 1) := by decide +kernel
theorem dX12_fewest_14 : decode cX12_fewest 14 = .ok (.aload_n 0, 1) := by decide +kernel
theorem dX12_fewest_15 : decode cX12_fewest 15 = .ok (.invokevirtual 398, 3) := by decide +kernel
theorem dX12_fewest_18 : decode cX12_fewest 18 = .ok (.istore_n 1, 1) := by decide +kernel
theorem dX12_fewest_19 : decode cX12_fewest 19 = .ok (.iload_n 1, 1) := by decide +kernel
theorem dX12_fewest_20 : decode cX12_fewest 20 = .ok (.iconst (-1), 1) := by decide +kernel
theorem dX12_fewest_21 : decode cX12_fewest 21 = .ok (.if_icmp .ne 7, 3) := by decide +kernel
theorem dX12_fewest_24 : decode cX12_fewest 24 = .ok (.iconst (-1), 1) := by decide +kernel
theorem dX12_fewest_25 : decode cX12_fewest 25 = .ok (.goto 7, 3) := by decide +kernel
theorem dX12_fewest_28 : decode cX12_fewest 28 = .ok (.iload_n 1, 1) := by decide +kernel
theorem dX12_fewest_29 : decode cX12_fewest 29 = .ok (.invokestatic 315, 3) := by decide +kernel
theorem dX12_fewest_32 : decode cX12_fewest 32 = .ok (.ireturn, 1) := by decide +kernel
theorem dX12_sets_0 : decode cX12_sets 0 = .ok (.aload_n 0, 1) := by decide +kernel
theorem dX12_sets_1 : decode cX12_sets 1 = .ok (.invokevirtual 297, 3) := by decide +kernel
theorem dX12_sets_4 : decode cX12_sets 4 = .ok (.aload_n 0, 1) := by decide +kernel
theorem dX12_sets_5 : decode cX12_sets 5 = .ok (.invokevirtual 78, 3) := by decide +kernel
theorem dX12_sets_8 : decode cX12_sets 8 = .ok (.ifCond .eq 10, 3) := by decide +kernel
theorem dX12_sets_11 : decode cX12_sets 11 = .ok (.aload_n 0, 1) := by decide +kernel
theorem dX12_sets_12 : decode cX12_sets 12 = .ok (.invokevirtual 398, 3) := by decide +kernel
theorem dX12_sets_15 : decode cX12_sets 15 = .ok (.goto 5, 3) := by decide +kernel
theorem dX12_sets_18 : decode cX12_sets 18 = .ok (.bipush (-2), 2) := by decide +kernel
theorem dX12_sets_20 : decode cX12_sets 20 = .ok (.ireturn, 1) := by decide +kernel
theorem dX12_gust_0 : decode cX12_gust 0 = .ok (.aload_n 0, 1) := by decide +kernel
theorem dX12_gust_1 : decode cX12_gust 1 = .ok (.iload_n 1, 1) := by decide +kernel
theorem dX12_gust_2 : decode cX12_gust 2 = .ok (.invokevirtual 318, 3) := by decide +kernel
theorem dX12_gust_5 : decode cX12_gust 5 = .ok (.ifCond .ne 6, 3) := by decide +kernel
theorem dX12_gust_8 : decode cX12_gust 8 = .ok (.bipush (-2), 2) := by decide +kernel
theorem dX12_gust_10 : decode cX12_gust 10 = .ok (.ireturn, 1) := by decide +kernel
theorem dX12_gust_11 : decode cX12_gust 11 = .ok (.aload_n 0, 1) := by decide +kernel
theorem dX12_gust_12 : decode cX12_gust 12 = .ok (.invokevirtual 377, 3) := by decide +kernel
theorem dX12_gust_15 : decode cX12_gust 15 = .ok (.istore_n 2, 1) := by decide +kernel
theorem dX12_gust_16 : decode cX12_gust 16 = .ok (.iconst (-1), 1) := by decide +kernel
theorem dX12_gust_17 : decode cX12_gust 17 = .ok (.istore_n 3, 1) := by decide +kernel
theorem dX12_gust_18 : decode cX12_gust 18 = .ok (.aload_n 0, 1) := by decide +kernel
theorem dX12_gust_19 : decode cX12_gust 19 = .ok (.iload_n 1, 1) := by decide +kernel
theorem dX12_gust_20 : decode cX12_gust 20 = .ok (.putfield 261, 3) := by decide +kernel
theorem dX12_gust_23 : decode cX12_gust 23 = .ok (.aload_n 0, 1) := by decide +kernel
theorem dX12_gust_24 : decode cX12_gust 24 = .ok (.iconst 0, 1) := by decide +kernel
theorem dX12_gust_25 : decode cX12_gust 25 = .ok (.putfield 258, 3) := by decide +kernel
theorem dX12_gust_28 : decode cX12_gust 28 = .ok (.aload_n 0, 1) := by decide +kernel
theorem dX12_gust_29 : decode cX12_gust 29 = .ok (.getfield 258, 3) := by decide +kernel
theorem dX12_gust_32 : decode cX12_gust 32 = .ok (.aload_n 0, 1) := by decide +kernel
theorem dX12_gust_33 : decode cX12_gust 33 = .ok (.invokevirtual 74, 3) := by decide +kernel
theorem dX12_gust_36 : decode cX12_gust 36 = .ok (.if_icmp .ge 41, 3) := by decide +kernel
theorem dX12_gust_39 : decode cX12_gust 39 = .ok (.aload_n 0, 1) := by decide +kernel
theorem dX12_gust_40 : decode cX12_gust 40 = .ok (.invokevirtual 300, 3) := by decide +kernel
theorem dX12_gust_43 : decode cX12_gust 43 = .ok (.aload_n 0, 1) := by decide +kernel
theorem dX12_gust_44 : decode cX12_gust 44 = .ok (.invokevirtual 377, 3) := by decide +kernel
theorem dX12_gust_47 : decode cX12_gust 47 = .ok (.iload_n 2, 1) := by decide +kernel
theorem dX12_gust_48 : decode cX12_gust 48 = .ok (.if_icmp .lt 6, 3) := by decide +kernel
theorem dX12_gust_51 : decode cX12_gust 51 = .ok (.goto 13, 3) := by decide +kernel
theorem dX12_gust_54 : decode cX12_gust 54 = .ok (.aload_n 0, 1) := by decide +kernel
theorem dX12_gust_55 : decode cX12_gust 55 = .ok (.invokevirtual 377, 3) := by decide +kernel
theorem dX12_gust_58 : decode cX12_gust 58 = .ok (.istore_n 2, 1) := by decide +kernel
theorem dX12_gust_59 : decode cX12_gust 59 = .ok (.aload_n 0, 1) := by decide +kernel
theorem dX12_gust_60 : decode cX12_gust 60 = .ok (.getfield 258, 3) := by decide +kernel
theorem dX12_gust_63 : decode cX12_gust 63 = .ok (.istore_n 3, 1) := by decide +kernel
theorem dX12_gust_64 : decode cX12_gust 64 = .ok (.aload_n 0, 1) := by decide +kernel
theorem dX12_gust_65 : decode cX12_gust 65 = .ok (.dup, 1) := by decide +kernel
theorem dX12_gust_66 : decode cX12_gust 66 = .ok (.getfield 258, 3) := by decide +kernel
theorem dX12_gust_69 : decode cX12_gust 69 = .ok (.iconst 1, 1) := by decide +kernel
theorem dX12_gust_70 : decode cX12_gust 70 = .ok (.iadd, 1) := by decide +kernel
theorem dX12_gust_71 : decode cX12_gust 71 = .ok (.putfield 258, 3) := by decide +kernel
theorem dX12_gust_74 : decode cX12_gust 74 = .ok (.goto (-46), 3) := by decide +kernel
theorem dX12_gust_77 : decode cX12_gust 77 = .ok (.iload_n 3, 1) := by decide +kernel
theorem dX12_gust_78 : decode cX12_gust 78 = .ok (.ireturn, 1) := by decide +kernel
theorem dX12_guard_0 : decode cX12_guard 0 = .ok (.aload_n 0, 1) := by decide +kernel
theorem dX12_guard_1 : decode cX12_guard 1 = .ok (.invokevirtual 303, 3) := by decide +kernel
theorem dX12_guard_4 : decode cX12_guard 4 = .ok (.ifCond .ne 6, 3) := by decide +kernel
theorem dX12_guard_7 : decode cX12_guard 7 = .ok (.bipush (-2), 2) := by decide +kernel
theorem dX12_guard_9 : decode cX12_guard 9 = .ok (.ireturn, 1) := by decide +kernel
theorem dX12_guard_10 : decode cX12_guard 10 = .ok (.aload_n 0, 1) := by decide +kernel
theorem dX12_guard_11 : decode cX12_guard 11 = .ok (.invokevirtual 377, 3) := by decide +kernel
theorem dX12_guard_14 : decode cX12_guard 14 = .ok (.istore_n 1, 1) := by decide +kernel
theorem dX12_guard_15 : decode cX12_guard 15 = .ok (.iconst (-1), 1) := by decide +kernel
theorem dX12_guard_16 : decode cX12_guard 16 = .ok (.istore_n 2, 1) := by decide +kernel
theorem dX12_guard_17 : decode cX12_guard 17 = .ok (.aload_n 0, 1) := by decide +kernel
theorem dX12_guard_18 : decode cX12_guard 18 = .ok (.iconst 0, 1) := by decide +kernel
theorem dX12_guard_19 : decode cX12_guard 19 = .ok (.putfield 264, 3) := by decide +kernel
theorem dX12_guard_22 : decode cX12_guard 22 = .ok (.aload_n 0, 1) := by decide +kernel
theorem dX12_guard_23 : decode cX12_guard 23 = .ok (.getfield 264, 3) := by decide +kernel
theorem dX12_guard_26 : decode cX12_guard 26 = .ok (.aload_n 0, 1) := by decide +kernel
theorem dX12_guard_27 : decode cX12_guard 27 = .ok (.getfield 9, 3) := by decide +kernel
theorem dX12_guard_30 : decode cX12_guard 30 = .ok (.bipush 6, 2) := by decide +kernel
theorem dX12_guard_32 : decode cX12_guard 32 = .ok (.iaload, 1) := by decide +kernel
theorem dX12_guard_33 : decode cX12_guard 33 = .ok (.if_icmp .ge 41, 3) := by decide +kernel
theorem dX12_guard_36 : decode cX12_guard 36 = .ok (.aload_n 0, 1) := by decide +kernel
theorem dX12_guard_37 : decode cX12_guard 37 = .ok (.invokevirtual 300, 3) := by decide +kernel
theorem dX12_guard_40 : decode cX12_guard 40 = .ok (.aload_n 0, 1) := by decide +kernel
theorem dX12_guard_41 : decode cX12_guard 41 = .ok (.invokevirtual 377, 3) := by decide +kernel
theorem dX12_guard_44 : decode cX12_guard 44 = .ok (.iload_n 1, 1) := by decide +kernel
theorem dX12_guard_45 : decode cX12_guard 45 = .ok (.if_icmp .gt 6, 3) := by decide +kernel
theorem dX12_guard_48 : decode cX12_guard 48 = .ok (.goto 13, 3) := by decide +kernel
theorem dX12_guard_51 : decode cX12_guard 51 = .ok (.aload_n 0, 1) := by decide +kernel
theorem dX12_guard_52 : decode cX12_guard 52 = .ok (.invokevirtual 377, 3) := by decide +kernel
theorem dX12_guard_55 : decode cX12_guard 55 = .ok (.istore_n 1, 1) := by decide +kernel
theorem dX12_guard_56 : decode cX12_guard 56 = .ok (.aload_n 0, 1) := by decide +kernel
theorem dX12_guard_57 : decode cX12_guard 57 = .ok (.getfield 264, 3) := by decide +kernel
theorem dX12_guard_60 : decode cX12_guard 60 = .ok (.istore_n 2, 1) := by decide +kernel
theorem dX12_guard_61 : decode cX12_guard 61 = .ok (.aload_n 0, 1) := by decide +kernel
theorem dX12_guard_62 : decode cX12_guard 62 = .ok (.dup, 1) := by decide +kernel
theorem dX12_guard_63 : decode cX12_guard 63 = .ok (.getfield 264, 3) := by decide +kernel
theorem dX12_guard_66 : decode cX12_guard 66 = .ok (.iconst 1, 1) := by decide +kernel
theorem dX12_guard_67 : decode cX12_guard 67 = .ok (.iadd, 1) := by decide +kernel
theorem dX12_guard_68 : decode cX12_guard 68 = .ok (.putfield 264, 3) := by decide +kernel
theorem dX12_guard_71 : decode cX12_guard 71 = .ok (.goto (-49), 3) := by decide +kernel
theorem dX12_guard_74 : decode cX12_guard 74 = .ok (.iload_n 2, 1) := by decide +kernel
theorem dX12_guard_75 : decode cX12_guard 75 = .ok (.ireturn, 1) := by decide +kernel
theorem dX12_askHeard_0 : decode cX12_askHeard 0 = .ok (.iload_n 1, 1) := by decide +kernel
theorem dX12_askHeard_1 : decode cX12_askHeard 1 = .ok (.invokestatic 343, 3) := by decide +kernel
theorem dX12_askHeard_4 : decode cX12_askHeard 4 = .ok (.ifCond .eq 10, 3) := by decide +kernel
theorem dX12_askHeard_7 : decode cX12_askHeard 7 = .ok (.aload_n 0, 1) := by decide +kernel
theorem dX12_askHeard_8 : decode cX12_askHeard 8 = .ok (.invokevirtual 78, 3) := by decide +kernel
theorem dX12_askHeard_11 : decode cX12_askHeard 11 = .ok (.ifCond .ne 6, 3) := by decide +kernel
theorem dX12_askHeard_14 : decode cX12_askHeard 14 = .ok (.bipush (-2), 2) := by decide +kernel
theorem dX12_askHeard_16 : decode cX12_askHeard 16 = .ok (.ireturn, 1) := by decide +kernel
theorem dX12_askHeard_17 : decode cX12_askHeard 17 = .ok (.aload_n 0, 1) := by decide +kernel
theorem dX12_askHeard_18 : decode cX12_askHeard 18 = .ok (.getfield 52, 3) := by decide +kernel
theorem dX12_askHeard_21 : decode cX12_askHeard 21 = .ok (.iload_n 1, 1) := by decide +kernel
theorem dX12_askHeard_22 : decode cX12_askHeard 22 = .ok (.iaload, 1) := by decide +kernel
theorem dX12_askHeard_23 : decode cX12_askHeard 23 = .ok (.iconst (-1), 1) := by decide +kernel
theorem dX12_askHeard_24 : decode cX12_askHeard 24 = .ok (.if_icmp .ne 6, 3) := by decide +kernel
theorem dX12_askHeard_27 : decode cX12_askHeard 27 = .ok (.bipush (-6), 2) := by decide +kernel
theorem dX12_askHeard_29 : decode cX12_askHeard 29 = .ok (.ireturn, 1) := by decide +kernel
theorem dX12_askHeard_30 : decode cX12_askHeard 30 = .ok (.aload_n 0, 1) := by decide +kernel
theorem dX12_askHeard_31 : decode cX12_askHeard 31 = .ok (.getfield 52, 3) := by decide +kernel
theorem dX12_askHeard_34 : decode cX12_askHeard 34 = .ok (.iload_n 1, 1) := by decide +kernel
theorem dX12_askHeard_35 : decode cX12_askHeard 35 = .ok (.iaload, 1) := by decide +kernel
theorem dX12_askHeard_36 : decode cX12_askHeard 36 = .ok (.iconst 3, 1) := by decide +kernel
theorem dX12_askHeard_37 : decode cX12_askHeard 37 = .ok (.irem, 1) := by decide +kernel
theorem dX12_askHeard_38 : decode cX12_askHeard 38 = .ok (.ifCond .eq 6, 3) := by decide +kernel
theorem dX12_askHeard_41 : decode cX12_askHeard 41 = .ok (.bipush (-2), 2) := by decide +kernel
theorem dX12_askHeard_43 : decode cX12_askHeard 43 = .ok (.ireturn, 1) := by decide +kernel
theorem dX12_askHeard_44 : decode cX12_askHeard 44 = .ok (.iconst 0, 1) := by decide +kernel
theorem dX12_askHeard_45 : decode cX12_askHeard 45 = .ok (.istore_n 2, 1) := by decide +kernel
theorem dX12_askHeard_46 : decode cX12_askHeard 46 = .ok (.iload_n 2, 1) := by decide +kernel
theorem dX12_askHeard_47 : decode cX12_askHeard 47 = .ok (.aload_n 0, 1) := by decide +kernel
theorem dX12_askHeard_48 : decode cX12_askHeard 48 = .ok (.getfield 52, 3) := by decide +kernel
theorem dX12_askHeard_51 : decode cX12_askHeard 51 = .ok (.iload_n 1, 1) := by decide +kernel
theorem dX12_askHeard_52 : decode cX12_askHeard 52 = .ok (.iaload, 1) := by decide +kernel
theorem dX12_askHeard_53 : decode cX12_askHeard 53 = .ok (.if_icmp .ge 58, 3) := by decide +kernel
theorem dX12_askHeard_56 : decode cX12_askHeard 56 = .ok (.aload_n 0, 1) := by decide +kernel
theorem dX12_askHeard_57 : decode cX12_askHeard 57 = .ok (.aload_n 0, 1) := by decide +kernel
theorem dX12_askHeard_58 : decode cX12_askHeard 58 = .ok (.iload_n 1, 1) := by decide +kernel
theorem dX12_askHeard_59 : decode cX12_askHeard 59 = .ok (.iload_n 2, 1) := by decide +kernel
theorem dX12_askHeard_60 : decode cX12_askHeard 60 = .ok (.invokevirtual 351, 3) := by decide +kernel
theorem dX12_askHeard_63 : decode cX12_askHeard 63 = .ok (.invokevirtual 218, 3) := by decide +kernel
theorem dX12_askHeard_66 : decode cX12_askHeard 66 = .ok (.ifCond .eq 36, 3) := by decide +kernel
theorem dX12_askHeard_69 : decode cX12_askHeard 69 = .ok (.aload_n 0, 1) := by decide +kernel
theorem dX12_askHeard_70 : decode cX12_askHeard 70 = .ok (.aload_n 0, 1) := by decide +kernel
theorem dX12_askHeard_71 : decode cX12_askHeard 71 = .ok (.iload_n 1, 1) := by decide +kernel
theorem dX12_askHeard_72 : decode cX12_askHeard 72 = .ok (.iload_n 2, 1) := by decide +kernel
theorem dX12_askHeard_73 : decode cX12_askHeard 73 = .ok (.iconst 1, 1) := by decide +kernel
theorem dX12_askHeard_74 : decode cX12_askHeard 74 = .ok (.iadd, 1) := by decide +kernel
theorem dX12_askHeard_75 : decode cX12_askHeard 75 = .ok (.invokevirtual 351, 3) := by decide +kernel
theorem dX12_askHeard_78 : decode cX12_askHeard 78 = .ok (.invokevirtual 306, 3) := by decide +kernel
theorem dX12_askHeard_81 : decode cX12_askHeard 81 = .ok (.ifCond .eq 21, 3) := by decide +kernel
theorem dX12_askHeard_84 : decode cX12_askHeard 84 = .ok (.aload_n 0, 1) := by decide +kernel
theorem dX12_askHeard_85 : decode cX12_askHeard 85 = .ok (.iload_n 1, 1) := by decide +kernel
theorem dX12_askHeard_86 : decode cX12_askHeard 86 = .ok (.iload_n 2, 1) := by decide +kernel
theorem dX12_askHeard_87 : decode cX12_askHeard 87 = .ok (.iconst 2, 1) := by decide +kernel
theorem dX12_askHeard_88 : decode cX12_askHeard 88 = .ok (.iadd, 1) := by decide +kernel
theorem dX12_askHeard_89 : decode cX12_askHeard 89 = .ok (.invokevirtual 351, 3) := by decide +kernel
theorem dX12_askHeard_92 : decode cX12_askHeard 92 = .ok (.lconst 0, 1) := by decide +kernel
theorem dX12_askHeard_93 : decode cX12_askHeard 93 = .ok (.ldc2_w 346, 3) := by decide +kernel
theorem dX12_askHeard_96 : decode cX12_askHeard 96 = .ok (.invokestatic 70, 3) := by decide +kernel
theorem dX12_askHeard_99 : decode cX12_askHeard 99 = .ok (.ifCond .ne 6, 3) := by decide +kernel
theorem dX12_askHeard_102 : decode cX12_askHeard 102 = .ok (.bipush (-2), 2) := by decide +kernel
theorem dX12_askHeard_104 : decode cX12_askHeard 104 = .ok (.ireturn, 1) := by decide +kernel
theorem dX12_askHeard_105 : decode cX12_askHeard 105 = .ok (.iinc 2 3, 3) := by decide +kernel
theorem dX12_askHeard_108 : decode cX12_askHeard 108 = .ok (.goto (-62), 3) := by decide +kernel
theorem dX12_askHeard_111 : decode cX12_askHeard 111 = .ok (.aload_n 0, 1) := by decide +kernel
theorem dX12_askHeard_112 : decode cX12_askHeard 112 = .ok (.invokevirtual 297, 3) := by decide +kernel
theorem dX12_askHeard_115 : decode cX12_askHeard 115 = .ok (.iconst 0, 1) := by decide +kernel
theorem dX12_askHeard_116 : decode cX12_askHeard 116 = .ok (.ireturn, 1) := by decide +kernel
theorem dX12_isHeard_0 : decode cX12_isHeard 0 = .ok (.aload_n 0, 1) := by decide +kernel
theorem dX12_isHeard_1 : decode cX12_isHeard 1 = .ok (.invokevirtual 300, 3) := by decide +kernel
theorem dX12_isHeard_4 : decode cX12_isHeard 4 = .ok (.iconst 0, 1) := by decide +kernel
theorem dX12_isHeard_5 : decode cX12_isHeard 5 = .ok (.istore_n 2, 1) := by decide +kernel
theorem dX12_isHeard_6 : decode cX12_isHeard 6 = .ok (.iload_n 2, 1) := by decide +kernel
theorem dX12_isHeard_7 : decode cX12_isHeard 7 = .ok (.aload_n 0, 1) := by decide +kernel
theorem dX12_isHeard_8 : decode cX12_isHeard 8 = .ok (.getfield 52, 3) := by decide +kernel
theorem dX12_isHeard_11 : decode cX12_isHeard 11 = .ok (.iload_n 1, 1) := by decide +kernel
theorem dX12_isHeard_12 : decode cX12_isHeard 12 = .ok (.iaload, 1) := by decide +kernel
theorem dX12_isHeard_13 : decode cX12_isHeard 13 = .ok (.if_icmp .ge 47, 3) := by decide +kernel
theorem dX12_isHeard_16 : decode cX12_isHeard 16 = .ok (.aload_n 0, 1) := by decide +kernel
theorem dX12_isHeard_17 : decode cX12_isHeard 17 = .ok (.aload_n 0, 1) := by decide +kernel
theorem dX12_isHeard_18 : decode cX12_isHeard 18 = .ok (.iload_n 1, 1) := by decide +kernel
theorem dX12_isHeard_19 : decode cX12_isHeard 19 = .ok (.iload_n 2, 1) := by decide +kernel
theorem dX12_isHeard_20 : decode cX12_isHeard 20 = .ok (.invokevirtual 351, 3) := by decide +kernel
theorem dX12_isHeard_23 : decode cX12_isHeard 23 = .ok (.l2i, 1) := by decide +kernel
theorem dX12_isHeard_24 : decode cX12_isHeard 24 = .ok (.aload_n 0, 1) := by decide +kernel
theorem dX12_isHeard_25 : decode cX12_isHeard 25 = .ok (.iload_n 1, 1) := by decide +kernel
theorem dX12_isHeard_26 : decode cX12_isHeard 26 = .ok (.iload_n 2, 1) := by decide +kernel
theorem dX12_isHeard_27 : decode cX12_isHeard 27 = .ok (.iconst 1, 1) := by decide +kernel
theorem dX12_isHeard_28 : decode cX12_isHeard 28 = .ok (.iadd, 1) := by decide +kernel
theorem dX12_isHeard_29 : decode cX12_isHeard 29 = .ok (.invokevirtual 351, 3) := by decide +kernel
theorem dX12_isHeard_32 : decode cX12_isHeard 32 = .ok (.l2i, 1) := by decide +kernel
theorem dX12_isHeard_33 : decode cX12_isHeard 33 = .ok (.invokevirtual 275, 3) := by decide +kernel
theorem dX12_isHeard_36 : decode cX12_isHeard 36 = .ok (.invokestatic 225, 3) := by decide +kernel
theorem dX12_isHeard_39 : decode cX12_isHeard 39 = .ok (.i2l, 1) := by decide +kernel
theorem dX12_isHeard_40 : decode cX12_isHeard 40 = .ok (.aload_n 0, 1) := by decide +kernel
theorem dX12_isHeard_41 : decode cX12_isHeard 41 = .ok (.iload_n 1, 1) := by decide +kernel
theorem dX12_isHeard_42 : decode cX12_isHeard 42 = .ok (.iload_n 2, 1) := by decide +kernel
theorem dX12_isHeard_43 : decode cX12_isHeard 43 = .ok (.iconst 2, 1) := by decide +kernel
theorem dX12_isHeard_44 : decode cX12_isHeard 44 = .ok (.iadd, 1) := by decide +kernel
theorem dX12_isHeard_45 : decode cX12_isHeard 45 = .ok (.invokevirtual 351, 3) := by decide +kernel
theorem dX12_isHeard_48 : decode cX12_isHeard 48 = .ok (.lcmp, 1) := by decide +kernel
theorem dX12_isHeard_49 : decode cX12_isHeard 49 = .ok (.ifCond .eq 5, 3) := by decide +kernel
theorem dX12_isHeard_52 : decode cX12_isHeard 52 = .ok (.iconst 0, 1) := by decide +kernel
theorem dX12_isHeard_53 : decode cX12_isHeard 53 = .ok (.ireturn, 1) := by decide +kernel
theorem dX12_isHeard_54 : decode cX12_isHeard 54 = .ok (.iinc 2 3, 3) := by decide +kernel
theorem dX12_isHeard_57 : decode cX12_isHeard 57 = .ok (.goto (-51), 3) := by decide +kernel
theorem dX12_isHeard_60 : decode cX12_isHeard 60 = .ok (.iconst 1, 1) := by decide +kernel
theorem dX12_isHeard_61 : decode cX12_isHeard 61 = .ok (.ireturn, 1) := by decide +kernel
theorem dX12_askWhom_0 : decode cX12_askWhom 0 = .ok (.iload_n 1, 1) := by decide +kernel
theorem dX12_askWhom_1 : decode cX12_askWhom 1 = .ok (.invokestatic 343, 3) := by decide +kernel
theorem dX12_askWhom_4 : decode cX12_askWhom 4 = .ok (.ifCond .eq 17, 3) := by decide +kernel
theorem dX12_askWhom_7 : decode cX12_askWhom 7 = .ok (.aload_n 0, 1) := by decide +kernel
theorem dX12_askWhom_8 : decode cX12_askWhom 8 = .ok (.getfield 9, 3) := by decide +kernel
theorem dX12_askWhom_11 : decode cX12_askWhom 11 = .ok (.iconst 5, 1) := by decide +kernel
theorem dX12_askWhom_12 : decode cX12_askWhom 12 = .ok (.iaload, 1) := by decide +kernel
theorem dX12_askWhom_13 : decode cX12_askWhom 13 = .ok (.ifCond .ne 8, 3) := by decide +kernel
theorem dX12_askWhom_16 : decode cX12_askWhom 16 = .ok (.bipush (-2), 2) := by decide +kernel
theorem dX12_askWhom_18 : decode cX12_askWhom 18 = .ok (.goto 8, 3) := by decide +kernel
theorem dX12_askWhom_21 : decode cX12_askWhom 21 = .ok (.aload_n 0, 1) := by decide +kernel
theorem dX12_askWhom_22 : decode cX12_askWhom 22 = .ok (.iload_n 1, 1) := by decide +kernel
theorem dX12_askWhom_23 : decode cX12_askWhom 23 = .ok (.invokevirtual 401, 3) := by decide +kernel
theorem dX12_askWhom_26 : decode cX12_askWhom 26 = .ok (.ireturn, 1) := by decide +kernel
theorem dX12_whomOf_0 : decode cX12_whomOf 0 = .ok (.iconst 0, 1) := by decide +kernel
theorem dX12_whomOf_1 : decode cX12_whomOf 1 = .ok (.istore_n 2, 1) := by decide +kernel
theorem dX12_whomOf_2 : decode cX12_whomOf 2 = .ok (.aload_n 0, 1) := by decide +kernel
theorem dX12_whomOf_3 : decode cX12_whomOf 3 = .ok (.aload_n 0, 1) := by decide +kernel
theorem dX12_whomOf_4 : decode cX12_whomOf 4 = .ok (.getfield 9, 3) := by decide +kernel
theorem dX12_whomOf_7 : decode cX12_whomOf 7 = .ok (.bipush 55, 2) := by decide +kernel
theorem dX12_whomOf_9 : decode cX12_whomOf 9 = .ok (.iaload, 1) := by decide +kernel
theorem dX12_whomOf_10 : decode cX12_whomOf 10 = .ok (.putfield 252, 3) := by decide +kernel
theorem dX12_whomOf_13 : decode cX12_whomOf 13 = .ok (.iconst 0, 1) := by decide +kernel
theorem dX12_whomOf_14 : decode cX12_whomOf 14 = .ok (.istore_n 3, 1) := by decide +kernel
theorem dX12_whomOf_15 : decode cX12_whomOf 15 = .ok (.iload_n 3, 1) := by decide +kernel
theorem dX12_whomOf_16 : decode cX12_whomOf 16 = .ok (.aload_n 0, 1) := by decide +kernel
theorem dX12_whomOf_17 : decode cX12_whomOf 17 = .ok (.invokevirtual 74, 3) := by decide +kernel
theorem dX12_whomOf_20 : decode cX12_whomOf 20 = .ok (.if_icmp .ge 99, 3) := by decide +kernel
theorem dX12_whomOf_23 : decode cX12_whomOf 23 = .ok (.aload_n 0, 1) := by decide +kernel
theorem dX12_whomOf_24 : decode cX12_whomOf 24 = .ok (.iconst 1, 1) := by decide +kernel
theorem dX12_whomOf_25 : decode cX12_whomOf 25 = .ok (.iload_n 3, 1) := by decide +kernel
theorem dX12_whomOf_26 : decode cX12_whomOf 26 = .ok (.ishl, 1) := by decide +kernel
theorem dX12_whomOf_27 : decode cX12_whomOf 27 = .ok (.putfield 249, 3) := by decide +kernel
theorem dX12_whomOf_30 : decode cX12_whomOf 30 = .ok (.iload_n 2, 1) := by decide +kernel
theorem dX12_whomOf_31 : decode cX12_whomOf 31 = .ok (.aload_n 0, 1) := by decide +kernel
theorem dX12_whomOf_32 : decode cX12_whomOf 32 = .ok (.iload_n 1, 1) := by decide +kernel
theorem dX12_whomOf_33 : decode cX12_whomOf 33 = .ok (.invokevirtual 404, 3) := by decide +kernel
theorem dX12_whomOf_36 : decode cX12_whomOf 36 = .ok (.ifCond .eq 9, 3) := by decide +kernel
theorem dX12_whomOf_39 : decode cX12_whomOf 39 = .ok (.iconst 1, 1) := by decide +kernel
theorem dX12_whomOf_40 : decode cX12_whomOf 40 = .ok (.iload_n 3, 1) := by decide +kernel
theorem dX12_whomOf_41 : decode cX12_whomOf 41 = .ok (.ishl, 1) := by decide +kernel
theorem dX12_whomOf_42 : decode cX12_whomOf 42 = .ok (.goto 4, 3) := by decide +kernel
theorem dX12_whomOf_45 : decode cX12_whomOf 45 = .ok (.iconst 0, 1) := by decide +kernel
theorem dX12_whomOf_46 : decode cX12_whomOf 46 = .ok (.ior, 1) := by decide +kernel
theorem dX12_whomOf_47 : decode cX12_whomOf 47 = .ok (.istore_n 2, 1) := by decide +kernel
theorem dX12_whomOf_48 : decode cX12_whomOf 48 = .ok (.iconst 0, 1) := by decide +kernel
theorem dX12_whomOf_49 : decode cX12_whomOf 49 = .ok (.istore 4, 2) := by decide +kernel
theorem dX12_whomOf_51 : decode cX12_whomOf 51 = .ok (.iload 4, 2) := by decide +kernel
theorem dX12_whomOf_53 : decode cX12_whomOf 53 = .ok (.aload_n 0, 1) := by decide +kernel
theorem dX12_whomOf_54 : decode cX12_whomOf 54 = .ok (.invokevirtual 82, 3) := by decide +kernel
theorem dX12_whomOf_57 : decode cX12_whomOf 57 = .ok (.if_icmp .gt 56, 3) := by decide +kernel
theorem dX12_whomOf_60 : decode cX12_whomOf 60 = .ok (.iconst 0, 1) := by decide +kernel
theorem dX12_whomOf_61 : decode cX12_whomOf 61 = .ok (.istore 5, 2) := by decide +kernel
theorem dX12_whomOf_63 : decode cX12_whomOf 63 = .ok (.iload 5, 2) := by decide +kernel
theorem dX12_whomOf_65 : decode cX12_whomOf 65 = .ok (.aload_n 0, 1) := by decide +kernel
theorem dX12_whomOf_66 : decode cX12_whomOf 66 = .ok (.invokevirtual 74, 3) := by decide +kernel
theorem dX12_whomOf_69 : decode cX12_whomOf 69 = .ok (.if_icmp .ge 38, 3) := by decide +kernel
theorem dX12_whomOf_72 : decode cX12_whomOf 72 = .ok (.aload_n 0, 1) := by decide +kernel
theorem dX12_whomOf_73 : decode cX12_whomOf 73 = .ok (.getfield 49, 3) := by decide +kernel
theorem dX12_whomOf_76 : decode cX12_whomOf 76 = .ok (.bipush 91, 2) := by decide +kernel
theorem dX12_whomOf_78 : decode cX12_whomOf 78 = .ok (.iload_n 3, 1) := by decide +kernel
theorem dX12_whomOf_79 : decode cX12_whomOf 79 = .ok (.imul, 1) := by decide +kernel
theorem dX12_whomOf_80 : decode cX12_whomOf 80 = .ok (.bipush 7, 2) := by decide +kernel
theorem dX12_whomOf_82 : decode cX12_whomOf 82 = .ok (.iload 4, 2) := by decide +kernel
theorem dX12_whomOf_84 : decode cX12_whomOf 84 = .ok (.imul, 1) := by decide +kernel
theorem dX12_whomOf_85 : decode cX12_whomOf 85 = .ok (.iadd, 1) := by decide +kernel
theorem dX12_whomOf_86 : decode cX12_whomOf 86 = .ok (.iload 5, 2) := by decide +kernel
theorem dX12_whomOf_88 : decode cX12_whomOf 88 = .ok (.iadd, 1) := by decide +kernel
theorem dX12_whomOf_89 : decode cX12_whomOf 89 = .ok (.aload_n 0, 1) := by decide +kernel
theorem dX12_whomOf_90 : decode cX12_whomOf 90 = .ok (.iload 5, 2) := by decide +kernel
theorem dX12_whomOf_92 : decode cX12_whomOf 92 = .ok (.iload 4, 2) := by decide +kernel
theorem dX12_whomOf_94 : decode cX12_whomOf 94 = .ok (.invokevirtual 275, 3) := by decide +kernel
theorem dX12_whomOf_97 : decode cX12_whomOf 97 = .ok (.invokestatic 225, 3) := by decide +kernel
theorem dX12_whomOf_100 : decode cX12_whomOf 100 = .ok (.iastore, 1) := by decide +kernel
theorem dX12_whomOf_101 : decode cX12_whomOf 101 = .ok (.iinc 5 1, 3) := by decide +kernel
theorem dX12_whomOf_104 : decode cX12_whomOf 104 = .ok (.goto (-41), 3) := by decide +kernel
theorem dX12_whomOf_107 : decode cX12_whomOf 107 = .ok (.iinc 4 1, 3) := by decide +kernel
theorem dX12_whomOf_110 : decode cX12_whomOf 110 = .ok (.goto (-59), 3) := by decide +kernel
theorem dX12_whomOf_113 : decode cX12_whomOf 113 = .ok (.iinc 3 1, 3) := by decide +kernel
theorem dX12_whomOf_116 : decode cX12_whomOf 116 = .ok (.goto (-101), 3) := by decide +kernel
theorem dX12_whomOf_119 : decode cX12_whomOf 119 = .ok (.iload_n 2, 1) := by decide +kernel
theorem dX12_whomOf_120 : decode cX12_whomOf 120 = .ok (.ireturn, 1) := by decide +kernel
theorem dX12_whom_0 : decode cX12_whom 0 = .ok (.aload_n 0, 1) := by decide +kernel
theorem dX12_whom_1 : decode cX12_whom 1 = .ok (.iload_n 1, 1) := by decide +kernel
theorem dX12_whom_2 : decode cX12_whom 2 = .ok (.invokevirtual 407, 3) := by decide +kernel
theorem dX12_whom_5 : decode cX12_whom 5 = .ok (.istore_n 2, 1) := by decide +kernel
theorem dX12_whom_6 : decode cX12_whom 6 = .ok (.iload_n 2, 1) := by decide +kernel
theorem dX12_whom_7 : decode cX12_whom 7 = .ok (.ifCond .ge 7, 3) := by decide +kernel
theorem dX12_whom_10 : decode cX12_whom 10 = .ok (.iload_n 2, 1) := by decide +kernel
theorem dX12_whom_11 : decode cX12_whom 11 = .ok (.goto 8, 3) := by decide +kernel
theorem dX12_whom_14 : decode cX12_whom 14 = .ok (.aload_n 0, 1) := by decide +kernel
theorem dX12_whom_15 : decode cX12_whom 15 = .ok (.iload_n 1, 1) := by decide +kernel
theorem dX12_whom_16 : decode cX12_whom 16 = .ok (.invokevirtual 410, 3) := by decide +kernel
theorem dX12_whom_19 : decode cX12_whom 19 = .ok (.ireturn, 1) := by decide +kernel
theorem dX12_worstOf_0 : decode cX12_worstOf 0 = .ok (.iconst 0, 1) := by decide +kernel
theorem dX12_worstOf_1 : decode cX12_worstOf 1 = .ok (.istore_n 3, 1) := by decide +kernel
theorem dX12_worstOf_2 : decode cX12_worstOf 2 = .ok (.iconst 0, 1) := by decide +kernel
theorem dX12_worstOf_3 : decode cX12_worstOf 3 = .ok (.istore 4, 2) := by decide +kernel
theorem dX12_worstOf_5 : decode cX12_worstOf 5 = .ok (.iload 4, 2) := by decide +kernel
theorem dX12_worstOf_7 : decode cX12_worstOf 7 = .ok (.bipush 6, 2) := by decide +kernel
theorem dX12_worstOf_9 : decode cX12_worstOf 9 = .ok (.if_icmp .gt 74, 3) := by decide +kernel
theorem dX12_worstOf_12 : decode cX12_worstOf 12 = .ok (.iconst 0, 1) := by decide +kernel
theorem dX12_worstOf_13 : decode cX12_worstOf 13 = .ok (.istore 5, 2) := by decide +kernel
theorem dX12_worstOf_15 : decode cX12_worstOf 15 = .ok (.iconst 0, 1) := by decide +kernel
theorem dX12_worstOf_16 : decode cX12_worstOf 16 = .ok (.istore 6, 2) := by decide +kernel
theorem dX12_worstOf_18 : decode cX12_worstOf 18 = .ok (.iload 6, 2) := by decide +kernel
theorem dX12_worstOf_20 : decode cX12_worstOf 20 = .ok (.aload_n 0, 1) := by decide +kernel
theorem dX12_worstOf_21 : decode cX12_worstOf 21 = .ok (.invokevirtual 74, 3) := by decide +kernel
theorem dX12_worstOf_24 : decode cX12_worstOf 24 = .ok (.if_icmp .ge 46, 3) := by decide +kernel
theorem dX12_worstOf_27 : decode cX12_worstOf 27 = .ok (.iload 5, 2) := by decide +kernel
theorem dX12_worstOf_29 : decode cX12_worstOf 29 = .ok (.iload_n 1, 1) := by decide +kernel
theorem dX12_worstOf_30 : decode cX12_worstOf 30 = .ok (.iload 6, 2) := by decide +kernel
theorem dX12_worstOf_32 : decode cX12_worstOf 32 = .ok (.invokestatic 237, 3) := by decide +kernel
theorem dX12_worstOf_35 : decode cX12_worstOf 35 = .ok (.iconst 1, 1) := by decide +kernel
theorem dX12_worstOf_36 : decode cX12_worstOf 36 = .ok (.if_icmp .ne 24, 3) := by decide +kernel
theorem dX12_worstOf_39 : decode cX12_worstOf 39 = .ok (.aload_n 0, 1) := by decide +kernel
theorem dX12_worstOf_40 : decode cX12_worstOf 40 = .ok (.getfield 49, 3) := by decide +kernel
theorem dX12_worstOf_43 : decode cX12_worstOf 43 = .ok (.bipush 91, 2) := by decide +kernel
theorem dX12_worstOf_45 : decode cX12_worstOf 45 = .ok (.iload 6, 2) := by decide +kernel
theorem dX12_worstOf_47 : decode cX12_worstOf 47 = .ok (.imul, 1) := by decide +kernel
theorem dX12_worstOf_48 : decode cX12_worstOf 48 = .ok (.iload_n 2, 1) := by decide +kernel
theorem dX12_worstOf_49 : decode cX12_worstOf 49 = .ok (.iadd, 1) := by decide +kernel
theorem dX12_worstOf_50 : decode cX12_worstOf 50 = .ok (.iaload, 1) := by decide +kernel
theorem dX12_worstOf_51 : decode cX12_worstOf 51 = .ok (.iload 4, 2) := by decide +kernel
theorem dX12_worstOf_53 : decode cX12_worstOf 53 = .ok (.if_icmp .ne 7, 3) := by decide +kernel
theorem dX12_worstOf_56 : decode cX12_worstOf 56 = .ok (.iconst 1, 1) := by decide +kernel
theorem dX12_worstOf_57 : decode cX12_worstOf 57 = .ok (.goto 4, 3) := by decide +kernel
theorem dX12_worstOf_60 : decode cX12_worstOf 60 = .ok (.iconst 0, 1) := by decide +kernel
theorem dX12_worstOf_61 : decode cX12_worstOf 61 = .ok (.iadd, 1) := by decide +kernel
theorem dX12_worstOf_62 : decode cX12_worstOf 62 = .ok (.istore 5, 2) := by decide +kernel
theorem dX12_worstOf_64 : decode cX12_worstOf 64 = .ok (.iinc 6 1, 3) := by decide +kernel
theorem dX12_worstOf_67 : decode cX12_worstOf 67 = .ok (.goto (-49), 3) := by decide +kernel
theorem dX12_worstOf_70 : decode cX12_worstOf 70 = .ok (.iload_n 3, 1) := by decide +kernel
theorem dX12_worstOf_71 : decode cX12_worstOf 71 = .ok (.iload 5, 2) := by decide +kernel
theorem dX12_worstOf_73 : decode cX12_worstOf 73 = .ok (.invokestatic 340, 3) := by decide +kernel
theorem dX12_worstOf_76 : decode cX12_worstOf 76 = .ok (.istore_n 3, 1) := by decide +kernel
theorem dX12_worstOf_77 : decode cX12_worstOf 77 = .ok (.iinc 4 1, 3) := by decide +kernel
theorem dX12_worstOf_80 : decode cX12_worstOf 80 = .ok (.goto (-75), 3) := by decide +kernel
theorem dX12_worstOf_83 : decode cX12_worstOf 83 = .ok (.iload_n 3, 1) := by decide +kernel
theorem dX12_worstOf_84 : decode cX12_worstOf 84 = .ok (.ireturn, 1) := by decide +kernel
theorem dX12_askOf_0 : decode cX12_askOf 0 = .ok (.aload_n 0, 1) := by decide +kernel
theorem dX12_askOf_1 : decode cX12_askOf 1 = .ok (.iload_n 1, 1) := by decide +kernel
theorem dX12_askOf_2 : decode cX12_askOf 2 = .ok (.invokestatic 315, 3) := by decide +kernel
theorem dX12_askOf_5 : decode cX12_askOf 5 = .ok (.putfield 413, 3) := by decide +kernel
theorem dX12_askOf_8 : decode cX12_askOf 8 = .ok (.iconst (-1), 1) := by decide +kernel
theorem dX12_askOf_9 : decode cX12_askOf 9 = .ok (.istore_n 2, 1) := by decide +kernel
theorem dX12_askOf_10 : decode cX12_askOf 10 = .ok (.iconst 0, 1) := by decide +kernel
theorem dX12_askOf_11 : decode cX12_askOf 11 = .ok (.istore_n 3, 1) := by decide +kernel
theorem dX12_askOf_12 : decode cX12_askOf 12 = .ok (.iload_n 3, 1) := by decide +kernel
theorem dX12_askOf_13 : decode cX12_askOf 13 = .ok (.aload_n 0, 1) := by decide +kernel
theorem dX12_askOf_14 : decode cX12_askOf 14 = .ok (.invokevirtual 74, 3) := by decide +kernel
theorem dX12_askOf_17 : decode cX12_askOf 17 = .ok (.if_icmp .ge 67, 3) := by decide +kernel
theorem dX12_askOf_20 : decode cX12_askOf 20 = .ok (.iconst 0, 1) := by decide +kernel
theorem dX12_askOf_21 : decode cX12_askOf 21 = .ok (.istore 4, 2) := by decide +kernel
theorem dX12_askOf_23 : decode cX12_askOf 23 = .ok (.iload 4, 2) := by decide +kernel
theorem dX12_askOf_25 : decode cX12_askOf 25 = .ok (.aload_n 0, 1) := by decide +kernel
theorem dX12_askOf_26 : decode cX12_askOf 26 = .ok (.invokevirtual 82, 3) := by decide +kernel
theorem dX12_askOf_29 : decode cX12_askOf 29 = .ok (.if_icmp .gt 49, 3) := by decide +kernel
theorem dX12_askOf_32 : decode cX12_askOf 32 = .ok (.aload_n 0, 1) := by decide +kernel
theorem dX12_askOf_33 : decode cX12_askOf 33 = .ok (.iload_n 1, 1) := by decide +kernel
theorem dX12_askOf_34 : decode cX12_askOf 34 = .ok (.bipush 7, 2) := by decide +kernel
theorem dX12_askOf_36 : decode cX12_askOf 36 = .ok (.iload 4, 2) := by decide +kernel
theorem dX12_askOf_38 : decode cX12_askOf 38 = .ok (.imul, 1) := by decide +kernel
theorem dX12_askOf_39 : decode cX12_askOf 39 = .ok (.iload_n 3, 1) := by decide +kernel
theorem dX12_askOf_40 : decode cX12_askOf 40 = .ok (.iadd, 1) := by decide +kernel
theorem dX12_askOf_41 : decode cX12_askOf 41 = .ok (.invokevirtual 416, 3) := by decide +kernel
theorem dX12_askOf_44 : decode cX12_askOf 44 = .ok (.istore 5, 2) := by decide +kernel
theorem dX12_askOf_46 : decode cX12_askOf 46 = .ok (.iload 5, 2) := by decide +kernel
theorem dX12_askOf_48 : decode cX12_askOf 48 = .ok (.aload_n 0, 1) := by decide +kernel
theorem dX12_askOf_49 : decode cX12_askOf 49 = .ok (.getfield 413, 3) := by decide +kernel
theorem dX12_askOf_52 : decode cX12_askOf 52 = .ok (.if_icmp .lt 6, 3) := by decide +kernel
theorem dX12_askOf_55 : decode cX12_askOf 55 = .ok (.goto 17, 3) := by decide +kernel
theorem dX12_askOf_58 : decode cX12_askOf 58 = .ok (.aload_n 0, 1) := by decide +kernel
theorem dX12_askOf_59 : decode cX12_askOf 59 = .ok (.iload 5, 2) := by decide +kernel
theorem dX12_askOf_61 : decode cX12_askOf 61 = .ok (.putfield 413, 3) := by decide +kernel
theorem dX12_askOf_64 : decode cX12_askOf 64 = .ok (.bipush 100, 2) := by decide +kernel
theorem dX12_askOf_66 : decode cX12_askOf 66 = .ok (.iload_n 3, 1) := by decide +kernel
theorem dX12_askOf_67 : decode cX12_askOf 67 = .ok (.imul, 1) := by decide +kernel
theorem dX12_askOf_68 : decode cX12_askOf 68 = .ok (.iload 4, 2) := by decide +kernel
theorem dX12_askOf_70 : decode cX12_askOf 70 = .ok (.iadd, 1) := by decide +kernel
theorem dX12_askOf_71 : decode cX12_askOf 71 = .ok (.istore_n 2, 1) := by decide +kernel
theorem dX12_askOf_72 : decode cX12_askOf 72 = .ok (.iinc 4 1, 3) := by decide +kernel
theorem dX12_askOf_75 : decode cX12_askOf 75 = .ok (.goto (-52), 3) := by decide +kernel
theorem dX12_askOf_78 : decode cX12_askOf 78 = .ok (.iinc 3 1, 3) := by decide +kernel
theorem dX12_askOf_81 : decode cX12_askOf 81 = .ok (.goto (-69), 3) := by decide +kernel
theorem dX12_askOf_84 : decode cX12_askOf 84 = .ok (.iload_n 2, 1) := by decide +kernel
theorem dX12_askOf_85 : decode cX12_askOf 85 = .ok (.ireturn, 1) := by decide +kernel
theorem dX12_ask_0 : decode cX12_ask 0 = .ok (.aload_n 0, 1) := by decide +kernel
theorem dX12_ask_1 : decode cX12_ask 1 = .ok (.iload_n 1, 1) := by decide +kernel
theorem dX12_ask_2 : decode cX12_ask 2 = .ok (.invokevirtual 407, 3) := by decide +kernel
theorem dX12_ask_5 : decode cX12_ask 5 = .ok (.istore_n 2, 1) := by decide +kernel
theorem dX12_ask_6 : decode cX12_ask 6 = .ok (.iload_n 2, 1) := by decide +kernel
theorem dX12_ask_7 : decode cX12_ask 7 = .ok (.ifCond .ge 7, 3) := by decide +kernel
theorem dX12_ask_10 : decode cX12_ask 10 = .ok (.iload_n 2, 1) := by decide +kernel
theorem dX12_ask_11 : decode cX12_ask 11 = .ok (.goto 12, 3) := by decide +kernel
theorem dX12_ask_14 : decode cX12_ask 14 = .ok (.aload_n 0, 1) := by decide +kernel
theorem dX12_ask_15 : decode cX12_ask 15 = .ok (.aload_n 0, 1) := by decide +kernel
theorem dX12_ask_16 : decode cX12_ask 16 = .ok (.iload_n 1, 1) := by decide +kernel
theorem dX12_ask_17 : decode cX12_ask 17 = .ok (.invokevirtual 410, 3) := by decide +kernel
theorem dX12_ask_20 : decode cX12_ask 20 = .ok (.invokevirtual 419, 3) := by decide +kernel
theorem dX12_ask_23 : decode cX12_ask 23 = .ok (.ireturn, 1) := by decide +kernel
theorem dX12_leaves_0 : decode cX12_leaves 0 = .ok (.aload_n 0, 1) := by decide +kernel
theorem dX12_leaves_1 : decode cX12_leaves 1 = .ok (.iload_n 1, 1) := by decide +kernel
theorem dX12_leaves_2 : decode cX12_leaves 2 = .ok (.invokevirtual 407, 3) := by decide +kernel
theorem dX12_leaves_5 : decode cX12_leaves 5 = .ok (.istore_n 2, 1) := by decide +kernel
theorem dX12_leaves_6 : decode cX12_leaves 6 = .ok (.iload_n 2, 1) := by decide +kernel
theorem dX12_leaves_7 : decode cX12_leaves 7 = .ok (.ifCond .ge 5, 3) := by decide +kernel
theorem dX12_leaves_10 : decode cX12_leaves 10 = .ok (.iload_n 2, 1) := by decide +kernel
theorem dX12_leaves_11 : decode cX12_leaves 11 = .ok (.ireturn, 1) := by decide +kernel
theorem dX12_leaves_12 : decode cX12_leaves 12 = .ok (.aload_n 0, 1) := by decide +kernel
theorem dX12_leaves_13 : decode cX12_leaves 13 = .ok (.aload_n 0, 1) := by decide +kernel
theorem dX12_leaves_14 : decode cX12_leaves 14 = .ok (.iload_n 1, 1) := by decide +kernel
theorem dX12_leaves_15 : decode cX12_leaves 15 = .ok (.invokevirtual 410, 3) := by decide +kernel
theorem dX12_leaves_18 : decode cX12_leaves 18 = .ok (.invokevirtual 419, 3) := by decide +kernel
theorem dX12_leaves_21 : decode cX12_leaves 21 = .ok (.pop, 1) := by decide +kernel
theorem dX12_leaves_22 : decode cX12_leaves 22 = .ok (.aload_n 0, 1) := by decide +kernel
theorem dX12_leaves_23 : decode cX12_leaves 23 = .ok (.getfield 413, 3) := by decide +kernel
theorem dX12_leaves_26 : decode cX12_leaves 26 = .ok (.ireturn, 1) := by decide +kernel
theorem dX12_laws_0 : decode cX12_laws 0 = .ok (.aload_n 0, 1) := by decide +kernel
theorem dX12_laws_1 : decode cX12_laws 1 = .ok (.iload_n 1, 1) := by decide +kernel
theorem dX12_laws_2 : decode cX12_laws 2 = .ok (.invokevirtual 401, 3) := by decide +kernel
theorem dX12_laws_5 : decode cX12_laws 5 = .ok (.istore_n 2, 1) := by decide +kernel
theorem dX12_laws_6 : decode cX12_laws 6 = .ok (.iload_n 2, 1) := by decide +kernel
theorem dX12_laws_7 : decode cX12_laws 7 = .ok (.ifCond .ge 5, 3) := by decide +kernel
theorem dX12_laws_10 : decode cX12_laws 10 = .ok (.iload_n 2, 1) := by decide +kernel
theorem dX12_laws_11 : decode cX12_laws 11 = .ok (.ireturn, 1) := by decide +kernel
theorem dX12_laws_12 : decode cX12_laws 12 = .ok (.iconst 0, 1) := by decide +kernel
theorem dX12_laws_13 : decode cX12_laws 13 = .ok (.istore_n 3, 1) := by decide +kernel
theorem dX12_laws_14 : decode cX12_laws 14 = .ok (.aload_n 0, 1) := by decide +kernel
theorem dX12_laws_15 : decode cX12_laws 15 = .ok (.iconst 0, 1) := by decide +kernel
theorem dX12_laws_16 : decode cX12_laws 16 = .ok (.putfield 243, 3) := by decide +kernel
theorem dX12_laws_19 : decode cX12_laws 19 = .ok (.aload_n 0, 1) := by decide +kernel
theorem dX12_laws_20 : decode cX12_laws 20 = .ok (.getfield 243, 3) := by decide +kernel
theorem dX12_laws_23 : decode cX12_laws 23 = .ok (.iconst 4, 1) := by decide +kernel
theorem dX12_laws_24 : decode cX12_laws 24 = .ok (.if_icmp .ge 37, 3) := by decide +kernel
theorem dX12_laws_27 : decode cX12_laws 27 = .ok (.iload_n 3, 1) := by decide +kernel
theorem dX12_laws_28 : decode cX12_laws 28 = .ok (.aload_n 0, 1) := by decide +kernel
theorem dX12_laws_29 : decode cX12_laws 29 = .ok (.iload_n 1, 1) := by decide +kernel
theorem dX12_laws_30 : decode cX12_laws 30 = .ok (.invokevirtual 404, 3) := by decide +kernel
theorem dX12_laws_33 : decode cX12_laws 33 = .ok (.ifCond .eq 12, 3) := by decide +kernel
theorem dX12_laws_36 : decode cX12_laws 36 = .ok (.iconst 1, 1) := by decide +kernel
theorem dX12_laws_37 : decode cX12_laws 37 = .ok (.aload_n 0, 1) := by decide +kernel
theorem dX12_laws_38 : decode cX12_laws 38 = .ok (.getfield 243, 3) := by decide +kernel
theorem dX12_laws_41 : decode cX12_laws 41 = .ok (.ishl, 1) := by decide +kernel
theorem dX12_laws_42 : decode cX12_laws 42 = .ok (.goto 4, 3) := by decide +kernel
theorem dX12_laws_45 : decode cX12_laws 45 = .ok (.iconst 0, 1) := by decide +kernel
theorem dX12_laws_46 : decode cX12_laws 46 = .ok (.ior, 1) := by decide +kernel
theorem dX12_laws_47 : decode cX12_laws 47 = .ok (.istore_n 3, 1) := by decide +kernel
theorem dX12_laws_48 : decode cX12_laws 48 = .ok (.aload_n 0, 1) := by decide +kernel
theorem dX12_laws_49 : decode cX12_laws 49 = .ok (.dup, 1) := by decide +kernel
theorem dX12_laws_50 : decode cX12_laws 50 = .ok (.getfield 243, 3) := by decide +kernel
theorem dX12_laws_53 : decode cX12_laws 53 = .ok (.iconst 1, 1) := by decide +kernel
theorem dX12_laws_54 : decode cX12_laws 54 = .ok (.iadd, 1) := by decide +kernel
theorem dX12_laws_55 : decode cX12_laws 55 = .ok (.putfield 243, 3) := by decide +kernel
theorem dX12_laws_58 : decode cX12_laws 58 = .ok (.goto (-39), 3) := by decide +kernel
theorem dX12_laws_61 : decode cX12_laws 61 = .ok (.iload_n 3, 1) := by decide +kernel
theorem dX12_laws_62 : decode cX12_laws 62 = .ok (.ireturn, 1) := by decide +kernel
theorem dX12_goBy_0 : decode cX12_goBy 0 = .ok (.aload_n 0, 1) := by decide +kernel
theorem dX12_goBy_1 : decode cX12_goBy 1 = .ok (.iload_n 1, 1) := by decide +kernel
theorem dX12_goBy_2 : decode cX12_goBy 2 = .ok (.putfield 243, 3) := by decide +kernel
theorem dX12_goBy_5 : decode cX12_goBy 5 = .ok (.aload_n 0, 1) := by decide +kernel
theorem dX12_goBy_6 : decode cX12_goBy 6 = .ok (.invokevirtual 300, 3) := by decide +kernel
theorem dX12_goBy_9 : decode cX12_goBy 9 = .ok (.return_, 1) := by decide +kernel
theorem dX12_by_0 : decode cX12_by 0 = .ok (.aload_n 0, 1) := by decide +kernel
theorem dX12_by_1 : decode cX12_by 1 = .ok (.invokevirtual 303, 3) := by decide +kernel
theorem dX12_by_4 : decode cX12_by 4 = .ok (.ifCond .eq 15, 3) := by decide +kernel
theorem dX12_by_7 : decode cX12_by 7 = .ok (.iload_n 1, 1) := by decide +kernel
theorem dX12_by_8 : decode cX12_by 8 = .ok (.i2l, 1) := by decide +kernel
theorem dX12_by_9 : decode cX12_by 9 = .ok (.lconst 0, 1) := by decide +kernel
theorem dX12_by_10 : decode cX12_by 10 = .ok (.ldc2_w 422, 3) := by decide +kernel
theorem dX12_by_13 : decode cX12_by 13 = .ok (.invokestatic 70, 3) := by decide +kernel
theorem dX12_by_16 : decode cX12_by 16 = .ok (.ifCond .ne 6, 3) := by decide +kernel
theorem dX12_by_19 : decode cX12_by 19 = .ok (.bipush (-2), 2) := by decide +kernel
theorem dX12_by_21 : decode cX12_by 21 = .ok (.ireturn, 1) := by decide +kernel
theorem dX12_by_22 : decode cX12_by 22 = .ok (.aload_n 0, 1) := by decide +kernel
theorem dX12_by_23 : decode cX12_by 23 = .ok (.iload_n 1, 1) := by decide +kernel
theorem dX12_by_24 : decode cX12_by 24 = .ok (.invokevirtual 424, 3) := by decide +kernel
theorem dX12_by_27 : decode cX12_by 27 = .ok (.aload_n 0, 1) := by decide +kernel
theorem dX12_by_28 : decode cX12_by 28 = .ok (.invokevirtual 312, 3) := by decide +kernel
theorem dX12_by_31 : decode cX12_by 31 = .ok (.ireturn, 1) := by decide +kernel
theorem dX12_law_0 : decode cX12_law 0 = .ok (.aload_n 0, 1) := by decide +kernel
theorem dX12_law_1 : decode cX12_law 1 = .ok (.invokevirtual 303, 3) := by decide +kernel
theorem dX12_law_4 : decode cX12_law 4 = .ok (.ifCond .ne 6, 3) := by decide +kernel
theorem dX12_law_7 : decode cX12_law 7 = .ok (.bipush (-2), 2) := by decide +kernel
theorem dX12_law_9 : decode cX12_law 9 = .ok (.ireturn, 1) := by decide +kernel
theorem dX12_law_10 : decode cX12_law 10 = .ok (.iconst 0, 1) := by decide +kernel
theorem dX12_law_11 : decode cX12_law 11 = .ok (.istore_n 1, 1) := by decide +kernel
theorem dX12_law_12 : decode cX12_law 12 = .ok (.iconst (-1), 1) := by decide +kernel
theorem dX12_law_13 : decode cX12_law 13 = .ok (.istore_n 2, 1) := by decide +kernel
theorem dX12_law_14 : decode cX12_law 14 = .ok (.iconst 0, 1) := by decide +kernel
theorem dX12_law_15 : decode cX12_law 15 = .ok (.istore_n 3, 1) := by decide +kernel
theorem dX12_law_16 : decode cX12_law 16 = .ok (.iload_n 3, 1) := by decide +kernel
theorem dX12_law_17 : decode cX12_law 17 = .ok (.iconst 4, 1) := by decide +kernel
theorem dX12_law_18 : decode cX12_law 18 = .ok (.if_icmp .ge 40, 3) := by decide +kernel
theorem dX12_law_21 : decode cX12_law 21 = .ok (.aload_n 0, 1) := by decide +kernel
theorem dX12_law_22 : decode cX12_law 22 = .ok (.iload_n 3, 1) := by decide +kernel
theorem dX12_law_23 : decode cX12_law 23 = .ok (.invokevirtual 424, 3) := by decide +kernel
theorem dX12_law_26 : decode cX12_law 26 = .ok (.aload_n 0, 1) := by decide +kernel
theorem dX12_law_27 : decode cX12_law 27 = .ok (.aload_n 0, 1) := by decide +kernel
theorem dX12_law_28 : decode cX12_law 28 = .ok (.invokevirtual 82, 3) := by decide +kernel
theorem dX12_law_31 : decode cX12_law 31 = .ok (.invokevirtual 337, 3) := by decide +kernel
theorem dX12_law_34 : decode cX12_law 34 = .ok (.iload_n 2, 1) := by decide +kernel
theorem dX12_law_35 : decode cX12_law 35 = .ok (.if_icmp .gt 6, 3) := by decide +kernel
theorem dX12_law_38 : decode cX12_law 38 = .ok (.goto 14, 3) := by decide +kernel
theorem dX12_law_41 : decode cX12_law 41 = .ok (.aload_n 0, 1) := by decide +kernel
theorem dX12_law_42 : decode cX12_law 42 = .ok (.aload_n 0, 1) := by decide +kernel
theorem dX12_law_43 : decode cX12_law 43 = .ok (.invokevirtual 82, 3) := by decide +kernel
theorem dX12_law_46 : decode cX12_law 46 = .ok (.invokevirtual 337, 3) := by decide +kernel
theorem dX12_law_49 : decode cX12_law 49 = .ok (.istore_n 2, 1) := by decide +kernel
theorem dX12_law_50 : decode cX12_law 50 = .ok (.iload_n 3, 1) := by decide +kernel
theorem dX12_law_51 : decode cX12_law 51 = .ok (.istore_n 1, 1) := by decide +kernel
theorem dX12_law_52 : decode cX12_law 52 = .ok (.iinc 3 1, 3) := by decide +kernel
theorem dX12_law_55 : decode cX12_law 55 = .ok (.goto (-39), 3) := by decide +kernel
theorem dX12_law_58 : decode cX12_law 58 = .ok (.iload_n 1, 1) := by decide +kernel
theorem dX12_law_59 : decode cX12_law 59 = .ok (.ireturn, 1) := by decide +kernel
theorem dX12_litByTurns_0 : decode cX12_litByTurns 0 = .ok (.aload_n 0, 1) := by decide +kernel
theorem dX12_litByTurns_1 : decode cX12_litByTurns 1 = .ok (.iload_n 1, 1) := by decide +kernel
theorem dX12_litByTurns_2 : decode cX12_litByTurns 2 = .ok (.putfield 255, 3) := by decide +kernel
theorem dX12_litByTurns_5 : decode cX12_litByTurns 5 = .ok (.aload_n 0, 1) := by decide +kernel
theorem dX12_litByTurns_6 : decode cX12_litByTurns 6 = .ok (.iload_n 2, 1) := by decide +kernel
theorem dX12_litByTurns_7 : decode cX12_litByTurns 7 = .ok (.putfield 258, 3) := by decide +kernel
theorem dX12_litByTurns_10 : decode cX12_litByTurns 10 = .ok (.aload_n 0, 1) := by decide +kernel
theorem dX12_litByTurns_11 : decode cX12_litByTurns 11 = .ok (.iconst 1, 1) := by decide +kernel
theorem dX12_litByTurns_12 : decode cX12_litByTurns 12 = .ok (.putfield 261, 3) := by decide +kernel
theorem dX12_litByTurns_15 : decode cX12_litByTurns 15 = .ok (.aload_n 0, 1) := by decide +kernel
theorem dX12_litByTurns_16 : decode cX12_litByTurns 16 = .ok (.invokevirtual 300, 3) := by decide +kernel
theorem dX12_litByTurns_19 : decode cX12_litByTurns 19 = .ok (.aload_n 0, 1) := by decide +kernel
theorem dX12_litByTurns_20 : decode cX12_litByTurns 20 = .ok (.invokevirtual 377, 3) := by decide +kernel
theorem dX12_litByTurns_23 : decode cX12_litByTurns 23 = .ok (.ireturn, 1) := by decide +kernel
theorem dX12_repliesTo_0 : decode cX12_repliesTo 0 = .ok (.iconst 0, 1) := by decide +kernel
theorem dX12_repliesTo_1 : decode cX12_repliesTo 1 = .ok (.istore_n 2, 1) := by decide +kernel
theorem dX12_repliesTo_2 : decode cX12_repliesTo 2 = .ok (.iconst 1, 1) := by decide +kernel
theorem dX12_repliesTo_3 : decode cX12_repliesTo 3 = .ok (.istore_n 3, 1) := by decide +kernel
theorem dX12_repliesTo_4 : decode cX12_repliesTo 4 = .ok (.iload_n 3, 1) := by decide +kernel
theorem dX12_repliesTo_5 : decode cX12_repliesTo 5 = .ok (.aload_n 0, 1) := by decide +kernel
theorem dX12_repliesTo_6 : decode cX12_repliesTo 6 = .ok (.invokevirtual 74, 3) := by decide +kernel
theorem dX12_repliesTo_9 : decode cX12_repliesTo 9 = .ok (.if_icmp .ge 30, 3) := by decide +kernel
theorem dX12_repliesTo_12 : decode cX12_repliesTo 12 = .ok (.aload_n 0, 1) := by decide +kernel
theorem dX12_repliesTo_13 : decode cX12_repliesTo 13 = .ok (.iload_n 1, 1) := by decide +kernel
theorem dX12_repliesTo_14 : decode cX12_repliesTo 14 = .ok (.iload_n 3, 1) := by decide +kernel
theorem dX12_repliesTo_15 : decode cX12_repliesTo 15 = .ok (.invokevirtual 427, 3) := by decide +kernel
theorem dX12_repliesTo_18 : decode cX12_repliesTo 18 = .ok (.aload_n 0, 1) := by decide +kernel
theorem dX12_repliesTo_19 : decode cX12_repliesTo 19 = .ok (.iload_n 1, 1) := by decide +kernel
theorem dX12_repliesTo_20 : decode cX12_repliesTo 20 = .ok (.iload_n 2, 1) := by decide +kernel
theorem dX12_repliesTo_21 : decode cX12_repliesTo 21 = .ok (.invokevirtual 427, 3) := by decide +kernel
theorem dX12_repliesTo_24 : decode cX12_repliesTo 24 = .ok (.if_icmp .ge 7, 3) := by decide +kernel
theorem dX12_repliesTo_27 : decode cX12_repliesTo 27 = .ok (.iload_n 3, 1) := by decide +kernel
theorem dX12_repliesTo_28 : decode cX12_repliesTo 28 = .ok (.goto 4, 3) := by decide +kernel
theorem dX12_repliesTo_31 : decode cX12_repliesTo 31 = .ok (.iload_n 2, 1) := by decide +kernel
theorem dX12_repliesTo_32 : decode cX12_repliesTo 32 = .ok (.istore_n 2, 1) := by decide +kernel
theorem dX12_repliesTo_33 : decode cX12_repliesTo 33 = .ok (.iinc 3 1, 3) := by decide +kernel
theorem dX12_repliesTo_36 : decode cX12_repliesTo 36 = .ok (.goto (-32), 3) := by decide +kernel
theorem dX12_repliesTo_39 : decode cX12_repliesTo 39 = .ok (.iload_n 2, 1) := by decide +kernel
theorem dX12_repliesTo_40 : decode cX12_repliesTo 40 = .ok (.ireturn, 1) := by decide +kernel
theorem dX12_opensOf_0 : decode cX12_opensOf 0 = .ok (.iconst (-1), 1) := by decide +kernel
theorem dX12_opensOf_1 : decode cX12_opensOf 1 = .ok (.istore_n 1, 1) := by decide +kernel
theorem dX12_opensOf_2 : decode cX12_opensOf 2 = .ok (.iconst (-1), 1) := by decide +kernel
theorem dX12_opensOf_3 : decode cX12_opensOf 3 = .ok (.istore_n 2, 1) := by decide +kernel
theorem dX12_opensOf_4 : decode cX12_opensOf 4 = .ok (.iconst 0, 1) := by decide +kernel
theorem dX12_opensOf_5 : decode cX12_opensOf 5 = .ok (.istore_n 3, 1) := by decide +kernel
theorem dX12_opensOf_6 : decode cX12_opensOf 6 = .ok (.iload_n 3, 1) := by decide +kernel
theorem dX12_opensOf_7 : decode cX12_opensOf 7 = .ok (.aload_n 0, 1) := by decide +kernel
theorem dX12_opensOf_8 : decode cX12_opensOf 8 = .ok (.invokevirtual 74, 3) := by decide +kernel
theorem dX12_opensOf_11 : decode cX12_opensOf 11 = .ok (.if_icmp .ge 35, 3) := by decide +kernel
theorem dX12_opensOf_14 : decode cX12_opensOf 14 = .ok (.aload_n 0, 1) := by decide +kernel
theorem dX12_opensOf_15 : decode cX12_opensOf 15 = .ok (.iload_n 3, 1) := by decide +kernel
theorem dX12_opensOf_16 : decode cX12_opensOf 16 = .ok (.aload_n 0, 1) := by decide +kernel
theorem dX12_opensOf_17 : decode cX12_opensOf 17 = .ok (.iload_n 3, 1) := by decide +kernel
theorem dX12_opensOf_18 : decode cX12_opensOf 18 = .ok (.invokevirtual 430, 3) := by decide +kernel
theorem dX12_opensOf_21 : decode cX12_opensOf 21 = .ok (.invokevirtual 427, 3) := by decide +kernel
theorem dX12_opensOf_24 : decode cX12_opensOf 24 = .ok (.istore 4, 2) := by decide +kernel
theorem dX12_opensOf_26 : decode cX12_opensOf 26 = .ok (.iload 4, 2) := by decide +kernel
theorem dX12_opensOf_28 : decode cX12_opensOf 28 = .ok (.iload_n 2, 1) := by decide +kernel
theorem dX12_opensOf_29 : decode cX12_opensOf 29 = .ok (.if_icmp .gt 6, 3) := by decide +kernel
theorem dX12_opensOf_32 : decode cX12_opensOf 32 = .ok (.goto 8, 3) := by decide +kernel
theorem dX12_opensOf_35 : decode cX12_opensOf 35 = .ok (.iload 4, 2) := by decide +kernel
theorem dX12_opensOf_37 : decode cX12_opensOf 37 = .ok (.istore_n 2, 1) := by decide +kernel
theorem dX12_opensOf_38 : decode cX12_opensOf 38 = .ok (.iload_n 3, 1) := by decide +kernel
theorem dX12_opensOf_39 : decode cX12_opensOf 39 = .ok (.istore_n 1, 1) := by decide +kernel
theorem dX12_opensOf_40 : decode cX12_opensOf 40 = .ok (.iinc 3 1, 3) := by decide +kernel
theorem dX12_opensOf_43 : decode cX12_opensOf 43 = .ok (.goto (-37), 3) := by decide +kernel
theorem dX12_opensOf_46 : decode cX12_opensOf 46 = .ok (.iload_n 1, 1) := by decide +kernel
theorem dX12_opensOf_47 : decode cX12_opensOf 47 = .ok (.ireturn, 1) := by decide +kernel
theorem dX12_rector_0 : decode cX12_rector 0 = .ok (.aload_n 0, 1) := by decide +kernel
theorem dX12_rector_1 : decode cX12_rector 1 = .ok (.invokevirtual 297, 3) := by decide +kernel
theorem dX12_rector_4 : decode cX12_rector 4 = .ok (.aload_n 0, 1) := by decide +kernel
theorem dX12_rector_5 : decode cX12_rector 5 = .ok (.invokevirtual 74, 3) := by decide +kernel
theorem dX12_rector_8 : decode cX12_rector 8 = .ok (.ifCond .ne 7, 3) := by decide +kernel
theorem dX12_rector_11 : decode cX12_rector 11 = .ok (.sipush (-1000), 3) := by decide +kernel
theorem dX12_rector_14 : decode cX12_rector 14 = .ok (.ireturn, 1) := by decide +kernel
theorem dX12_rector_15 : decode cX12_rector 15 = .ok (.aload_n 0, 1) := by decide +kernel
theorem dX12_rector_16 : decode cX12_rector 16 = .ok (.invokevirtual 433, 3) := by decide +kernel
theorem dX12_rector_19 : decode cX12_rector 19 = .ok (.istore_n 1, 1) := by decide +kernel
theorem dX12_rector_20 : decode cX12_rector 20 = .ok (.aload_n 0, 1) := by decide +kernel
theorem dX12_rector_21 : decode cX12_rector 21 = .ok (.iload_n 1, 1) := by decide +kernel
theorem dX12_rector_22 : decode cX12_rector 22 = .ok (.aload_n 0, 1) := by decide +kernel
theorem dX12_rector_23 : decode cX12_rector 23 = .ok (.iload_n 1, 1) := by decide +kernel
theorem dX12_rector_24 : decode cX12_rector 24 = .ok (.invokevirtual 430, 3) := by decide +kernel
theorem dX12_rector_27 : decode cX12_rector 27 = .ok (.invokevirtual 427, 3) := by decide +kernel
theorem dX12_rector_30 : decode cX12_rector 30 = .ok (.ireturn, 1) := by decide +kernel
theorem dX12_opens_0 : decode cX12_opens 0 = .ok (.aload_n 0, 1) := by decide +kernel
theorem dX12_opens_1 : decode cX12_opens 1 = .ok (.invokevirtual 297, 3) := by decide +kernel
theorem dX12_opens_4 : decode cX12_opens 4 = .ok (.aload_n 0, 1) := by decide +kernel
theorem dX12_opens_5 : decode cX12_opens 5 = .ok (.invokevirtual 78, 3) := by decide +kernel
theorem dX12_opens_8 : decode cX12_opens 8 = .ok (.ifCond .eq 10, 3) := by decide +kernel
theorem dX12_opens_11 : decode cX12_opens 11 = .ok (.aload_n 0, 1) := by decide +kernel
theorem dX12_opens_12 : decode cX12_opens 12 = .ok (.invokevirtual 433, 3) := by decide +kernel
theorem dX12_opens_15 : decode cX12_opens 15 = .ok (.goto 5, 3) := by decide +kernel
theorem dX12_opens_18 : decode cX12_opens 18 = .ok (.bipush (-2), 2) := by decide +kernel
theorem dX12_opens_20 : decode cX12_opens 20 = .ok (.ireturn, 1) := by decide +kernel
theorem dX12_replies_0 : decode cX12_replies 0 = .ok (.aload_n 0, 1) := by decide +kernel
theorem dX12_replies_1 : decode cX12_replies 1 = .ok (.invokevirtual 297, 3) := by decide +kernel
theorem dX12_replies_4 : decode cX12_replies 4 = .ok (.aload_n 0, 1) := by decide +kernel
theorem dX12_replies_5 : decode cX12_replies 5 = .ok (.iload_n 1, 1) := by decide +kernel
theorem dX12_replies_6 : decode cX12_replies 6 = .ok (.i2l, 1) := by decide +kernel
theorem dX12_replies_7 : decode cX12_replies 7 = .ok (.invokevirtual 218, 3) := by decide +kernel
theorem dX12_replies_10 : decode cX12_replies 10 = .ok (.ifCond .eq 11, 3) := by decide +kernel
theorem dX12_replies_13 : decode cX12_replies 13 = .ok (.aload_n 0, 1) := by decide +kernel
theorem dX12_replies_14 : decode cX12_replies 14 = .ok (.iload_n 1, 1) := by decide +kernel
theorem dX12_replies_15 : decode cX12_replies 15 = .ok (.invokevirtual 430, 3) := by decide +kernel
theorem dX12_replies_18 : decode cX12_replies 18 = .ok (.goto 5, 3) := by decide +kernel
theorem dX12_replies_21 : decode cX12_replies 21 = .ok (.bipush (-2), 2) := by decide +kernel
theorem dX12_replies_23 : decode cX12_replies 23 = .ok (.ireturn, 1) := by decide +kernel
theorem dX12_getsBy_0 : decode cX12_getsBy 0 = .ok (.aload_n 0, 1) := by decide +kernel
theorem dX12_getsBy_1 : decode cX12_getsBy 1 = .ok (.invokevirtual 297, 3) := by decide +kernel
theorem dX12_getsBy_4 : decode cX12_getsBy 4 = .ok (.aload_n 0, 1) := by decide +kernel
theorem dX12_getsBy_5 : decode cX12_getsBy 5 = .ok (.iload_n 3, 1) := by decide +kernel
theorem dX12_getsBy_6 : decode cX12_getsBy 6 = .ok (.iload_n 1, 1) := by decide +kernel
theorem dX12_getsBy_7 : decode cX12_getsBy 7 = .ok (.ishl, 1) := by decide +kernel
theorem dX12_getsBy_8 : decode cX12_getsBy 8 = .ok (.iload 4, 2) := by decide +kernel
theorem dX12_getsBy_10 : decode cX12_getsBy 10 = .ok (.iload_n 2, 1) := by decide +kernel
theorem dX12_getsBy_11 : decode cX12_getsBy 11 = .ok (.ishl, 1) := by decide +kernel
theorem dX12_getsBy_12 : decode cX12_getsBy 12 = .ok (.ior, 1) := by decide +kernel
theorem dX12_getsBy_13 : decode cX12_getsBy 13 = .ok (.putfield 234, 3) := by decide +kernel
theorem dX12_getsBy_16 : decode cX12_getsBy 16 = .ok (.aload_n 0, 1) := by decide +kernel
theorem dX12_getsBy_17 : decode cX12_getsBy 17 = .ok (.invokevirtual 300, 3) := by decide +kernel
theorem dX12_getsBy_20 : decode cX12_getsBy 20 = .ok (.aload_n 0, 1) := by decide +kernel
theorem dX12_getsBy_21 : decode cX12_getsBy 21 = .ok (.iload 5, 2) := by decide +kernel
theorem dX12_getsBy_23 : decode cX12_getsBy 23 = .ok (.ifCond .ne 7, 3) := by decide +kernel
theorem dX12_getsBy_26 : decode cX12_getsBy 26 = .ok (.iload_n 1, 1) := by decide +kernel
theorem dX12_getsBy_27 : decode cX12_getsBy 27 = .ok (.goto 4, 3) := by decide +kernel
theorem dX12_getsBy_30 : decode cX12_getsBy 30 = .ok (.iload_n 2, 1) := by decide +kernel
theorem dX12_getsBy_31 : decode cX12_getsBy 31 = .ok (.aload_n 0, 1) := by decide +kernel
theorem dX12_getsBy_32 : decode cX12_getsBy 32 = .ok (.invokevirtual 82, 3) := by decide +kernel
theorem dX12_getsBy_35 : decode cX12_getsBy 35 = .ok (.invokevirtual 275, 3) := by decide +kernel
theorem dX12_getsBy_38 : decode cX12_getsBy 38 = .ok (.invokestatic 225, 3) := by decide +kernel
theorem dX12_getsBy_41 : decode cX12_getsBy 41 = .ok (.iconst 2, 1) := by decide +kernel
theorem dX12_getsBy_42 : decode cX12_getsBy 42 = .ok (.iload 5, 2) := by decide +kernel
theorem dX12_getsBy_44 : decode cX12_getsBy 44 = .ok (.ifCond .ne 7, 3) := by decide +kernel
theorem dX12_getsBy_47 : decode cX12_getsBy 47 = .ok (.iload_n 3, 1) := by decide +kernel
theorem dX12_getsBy_48 : decode cX12_getsBy 48 = .ok (.goto 5, 3) := by decide +kernel
theorem dX12_getsBy_51 : decode cX12_getsBy 51 = .ok (.iload 4, 2) := by decide +kernel
theorem dX12_getsBy_53 : decode cX12_getsBy 53 = .ok (.imul, 1) := by decide +kernel
theorem dX12_getsBy_54 : decode cX12_getsBy 54 = .ok (.iadd, 1) := by decide +kernel
theorem dX12_getsBy_55 : decode cX12_getsBy 55 = .ok (.ireturn, 1) := by decide +kernel
theorem dX12_areTwo_0 : decode cX12_areTwo 0 = .ok (.aload_n 0, 1) := by decide +kernel
theorem dX12_areTwo_1 : decode cX12_areTwo 1 = .ok (.iload_n 1, 1) := by decide +kernel
theorem dX12_areTwo_2 : decode cX12_areTwo 2 = .ok (.i2l, 1) := by decide +kernel
theorem dX12_areTwo_3 : decode cX12_areTwo 3 = .ok (.invokevirtual 218, 3) := by decide +kernel
theorem dX12_areTwo_6 : decode cX12_areTwo 6 = .ok (.ifCond .eq 21, 3) := by decide +kernel
theorem dX12_areTwo_9 : decode cX12_areTwo 9 = .ok (.aload_n 0, 1) := by decide +kernel
theorem dX12_areTwo_10 : decode cX12_areTwo 10 = .ok (.iload_n 2, 1) := by decide +kernel
theorem dX12_areTwo_11 : decode cX12_areTwo 11 = .ok (.i2l, 1) := by decide +kernel
theorem dX12_areTwo_12 : decode cX12_areTwo 12 = .ok (.invokevirtual 218, 3) := by decide +kernel
theorem dX12_areTwo_15 : decode cX12_areTwo 15 = .ok (.ifCond .eq 12, 3) := by decide +kernel
theorem dX12_areTwo_18 : decode cX12_areTwo 18 = .ok (.iload_n 1, 1) := by decide +kernel
theorem dX12_areTwo_19 : decode cX12_areTwo 19 = .ok (.iload_n 2, 1) := by decide +kernel
theorem dX12_areTwo_20 : decode cX12_areTwo 20 = .ok (.if_icmp .eq 7, 3) := by decide +kernel
theorem dX12_areTwo_23 : decode cX12_areTwo 23 = .ok (.iconst 1, 1) := by decide +kernel
theorem dX12_areTwo_24 : decode cX12_areTwo 24 = .ok (.goto 4, 3) := by decide +kernel
theorem dX12_areTwo_27 : decode cX12_areTwo 27 = .ok (.iconst 0, 1) := by decide +kernel
theorem dX12_areTwo_28 : decode cX12_areTwo 28 = .ok (.ireturn, 1) := by decide +kernel
theorem dX12_rests_0 : decode cX12_rests 0 = .ok (.aload_n 0, 1) := by decide +kernel
theorem dX12_rests_1 : decode cX12_rests 1 = .ok (.iload_n 1, 1) := by decide +kernel
theorem dX12_rests_2 : decode cX12_rests 2 = .ok (.iload_n 2, 1) := by decide +kernel
theorem dX12_rests_3 : decode cX12_rests 3 = .ok (.invokevirtual 436, 3) := by decide +kernel
theorem dX12_rests_6 : decode cX12_rests 6 = .ok (.ifCond .ne 6, 3) := by decide +kernel
theorem dX12_rests_9 : decode cX12_rests 9 = .ok (.bipush (-2), 2) := by decide +kernel
theorem dX12_rests_11 : decode cX12_rests 11 = .ok (.ireturn, 1) := by decide +kernel
theorem dX12_rests_12 : decode cX12_rests 12 = .ok (.iconst 0, 1) := by decide +kernel
theorem dX12_rests_13 : decode cX12_rests 13 = .ok (.istore_n 3, 1) := by decide +kernel
theorem dX12_rests_14 : decode cX12_rests 14 = .ok (.iconst 0, 1) := by decide +kernel
theorem dX12_rests_15 : decode cX12_rests 15 = .ok (.istore 4, 2) := by decide +kernel
theorem dX12_rests_17 : decode cX12_rests 17 = .ok (.iload 4, 2) := by decide +kernel
theorem dX12_rests_19 : decode cX12_rests 19 = .ok (.iconst 4, 1) := by decide +kernel
theorem dX12_rests_20 : decode cX12_rests 20 = .ok (.if_icmp .ge 98, 3) := by decide +kernel
theorem dX12_rests_23 : decode cX12_rests 23 = .ok (.iload 4, 2) := by decide +kernel
theorem dX12_rests_25 : decode cX12_rests 25 = .ok (.iconst 1, 1) := by decide +kernel
theorem dX12_rests_26 : decode cX12_rests 26 = .ok (.iand, 1) := by decide +kernel
theorem dX12_rests_27 : decode cX12_rests 27 = .ok (.istore 5, 2) := by decide +kernel
theorem dX12_rests_29 : decode cX12_rests 29 = .ok (.iload 4, 2) := by decide +kernel
theorem dX12_rests_31 : decode cX12_rests 31 = .ok (.iconst 1, 1) := by decide +kernel
theorem dX12_rests_32 : decode cX12_rests 32 = .ok (.ishr, 1) := by decide +kernel
theorem dX12_rests_33 : decode cX12_rests 33 = .ok (.istore 6, 2) := by decide +kernel
theorem dX12_rests_35 : decode cX12_rests 35 = .ok (.aload_n 0, 1) := by decide +kernel
theorem dX12_rests_36 : decode cX12_rests 36 = .ok (.iload_n 1, 1) := by decide +kernel
theorem dX12_rests_37 : decode cX12_rests 37 = .ok (.iload_n 2, 1) := by decide +kernel
theorem dX12_rests_38 : decode cX12_rests 38 = .ok (.iload 5, 2) := by decide +kernel
theorem dX12_rests_40 : decode cX12_rests 40 = .ok (.iload 6, 2) := by decide +kernel
theorem dX12_rests_42 : decode cX12_rests 42 = .ok (.iconst 0, 1) := by decide +kernel
theorem dX12_rests_43 : decode cX12_rests 43 = .ok (.invokevirtual 439, 3) := by decide +kernel
theorem dX12_rests_46 : decode cX12_rests 46 = .ok (.aload_n 0, 1) := by decide +kernel
theorem dX12_rests_47 : decode cX12_rests 47 = .ok (.iload_n 1, 1) := by decide +kernel
theorem dX12_rests_48 : decode cX12_rests 48 = .ok (.iload_n 2, 1) := by decide +kernel
theorem dX12_rests_49 : decode cX12_rests 49 = .ok (.iconst 1, 1) := by decide +kernel
theorem dX12_rests_50 : decode cX12_rests 50 = .ok (.iload 5, 2) := by decide +kernel
theorem dX12_rests_52 : decode cX12_rests 52 = .ok (.isub, 1) := by decide +kernel
theorem dX12_rests_53 : decode cX12_rests 53 = .ok (.iload 6, 2) := by decide +kernel
theorem dX12_rests_55 : decode cX12_rests 55 = .ok (.iconst 0, 1) := by decide +kernel
theorem dX12_rests_56 : decode cX12_rests 56 = .ok (.invokevirtual 439, 3) := by decide +kernel
theorem dX12_rests_59 : decode cX12_rests 59 = .ok (.if_icmp .lt 34, 3) := by decide +kernel
theorem dX12_rests_62 : decode cX12_rests 62 = .ok (.aload_n 0, 1) := by decide +kernel
theorem dX12_rests_63 : decode cX12_rests 63 = .ok (.iload_n 1, 1) := by decide +kernel
theorem dX12_rests_64 : decode cX12_rests 64 = .ok (.iload_n 2, 1) := by decide +kernel
theorem dX12_rests_65 : decode cX12_rests 65 = .ok (.iload 5, 2) := by decide +kernel
theorem dX12_rests_67 : decode cX12_rests 67 = .ok (.iload 6, 2) := by decide +kernel
theorem dX12_rests_69 : decode cX12_rests 69 = .ok (.iconst 1, 1) := by decide +kernel
theorem dX12_rests_70 : decode cX12_rests 70 = .ok (.invokevirtual 439, 3) := by decide +kernel
theorem dX12_rests_73 : decode cX12_rests 73 = .ok (.aload_n 0, 1) := by decide +kernel
theorem dX12_rests_74 : decode cX12_rests 74 = .ok (.iload_n 1, 1) := by decide +kernel
theorem dX12_rests_75 : decode cX12_rests 75 = .ok (.iload_n 2, 1) := by decide +kernel
theorem dX12_rests_76 : decode cX12_rests 76 = .ok (.iload 5, 2) := by decide +kernel
theorem dX12_rests_78 : decode cX12_rests 78 = .ok (.iconst 1, 1) := by decide +kernel
theorem dX12_rests_79 : decode cX12_rests 79 = .ok (.iload 6, 2) := by decide +kernel
theorem dX12_rests_81 : decode cX12_rests 81 = .ok (.isub, 1) := by decide +kernel
theorem dX12_rests_82 : decode cX12_rests 82 = .ok (.iconst 1, 1) := by decide +kernel
theorem dX12_rests_83 : decode cX12_rests 83 = .ok (.invokevirtual 439, 3) := by decide +kernel
theorem dX12_rests_86 : decode cX12_rests 86 = .ok (.if_icmp .lt 7, 3) := by decide +kernel
theorem dX12_rests_89 : decode cX12_rests 89 = .ok (.iconst 1, 1) := by decide +kernel
theorem dX12_rests_90 : decode cX12_rests 90 = .ok (.goto 4, 3) := by decide +kernel
theorem dX12_rests_93 : decode cX12_rests 93 = .ok (.iconst 0, 1) := by decide +kernel
theorem dX12_rests_94 : decode cX12_rests 94 = .ok (.istore 7, 2) := by decide +kernel
theorem dX12_rests_96 : decode cX12_rests 96 = .ok (.iload_n 3, 1) := by decide +kernel
theorem dX12_rests_97 : decode cX12_rests 97 = .ok (.iload 7, 2) := by decide +kernel
theorem dX12_rests_99 : decode cX12_rests 99 = .ok (.ifCond .eq 10, 3) := by decide +kernel
theorem dX12_rests_102 : decode cX12_rests 102 = .ok (.iconst 1, 1) := by decide +kernel
theorem dX12_rests_103 : decode cX12_rests 103 = .ok (.iload 4, 2) := by decide +kernel
theorem dX12_rests_105 : decode cX12_rests 105 = .ok (.ishl, 1) := by decide +kernel
theorem dX12_rests_106 : decode cX12_rests 106 = .ok (.goto 4, 3) := by decide +kernel
theorem dX12_rests_109 : decode cX12_rests 109 = .ok (.iconst 0, 1) := by decide +kernel
theorem dX12_rests_110 : decode cX12_rests 110 = .ok (.ior, 1) := by decide +kernel
theorem dX12_rests_111 : decode cX12_rests 111 = .ok (.istore_n 3, 1) := by decide +kernel
theorem dX12_rests_112 : decode cX12_rests 112 = .ok (.iinc 4 1, 3) := by decide +kernel
theorem dX12_rests_115 : decode cX12_rests 115 = .ok (.goto (-98), 3) := by decide +kernel
theorem dX12_rests_118 : decode cX12_rests 118 = .ok (.iload_n 3, 1) := by decide +kernel
theorem dX12_rests_119 : decode cX12_rests 119 = .ok (.ireturn, 1) := by decide +kernel
theorem dX12_gets_0 : decode cX12_gets 0 = .ok (.aload_n 0, 1) := by decide +kernel
theorem dX12_gets_1 : decode cX12_gets 1 = .ok (.iload_n 1, 1) := by decide +kernel
theorem dX12_gets_2 : decode cX12_gets 2 = .ok (.iload_n 2, 1) := by decide +kernel
theorem dX12_gets_3 : decode cX12_gets 3 = .ok (.invokevirtual 436, 3) := by decide +kernel
theorem dX12_gets_6 : decode cX12_gets 6 = .ok (.ifCond .eq 37, 3) := by decide +kernel
theorem dX12_gets_9 : decode cX12_gets 9 = .ok (.iload_n 3, 1) := by decide +kernel
theorem dX12_gets_10 : decode cX12_gets 10 = .ok (.i2l, 1) := by decide +kernel
theorem dX12_gets_11 : decode cX12_gets 11 = .ok (.lconst 0, 1) := by decide +kernel
theorem dX12_gets_12 : decode cX12_gets 12 = .ok (.lconst 1, 1) := by decide +kernel
theorem dX12_gets_13 : decode cX12_gets 13 = .ok (.invokestatic 70, 3) := by decide +kernel
theorem dX12_gets_16 : decode cX12_gets 16 = .ok (.ifCond .eq 27, 3) := by decide +kernel
theorem dX12_gets_19 : decode cX12_gets 19 = .ok (.iload 4, 2) := by decide +kernel
theorem dX12_gets_21 : decode cX12_gets 21 = .ok (.i2l, 1) := by decide +kernel
theorem dX12_gets_22 : decode cX12_gets 22 = .ok (.lconst 0, 1) := by decide +kernel
theorem dX12_gets_23 : decode cX12_gets 23 = .ok (.lconst 1, 1) := by decide +kernel
theorem dX12_gets_24 : decode cX12_gets 24 = .ok (.invokestatic 70, 3) := by decide +kernel
theorem dX12_gets_27 : decode cX12_gets 27 = .ok (.ifCond .eq 16, 3) := by decide +kernel
theorem dX12_gets_30 : decode cX12_gets 30 = .ok (.aload_n 0, 1) := by decide +kernel
theorem dX12_gets_31 : decode cX12_gets 31 = .ok (.iload_n 1, 1) := by decide +kernel
theorem dX12_gets_32 : decode cX12_gets 32 = .ok (.iload_n 2, 1) := by decide +kernel
theorem dX12_gets_33 : decode cX12_gets 33 = .ok (.iload_n 3, 1) := by decide +kernel
theorem dX12_gets_34 : decode cX12_gets 34 = .ok (.iload 4, 2) := by decide +kernel
theorem dX12_gets_36 : decode cX12_gets 36 = .ok (.iconst 0, 1) := by decide +kernel
theorem dX12_gets_37 : decode cX12_gets 37 = .ok (.invokevirtual 439, 3) := by decide +kernel
theorem dX12_gets_40 : decode cX12_gets 40 = .ok (.goto 6, 3) := by decide +kernel
theorem dX12_gets_43 : decode cX12_gets 43 = .ok (.sipush (-1000), 3) := by decide +kernel
theorem dX12_gets_46 : decode cX12_gets 46 = .ok (.ireturn, 1) := by decide +kernel
theorem dX12_laySilence_0 : decode cX12_laySilence 0 = .ok (.aload_n 0, 1) := by decide +kernel
theorem dX12_laySilence_1 : decode cX12_laySilence 1 = .ok (.lconst 0, 1) := by decide +kernel
theorem dX12_laySilence_2 : decode cX12_laySilence 2 = .ok (.putfield 443, 3) := by decide +kernel
theorem dX12_laySilence_5 : decode cX12_laySilence 5 = .ok (.aload_n 0, 1) := by decide +kernel
theorem dX12_laySilence_6 : decode cX12_laySilence 6 = .ok (.lconst 0, 1) := by decide +kernel
theorem dX12_laySilence_7 : decode cX12_laySilence 7 = .ok (.putfield 447, 3) := by decide +kernel
theorem dX12_laySilence_10 : decode cX12_laySilence 10 = .ok (.aload_n 0, 1) := by decide +kernel
theorem dX12_laySilence_11 : decode cX12_laySilence 11 = .ok (.lconst 0, 1) := by decide +kernel
theorem dX12_laySilence_12 : decode cX12_laySilence 12 = .ok (.putfield 450, 3) := by decide +kernel
theorem dX12_laySilence_15 : decode cX12_laySilence 15 = .ok (.aload_n 0, 1) := by decide +kernel
theorem dX12_laySilence_16 : decode cX12_laySilence 16 = .ok (.invokevirtual 297, 3) := by decide +kernel
theorem dX12_laySilence_19 : decode cX12_laySilence 19 = .ok (.iconst 0, 1) := by decide +kernel
theorem dX12_laySilence_20 : decode cX12_laySilence 20 = .ok (.istore_n 3, 1) := by decide +kernel
theorem dX12_laySilence_21 : decode cX12_laySilence 21 = .ok (.iload_n 3, 1) := by decide +kernel
theorem dX12_laySilence_22 : decode cX12_laySilence 22 = .ok (.iconst 2, 1) := by decide +kernel
theorem dX12_laySilence_23 : decode cX12_laySilence 23 = .ok (.iload_n 2, 1) := by decide +kernel
theorem dX12_laySilence_24 : decode cX12_laySilence 24 = .ok (.ishl, 1) := by decide +kernel
theorem dX12_laySilence_25 : decode cX12_laySilence 25 = .ok (.if_icmp .ge 138, 3) := by decide +kernel
theorem dX12_laySilence_28 : decode cX12_laySilence 28 = .ok (.lconst 1, 1) := by decide +kernel
theorem dX12_laySilence_29 : decode cX12_laySilence 29 = .ok (.lstore 4, 2) := by decide +kernel
theorem dX12_laySilence_31 : decode cX12_laySilence 31 = .ok (.iconst 0, 1) := by decide +kernel
theorem dX12_laySilence_32 : decode cX12_laySilence 32 = .ok (.istore 6, 2) := by decide +kernel
theorem dX12_laySilence_34 : decode cX12_laySilence 34 = .ok (.iload 6, 2) := by decide +kernel
theorem dX12_laySilence_36 : decode cX12_laySilence 36 = .ok (.iload_n 2, 1) := by decide +kernel
theorem dX12_laySilence_37 : decode cX12_laySilence 37 = .ok (.if_icmp .gt 44, 3) := by decide +kernel
theorem dX12_laySilence_40 : decode cX12_laySilence 40 = .ok (.lload 4, 2) := by decide +kernel
theorem dX12_laySilence_42 : decode cX12_laySilence 42 = .ok (.iload_n 3, 1) := by decide +kernel
theorem dX12_laySilence_43 : decode cX12_laySilence 43 = .ok (.iload 6, 2) := by decide +kernel
theorem dX12_laySilence_45 : decode cX12_laySilence 45 = .ok (.invokestatic 237, 3) := by decide +kernel
theorem dX12_laySilence_48 : decode cX12_laySilence 48 = .ok (.iconst 1, 1) := by decide +kernel
theorem dX12_laySilence_49 : decode cX12_laySilence 49 = .ok (.if_icmp .ne 13, 3) := by decide +kernel
theorem dX12_laySilence_52 : decode cX12_laySilence 52 = .ok (.aload_n 0, 1) := by decide +kernel
theorem dX12_laySilence_53 : decode cX12_laySilence 53 = .ok (.getfield 9, 3) := by decide +kernel
theorem dX12_laySilence_56 : decode cX12_laySilence 56 = .ok (.iconst 2, 1) := by decide +kernel
theorem dX12_laySilence_57 : decode cX12_laySilence 57 = .ok (.iaload, 1) := by decide +kernel
theorem dX12_laySilence_58 : decode cX12_laySilence 58 = .ok (.i2l, 1) := by decide +kernel
theorem dX12_laySilence_59 : decode cX12_laySilence 59 = .ok (.goto 13, 3) := by decide +kernel
theorem dX12_laySilence_62 : decode cX12_laySilence 62 = .ok (.bipush 10, 2) := by decide +kernel
theorem dX12_laySilence_64 : decode cX12_laySilence 64 = .ok (.aload_n 0, 1) := by decide +kernel
theorem dX12_laySilence_65 : decode cX12_laySilence 65 = .ok (.getfield 9, 3) := by decide +kernel
theorem dX12_laySilence_68 : decode cX12_laySilence 68 = .ok (.iconst 2, 1) := by decide +kernel
theorem dX12_laySilence_69 : decode cX12_laySilence 69 = .ok (.iaload, 1) := by decide +kernel
theorem dX12_laySilence_70 : decode cX12_laySilence 70 = .ok (.isub, 1) := by decide +kernel
theorem dX12_laySilence_71 : decode cX12_laySilence 71 = .ok (.i2l, 1) := by decide +kernel
theorem dX12_laySilence_72 : decode cX12_laySilence 72 = .ok (.lmul, 1) := by decide +kernel
theorem dX12_laySilence_73 : decode cX12_laySilence 73 = .ok (.lstore 4, 2) := by decide +kernel
theorem dX12_laySilence_75 : decode cX12_laySilence 75 = .ok (.iinc 6 1, 3) := by decide +kernel
theorem dX12_laySilence_78 : decode cX12_laySilence 78 = .ok (.goto (-44), 3) := by decide +kernel
theorem dX12_laySilence_81 : decode cX12_laySilence 81 = .ok (.lload 4, 2) := by decide +kernel
theorem dX12_laySilence_83 : decode cX12_laySilence 83 = .ok (.lconst 0, 1) := by decide +kernel
theorem dX12_laySilence_84 : decode cX12_laySilence 84 = .ok (.lcmp, 1) := by decide +kernel
theorem dX12_laySilence_85 : decode cX12_laySilence 85 = .ok (.ifCond .ne 6, 3) := by decide +kernel
theorem dX12_laySilence_88 : decode cX12_laySilence 88 = .ok (.goto 69, 3) := by decide +kernel
theorem dX12_laySilence_91 : decode cX12_laySilence 91 = .ok (.aload_n 0, 1) := by decide +kernel
theorem dX12_laySilence_92 : decode cX12_laySilence 92 = .ok (.iload_n 3, 1) := by decide +kernel
theorem dX12_laySilence_93 : decode cX12_laySilence 93 = .ok (.putfield 246, 3) := by decide +kernel
theorem dX12_laySilence_96 : decode cX12_laySilence 96 = .ok (.aload_n 0, 1) := by decide +kernel
theorem dX12_laySilence_97 : decode cX12_laySilence 97 = .ok (.invokevirtual 300, 3) := by decide +kernel
theorem dX12_laySilence_100 : decode cX12_laySilence 100 = .ok (.aload_n 0, 1) := by decide +kernel
theorem dX12_laySilence_101 : decode cX12_laySilence 101 = .ok (.dup, 1) := by decide +kernel
theorem dX12_laySilence_102 : decode cX12_laySilence 102 = .ok (.getfield 443, 3) := by decide +kernel
theorem dX12_laySilence_105 : decode cX12_laySilence 105 = .ok (.lload 4, 2) := by decide +kernel
theorem dX12_laySilence_107 : decode cX12_laySilence 107 = .ok (.ladd, 1) := by decide +kernel
theorem dX12_laySilence_108 : decode cX12_laySilence 108 = .ok (.putfield 443, 3) := by decide +kernel
theorem dX12_laySilence_111 : decode cX12_laySilence 111 = .ok (.aload_n 0, 1) := by decide +kernel
theorem dX12_laySilence_112 : decode cX12_laySilence 112 = .ok (.dup, 1) := by decide +kernel
theorem dX12_laySilence_113 : decode cX12_laySilence 113 = .ok (.getfield 447, 3) := by decide +kernel
theorem dX12_laySilence_116 : decode cX12_laySilence 116 = .ok (.aload_n 0, 1) := by decide +kernel
theorem dX12_laySilence_117 : decode cX12_laySilence 117 = .ok (.iload_n 1, 1) := by decide +kernel
theorem dX12_laySilence_118 : decode cX12_laySilence 118 = .ok (.iload_n 2, 1) := by decide +kernel
theorem dX12_laySilence_119 : decode cX12_laySilence 119 = .ok (.iconst 1, 1) := by decide +kernel
theorem dX12_laySilence_120 : decode cX12_laySilence 120 = .ok (.iadd, 1) := by decide +kernel
theorem dX12_laySilence_121 : decode cX12_laySilence 121 = .ok (.invokevirtual 275, 3) := by decide +kernel
theorem dX12_laySilence_124 : decode cX12_laySilence 124 = .ok (.ifCond .le 8, 3) := by decide +kernel
theorem dX12_laySilence_127 : decode cX12_laySilence 127 = .ok (.lload 4, 2) := by decide +kernel
theorem dX12_laySilence_129 : decode cX12_laySilence 129 = .ok (.goto 4, 3) := by decide +kernel
theorem dX12_laySilence_132 : decode cX12_laySilence 132 = .ok (.lconst 0, 1) := by decide +kernel
theorem dX12_laySilence_133 : decode cX12_laySilence 133 = .ok (.ladd, 1) := by decide +kernel
theorem dX12_laySilence_134 : decode cX12_laySilence 134 = .ok (.putfield 447, 3) := by decide +kernel
theorem dX12_laySilence_137 : decode cX12_laySilence 137 = .ok (.aload_n 0, 1) := by decide +kernel
theorem dX12_laySilence_138 : decode cX12_laySilence 138 = .ok (.dup, 1) := by decide +kernel
theorem dX12_laySilence_139 : decode cX12_laySilence 139 = .ok (.getfield 450, 3) := by decide +kernel
theorem dX12_laySilence_142 : decode cX12_laySilence 142 = .ok (.lload 4, 2) := by decide +kernel
theorem dX12_laySilence_144 : decode cX12_laySilence 144 = .ok (.aload_n 0, 1) := by decide +kernel
theorem dX12_laySilence_145 : decode cX12_laySilence 145 = .ok (.iload_n 2, 1) := by decide +kernel
theorem dX12_laySilence_146 : decode cX12_laySilence 146 = .ok (.iconst 1, 1) := by decide +kernel
theorem dX12_laySilence_147 : decode cX12_laySilence 147 = .ok (.iadd, 1) := by decide +kernel
theorem dX12_laySilence_148 : decode cX12_laySilence 148 = .ok (.invokevirtual 337, 3) := by decide +kernel
theorem dX12_laySilence_151 : decode cX12_laySilence 151 = .ok (.i2l, 1) := by decide +kernel
theorem dX12_laySilence_152 : decode cX12_laySilence 152 = .ok (.lmul, 1) := by decide +kernel
theorem dX12_laySilence_153 : decode cX12_laySilence 153 = .ok (.ladd, 1) := by decide +kernel
theorem dX12_laySilence_154 : decode cX12_laySilence 154 = .ok (.putfield 450, 3) := by decide +kernel
theorem dX12_laySilence_157 : decode cX12_laySilence 157 = .ok (.iinc 3 1, 3) := by decide +kernel
theorem dX12_laySilence_160 : decode cX12_laySilence 160 = .ok (.goto (-139), 3) := by decide +kernel
theorem dX12_laySilence_163 : decode cX12_laySilence 163 = .ok (.return_, 1) := by decide +kernel
theorem dX12_isSilence_0 : decode cX12_isSilence 0 = .ok (.aload_n 0, 1) := by decide +kernel
theorem dX12_isSilence_1 : decode cX12_isSilence 1 = .ok (.invokevirtual 78, 3) := by decide +kernel
theorem dX12_isSilence_4 : decode cX12_isSilence 4 = .ok (.ifCond .eq 37, 3) := by decide +kernel
theorem dX12_isSilence_7 : decode cX12_isSilence 7 = .ok (.iload_n 1, 1) := by decide +kernel
theorem dX12_isSilence_8 : decode cX12_isSilence 8 = .ok (.i2l, 1) := by decide +kernel
theorem dX12_isSilence_9 : decode cX12_isSilence 9 = .ok (.lconst 0, 1) := by decide +kernel
theorem dX12_isSilence_10 : decode cX12_isSilence 10 = .ok (.ldc2_w 453, 3) := by decide +kernel
theorem dX12_isSilence_13 : decode cX12_isSilence 13 = .ok (.invokestatic 70, 3) := by decide +kernel
theorem dX12_isSilence_16 : decode cX12_isSilence 16 = .ok (.ifCond .eq 25, 3) := by decide +kernel
theorem dX12_isSilence_19 : decode cX12_isSilence 19 = .ok (.iload_n 1, 1) := by decide +kernel
theorem dX12_isSilence_20 : decode cX12_isSilence 20 = .ok (.aload_n 0, 1) := by decide +kernel
theorem dX12_isSilence_21 : decode cX12_isSilence 21 = .ok (.invokevirtual 82, 3) := by decide +kernel
theorem dX12_isSilence_24 : decode cX12_isSilence 24 = .ok (.if_icmp .ge 17, 3) := by decide +kernel
theorem dX12_isSilence_27 : decode cX12_isSilence 27 = .ok (.iload_n 2, 1) := by decide +kernel
theorem dX12_isSilence_28 : decode cX12_isSilence 28 = .ok (.i2l, 1) := by decide +kernel
theorem dX12_isSilence_29 : decode cX12_isSilence 29 = .ok (.lconst 0, 1) := by decide +kernel
theorem dX12_isSilence_30 : decode cX12_isSilence 30 = .ok (.lconst 1, 1) := by decide +kernel
theorem dX12_isSilence_31 : decode cX12_isSilence 31 = .ok (.invokestatic 70, 3) := by decide +kernel
theorem dX12_isSilence_34 : decode cX12_isSilence 34 = .ok (.ifCond .eq 7, 3) := by decide +kernel
theorem dX12_isSilence_37 : decode cX12_isSilence 37 = .ok (.iconst 1, 1) := by decide +kernel
theorem dX12_isSilence_38 : decode cX12_isSilence 38 = .ok (.goto 4, 3) := by decide +kernel
theorem dX12_isSilence_41 : decode cX12_isSilence 41 = .ok (.iconst 0, 1) := by decide +kernel
theorem dX12_isSilence_42 : decode cX12_isSilence 42 = .ok (.ireturn, 1) := by decide +kernel
theorem dX12_chance_0 : decode cX12_chance 0 = .ok (.aload_n 0, 1) := by decide +kernel
theorem dX12_chance_1 : decode cX12_chance 1 = .ok (.iload_n 1, 1) := by decide +kernel
theorem dX12_chance_2 : decode cX12_chance 2 = .ok (.i2l, 1) := by decide +kernel
theorem dX12_chance_3 : decode cX12_chance 3 = .ok (.invokevirtual 218, 3) := by decide +kernel
theorem dX12_chance_6 : decode cX12_chance 6 = .ok (.ifCond .eq 12, 3) := by decide +kernel
theorem dX12_chance_9 : decode cX12_chance 9 = .ok (.aload_n 0, 1) := by decide +kernel
theorem dX12_chance_10 : decode cX12_chance 10 = .ok (.iload_n 2, 1) := by decide +kernel
theorem dX12_chance_11 : decode cX12_chance 11 = .ok (.iload_n 3, 1) := by decide +kernel
theorem dX12_chance_12 : decode cX12_chance 12 = .ok (.invokevirtual 455, 3) := by decide +kernel
theorem dX12_chance_15 : decode cX12_chance 15 = .ok (.ifCond .ne 7, 3) := by decide +kernel
theorem dX12_chance_18 : decode cX12_chance 18 = .ok (.ldc2_w 458, 3) := by decide +kernel
theorem dX12_chance_21 : decode cX12_chance 21 = .ok (.lreturn, 1) := by decide +kernel
theorem dX12_chance_22 : decode cX12_chance 22 = .ok (.aload_n 0, 1) := by decide +kernel
theorem dX12_chance_23 : decode cX12_chance 23 = .ok (.iload_n 1, 1) := by decide +kernel
theorem dX12_chance_24 : decode cX12_chance 24 = .ok (.iload_n 2, 1) := by decide +kernel
theorem dX12_chance_25 : decode cX12_chance 25 = .ok (.invokevirtual 460, 3) := by decide +kernel
theorem dX12_chance_28 : decode cX12_chance 28 = .ok (.aload_n 0, 1) := by decide +kernel
theorem dX12_chance_29 : decode cX12_chance 29 = .ok (.getfield 447, 3) := by decide +kernel
theorem dX12_chance_32 : decode cX12_chance 32 = .ok (.aload_n 0, 1) := by decide +kernel
theorem dX12_chance_33 : decode cX12_chance 33 = .ok (.getfield 443, 3) := by decide +kernel
theorem dX12_chance_36 : decode cX12_chance 36 = .ok (.iload_n 3, 1) := by decide +kernel
theorem dX12_chance_37 : decode cX12_chance 37 = .ok (.invokestatic 394, 3) := by decide +kernel
theorem dX12_chance_40 : decode cX12_chance 40 = .ok (.lreturn, 1) := by decide +kernel
theorem dX12_mean_0 : decode cX12_mean 0 = .ok (.aload_n 0, 1) := by decide +kernel
theorem dX12_mean_1 : decode cX12_mean 1 = .ok (.iload_n 1, 1) := by decide +kernel
theorem dX12_mean_2 : decode cX12_mean 2 = .ok (.iload_n 2, 1) := by decide +kernel
theorem dX12_mean_3 : decode cX12_mean 3 = .ok (.invokevirtual 455, 3) := by decide +kernel
theorem dX12_mean_6 : decode cX12_mean 6 = .ok (.ifCond .ne 7, 3) := by decide +kernel
theorem dX12_mean_9 : decode cX12_mean 9 = .ok (.ldc2_w 458, 3) := by decide +kernel
theorem dX12_mean_12 : decode cX12_mean 12 = .ok (.lreturn, 1) := by decide +kernel
theorem dX12_mean_13 : decode cX12_mean 13 = .ok (.aload_n 0, 1) := by decide +kernel
theorem dX12_mean_14 : decode cX12_mean 14 = .ok (.iconst 0, 1) := by decide +kernel
theorem dX12_mean_15 : decode cX12_mean 15 = .ok (.iload_n 1, 1) := by decide +kernel
theorem dX12_mean_16 : decode cX12_mean 16 = .ok (.invokevirtual 460, 3) := by decide +kernel
theorem dX12_mean_19 : decode cX12_mean 19 = .ok (.aload_n 0, 1) := by decide +kernel
theorem dX12_mean_20 : decode cX12_mean 20 = .ok (.getfield 450, 3) := by decide +kernel
theorem dX12_mean_23 : decode cX12_mean 23 = .ok (.aload_n 0, 1) := by decide +kernel
theorem dX12_mean_24 : decode cX12_mean 24 = .ok (.getfield 443, 3) := by decide +kernel
theorem dX12_mean_27 : decode cX12_mean 27 = .ok (.iload_n 2, 1) := by decide +kernel
theorem dX12_mean_28 : decode cX12_mean 28 = .ok (.invokestatic 394, 3) := by decide +kernel
theorem dX12_mean_31 : decode cX12_mean 31 = .ok (.lreturn, 1) := by decide +kernel
theorem dX12_keepAct_0 : decode cX12_keepAct 0 = .ok (.aload_n 0, 1) := by decide +kernel
theorem dX12_keepAct_1 : decode cX12_keepAct 1 = .ok (.getfield 9, 3) := by decide +kernel
theorem dX12_keepAct_4 : decode cX12_keepAct 4 = .ok (.bipush 7, 2) := by decide +kernel
theorem dX12_keepAct_6 : decode cX12_keepAct 6 = .ok (.iaload, 1) := by decide +kernel
theorem dX12_keepAct_7 : decode cX12_keepAct 7 = .ok (.bipush 30, 2) := by decide +kernel
theorem dX12_keepAct_9 : decode cX12_keepAct 9 = .ok (.if_icmp .ne 6, 3) := by decide +kernel
theorem dX12_keepAct_12 : decode cX12_keepAct 12 = .ok (.bipush (-5), 2) := by decide +kernel
theorem dX12_keepAct_14 : decode cX12_keepAct 14 = .ok (.ireturn, 1) := by decide +kernel
theorem dX12_keepAct_15 : decode cX12_keepAct 15 = .ok (.aload_n 0, 1) := by decide +kernel
theorem dX12_keepAct_16 : decode cX12_keepAct 16 = .ok (.getfield 9, 3) := by decide +kernel
theorem dX12_keepAct_19 : decode cX12_keepAct 19 = .ok (.bipush 74, 2) := by decide +kernel
theorem dX12_keepAct_21 : decode cX12_keepAct 21 = .ok (.aload_n 0, 1) := by decide +kernel
theorem dX12_keepAct_22 : decode cX12_keepAct 22 = .ok (.getfield 9, 3) := by decide +kernel
theorem dX12_keepAct_25 : decode cX12_keepAct 25 = .ok (.bipush 7, 2) := by decide +kernel
theorem dX12_keepAct_27 : decode cX12_keepAct 27 = .ok (.iaload, 1) := by decide +kernel
theorem dX12_keepAct_28 : decode cX12_keepAct 28 = .ok (.iadd, 1) := by decide +kernel
theorem dX12_keepAct_29 : decode cX12_keepAct 29 = .ok (.iload_n 1, 1) := by decide +kernel
theorem dX12_keepAct_30 : decode cX12_keepAct 30 = .ok (.iastore, 1) := by decide +kernel
theorem dX12_keepAct_31 : decode cX12_keepAct 31 = .ok (.aload_n 0, 1) := by decide +kernel
theorem dX12_keepAct_32 : decode cX12_keepAct 32 = .ok (.getfield 9, 3) := by decide +kernel
theorem dX12_keepAct_35 : decode cX12_keepAct 35 = .ok (.bipush 7, 2) := by decide +kernel
theorem dX12_keepAct_37 : decode cX12_keepAct 37 = .ok (.dup2, 1) := by decide +kernel
theorem dX12_keepAct_38 : decode cX12_keepAct 38 = .ok (.iaload, 1) := by decide +kernel
theorem dX12_keepAct_39 : decode cX12_keepAct 39 = .ok (.iconst 1, 1) := by decide +kernel
theorem dX12_keepAct_40 : decode cX12_keepAct 40 = .ok (.iadd, 1) := by decide +kernel
theorem dX12_keepAct_41 : decode cX12_keepAct 41 = .ok (.iastore, 1) := by decide +kernel
theorem dX12_keepAct_42 : decode cX12_keepAct 42 = .ok (.aload_n 0, 1) := by decide +kernel
theorem dX12_keepAct_43 : decode cX12_keepAct 43 = .ok (.invokevirtual 303, 3) := by decide +kernel
theorem dX12_keepAct_46 : decode cX12_keepAct 46 = .ok (.pop, 1) := by decide +kernel
theorem dX12_keepAct_47 : decode cX12_keepAct 47 = .ok (.aload_n 0, 1) := by decide +kernel
theorem dX12_keepAct_48 : decode cX12_keepAct 48 = .ok (.invokevirtual 377, 3) := by decide +kernel
theorem dX12_keepAct_51 : decode cX12_keepAct 51 = .ok (.ireturn, 1) := by decide +kernel
theorem dX12_light_0 : decode cX12_light 0 = .ok (.aload_n 0, 1) := by decide +kernel
theorem dX12_light_1 : decode cX12_light 1 = .ok (.iload_n 1, 1) := by decide +kernel
theorem dX12_light_2 : decode cX12_light 2 = .ok (.i2l, 1) := by decide +kernel
theorem dX12_light_3 : decode cX12_light 3 = .ok (.invokevirtual 218, 3) := by decide +kernel
theorem dX12_light_6 : decode cX12_light 6 = .ok (.ifCond .eq 43, 3) := by decide +kernel
theorem dX12_light_9 : decode cX12_light 9 = .ok (.iload_n 2, 1) := by decide +kernel
theorem dX12_light_10 : decode cX12_light 10 = .ok (.i2l, 1) := by decide +kernel
theorem dX12_light_11 : decode cX12_light 11 = .ok (.lconst 1, 1) := by decide +kernel
theorem dX12_light_12 : decode cX12_light 12 = .ok (.ldc2_w 183, 3) := by decide +kernel
theorem dX12_light_15 : decode cX12_light 15 = .ok (.invokestatic 70, 3) := by decide +kernel
theorem dX12_light_18 : decode cX12_light 18 = .ok (.ifCond .eq 31, 3) := by decide +kernel
theorem dX12_light_21 : decode cX12_light 21 = .ok (.aload_n 0, 1) := by decide +kernel
theorem dX12_light_22 : decode cX12_light 22 = .ok (.iload_n 3, 1) := by decide +kernel
theorem dX12_light_23 : decode cX12_light 23 = .ok (.i2l, 1) := by decide +kernel
theorem dX12_light_24 : decode cX12_light 24 = .ok (.invokevirtual 306, 3) := by decide +kernel
theorem dX12_light_27 : decode cX12_light 27 = .ok (.ifCond .eq 22, 3) := by decide +kernel
theorem dX12_light_30 : decode cX12_light 30 = .ok (.aload_n 0, 1) := by decide +kernel
theorem dX12_light_31 : decode cX12_light 31 = .ok (.sipush 10000, 3) := by decide +kernel
theorem dX12_light_34 : decode cX12_light 34 = .ok (.iload_n 2, 1) := by decide +kernel
theorem dX12_light_35 : decode cX12_light 35 = .ok (.imul, 1) := by decide +kernel
theorem dX12_light_36 : decode cX12_light 36 = .ok (.bipush 100, 2) := by decide +kernel
theorem dX12_light_38 : decode cX12_light 38 = .ok (.iload_n 1, 1) := by decide +kernel
theorem dX12_light_39 : decode cX12_light 39 = .ok (.imul, 1) := by decide +kernel
theorem dX12_light_40 : decode cX12_light 40 = .ok (.iadd, 1) := by decide +kernel
theorem dX12_light_41 : decode cX12_light 41 = .ok (.iload_n 3, 1) := by decide +kernel
theorem dX12_light_42 : decode cX12_light 42 = .ok (.iadd, 1) := by decide +kernel
theorem dX12_light_43 : decode cX12_light 43 = .ok (.invokevirtual 463, 3) := by decide +kernel
theorem dX12_light_46 : decode cX12_light 46 = .ok (.goto 5, 3) := by decide +kernel
theorem dX12_light_49 : decode cX12_light 49 = .ok (.bipush (-2), 2) := by decide +kernel
theorem dX12_light_51 : decode cX12_light 51 = .ok (.ireturn, 1) := by decide +kernel
theorem dX12_draught_0 : decode cX12_draught 0 = .ok (.aload_n 0, 1) := by decide +kernel
theorem dX12_draught_1 : decode cX12_draught 1 = .ok (.iload_n 1, 1) := by decide +kernel
theorem dX12_draught_2 : decode cX12_draught 2 = .ok (.i2l, 1) := by decide +kernel
theorem dX12_draught_3 : decode cX12_draught 3 = .ok (.invokevirtual 218, 3) := by decide +kernel
theorem dX12_draught_6 : decode cX12_draught 6 = .ok (.ifCond .eq 25, 3) := by decide +kernel
theorem dX12_draught_9 : decode cX12_draught 9 = .ok (.aload_n 0, 1) := by decide +kernel
theorem dX12_draught_10 : decode cX12_draught 10 = .ok (.iload_n 2, 1) := by decide +kernel
theorem dX12_draught_11 : decode cX12_draught 11 = .ok (.i2l, 1) := by decide +kernel
theorem dX12_draught_12 : decode cX12_draught 12 = .ok (.invokevirtual 306, 3) := by decide +kernel
theorem dX12_draught_15 : decode cX12_draught 15 = .ok (.ifCond .eq 16, 3) := by decide +kernel
theorem dX12_draught_18 : decode cX12_draught 18 = .ok (.aload_n 0, 1) := by decide +kernel
theorem dX12_draught_19 : decode cX12_draught 19 = .ok (.bipush 100, 2) := by decide +kernel
theorem dX12_draught_21 : decode cX12_draught 21 = .ok (.iload_n 1, 1) := by decide +kernel
theorem dX12_draught_22 : decode cX12_draught 22 = .ok (.imul, 1) := by decide +kernel
theorem dX12_draught_23 : decode cX12_draught 23 = .ok (.iload_n 2, 1) := by decide +kernel
theorem dX12_draught_24 : decode cX12_draught 24 = .ok (.iadd, 1) := by decide +kernel
theorem dX12_draught_25 : decode cX12_draught 25 = .ok (.invokevirtual 463, 3) := by decide +kernel
theorem dX12_draught_28 : decode cX12_draught 28 = .ok (.goto 5, 3) := by decide +kernel
theorem dX12_draught_31 : decode cX12_draught 31 = .ok (.bipush (-2), 2) := by decide +kernel
theorem dX12_draught_33 : decode cX12_draught 33 = .ok (.ireturn, 1) := by decide +kernel
theorem dX12_undo_0 : decode cX12_undo 0 = .ok (.aload_n 0, 1) := by decide +kernel
theorem dX12_undo_1 : decode cX12_undo 1 = .ok (.invokevirtual 78, 3) := by decide +kernel
theorem dX12_undo_4 : decode cX12_undo 4 = .ok (.ifCond .ne 6, 3) := by decide +kernel
theorem dX12_undo_7 : decode cX12_undo 7 = .ok (.bipush (-2), 2) := by decide +kernel
theorem dX12_undo_9 : decode cX12_undo 9 = .ok (.ireturn, 1) := by decide +kernel
theorem dX12_undo_10 : decode cX12_undo 10 = .ok (.aload_n 0, 1) := by decide +kernel
theorem dX12_undo_11 : decode cX12_undo 11 = .ok (.getfield 9, 3) := by decide +kernel
theorem dX12_undo_14 : decode cX12_undo 14 = .ok (.bipush 7, 2) := by decide +kernel
theorem dX12_undo_16 : decode cX12_undo 16 = .ok (.iaload, 1) := by decide +kernel
theorem dX12_undo_17 : decode cX12_undo 17 = .ok (.ifCond .ne 6, 3) := by decide +kernel
theorem dX12_undo_20 : decode cX12_undo 20 = .ok (.bipush (-5), 2) := by decide +kernel
theorem dX12_undo_22 : decode cX12_undo 22 = .ok (.ireturn, 1) := by decide +kernel
theorem dX12_undo_23 : decode cX12_undo 23 = .ok (.aload_n 0, 1) := by decide +kernel
theorem dX12_undo_24 : decode cX12_undo 24 = .ok (.getfield 9, 3) := by decide +kernel
theorem dX12_undo_27 : decode cX12_undo 27 = .ok (.bipush 7, 2) := by decide +kernel
theorem dX12_undo_29 : decode cX12_undo 29 = .ok (.dup2, 1) := by decide +kernel
theorem dX12_undo_30 : decode cX12_undo 30 = .ok (.iaload, 1) := by decide +kernel
theorem dX12_undo_31 : decode cX12_undo 31 = .ok (.iconst 1, 1) := by decide +kernel
theorem dX12_undo_32 : decode cX12_undo 32 = .ok (.isub, 1) := by decide +kernel
theorem dX12_undo_33 : decode cX12_undo 33 = .ok (.iastore, 1) := by decide +kernel
theorem dX12_undo_34 : decode cX12_undo 34 = .ok (.aload_n 0, 1) := by decide +kernel
theorem dX12_undo_35 : decode cX12_undo 35 = .ok (.getfield 9, 3) := by decide +kernel
theorem dX12_undo_38 : decode cX12_undo 38 = .ok (.bipush 7, 2) := by decide +kernel
theorem dX12_undo_40 : decode cX12_undo 40 = .ok (.iaload, 1) := by decide +kernel
theorem dX12_undo_41 : decode cX12_undo 41 = .ok (.ireturn, 1) := by decide +kernel
theorem dX12_anew_0 : decode cX12_anew 0 = .ok (.aload_n 0, 1) := by decide +kernel
theorem dX12_anew_1 : decode cX12_anew 1 = .ok (.invokevirtual 78, 3) := by decide +kernel
theorem dX12_anew_4 : decode cX12_anew 4 = .ok (.ifCond .ne 6, 3) := by decide +kernel
theorem dX12_anew_7 : decode cX12_anew 7 = .ok (.bipush (-2), 2) := by decide +kernel
theorem dX12_anew_9 : decode cX12_anew 9 = .ok (.ireturn, 1) := by decide +kernel
theorem dX12_anew_10 : decode cX12_anew 10 = .ok (.aload_n 0, 1) := by decide +kernel
theorem dX12_anew_11 : decode cX12_anew 11 = .ok (.getfield 9, 3) := by decide +kernel
theorem dX12_anew_14 : decode cX12_anew 14 = .ok (.bipush 7, 2) := by decide +kernel
theorem dX12_anew_16 : decode cX12_anew 16 = .ok (.iaload, 1) := by decide +kernel
theorem dX12_anew_17 : decode cX12_anew 17 = .ok (.istore_n 1, 1) := by decide +kernel
theorem dX12_anew_18 : decode cX12_anew 18 = .ok (.aload_n 0, 1) := by decide +kernel
theorem dX12_anew_19 : decode cX12_anew 19 = .ok (.getfield 9, 3) := by decide +kernel
theorem dX12_anew_22 : decode cX12_anew 22 = .ok (.bipush 7, 2) := by decide +kernel
theorem dX12_anew_24 : decode cX12_anew 24 = .ok (.iconst 0, 1) := by decide +kernel
theorem dX12_anew_25 : decode cX12_anew 25 = .ok (.iastore, 1) := by decide +kernel
theorem dX12_anew_26 : decode cX12_anew 26 = .ok (.iload_n 1, 1) := by decide +kernel
theorem dX12_anew_27 : decode cX12_anew 27 = .ok (.ireturn, 1) := by decide +kernel
theorem dX12_goDrawn_0 : decode cX12_goDrawn 0 = .ok (.aload_n 0, 1) := by decide +kernel
theorem dX12_goDrawn_1 : decode cX12_goDrawn 1 = .ok (.invokevirtual 297, 3) := by decide +kernel
theorem dX12_goDrawn_4 : decode cX12_goDrawn 4 = .ok (.lload_n 1, 1) := by decide +kernel
theorem dX12_goDrawn_5 : decode cX12_goDrawn 5 = .ok (.lstore_n 3, 1) := by decide +kernel
theorem dX12_goDrawn_6 : decode cX12_goDrawn 6 = .ok (.iconst 0, 1) := by decide +kernel
theorem dX12_goDrawn_7 : decode cX12_goDrawn 7 = .ok (.istore 5, 2) := by decide +kernel
theorem dX12_goDrawn_9 : decode cX12_goDrawn 9 = .ok (.iload 5, 2) := by decide +kernel
theorem dX12_goDrawn_11 : decode cX12_goDrawn 11 = .ok (.aload_n 0, 1) := by decide +kernel
theorem dX12_goDrawn_12 : decode cX12_goDrawn 12 = .ok (.invokevirtual 82, 3) := by decide +kernel
theorem dX12_goDrawn_15 : decode cX12_goDrawn 15 = .ok (.if_icmp .ge 60, 3) := by decide +kernel
theorem dX12_goDrawn_18 : decode cX12_goDrawn 18 = .ok (.ldc2_w 466, 3) := by decide +kernel
theorem dX12_goDrawn_21 : decode cX12_goDrawn 21 = .ok (.lload_n 3, 1) := by decide +kernel
theorem dX12_goDrawn_22 : decode cX12_goDrawn 22 = .ok (.lmul, 1) := by decide +kernel
theorem dX12_goDrawn_23 : decode cX12_goDrawn 23 = .ok (.ldc2_w 468, 3) := by decide +kernel
theorem dX12_goDrawn_26 : decode cX12_goDrawn 26 = .ok (.ladd, 1) := by decide +kernel
theorem dX12_goDrawn_27 : decode cX12_goDrawn 27 = .ok (.ldc2_w 470, 3) := by decide +kernel
theorem dX12_goDrawn_30 : decode cX12_goDrawn 30 = .ok (.lrem, 1) := by decide +kernel
theorem dX12_goDrawn_31 : decode cX12_goDrawn 31 = .ok (.lstore_n 3, 1) := by decide +kernel
theorem dX12_goDrawn_32 : decode cX12_goDrawn 32 = .ok (.aload_n 0, 1) := by decide +kernel
theorem dX12_goDrawn_33 : decode cX12_goDrawn 33 = .ok (.dup, 1) := by decide +kernel
theorem dX12_goDrawn_34 : decode cX12_goDrawn 34 = .ok (.getfield 246, 3) := by decide +kernel
theorem dX12_goDrawn_37 : decode cX12_goDrawn 37 = .ok (.lload_n 3, 1) := by decide +kernel
theorem dX12_goDrawn_38 : decode cX12_goDrawn 38 = .ok (.ldc2_w 472, 3) := by decide +kernel
theorem dX12_goDrawn_41 : decode cX12_goDrawn 41 = .ok (.ldiv, 1) := by decide +kernel
theorem dX12_goDrawn_42 : decode cX12_goDrawn 42 = .ok (.ldc2_w 474, 3) := by decide +kernel
theorem dX12_goDrawn_45 : decode cX12_goDrawn 45 = .ok (.lrem, 1) := by decide +kernel
theorem dX12_goDrawn_46 : decode cX12_goDrawn 46 = .ok (.aload_n 0, 1) := by decide +kernel
theorem dX12_goDrawn_47 : decode cX12_goDrawn 47 = .ok (.getfield 9, 3) := by decide +kernel
theorem dX12_goDrawn_50 : decode cX12_goDrawn 50 = .ok (.iconst 2, 1) := by decide +kernel
theorem dX12_goDrawn_51 : decode cX12_goDrawn 51 = .ok (.iaload, 1) := by decide +kernel
theorem dX12_goDrawn_52 : decode cX12_goDrawn 52 = .ok (.i2l, 1) := by decide +kernel
theorem dX12_goDrawn_53 : decode cX12_goDrawn 53 = .ok (.lcmp, 1) := by decide +kernel
theorem dX12_goDrawn_54 : decode cX12_goDrawn 54 = .ok (.ifCond .ge 10, 3) := by decide +kernel
theorem dX12_goDrawn_57 : decode cX12_goDrawn 57 = .ok (.iconst 1, 1) := by decide +kernel
theorem dX12_goDrawn_58 : decode cX12_goDrawn 58 = .ok (.iload 5, 2) := by decide +kernel
theorem dX12_goDrawn_60 : decode cX12_goDrawn 60 = .ok (.ishl, 1) := by decide +kernel
theorem dX12_goDrawn_61 : decode cX12_goDrawn 61 = .ok (.goto 4, 3) := by decide +kernel
theorem dX12_goDrawn_64 : decode cX12_goDrawn 64 = .ok (.iconst 0, 1) := by decide +kernel
theorem dX12_goDrawn_65 : decode cX12_goDrawn 65 = .ok (.ior, 1) := by decide +kernel
theorem dX12_goDrawn_66 : decode cX12_goDrawn 66 = .ok (.putfield 246, 3) := by decide +kernel
theorem dX12_goDrawn_69 : decode cX12_goDrawn 69 = .ok (.iinc 5 1, 3) := by decide +kernel
theorem dX12_goDrawn_72 : decode cX12_goDrawn 72 = .ok (.goto (-63), 3) := by decide +kernel
theorem dX12_goDrawn_75 : decode cX12_goDrawn 75 = .ok (.aload_n 0, 1) := by decide +kernel
theorem dX12_goDrawn_76 : decode cX12_goDrawn 76 = .ok (.invokevirtual 300, 3) := by decide +kernel
theorem dX12_goDrawn_79 : decode cX12_goDrawn 79 = .ok (.return_, 1) := by decide +kernel
theorem dX12_isSeed_0 : decode cX12_isSeed 0 = .ok (.iload_n 0, 1) := by decide +kernel
theorem dX12_isSeed_1 : decode cX12_isSeed 1 = .ok (.i2l, 1) := by decide +kernel
theorem dX12_isSeed_2 : decode cX12_isSeed 2 = .ok (.lconst 0, 1) := by decide +kernel
theorem dX12_isSeed_3 : decode cX12_isSeed 3 = .ok (.ldc2_w 476, 3) := by decide +kernel
theorem dX12_isSeed_6 : decode cX12_isSeed 6 = .ok (.invokestatic 70, 3) := by decide +kernel
theorem dX12_isSeed_9 : decode cX12_isSeed 9 = .ok (.ireturn, 1) := by decide +kernel
theorem dX12_drawn_0 : decode cX12_drawn 0 = .ok (.aload_n 0, 1) := by decide +kernel
theorem dX12_drawn_1 : decode cX12_drawn 1 = .ok (.invokevirtual 78, 3) := by decide +kernel
theorem dX12_drawn_4 : decode cX12_drawn 4 = .ok (.ifCond .eq 20, 3) := by decide +kernel
theorem dX12_drawn_7 : decode cX12_drawn 7 = .ok (.iload_n 1, 1) := by decide +kernel
theorem dX12_drawn_8 : decode cX12_drawn 8 = .ok (.invokestatic 478, 3) := by decide +kernel
theorem dX12_drawn_11 : decode cX12_drawn 11 = .ok (.ifCond .eq 13, 3) := by decide +kernel
theorem dX12_drawn_14 : decode cX12_drawn 14 = .ok (.iload_n 2, 1) := by decide +kernel
theorem dX12_drawn_15 : decode cX12_drawn 15 = .ok (.i2l, 1) := by decide +kernel
theorem dX12_drawn_16 : decode cX12_drawn 16 = .ok (.lconst 0, 1) := by decide +kernel
theorem dX12_drawn_17 : decode cX12_drawn 17 = .ok (.lconst 1, 1) := by decide +kernel
theorem dX12_drawn_18 : decode cX12_drawn 18 = .ok (.invokestatic 70, 3) := by decide +kernel
theorem dX12_drawn_21 : decode cX12_drawn 21 = .ok (.ifCond .ne 6, 3) := by decide +kernel
theorem dX12_drawn_24 : decode cX12_drawn 24 = .ok (.bipush (-2), 2) := by decide +kernel
theorem dX12_drawn_26 : decode cX12_drawn 26 = .ok (.ireturn, 1) := by decide +kernel
theorem dX12_drawn_27 : decode cX12_drawn 27 = .ok (.aload_n 0, 1) := by decide +kernel
theorem dX12_drawn_28 : decode cX12_drawn 28 = .ok (.iload_n 1, 1) := by decide +kernel
theorem dX12_drawn_29 : decode cX12_drawn 29 = .ok (.i2l, 1) := by decide +kernel
theorem dX12_drawn_30 : decode cX12_drawn 30 = .ok (.invokevirtual 481, 3) := by decide +kernel
theorem dX12_drawn_33 : decode cX12_drawn 33 = .ok (.iload_n 2, 1) := by decide +kernel
theorem dX12_drawn_34 : decode cX12_drawn 34 = .ok (.ifCond .ne 10, 3) := by decide +kernel
theorem dX12_drawn_37 : decode cX12_drawn 37 = .ok (.aload_n 0, 1) := by decide +kernel
theorem dX12_drawn_38 : decode cX12_drawn 38 = .ok (.getfield 246, 3) := by decide +kernel
theorem dX12_drawn_41 : decode cX12_drawn 41 = .ok (.goto 7, 3) := by decide +kernel
theorem dX12_drawn_44 : decode cX12_drawn 44 = .ok (.aload_n 0, 1) := by decide +kernel
theorem dX12_drawn_45 : decode cX12_drawn 45 = .ok (.invokevirtual 312, 3) := by decide +kernel
theorem dX12_drawn_48 : decode cX12_drawn 48 = .ok (.ireturn, 1) := by decide +kernel
theorem dX12_luck_0 : decode cX12_luck 0 = .ok (.iload_n 1, 1) := by decide +kernel
theorem dX12_luck_1 : decode cX12_luck 1 = .ok (.invokestatic 478, 3) := by decide +kernel
theorem dX12_luck_4 : decode cX12_luck 4 = .ok (.ifCond .eq 24, 3) := by decide +kernel
theorem dX12_luck_7 : decode cX12_luck 7 = .ok (.iload_n 2, 1) := by decide +kernel
theorem dX12_luck_8 : decode cX12_luck 8 = .ok (.i2l, 1) := by decide +kernel
theorem dX12_luck_9 : decode cX12_luck 9 = .ok (.lconst 1, 1) := by decide +kernel
theorem dX12_luck_10 : decode cX12_luck 10 = .ok (.ldc2_w 485, 3) := by decide +kernel
theorem dX12_luck_13 : decode cX12_luck 13 = .ok (.invokestatic 70, 3) := by decide +kernel
theorem dX12_luck_16 : decode cX12_luck 16 = .ok (.ifCond .eq 12, 3) := by decide +kernel
theorem dX12_luck_19 : decode cX12_luck 19 = .ok (.aload_n 0, 1) := by decide +kernel
theorem dX12_luck_20 : decode cX12_luck 20 = .ok (.iload_n 3, 1) := by decide +kernel
theorem dX12_luck_21 : decode cX12_luck 21 = .ok (.i2l, 1) := by decide +kernel
theorem dX12_luck_22 : decode cX12_luck 22 = .ok (.invokevirtual 218, 3) := by decide +kernel
theorem dX12_luck_25 : decode cX12_luck 25 = .ok (.ifCond .ne 6, 3) := by decide +kernel
theorem dX12_luck_28 : decode cX12_luck 28 = .ok (.bipush (-2), 2) := by decide +kernel
theorem dX12_luck_30 : decode cX12_luck 30 = .ok (.ireturn, 1) := by decide +kernel
theorem dX12_luck_31 : decode cX12_luck 31 = .ok (.iconst 0, 1) := by decide +kernel
theorem dX12_luck_32 : decode cX12_luck 32 = .ok (.istore 4, 2) := by decide +kernel
theorem dX12_luck_34 : decode cX12_luck 34 = .ok (.iconst 0, 1) := by decide +kernel
theorem dX12_luck_35 : decode cX12_luck 35 = .ok (.istore 5, 2) := by decide +kernel
theorem dX12_luck_37 : decode cX12_luck 37 = .ok (.iload 5, 2) := by decide +kernel
theorem dX12_luck_39 : decode cX12_luck 39 = .ok (.iload_n 2, 1) := by decide +kernel
theorem dX12_luck_40 : decode cX12_luck 40 = .ok (.if_icmp .ge 41, 3) := by decide +kernel
theorem dX12_luck_43 : decode cX12_luck 43 = .ok (.aload_n 0, 1) := by decide +kernel
theorem dX12_luck_44 : decode cX12_luck 44 = .ok (.iload_n 1, 1) := by decide +kernel
theorem dX12_luck_45 : decode cX12_luck 45 = .ok (.i2l, 1) := by decide +kernel
theorem dX12_luck_46 : decode cX12_luck 46 = .ok (.iload 5, 2) := by decide +kernel
theorem dX12_luck_48 : decode cX12_luck 48 = .ok (.i2l, 1) := by decide +kernel
theorem dX12_luck_49 : decode cX12_luck 49 = .ok (.ladd, 1) := by decide +kernel
theorem dX12_luck_50 : decode cX12_luck 50 = .ok (.invokevirtual 481, 3) := by decide +kernel
theorem dX12_luck_53 : decode cX12_luck 53 = .ok (.iload 4, 2) := by decide +kernel
theorem dX12_luck_55 : decode cX12_luck 55 = .ok (.aload_n 0, 1) := by decide +kernel
theorem dX12_luck_56 : decode cX12_luck 56 = .ok (.iload_n 3, 1) := by decide +kernel
theorem dX12_luck_57 : decode cX12_luck 57 = .ok (.aload_n 0, 1) := by decide +kernel
theorem dX12_luck_58 : decode cX12_luck 58 = .ok (.invokevirtual 82, 3) := by decide +kernel
theorem dX12_luck_61 : decode cX12_luck 61 = .ok (.invokevirtual 275, 3) := by decide +kernel
theorem dX12_luck_64 : decode cX12_luck 64 = .ok (.ifCond .le 7, 3) := by decide +kernel
theorem dX12_luck_67 : decode cX12_luck 67 = .ok (.iconst 1, 1) := by decide +kernel
theorem dX12_luck_68 : decode cX12_luck 68 = .ok (.goto 4, 3) := by decide +kernel
theorem dX12_luck_71 : decode cX12_luck 71 = .ok (.iconst 0, 1) := by decide +kernel
theorem dX12_luck_72 : decode cX12_luck 72 = .ok (.iadd, 1) := by decide +kernel
theorem dX12_luck_73 : decode cX12_luck 73 = .ok (.istore 4, 2) := by decide +kernel
theorem dX12_luck_75 : decode cX12_luck 75 = .ok (.iinc 5 1, 3) := by decide +kernel
theorem dX12_luck_78 : decode cX12_luck 78 = .ok (.goto (-41), 3) := by decide +kernel
theorem dX12_luck_81 : decode cX12_luck 81 = .ok (.iload 4, 2) := by decide +kernel
theorem dX12_luck_83 : decode cX12_luck 83 = .ok (.ireturn, 1) := by decide +kernel
theorem dX12_hushes_0 : decode cX12_hushes 0 = .ok (.aload_n 0, 1) := by decide +kernel
theorem dX12_hushes_1 : decode cX12_hushes 1 = .ok (.iload_n 1, 1) := by decide +kernel
theorem dX12_hushes_2 : decode cX12_hushes 2 = .ok (.i2l, 1) := by decide +kernel
theorem dX12_hushes_3 : decode cX12_hushes 3 = .ok (.invokevirtual 218, 3) := by decide +kernel
theorem dX12_hushes_6 : decode cX12_hushes 6 = .ok (.ifCond .ne 6, 3) := by decide +kernel
theorem dX12_hushes_9 : decode cX12_hushes 9 = .ok (.bipush (-2), 2) := by decide +kernel
theorem dX12_hushes_11 : decode cX12_hushes 11 = .ok (.ireturn, 1) := by decide +kernel
theorem dX12_hushes_12 : decode cX12_hushes 12 = .ok (.aload_n 0, 1) := by decide +kernel
theorem dX12_hushes_13 : decode cX12_hushes 13 = .ok (.getfield 9, 3) := by decide +kernel
theorem dX12_hushes_16 : decode cX12_hushes 16 = .ok (.bipush 7, 2) := by decide +kernel
theorem dX12_hushes_18 : decode cX12_hushes 18 = .ok (.iaload, 1) := by decide +kernel
theorem dX12_hushes_19 : decode cX12_hushes 19 = .ok (.ifCond .le 6, 3) := by decide +kernel
theorem dX12_hushes_22 : decode cX12_hushes 22 = .ok (.bipush (-5), 2) := by decide +kernel
theorem dX12_hushes_24 : decode cX12_hushes 24 = .ok (.ireturn, 1) := by decide +kernel
theorem dX12_hushes_25 : decode cX12_hushes 25 = .ok (.aload_n 0, 1) := by decide +kernel
theorem dX12_hushes_26 : decode cX12_hushes 26 = .ok (.iload_n 1, 1) := by decide +kernel
theorem dX12_hushes_27 : decode cX12_hushes 27 = .ok (.iconst 0, 1) := by decide +kernel
theorem dX12_hushes_28 : decode cX12_hushes 28 = .ok (.invokevirtual 222, 3) := by decide +kernel
theorem dX12_hushes_31 : decode cX12_hushes 31 = .ok (.istore_n 2, 1) := by decide +kernel
theorem dX12_hushes_32 : decode cX12_hushes 32 = .ok (.iconst 0, 1) := by decide +kernel
theorem dX12_hushes_33 : decode cX12_hushes 33 = .ok (.istore_n 3, 1) := by decide +kernel
theorem dX12_hushes_34 : decode cX12_hushes 34 = .ok (.iload_n 3, 1) := by decide +kernel
theorem dX12_hushes_35 : decode cX12_hushes 35 = .ok (.iconst 3, 1) := by decide +kernel
theorem dX12_hushes_36 : decode cX12_hushes 36 = .ok (.if_icmp .ge 23, 3) := by decide +kernel
theorem dX12_hushes_39 : decode cX12_hushes 39 = .ok (.aload_n 0, 1) := by decide +kernel
theorem dX12_hushes_40 : decode cX12_hushes 40 = .ok (.getfield 9, 3) := by decide +kernel
theorem dX12_hushes_43 : decode cX12_hushes 43 = .ok (.bipush 9, 2) := by decide +kernel
theorem dX12_hushes_45 : decode cX12_hushes 45 = .ok (.iconst 3, 1) := by decide +kernel
theorem dX12_hushes_46 : decode cX12_hushes 46 = .ok (.iload_n 1, 1) := by decide +kernel
theorem dX12_hushes_47 : decode cX12_hushes 47 = .ok (.imul, 1) := by decide +kernel
theorem dX12_hushes_48 : decode cX12_hushes 48 = .ok (.iadd, 1) := by decide +kernel
theorem dX12_hushes_49 : decode cX12_hushes 49 = .ok (.iload_n 3, 1) := by decide +kernel
theorem dX12_hushes_50 : decode cX12_hushes 50 = .ok (.iadd, 1) := by decide +kernel
theorem dX12_hushes_51 : decode cX12_hushes 51 = .ok (.iconst 0, 1) := by decide +kernel
theorem dX12_hushes_52 : decode cX12_hushes 52 = .ok (.iastore, 1) := by decide +kernel
theorem dX12_hushes_53 : decode cX12_hushes 53 = .ok (.iinc 3 1, 3) := by decide +kernel
theorem dX12_hushes_56 : decode cX12_hushes 56 = .ok (.goto (-22), 3) := by decide +kernel
theorem dX12_hushes_59 : decode cX12_hushes 59 = .ok (.iload_n 2, 1) := by decide +kernel
theorem dX12_hushes_60 : decode cX12_hushes 60 = .ok (.ireturn, 1) := by decide +kernel
theorem dX12_count_0 : decode cX12_count 0 = .ok (.iload_n 1, 1) := by decide +kernel
theorem dX12_count_1 : decode cX12_count 1 = .ok (.i2l, 1) := by decide +kernel
theorem dX12_count_2 : decode cX12_count 2 = .ok (.lconst 0, 1) := by decide +kernel
theorem dX12_count_3 : decode cX12_count 3 = .ok (.ldc2_w 487, 3) := by decide +kernel
theorem dX12_count_6 : decode cX12_count 6 = .ok (.invokestatic 70, 3) := by decide +kernel
theorem dX12_count_9 : decode cX12_count 9 = .ok (.ifCond .eq 10, 3) := by decide +kernel
theorem dX12_count_12 : decode cX12_count 12 = .ok (.aload_n 0, 1) := by decide +kernel
theorem dX12_count_13 : decode cX12_count 13 = .ok (.getfield 9, 3) := by decide +kernel
theorem dX12_count_16 : decode cX12_count 16 = .ok (.iload_n 1, 1) := by decide +kernel
theorem dX12_count_17 : decode cX12_count 17 = .ok (.iaload, 1) := by decide +kernel
theorem dX12_count_18 : decode cX12_count 18 = .ok (.ireturn, 1) := by decide +kernel
theorem dX12_count_19 : decode cX12_count 19 = .ok (.iload_n 1, 1) := by decide +kernel
theorem dX12_count_20 : decode cX12_count 20 = .ok (.bipush 9, 2) := by decide +kernel
theorem dX12_count_22 : decode cX12_count 22 = .ok (.if_icmp .ne 8, 3) := by decide +kernel
theorem dX12_count_25 : decode cX12_count 25 = .ok (.aload_n 0, 1) := by decide +kernel
theorem dX12_count_26 : decode cX12_count 26 = .ok (.getfield 85, 3) := by decide +kernel
theorem dX12_count_29 : decode cX12_count 29 = .ok (.ireturn, 1) := by decide +kernel
theorem dX12_count_30 : decode cX12_count 30 = .ok (.iload_n 1, 1) := by decide +kernel
theorem dX12_count_31 : decode cX12_count 31 = .ok (.bipush 10, 2) := by decide +kernel
theorem dX12_count_33 : decode cX12_count 33 = .ok (.if_icmp .eq 5, 3) := by decide +kernel
theorem dX12_count_36 : decode cX12_count 36 = .ok (.iconst (-1), 1) := by decide +kernel
theorem dX12_count_37 : decode cX12_count 37 = .ok (.ireturn, 1) := by decide +kernel
theorem dX12_count_38 : decode cX12_count 38 = .ok (.iconst 0, 1) := by decide +kernel
theorem dX12_count_39 : decode cX12_count 39 = .ok (.istore_n 2, 1) := by decide +kernel
theorem dX12_count_40 : decode cX12_count 40 = .ok (.iconst 0, 1) := by decide +kernel
theorem dX12_count_41 : decode cX12_count 41 = .ok (.istore_n 3, 1) := by decide +kernel
theorem dX12_count_42 : decode cX12_count 42 = .ok (.iload_n 3, 1) := by decide +kernel
theorem dX12_count_43 : decode cX12_count 43 = .ok (.iconst 4, 1) := by decide +kernel
theorem dX12_count_44 : decode cX12_count 44 = .ok (.if_icmp .ge 27, 3) := by decide +kernel
theorem dX12_count_47 : decode cX12_count 47 = .ok (.iload_n 2, 1) := by decide +kernel
theorem dX12_count_48 : decode cX12_count 48 = .ok (.aload_n 0, 1) := by decide +kernel
theorem dX12_count_49 : decode cX12_count 49 = .ok (.getfield 52, 3) := by decide +kernel
theorem dX12_count_52 : decode cX12_count 52 = .ok (.iload_n 3, 1) := by decide +kernel
theorem dX12_count_53 : decode cX12_count 53 = .ok (.iaload, 1) := by decide +kernel
theorem dX12_count_54 : decode cX12_count 54 = .ok (.iconst (-1), 1) := by decide +kernel
theorem dX12_count_55 : decode cX12_count 55 = .ok (.if_icmp .ne 7, 3) := by decide +kernel
theorem dX12_count_58 : decode cX12_count 58 = .ok (.iconst 0, 1) := by decide +kernel
theorem dX12_count_59 : decode cX12_count 59 = .ok (.goto 4, 3) := by decide +kernel
theorem dX12_count_62 : decode cX12_count 62 = .ok (.iconst 1, 1) := by decide +kernel
theorem dX12_count_63 : decode cX12_count 63 = .ok (.iadd, 1) := by decide +kernel
theorem dX12_count_64 : decode cX12_count 64 = .ok (.istore_n 2, 1) := by decide +kernel
theorem dX12_count_65 : decode cX12_count 65 = .ok (.iinc 3 1, 3) := by decide +kernel
theorem dX12_count_68 : decode cX12_count 68 = .ok (.goto (-26), 3) := by decide +kernel
theorem dX12_count_71 : decode cX12_count 71 = .ok (.iload_n 2, 1) := by decide +kernel
theorem dX12_count_72 : decode cX12_count 72 = .ok (.ireturn, 1) := by decide +kernel
theorem dX12_isSlot_0 : decode cX12_isSlot 0 = .ok (.iload_n 0, 1) := by decide +kernel
theorem dX12_isSlot_1 : decode cX12_isSlot 1 = .ok (.i2l, 1) := by decide +kernel
theorem dX12_isSlot_2 : decode cX12_isSlot 2 = .ok (.lconst 0, 1) := by decide +kernel
theorem dX12_isSlot_3 : decode cX12_isSlot 3 = .ok (.ldc2_w 422, 3) := by decide +kernel
theorem dX12_isSlot_6 : decode cX12_isSlot 6 = .ok (.invokestatic 70, 3) := by decide +kernel
theorem dX12_isSlot_9 : decode cX12_isSlot 9 = .ok (.ireturn, 1) := by decide +kernel
theorem dX12_clipped_0 : decode cX12_clipped 0 = .ok (.bipush 64, 2) := by decide +kernel
theorem dX12_clipped_2 : decode cX12_clipped 2 = .ok (.bipush 8, 2) := by decide +kernel
theorem dX12_clipped_4 : decode cX12_clipped 4 = .ok (.iload_n 2, 1) := by decide +kernel
theorem dX12_clipped_5 : decode cX12_clipped 5 = .ok (.ishl, 1) := by decide +kernel
theorem dX12_clipped_6 : decode cX12_clipped 6 = .ok (.isub, 1) := by decide +kernel
theorem dX12_clipped_7 : decode cX12_clipped 7 = .ok (.istore_n 3, 1) := by decide +kernel
theorem dX12_clipped_8 : decode cX12_clipped 8 = .ok (.lload_n 0, 1) := by decide +kernel
theorem dX12_clipped_9 : decode cX12_clipped 9 = .ok (.iload_n 3, 1) := by decide +kernel
theorem dX12_clipped_10 : decode cX12_clipped 10 = .ok (.lshl, 1) := by decide +kernel
theorem dX12_clipped_11 : decode cX12_clipped 11 = .ok (.iload_n 3, 1) := by decide +kernel
theorem dX12_clipped_12 : decode cX12_clipped 12 = .ok (.lshr, 1) := by decide +kernel
theorem dX12_clipped_13 : decode cX12_clipped 13 = .ok (.lreturn, 1) := by decide +kernel
theorem dX12_row_0 : decode cX12_row 0 = .ok (.iload_n 1, 1) := by decide +kernel
theorem dX12_row_1 : decode cX12_row 1 = .ok (.invokestatic 343, 3) := by decide +kernel
theorem dX12_row_4 : decode cX12_row 4 = .ok (.ifCond .eq 21, 3) := by decide +kernel
theorem dX12_row_7 : decode cX12_row 7 = .ok (.iload_n 2, 1) := by decide +kernel
theorem dX12_row_8 : decode cX12_row 8 = .ok (.i2l, 1) := by decide +kernel
theorem dX12_row_9 : decode cX12_row 9 = .ok (.lconst 0, 1) := by decide +kernel
theorem dX12_row_10 : decode cX12_row 10 = .ok (.ldc2_w 422, 3) := by decide +kernel
theorem dX12_row_13 : decode cX12_row 13 = .ok (.invokestatic 70, 3) := by decide +kernel
theorem dX12_row_16 : decode cX12_row 16 = .ok (.ifCond .eq 9, 3) := by decide +kernel
theorem dX12_row_19 : decode cX12_row 19 = .ok (.iload_n 3, 1) := by decide +kernel
theorem dX12_row_20 : decode cX12_row 20 = .ok (.bipush 60, 2) := by decide +kernel
theorem dX12_row_22 : decode cX12_row 22 = .ok (.if_icmp .le 6, 3) := by decide +kernel
theorem dX12_row_25 : decode cX12_row 25 = .ok (.bipush (-2), 2) := by decide +kernel
theorem dX12_row_27 : decode cX12_row 27 = .ok (.ireturn, 1) := by decide +kernel
theorem dX12_row_28 : decode cX12_row 28 = .ok (.iload_n 3, 1) := by decide +kernel
theorem dX12_row_29 : decode cX12_row 29 = .ok (.ifCond .ge 6, 3) := by decide +kernel
theorem dX12_row_32 : decode cX12_row 32 = .ok (.bipush (-3), 2) := by decide +kernel
theorem dX12_row_34 : decode cX12_row 34 = .ok (.ireturn, 1) := by decide +kernel
theorem dX12_row_35 : decode cX12_row 35 = .ok (.aload_n 0, 1) := by decide +kernel
theorem dX12_row_36 : decode cX12_row 36 = .ok (.getfield 52, 3) := by decide +kernel
theorem dX12_row_39 : decode cX12_row 39 = .ok (.iload_n 1, 1) := by decide +kernel
theorem dX12_row_40 : decode cX12_row 40 = .ok (.iload_n 3, 1) := by decide +kernel
theorem dX12_row_41 : decode cX12_row 41 = .ok (.iastore, 1) := by decide +kernel
theorem dX12_row_42 : decode cX12_row 42 = .ok (.aload_n 0, 1) := by decide +kernel
theorem dX12_row_43 : decode cX12_row 43 = .ok (.getfield 55, 3) := by decide +kernel
theorem dX12_row_46 : decode cX12_row 46 = .ok (.iload_n 1, 1) := by decide +kernel
theorem dX12_row_47 : decode cX12_row 47 = .ok (.iload_n 2, 1) := by decide +kernel
theorem dX12_row_48 : decode cX12_row 48 = .ok (.iastore, 1) := by decide +kernel
theorem dX12_row_49 : decode cX12_row 49 = .ok (.iconst 0, 1) := by decide +kernel
theorem dX12_row_50 : decode cX12_row 50 = .ok (.istore 4, 2) := by decide +kernel
theorem dX12_row_52 : decode cX12_row 52 = .ok (.iload 4, 2) := by decide +kernel
theorem dX12_row_54 : decode cX12_row 54 = .ok (.bipush 60, 2) := by decide +kernel
theorem dX12_row_56 : decode cX12_row 56 = .ok (.if_icmp .ge 22, 3) := by decide +kernel
theorem dX12_row_59 : decode cX12_row 59 = .ok (.aload_n 0, 1) := by decide +kernel
theorem dX12_row_60 : decode cX12_row 60 = .ok (.getfield 58, 3) := by decide +kernel
theorem dX12_row_63 : decode cX12_row 63 = .ok (.bipush 60, 2) := by decide +kernel
theorem dX12_row_65 : decode cX12_row 65 = .ok (.iload_n 1, 1) := by decide +kernel
theorem dX12_row_66 : decode cX12_row 66 = .ok (.imul, 1) := by decide +kernel
theorem dX12_row_67 : decode cX12_row 67 = .ok (.iload 4, 2) := by decide +kernel
theorem dX12_row_69 : decode cX12_row 69 = .ok (.iadd, 1) := by decide +kernel
theorem dX12_row_70 : decode cX12_row 70 = .ok (.lconst 0, 1) := by decide +kernel
theorem dX12_row_71 : decode cX12_row 71 = .ok (.lastore, 1) := by decide +kernel
theorem dX12_row_72 : decode cX12_row 72 = .ok (.iinc 4 1, 3) := by decide +kernel
theorem dX12_row_75 : decode cX12_row 75 = .ok (.goto (-23), 3) := by decide +kernel
theorem dX12_row_78 : decode cX12_row 78 = .ok (.iconst 0, 1) := by decide +kernel
theorem dX12_row_79 : decode cX12_row 79 = .ok (.ireturn, 1) := by decide +kernel
theorem dX12_write_0 : decode cX12_write 0 = .ok (.iload_n 1, 1) := by decide +kernel
theorem dX12_write_1 : decode cX12_write 1 = .ok (.invokestatic 343, 3) := by decide +kernel
theorem dX12_write_4 : decode cX12_write 4 = .ok (.ifCond .ne 6, 3) := by decide +kernel
theorem dX12_write_7 : decode cX12_write 7 = .ok (.bipush (-2), 2) := by decide +kernel
theorem dX12_write_9 : decode cX12_write 9 = .ok (.ireturn, 1) := by decide +kernel
theorem dX12_write_10 : decode cX12_write 10 = .ok (.aload_n 0, 1) := by decide +kernel
theorem dX12_write_11 : decode cX12_write 11 = .ok (.getfield 52, 3) := by decide +kernel
theorem dX12_write_14 : decode cX12_write 14 = .ok (.iload_n 1, 1) := by decide +kernel
theorem dX12_write_15 : decode cX12_write 15 = .ok (.iaload, 1) := by decide +kernel
theorem dX12_write_16 : decode cX12_write 16 = .ok (.iconst (-1), 1) := by decide +kernel
theorem dX12_write_17 : decode cX12_write 17 = .ok (.if_icmp .ne 6, 3) := by decide +kernel
theorem dX12_write_20 : decode cX12_write 20 = .ok (.bipush (-6), 2) := by decide +kernel
theorem dX12_write_22 : decode cX12_write 22 = .ok (.ireturn, 1) := by decide +kernel
theorem dX12_write_23 : decode cX12_write 23 = .ok (.iload_n 2, 1) := by decide +kernel
theorem dX12_write_24 : decode cX12_write 24 = .ok (.i2l, 1) := by decide +kernel
theorem dX12_write_25 : decode cX12_write 25 = .ok (.lconst 0, 1) := by decide +kernel
theorem dX12_write_26 : decode cX12_write 26 = .ok (.aload_n 0, 1) := by decide +kernel
theorem dX12_write_27 : decode cX12_write 27 = .ok (.getfield 52, 3) := by decide +kernel
theorem dX12_write_30 : decode cX12_write 30 = .ok (.iload_n 1, 1) := by decide +kernel
theorem dX12_write_31 : decode cX12_write 31 = .ok (.iaload, 1) := by decide +kernel
theorem dX12_write_32 : decode cX12_write 32 = .ok (.iconst 1, 1) := by decide +kernel
theorem dX12_write_33 : decode cX12_write 33 = .ok (.isub, 1) := by decide +kernel
theorem dX12_write_34 : decode cX12_write 34 = .ok (.i2l, 1) := by decide +kernel
theorem dX12_write_35 : decode cX12_write 35 = .ok (.invokestatic 70, 3) := by decide +kernel
theorem dX12_write_38 : decode cX12_write 38 = .ok (.ifCond .ne 6, 3) := by decide +kernel
theorem dX12_write_41 : decode cX12_write 41 = .ok (.bipush (-7), 2) := by decide +kernel
theorem dX12_write_43 : decode cX12_write 43 = .ok (.ireturn, 1) := by decide +kernel
theorem dX12_write_44 : decode cX12_write 44 = .ok (.aload_n 0, 1) := by decide +kernel
theorem dX12_write_45 : decode cX12_write 45 = .ok (.getfield 58, 3) := by decide +kernel
theorem dX12_write_48 : decode cX12_write 48 = .ok (.bipush 60, 2) := by decide +kernel
theorem dX12_write_50 : decode cX12_write 50 = .ok (.iload_n 1, 1) := by decide +kernel
theorem dX12_write_51 : decode cX12_write 51 = .ok (.imul, 1) := by decide +kernel
theorem dX12_write_52 : decode cX12_write 52 = .ok (.iload_n 2, 1) := by decide +kernel
theorem dX12_write_53 : decode cX12_write 53 = .ok (.iadd, 1) := by decide +kernel
theorem dX12_write_54 : decode cX12_write 54 = .ok (.lload_n 3, 1) := by decide +kernel
theorem dX12_write_55 : decode cX12_write 55 = .ok (.aload_n 0, 1) := by decide +kernel
theorem dX12_write_56 : decode cX12_write 56 = .ok (.getfield 55, 3) := by decide +kernel
theorem dX12_write_59 : decode cX12_write 59 = .ok (.iload_n 1, 1) := by decide +kernel
theorem dX12_write_60 : decode cX12_write 60 = .ok (.iaload, 1) := by decide +kernel
theorem dX12_write_61 : decode cX12_write 61 = .ok (.invokestatic 489, 3) := by decide +kernel
theorem dX12_write_64 : decode cX12_write 64 = .ok (.lastore, 1) := by decide +kernel
theorem dX12_write_65 : decode cX12_write 65 = .ok (.iconst 0, 1) := by decide +kernel
theorem dX12_write_66 : decode cX12_write 66 = .ok (.ireturn, 1) := by decide +kernel
theorem dX12_paste_0 : decode cX12_paste 0 = .ok (.iload_n 1, 1) := by decide +kernel
theorem dX12_paste_1 : decode cX12_paste 1 = .ok (.invokestatic 343, 3) := by decide +kernel
theorem dX12_paste_4 : decode cX12_paste 4 = .ok (.ifCond .eq 10, 3) := by decide +kernel
theorem dX12_paste_7 : decode cX12_paste 7 = .ok (.iload_n 3, 1) := by decide +kernel
theorem dX12_paste_8 : decode cX12_paste 8 = .ok (.invokestatic 343, 3) := by decide +kernel
theorem dX12_paste_11 : decode cX12_paste 11 = .ok (.ifCond .ne 6, 3) := by decide +kernel
theorem dX12_paste_14 : decode cX12_paste 14 = .ok (.bipush (-2), 2) := by decide +kernel
theorem dX12_paste_16 : decode cX12_paste 16 = .ok (.ireturn, 1) := by decide +kernel
theorem dX12_paste_17 : decode cX12_paste 17 = .ok (.aload_n 0, 1) := by decide +kernel
theorem dX12_paste_18 : decode cX12_paste 18 = .ok (.getfield 52, 3) := by decide +kernel
theorem dX12_paste_21 : decode cX12_paste 21 = .ok (.iload_n 1, 1) := by decide +kernel
theorem dX12_paste_22 : decode cX12_paste 22 = .ok (.iaload, 1) := by decide +kernel
theorem dX12_paste_23 : decode cX12_paste 23 = .ok (.iconst (-1), 1) := by decide +kernel
theorem dX12_paste_24 : decode cX12_paste 24 = .ok (.if_icmp .eq 13, 3) := by decide +kernel
theorem dX12_paste_27 : decode cX12_paste 27 = .ok (.aload_n 0, 1) := by decide +kernel
theorem dX12_paste_28 : decode cX12_paste 28 = .ok (.getfield 52, 3) := by decide +kernel
theorem dX12_paste_31 : decode cX12_paste 31 = .ok (.iload_n 3, 1) := by decide +kernel
theorem dX12_paste_32 : decode cX12_paste 32 = .ok (.iaload, 1) := by decide +kernel
theorem dX12_paste_33 : decode cX12_paste 33 = .ok (.iconst (-1), 1) := by decide +kernel
theorem dX12_paste_34 : decode cX12_paste 34 = .ok (.if_icmp .ne 6, 3) := by decide +kernel
theorem dX12_paste_37 : decode cX12_paste 37 = .ok (.bipush (-6), 2) := by decide +kernel
theorem dX12_paste_39 : decode cX12_paste 39 = .ok (.ireturn, 1) := by decide +kernel
theorem dX12_paste_40 : decode cX12_paste 40 = .ok (.aload_n 0, 1) := by decide +kernel
theorem dX12_paste_41 : decode cX12_paste 41 = .ok (.getfield 55, 3) := by decide +kernel
theorem dX12_paste_44 : decode cX12_paste 44 = .ok (.iload_n 1, 1) := by decide +kernel
theorem dX12_paste_45 : decode cX12_paste 45 = .ok (.iaload, 1) := by decide +kernel
theorem dX12_paste_46 : decode cX12_paste 46 = .ok (.aload_n 0, 1) := by decide +kernel
theorem dX12_paste_47 : decode cX12_paste 47 = .ok (.getfield 55, 3) := by decide +kernel
theorem dX12_paste_50 : decode cX12_paste 50 = .ok (.iload_n 3, 1) := by decide +kernel
theorem dX12_paste_51 : decode cX12_paste 51 = .ok (.iaload, 1) := by decide +kernel
theorem dX12_paste_52 : decode cX12_paste 52 = .ok (.if_icmp .eq 6, 3) := by decide +kernel
theorem dX12_paste_55 : decode cX12_paste 55 = .ok (.bipush (-8), 2) := by decide +kernel
theorem dX12_paste_57 : decode cX12_paste 57 = .ok (.ireturn, 1) := by decide +kernel
theorem dX12_paste_58 : decode cX12_paste 58 = .ok (.iload_n 2, 1) := by decide +kernel
theorem dX12_paste_59 : decode cX12_paste 59 = .ok (.ifCond .lt 48, 3) := by decide +kernel
theorem dX12_paste_62 : decode cX12_paste 62 = .ok (.iload 4, 2) := by decide +kernel
theorem dX12_paste_64 : decode cX12_paste 64 = .ok (.ifCond .lt 43, 3) := by decide +kernel
theorem dX12_paste_67 : decode cX12_paste 67 = .ok (.iload 5, 2) := by decide +kernel
theorem dX12_paste_69 : decode cX12_paste 69 = .ok (.ifCond .lt 38, 3) := by decide +kernel
theorem dX12_paste_72 : decode cX12_paste 72 = .ok (.iload_n 2, 1) := by decide +kernel
theorem dX12_paste_73 : decode cX12_paste 73 = .ok (.i2l, 1) := by decide +kernel
theorem dX12_paste_74 : decode cX12_paste 74 = .ok (.iload 5, 2) := by decide +kernel
theorem dX12_paste_76 : decode cX12_paste 76 = .ok (.i2l, 1) := by decide +kernel
theorem dX12_paste_77 : decode cX12_paste 77 = .ok (.ladd, 1) := by decide +kernel
theorem dX12_paste_78 : decode cX12_paste 78 = .ok (.aload_n 0, 1) := by decide +kernel
theorem dX12_paste_79 : decode cX12_paste 79 = .ok (.getfield 52, 3) := by decide +kernel
theorem dX12_paste_82 : decode cX12_paste 82 = .ok (.iload_n 1, 1) := by decide +kernel
theorem dX12_paste_83 : decode cX12_paste 83 = .ok (.iaload, 1) := by decide +kernel
theorem dX12_paste_84 : decode cX12_paste 84 = .ok (.i2l, 1) := by decide +kernel
theorem dX12_paste_85 : decode cX12_paste 85 = .ok (.lcmp, 1) := by decide +kernel
theorem dX12_paste_86 : decode cX12_paste 86 = .ok (.ifCond .gt 21, 3) := by decide +kernel
theorem dX12_paste_89 : decode cX12_paste 89 = .ok (.iload 4, 2) := by decide +kernel
theorem dX12_paste_91 : decode cX12_paste 91 = .ok (.i2l, 1) := by decide +kernel
theorem dX12_paste_92 : decode cX12_paste 92 = .ok (.iload 5, 2) := by decide +kernel
theorem dX12_paste_94 : decode cX12_paste 94 = .ok (.i2l, 1) := by decide +kernel
theorem dX12_paste_95 : decode cX12_paste 95 = .ok (.ladd, 1) := by decide +kernel
theorem dX12_paste_96 : decode cX12_paste 96 = .ok (.aload_n 0, 1) := by decide +kernel
theorem dX12_paste_97 : decode cX12_paste 97 = .ok (.getfield 52, 3) := by decide +kernel
theorem dX12_paste_100 : decode cX12_paste 100 = .ok (.iload_n 3, 1) := by decide +kernel
theorem dX12_paste_101 : decode cX12_paste 101 = .ok (.iaload, 1) := by decide +kernel
theorem dX12_paste_102 : decode cX12_paste 102 = .ok (.i2l, 1) := by decide +kernel
theorem dX12_paste_103 : decode cX12_paste 103 = .ok (.lcmp, 1) := by decide +kernel
theorem dX12_paste_104 : decode cX12_paste 104 = .ok (.ifCond .le 6, 3) := by decide +kernel
theorem dX12_paste_107 : decode cX12_paste 107 = .ok (.bipush (-7), 2) := by decide +kernel
theorem dX12_paste_109 : decode cX12_paste 109 = .ok (.ireturn, 1) := by decide +kernel
theorem dX12_paste_110 : decode cX12_paste 110 = .ok (.iconst 0, 1) := by decide +kernel
theorem dX12_paste_111 : decode cX12_paste 111 = .ok (.istore 6, 2) := by decide +kernel
theorem dX12_paste_113 : decode cX12_paste 113 = .ok (.iload 6, 2) := by decide +kernel
theorem dX12_paste_115 : decode cX12_paste 115 = .ok (.iload 5, 2) := by decide +kernel
theorem dX12_paste_117 : decode cX12_paste 117 = .ok (.if_icmp .ge 30, 3) := by decide +kernel
theorem dX12_paste_120 : decode cX12_paste 120 = .ok (.aload_n 0, 1) := by decide +kernel
theorem dX12_paste_121 : decode cX12_paste 121 = .ok (.getfield 62, 3) := by decide +kernel
theorem dX12_paste_124 : decode cX12_paste 124 = .ok (.iload 6, 2) := by decide +kernel
theorem dX12_paste_126 : decode cX12_paste 126 = .ok (.aload_n 0, 1) := by decide +kernel
theorem dX12_paste_127 : decode cX12_paste 127 = .ok (.getfield 58, 3) := by decide +kernel
theorem dX12_paste_130 : decode cX12_paste 130 = .ok (.bipush 60, 2) := by decide +kernel
theorem dX12_paste_132 : decode cX12_paste 132 = .ok (.iload_n 1, 1) := by decide +kernel
theorem dX12_paste_133 : decode cX12_paste 133 = .ok (.imul, 1) := by decide +kernel
theorem dX12_paste_134 : decode cX12_paste 134 = .ok (.iload_n 2, 1) := by decide +kernel
theorem dX12_paste_135 : decode cX12_paste 135 = .ok (.iadd, 1) := by decide +kernel
theorem dX12_paste_136 : decode cX12_paste 136 = .ok (.iload 6, 2) := by decide +kernel
theorem dX12_paste_138 : decode cX12_paste 138 = .ok (.iadd, 1) := by decide +kernel
theorem dX12_paste_139 : decode cX12_paste 139 = .ok (.laload, 1) := by decide +kernel
theorem dX12_paste_140 : decode cX12_paste 140 = .ok (.lastore, 1) := by decide +kernel
theorem dX12_paste_141 : decode cX12_paste 141 = .ok (.iinc 6 1, 3) := by decide +kernel
theorem dX12_paste_144 : decode cX12_paste 144 = .ok (.goto (-31), 3) := by decide +kernel
theorem dX12_paste_147 : decode cX12_paste 147 = .ok (.iconst 0, 1) := by decide +kernel
theorem dX12_paste_148 : decode cX12_paste 148 = .ok (.istore 6, 2) := by decide +kernel
theorem dX12_paste_150 : decode cX12_paste 150 = .ok (.iload 6, 2) := by decide +kernel
theorem dX12_paste_152 : decode cX12_paste 152 = .ok (.iload 5, 2) := by decide +kernel
theorem dX12_paste_154 : decode cX12_paste 154 = .ok (.if_icmp .ge 31, 3) := by decide +kernel
theorem dX12_paste_157 : decode cX12_paste 157 = .ok (.aload_n 0, 1) := by decide +kernel
theorem dX12_paste_158 : decode cX12_paste 158 = .ok (.getfield 58, 3) := by decide +kernel
theorem dX12_paste_161 : decode cX12_paste 161 = .ok (.bipush 60, 2) := by decide +kernel
theorem dX12_paste_163 : decode cX12_paste 163 = .ok (.iload_n 3, 1) := by decide +kernel
theorem dX12_paste_164 : decode cX12_paste 164 = .ok (.imul, 1) := by decide +kernel
theorem dX12_paste_165 : decode cX12_paste 165 = .ok (.iload 4, 2) := by decide +kernel
theorem dX12_paste_167 : decode cX12_paste 167 = .ok (.iadd, 1) := by decide +kernel
theorem dX12_paste_168 : decode cX12_paste 168 = .ok (.iload 6, 2) := by decide +kernel
theorem dX12_paste_170 : decode cX12_paste 170 = .ok (.iadd, 1) := by decide +kernel
theorem dX12_paste_171 : decode cX12_paste 171 = .ok (.aload_n 0, 1) := by decide +kernel
theorem dX12_paste_172 : decode cX12_paste 172 = .ok (.getfield 62, 3) := by decide +kernel
theorem dX12_paste_175 : decode cX12_paste 175 = .ok (.iload 6, 2) := by decide +kernel
theorem dX12_paste_177 : decode cX12_paste 177 = .ok (.laload, 1) := by decide +kernel
theorem dX12_paste_178 : decode cX12_paste 178 = .ok (.lastore, 1) := by decide +kernel
theorem dX12_paste_179 : decode cX12_paste 179 = .ok (.iinc 6 1, 3) := by decide +kernel
theorem dX12_paste_182 : decode cX12_paste 182 = .ok (.goto (-32), 3) := by decide +kernel
theorem dX12_paste_185 : decode cX12_paste 185 = .ok (.iconst 0, 1) := by decide +kernel
theorem dX12_paste_186 : decode cX12_paste 186 = .ok (.ireturn, 1) := by decide +kernel
theorem dJ6_bitCount_0f7a4_0 : decode cJ6_bitCount_0f7a4 0 = .ok (.iload_n 0, 1) := by decide +kernel
theorem dJ6_bitCount_0f7a4_1 : decode cJ6_bitCount_0f7a4 1 = .ok (.iload_n 0, 1) := by decide +kernel
theorem dJ6_bitCount_0f7a4_2 : decode cJ6_bitCount_0f7a4 2 = .ok (.iconst 1, 1) := by decide +kernel
theorem dJ6_bitCount_0f7a4_3 : decode cJ6_bitCount_0f7a4 3 = .ok (.iushr, 1) := by decide +kernel
theorem dJ6_bitCount_0f7a4_4 : decode cJ6_bitCount_0f7a4 4 = .ok (.ldc_w 265, 3) := by decide +kernel
theorem dJ6_bitCount_0f7a4_7 : decode cJ6_bitCount_0f7a4 7 = .ok (.iand, 1) := by decide +kernel
theorem dJ6_bitCount_0f7a4_8 : decode cJ6_bitCount_0f7a4 8 = .ok (.isub, 1) := by decide +kernel
theorem dJ6_bitCount_0f7a4_9 : decode cJ6_bitCount_0f7a4 9 = .ok (.istore_n 0, 1) := by decide +kernel
theorem dJ6_bitCount_0f7a4_10 : decode cJ6_bitCount_0f7a4 10 = .ok (.iload_n 0, 1) := by decide +kernel
theorem dJ6_bitCount_0f7a4_11 : decode cJ6_bitCount_0f7a4 11 = .ok (.ldc_w 266, 3) := by decide +kernel
theorem dJ6_bitCount_0f7a4_14 : decode cJ6_bitCount_0f7a4 14 = .ok (.iand, 1) := by decide +kernel
theorem dJ6_bitCount_0f7a4_15 : decode cJ6_bitCount_0f7a4 15 = .ok (.iload_n 0, 1) := by decide +kernel
theorem dJ6_bitCount_0f7a4_16 : decode cJ6_bitCount_0f7a4 16 = .ok (.iconst 2, 1) := by decide +kernel
theorem dJ6_bitCount_0f7a4_17 : decode cJ6_bitCount_0f7a4 17 = .ok (.iushr, 1) := by decide +kernel
theorem dJ6_bitCount_0f7a4_18 : decode cJ6_bitCount_0f7a4 18 = .ok (.ldc_w 266, 3) := by decide +kernel
theorem dJ6_bitCount_0f7a4_21 : decode cJ6_bitCount_0f7a4 21 = .ok (.iand, 1) := by decide +kernel
theorem dJ6_bitCount_0f7a4_22 : decode cJ6_bitCount_0f7a4 22 = .ok (.iadd, 1) := by decide +kernel
theorem dJ6_bitCount_0f7a4_23 : decode cJ6_bitCount_0f7a4 23 = .ok (.istore_n 0, 1) := by decide +kernel
theorem dJ6_bitCount_0f7a4_24 : decode cJ6_bitCount_0f7a4 24 = .ok (.iload_n 0, 1) := by decide +kernel
theorem dJ6_bitCount_0f7a4_25 : decode cJ6_bitCount_0f7a4 25 = .ok (.iload_n 0, 1) := by decide +kernel
theorem dJ6_bitCount_0f7a4_26 : decode cJ6_bitCount_0f7a4 26 = .ok (.iconst 4, 1) := by decide +kernel
theorem dJ6_bitCount_0f7a4_27 : decode cJ6_bitCount_0f7a4 27 = .ok (.iushr, 1) := by decide +kernel
theorem dJ6_bitCount_0f7a4_28 : decode cJ6_bitCount_0f7a4 28 = .ok (.iadd, 1) := by decide +kernel
theorem dJ6_bitCount_0f7a4_29 : decode cJ6_bitCount_0f7a4 29 = .ok (.ldc_w 267, 3) := by decide +kernel
theorem dJ6_bitCount_0f7a4_32 : decode cJ6_bitCount_0f7a4 32 = .ok (.iand, 1) := by decide +kernel
theorem dJ6_bitCount_0f7a4_33 : decode cJ6_bitCount_0f7a4 33 = .ok (.istore_n 0, 1) := by decide +kernel
theorem dJ6_bitCount_0f7a4_34 : decode cJ6_bitCount_0f7a4 34 = .ok (.iload_n 0, 1) := by decide +kernel
theorem dJ6_bitCount_0f7a4_35 : decode cJ6_bitCount_0f7a4 35 = .ok (.iload_n 0, 1) := by decide +kernel
theorem dJ6_bitCount_0f7a4_36 : decode cJ6_bitCount_0f7a4 36 = .ok (.bipush 8, 2) := by decide +kernel
theorem dJ6_bitCount_0f7a4_38 : decode cJ6_bitCount_0f7a4 38 = .ok (.iushr, 1) := by decide +kernel
theorem dJ6_bitCount_0f7a4_39 : decode cJ6_bitCount_0f7a4 39 = .ok (.iadd, 1) := by decide +kernel
theorem dJ6_bitCount_0f7a4_40 : decode cJ6_bitCount_0f7a4 40 = .ok (.istore_n 0, 1) := by decide +kernel
theorem dJ6_bitCount_0f7a4_41 : decode cJ6_bitCount_0f7a4 41 = .ok (.iload_n 0, 1) := by decide +kernel
theorem dJ6_bitCount_0f7a4_42 : decode cJ6_bitCount_0f7a4 42 = .ok (.iload_n 0, 1) := by decide +kernel
theorem dJ6_bitCount_0f7a4_43 : decode cJ6_bitCount_0f7a4 43 = .ok (.bipush 16, 2) := by decide +kernel
theorem dJ6_bitCount_0f7a4_45 : decode cJ6_bitCount_0f7a4 45 = .ok (.iushr, 1) := by decide +kernel
theorem dJ6_bitCount_0f7a4_46 : decode cJ6_bitCount_0f7a4 46 = .ok (.iadd, 1) := by decide +kernel
theorem dJ6_bitCount_0f7a4_47 : decode cJ6_bitCount_0f7a4 47 = .ok (.istore_n 0, 1) := by decide +kernel
theorem dJ6_bitCount_0f7a4_48 : decode cJ6_bitCount_0f7a4 48 = .ok (.iload_n 0, 1) := by decide +kernel
theorem dJ6_bitCount_0f7a4_49 : decode cJ6_bitCount_0f7a4 49 = .ok (.bipush 63, 2) := by decide +kernel
theorem dJ6_bitCount_0f7a4_51 : decode cJ6_bitCount_0f7a4 51 = .ok (.iand, 1) := by decide +kernel
theorem dJ6_bitCount_0f7a4_52 : decode cJ6_bitCount_0f7a4 52 = .ok (.ireturn, 1) := by decide +kernel
theorem dJ9_abs_067f4_0 : decode cJ9_abs_067f4 0 = .ok (.lload_n 0, 1) := by decide +kernel
theorem dJ9_abs_067f4_1 : decode cJ9_abs_067f4 1 = .ok (.lconst 0, 1) := by decide +kernel
theorem dJ9_abs_067f4_2 : decode cJ9_abs_067f4 2 = .ok (.lcmp, 1) := by decide +kernel
theorem dJ9_abs_067f4_3 : decode cJ9_abs_067f4 3 = .ok (.ifCond .ge 8, 3) := by decide +kernel
theorem dJ9_abs_067f4_6 : decode cJ9_abs_067f4 6 = .ok (.lload_n 0, 1) := by decide +kernel
theorem dJ9_abs_067f4_7 : decode cJ9_abs_067f4 7 = .ok (.lneg, 1) := by decide +kernel
theorem dJ9_abs_067f4_8 : decode cJ9_abs_067f4 8 = .ok (.goto 4, 3) := by decide +kernel
theorem dJ9_abs_067f4_11 : decode cJ9_abs_067f4 11 = .ok (.lload_n 0, 1) := by decide +kernel
theorem dJ9_abs_067f4_12 : decode cJ9_abs_067f4 12 = .ok (.lreturn, 1) := by decide +kernel
theorem dJ9_max_7cf53_0 : decode cJ9_max_7cf53 0 = .ok (.iload_n 0, 1) := by decide +kernel
theorem dJ9_max_7cf53_1 : decode cJ9_max_7cf53 1 = .ok (.iload_n 1, 1) := by decide +kernel
theorem dJ9_max_7cf53_2 : decode cJ9_max_7cf53 2 = .ok (.if_icmp .lt 7, 3) := by decide +kernel
theorem dJ9_max_7cf53_5 : decode cJ9_max_7cf53 5 = .ok (.iload_n 0, 1) := by decide +kernel
theorem dJ9_max_7cf53_6 : decode cJ9_max_7cf53 6 = .ok (.goto 4, 3) := by decide +kernel
theorem dJ9_max_7cf53_9 : decode cJ9_max_7cf53 9 = .ok (.iload_n 1, 1) := by decide +kernel
theorem dJ9_max_7cf53_10 : decode cJ9_max_7cf53 10 = .ok (.ireturn, 1) := by decide +kernel
theorem dJ9_min_7cf53_0 : decode cJ9_min_7cf53 0 = .ok (.iload_n 0, 1) := by decide +kernel
theorem dJ9_min_7cf53_1 : decode cJ9_min_7cf53 1 = .ok (.iload_n 1, 1) := by decide +kernel
theorem dJ9_min_7cf53_2 : decode cJ9_min_7cf53 2 = .ok (.if_icmp .gt 7, 3) := by decide +kernel
theorem dJ9_min_7cf53_5 : decode cJ9_min_7cf53 5 = .ok (.iload_n 0, 1) := by decide +kernel
theorem dJ9_min_7cf53_6 : decode cJ9_min_7cf53 6 = .ok (.goto 4, 3) := by decide +kernel
theorem dJ9_min_7cf53_9 : decode cJ9_min_7cf53 9 = .ok (.iload_n 1, 1) := by decide +kernel
theorem dJ9_min_7cf53_10 : decode cJ9_min_7cf53 10 = .ok (.ireturn, 1) := by decide +kernel
theorem dJ0_length_8abf5_0 : decode cJ0_length_8abf5 0 = .ok (.aload_n 0, 1) := by decide +kernel
theorem dJ0_length_8abf5_1 : decode cJ0_length_8abf5 1 = .ok (.getfield 9, 3) := by decide +kernel
theorem dJ0_length_8abf5_4 : decode cJ0_length_8abf5 4 = .ok (.arraylength, 1) := by decide +kernel
theorem dJ0_length_8abf5_5 : decode cJ0_length_8abf5 5 = .ok (.aload_n 0, 1) := by decide +kernel
theorem dJ0_length_8abf5_6 : decode cJ0_length_8abf5 6 = .ok (.invokevirtual 335, 3) := by decide +kernel
theorem dJ0_length_8abf5_9 : decode cJ0_length_8abf5 9 = .ok (.ishr, 1) := by decide +kernel
theorem dJ0_length_8abf5_10 : decode cJ0_length_8abf5 10 = .ok (.ireturn, 1) := by decide +kernel
theorem dJ0_charAt_5068e_0 : decode cJ0_charAt_5068e 0 = .ok (.aload_n 0, 1) := by decide +kernel
theorem dJ0_charAt_5068e_1 : decode cJ0_charAt_5068e 1 = .ok (.invokevirtual 492, 3) := by decide +kernel
theorem dJ0_charAt_5068e_4 : decode cJ0_charAt_5068e 4 = .ok (.ifCond .eq 12, 3) := by decide +kernel
theorem dJ0_charAt_5068e_7 : decode cJ0_charAt_5068e 7 = .ok (.aload_n 0, 1) := by decide +kernel
theorem dJ0_charAt_5068e_8 : decode cJ0_charAt_5068e 8 = .ok (.getfield 9, 3) := by decide +kernel
theorem dJ0_charAt_5068e_11 : decode cJ0_charAt_5068e 11 = .ok (.iload_n 1, 1) := by decide +kernel
theorem dJ0_charAt_5068e_12 : decode cJ0_charAt_5068e 12 = .ok (.invokestatic 495, 3) := by decide +kernel
theorem dJ0_charAt_5068e_15 : decode cJ0_charAt_5068e 15 = .ok (.ireturn, 1) := by decide +kernel
theorem dJ0_charAt_5068e_16 : decode cJ0_charAt_5068e 16 = .ok (.aload_n 0, 1) := by decide +kernel
theorem dJ0_charAt_5068e_17 : decode cJ0_charAt_5068e 17 = .ok (.getfield 9, 3) := by decide +kernel
theorem dJ0_charAt_5068e_20 : decode cJ0_charAt_5068e 20 = .ok (.iload_n 1, 1) := by decide +kernel
theorem dJ0_charAt_5068e_21 : decode cJ0_charAt_5068e 21 = .ok (.invokestatic 498, 3) := by decide +kernel
theorem dJ0_charAt_5068e_24 : decode cJ0_charAt_5068e 24 = .ok (.ireturn, 1) := by decide +kernel
theorem dJ0_coder_7d493_0 : decode cJ0_coder_7d493 0 = .ok (.getstatic 38, 3) := by decide +kernel
theorem dJ0_coder_7d493_3 : decode cJ0_coder_7d493 3 = .ok (.ifCond .eq 10, 3) := by decide +kernel
theorem dJ0_coder_7d493_6 : decode cJ0_coder_7d493 6 = .ok (.aload_n 0, 1) := by decide +kernel
theorem dJ0_coder_7d493_7 : decode cJ0_coder_7d493 7 = .ok (.getfield 15, 3) := by decide +kernel
theorem dJ0_coder_7d493_10 : decode cJ0_coder_7d493 10 = .ok (.goto 4, 3) := by decide +kernel
theorem dJ0_coder_7d493_13 : decode cJ0_coder_7d493 13 = .ok (.iconst 1, 1) := by decide +kernel
theorem dJ0_coder_7d493_14 : decode cJ0_coder_7d493 14 = .ok (.ireturn, 1) := by decide +kernel
theorem dJ0_isLatin1_aae02_0 : decode cJ0_isLatin1_aae02 0 = .ok (.getstatic 38, 3) := by decide +kernel
theorem dJ0_isLatin1_aae02_3 : decode cJ0_isLatin1_aae02 3 = .ok (.ifCond .eq 14, 3) := by decide +kernel
theorem dJ0_isLatin1_aae02_6 : decode cJ0_isLatin1_aae02 6 = .ok (.aload_n 0, 1) := by decide +kernel
theorem dJ0_isLatin1_aae02_7 : decode cJ0_isLatin1_aae02 7 = .ok (.getfield 15, 3) := by decide +kernel
theorem dJ0_isLatin1_aae02_10 : decode cJ0_isLatin1_aae02 10 = .ok (.ifCond .ne 7, 3) := by decide +kernel
theorem dJ0_isLatin1_aae02_13 : decode cJ0_isLatin1_aae02 13 = .ok (.iconst 1, 1) := by decide +kernel
theorem dJ0_isLatin1_aae02_14 : decode cJ0_isLatin1_aae02 14 = .ok (.goto 4, 3) := by decide +kernel
theorem dJ0_isLatin1_aae02_17 : decode cJ0_isLatin1_aae02 17 = .ok (.iconst 0, 1) := by decide +kernel
theorem dJ0_isLatin1_aae02_18 : decode cJ0_isLatin1_aae02 18 = .ok (.ireturn, 1) := by decide +kernel
theorem dJ0_checkIndex_df160_0 : decode cJ0_checkIndex_df160 0 = .ok (.iload_n 0, 1) := by decide +kernel
theorem dJ0_checkIndex_df160_1 : decode cJ0_checkIndex_df160 1 = .ok (.iload_n 1, 1) := by decide +kernel
theorem dJ0_checkIndex_df160_2 : decode cJ0_checkIndex_df160 2 = .ok (.getstatic 1053, 3) := by decide +kernel
theorem dJ0_checkIndex_df160_5 : decode cJ0_checkIndex_df160 5 = .ok (.invokestatic 1059, 3) := by decide +kernel
theorem dJ0_checkIndex_df160_8 : decode cJ0_checkIndex_df160 8 = .ok (.pop, 1) := by decide +kernel
theorem dJ0_checkIndex_df160_9 : decode cJ0_checkIndex_df160 9 = .ok (.return_, 1) := by decide +kernel
theorem dJ1_charAt_3b067_0 : decode cJ1_charAt_3b067 0 = .ok (.iload_n 1, 1) := by decide +kernel
theorem dJ1_charAt_3b067_1 : decode cJ1_charAt_3b067 1 = .ok (.aload_n 0, 1) := by decide +kernel
theorem dJ1_charAt_3b067_2 : decode cJ1_charAt_3b067 2 = .ok (.arraylength, 1) := by decide +kernel
theorem dJ1_charAt_3b067_3 : decode cJ1_charAt_3b067 3 = .ok (.invokestatic 9, 3) := by decide +kernel
theorem dJ1_charAt_3b067_6 : decode cJ1_charAt_3b067 6 = .ok (.aload_n 0, 1) := by decide +kernel
theorem dJ1_charAt_3b067_7 : decode cJ1_charAt_3b067 7 = .ok (.iload_n 1, 1) := by decide +kernel
theorem dJ1_charAt_3b067_8 : decode cJ1_charAt_3b067 8 = .ok (.baload, 1) := by decide +kernel
theorem dJ1_charAt_3b067_9 : decode cJ1_charAt_3b067 9 = .ok (.sipush 255, 3) := by decide +kernel
theorem dJ1_charAt_3b067_12 : decode cJ1_charAt_3b067 12 = .ok (.iand, 1) := by decide +kernel
theorem dJ1_charAt_3b067_13 : decode cJ1_charAt_3b067 13 = .ok (.i2c, 1) := by decide +kernel
theorem dJ1_charAt_3b067_14 : decode cJ1_charAt_3b067 14 = .ok (.ireturn, 1) := by decide +kernel
theorem dJ2_getChar_3b067_0 : decode cJ2_getChar_3b067 0 = .ok (.getstatic 44, 3) := by decide +kernel
theorem dJ2_getChar_3b067_3 : decode cJ2_getChar_3b067 3 = .ok (.ifCond .ne 25, 3) := by decide +kernel
theorem dJ2_getChar_3b067_6 : decode cJ2_getChar_3b067 6 = .ok (.iload_n 1, 1) := by decide +kernel
theorem dJ2_getChar_3b067_7 : decode cJ2_getChar_3b067 7 = .ok (.ifCond .lt 11, 3) := by decide +kernel
theorem dJ2_getChar_3b067_10 : decode cJ2_getChar_3b067 10 = .ok (.iload_n 1, 1) := by decide +kernel
theorem dJ2_getChar_3b067_11 : decode cJ2_getChar_3b067 11 = .ok (.aload_n 0, 1) := by decide +kernel
theorem dJ2_getChar_3b067_12 : decode cJ2_getChar_3b067 12 = .ok (.invokestatic 48, 3) := by decide +kernel
theorem dJ2_getChar_3b067_15 : decode cJ2_getChar_3b067 15 = .ok (.if_icmp .lt 13, 3) := by decide +kernel
theorem dJ2_getChar_3b067_18 : decode cJ2_getChar_3b067 18 = .ok (.new 52, 3) := by decide +kernel
theorem dJ2_getChar_3b067_21 : decode cJ2_getChar_3b067 21 = .ok (.dup, 1) := by decide +kernel
theorem dJ2_getChar_3b067_22 : decode cJ2_getChar_3b067 22 = .ok (.ldc 54, 2) := by decide +kernel
theorem dJ2_getChar_3b067_24 : decode cJ2_getChar_3b067 24 = .ok (.invokespecial 56, 3) := by decide +kernel
theorem dJ2_getChar_3b067_27 : decode cJ2_getChar_3b067 27 = .ok (.athrow, 1) := by decide +kernel
theorem dJ2_getChar_3b067_28 : decode cJ2_getChar_3b067 28 = .ok (.iload_n 1, 1) := by decide +kernel
theorem dJ2_getChar_3b067_29 : decode cJ2_getChar_3b067 29 = .ok (.iconst 1, 1) := by decide +kernel
theorem dJ2_getChar_3b067_30 : decode cJ2_getChar_3b067 30 = .ok (.ishl, 1) := by decide +kernel
theorem dJ2_getChar_3b067_31 : decode cJ2_getChar_3b067 31 = .ok (.istore_n 1, 1) := by decide +kernel
theorem dJ2_getChar_3b067_32 : decode cJ2_getChar_3b067 32 = .ok (.aload_n 0, 1) := by decide +kernel
theorem dJ2_getChar_3b067_33 : decode cJ2_getChar_3b067 33 = .ok (.iload_n 1, 1) := by decide +kernel
theorem dJ2_getChar_3b067_34 : decode cJ2_getChar_3b067 34 = .ok (.iinc 1 1, 3) := by decide +kernel
theorem dJ2_getChar_3b067_37 : decode cJ2_getChar_3b067 37 = .ok (.baload, 1) := by decide +kernel
theorem dJ2_getChar_3b067_38 : decode cJ2_getChar_3b067 38 = .ok (.sipush 255, 3) := by decide +kernel
theorem dJ2_getChar_3b067_41 : decode cJ2_getChar_3b067 41 = .ok (.iand, 1) := by decide +kernel
theorem dJ2_getChar_3b067_42 : decode cJ2_getChar_3b067 42 = .ok (.getstatic 59, 3) := by decide +kernel
theorem dJ2_getChar_3b067_45 : decode cJ2_getChar_3b067 45 = .ok (.ishl, 1) := by decide +kernel
theorem dJ2_getChar_3b067_46 : decode cJ2_getChar_3b067 46 = .ok (.aload_n 0, 1) := by decide +kernel
theorem dJ2_getChar_3b067_47 : decode cJ2_getChar_3b067 47 = .ok (.iload_n 1, 1) := by decide +kernel
theorem dJ2_getChar_3b067_48 : decode cJ2_getChar_3b067 48 = .ok (.baload, 1) := by decide +kernel
theorem dJ2_getChar_3b067_49 : decode cJ2_getChar_3b067 49 = .ok (.sipush 255, 3) := by decide +kernel
theorem dJ2_getChar_3b067_52 : decode cJ2_getChar_3b067 52 = .ok (.iand, 1) := by decide +kernel
theorem dJ2_getChar_3b067_53 : decode cJ2_getChar_3b067 53 = .ok (.getstatic 63, 3) := by decide +kernel
theorem dJ2_getChar_3b067_56 : decode cJ2_getChar_3b067 56 = .ok (.ishl, 1) := by decide +kernel
theorem dJ2_getChar_3b067_57 : decode cJ2_getChar_3b067 57 = .ok (.ior, 1) := by decide +kernel
theorem dJ2_getChar_3b067_58 : decode cJ2_getChar_3b067 58 = .ok (.i2c, 1) := by decide +kernel
theorem dJ2_getChar_3b067_59 : decode cJ2_getChar_3b067 59 = .ok (.ireturn, 1) := by decide +kernel
theorem dJ2_length_9d52b_0 : decode cJ2_length_9d52b 0 = .ok (.aload_n 0, 1) := by decide +kernel
theorem dJ2_length_9d52b_1 : decode cJ2_length_9d52b 1 = .ok (.arraylength, 1) := by decide +kernel
theorem dJ2_length_9d52b_2 : decode cJ2_length_9d52b 2 = .ok (.iconst 1, 1) := by decide +kernel
theorem dJ2_length_9d52b_3 : decode cJ2_length_9d52b 3 = .ok (.ishr, 1) := by decide +kernel
theorem dJ2_length_9d52b_4 : decode cJ2_length_9d52b 4 = .ok (.ireturn, 1) := by decide +kernel
theorem dJ2_charAt_3b067_0 : decode cJ2_charAt_3b067 0 = .ok (.iload_n 1, 1) := by decide +kernel
theorem dJ2_charAt_3b067_1 : decode cJ2_charAt_3b067 1 = .ok (.aload_n 0, 1) := by decide +kernel
theorem dJ2_charAt_3b067_2 : decode cJ2_charAt_3b067 2 = .ok (.invokestatic 67, 3) := by decide +kernel
theorem dJ2_charAt_3b067_5 : decode cJ2_charAt_3b067 5 = .ok (.aload_n 0, 1) := by decide +kernel
theorem dJ2_charAt_3b067_6 : decode cJ2_charAt_3b067 6 = .ok (.iload_n 1, 1) := by decide +kernel
theorem dJ2_charAt_3b067_7 : decode cJ2_charAt_3b067 7 = .ok (.invokestatic 71, 3) := by decide +kernel
theorem dJ2_charAt_3b067_10 : decode cJ2_charAt_3b067 10 = .ok (.ireturn, 1) := by decide +kernel
theorem dJ2_checkIndex_2214a_0 : decode cJ2_checkIndex_2214a 0 = .ok (.iload_n 0, 1) := by decide +kernel
theorem dJ2_checkIndex_2214a_1 : decode cJ2_checkIndex_2214a 1 = .ok (.aload_n 1, 1) := by decide +kernel
theorem dJ2_checkIndex_2214a_2 : decode cJ2_checkIndex_2214a 2 = .ok (.invokestatic 48, 3) := by decide +kernel
theorem dJ2_checkIndex_2214a_5 : decode cJ2_checkIndex_2214a 5 = .ok (.invokestatic 414, 3) := by decide +kernel
theorem dJ2_checkIndex_2214a_8 : decode cJ2_checkIndex_2214a 8 = .ok (.return_, 1) := by decide +kernel
theorem dJ3_checkIndex_8e157_0 : decode cJ3_checkIndex_8e157 0 = .ok (.iload_n 0, 1) := by decide +kernel
theorem dJ3_checkIndex_8e157_1 : decode cJ3_checkIndex_8e157 1 = .ok (.ifCond .lt 8, 3) := by decide +kernel
theorem dJ3_checkIndex_8e157_4 : decode cJ3_checkIndex_8e157 4 = .ok (.iload_n 0, 1) := by decide +kernel
theorem dJ3_checkIndex_8e157_5 : decode cJ3_checkIndex_8e157 5 = .ok (.iload_n 1, 1) := by decide +kernel
theorem dJ3_checkIndex_8e157_6 : decode cJ3_checkIndex_8e157 6 = .ok (.if_icmp .lt 10, 3) := by decide +kernel
theorem dJ3_checkIndex_8e157_9 : decode cJ3_checkIndex_8e157 9 = .ok (.aload_n 2, 1) := by decide +kernel
theorem dJ3_checkIndex_8e157_10 : decode cJ3_checkIndex_8e157 10 = .ok (.iload_n 0, 1) := by decide +kernel
theorem dJ3_checkIndex_8e157_11 : decode cJ3_checkIndex_8e157 11 = .ok (.iload_n 1, 1) := by decide +kernel
theorem dJ3_checkIndex_8e157_12 : decode cJ3_checkIndex_8e157 12 = .ok (.invokestatic 95, 3) := by decide +kernel
theorem dJ3_checkIndex_8e157_15 : decode cJ3_checkIndex_8e157 15 = .ok (.athrow, 1) := by decide +kernel
theorem dJ3_checkIndex_8e157_16 : decode cJ3_checkIndex_8e157 16 = .ok (.iload_n 0, 1) := by decide +kernel
theorem dJ3_checkIndex_8e157_17 : decode cJ3_checkIndex_8e157 17 = .ok (.ireturn, 1) := by decide +kernel
