theorem dX11_pew_48 : decode cX11_pew 48 = .ok (.goto 12, 3) := by decide +kernel
theorem dX11_pew_51 : decode cX11_pew 51 = .ok (.aload_n 0, 1) := by decide +kernel
theorem dX11_pew_52 : decode cX11_pew 52 = .ok (.getfield 35, 3) := by decide +kernel
theorem dX11_pew_55 : decode cX11_pew 55 = .ok (.getfield 156, 3) := by decide +kernel
theorem dX11_pew_58 : decode cX11_pew 58 = .ok (.iload_n 1, 1) := by decide +kernel
theorem dX11_pew_59 : decode cX11_pew 59 = .ok (.iaload, 1) := by decide +kernel
theorem dX11_pew_60 : decode cX11_pew 60 = .ok (.ireturn, 1) := by decide +kernel
theorem dX11_near_0 : decode cX11_near 0 = .ok (.aload_n 0, 1) := by decide +kernel
theorem dX11_near_1 : decode cX11_near 1 = .ok (.iload_n 1, 1) := by decide +kernel
theorem dX11_near_2 : decode cX11_near 2 = .ok (.invokevirtual 145, 3) := by decide +kernel
theorem dX11_near_5 : decode cX11_near 5 = .ok (.ifCond .eq 8, 3) := by decide +kernel
theorem dX11_near_8 : decode cX11_near 8 = .ok (.bipush (-2), 2) := by decide +kernel
theorem dX11_near_10 : decode cX11_near 10 = .ok (.goto 12, 3) := by decide +kernel
theorem dX11_near_13 : decode cX11_near 13 = .ok (.aload_n 0, 1) := by decide +kernel
theorem dX11_near_14 : decode cX11_near 14 = .ok (.getfield 35, 3) := by decide +kernel
theorem dX11_near_17 : decode cX11_near 17 = .ok (.getfield 159, 3) := by decide +kernel
theorem dX11_near_20 : decode cX11_near 20 = .ok (.iload_n 1, 1) := by decide +kernel
theorem dX11_near_21 : decode cX11_near 21 = .ok (.iaload, 1) := by decide +kernel
theorem dX11_near_22 : decode cX11_near 22 = .ok (.ireturn, 1) := by decide +kernel
theorem dX11_far_0 : decode cX11_far 0 = .ok (.aload_n 0, 1) := by decide +kernel
theorem dX11_far_1 : decode cX11_far 1 = .ok (.iload_n 1, 1) := by decide +kernel
theorem dX11_far_2 : decode cX11_far 2 = .ok (.invokevirtual 145, 3) := by decide +kernel
theorem dX11_far_5 : decode cX11_far 5 = .ok (.ifCond .ne 11, 3) := by decide +kernel
theorem dX11_far_8 : decode cX11_far 8 = .ok (.aload_n 0, 1) := by decide +kernel
theorem dX11_far_9 : decode cX11_far 9 = .ok (.iload_n 2, 1) := by decide +kernel
theorem dX11_far_10 : decode cX11_far 10 = .ok (.invokevirtual 145, 3) := by decide +kernel
theorem dX11_far_13 : decode cX11_far 13 = .ok (.ifCond .eq 6, 3) := by decide +kernel
theorem dX11_far_16 : decode cX11_far 16 = .ok (.bipush (-2), 2) := by decide +kernel
theorem dX11_far_18 : decode cX11_far 18 = .ok (.ireturn, 1) := by decide +kernel
theorem dX11_far_19 : decode cX11_far 19 = .ok (.iconst 1, 1) := by decide +kernel
theorem dX11_far_20 : decode cX11_far 20 = .ok (.iload_n 1, 1) := by decide +kernel
theorem dX11_far_21 : decode cX11_far 21 = .ok (.ishl, 1) := by decide +kernel
theorem dX11_far_22 : decode cX11_far 22 = .ok (.istore_n 3, 1) := by decide +kernel
theorem dX11_far_23 : decode cX11_far 23 = .ok (.iconst 0, 1) := by decide +kernel
theorem dX11_far_24 : decode cX11_far 24 = .ok (.istore 4, 2) := by decide +kernel
theorem dX11_far_26 : decode cX11_far 26 = .ok (.iload 4, 2) := by decide +kernel
theorem dX11_far_28 : decode cX11_far 28 = .ok (.bipush 7, 2) := by decide +kernel
theorem dX11_far_30 : decode cX11_far 30 = .ok (.if_icmp .ge 31, 3) := by decide +kernel
theorem dX11_far_33 : decode cX11_far 33 = .ok (.iload_n 3, 1) := by decide +kernel
theorem dX11_far_34 : decode cX11_far 34 = .ok (.iload_n 2, 1) := by decide +kernel
theorem dX11_far_35 : decode cX11_far 35 = .ok (.ishr, 1) := by decide +kernel
theorem dX11_far_36 : decode cX11_far 36 = .ok (.iconst 1, 1) := by decide +kernel
theorem dX11_far_37 : decode cX11_far 37 = .ok (.iand, 1) := by decide +kernel
theorem dX11_far_38 : decode cX11_far 38 = .ok (.ifCond .eq 6, 3) := by decide +kernel
theorem dX11_far_41 : decode cX11_far 41 = .ok (.iload 4, 2) := by decide +kernel
theorem dX11_far_43 : decode cX11_far 43 = .ok (.ireturn, 1) := by decide +kernel
theorem dX11_far_44 : decode cX11_far 44 = .ok (.iload_n 3, 1) := by decide +kernel
theorem dX11_far_45 : decode cX11_far 45 = .ok (.aload_n 0, 1) := by decide +kernel
theorem dX11_far_46 : decode cX11_far 46 = .ok (.getfield 35, 3) := by decide +kernel
theorem dX11_far_49 : decode cX11_far 49 = .ok (.iload_n 3, 1) := by decide +kernel
theorem dX11_far_50 : decode cX11_far 50 = .ok (.invokevirtual 162, 3) := by decide +kernel
theorem dX11_far_53 : decode cX11_far 53 = .ok (.ior, 1) := by decide +kernel
theorem dX11_far_54 : decode cX11_far 54 = .ok (.istore_n 3, 1) := by decide +kernel
theorem dX11_far_55 : decode cX11_far 55 = .ok (.iinc 4 1, 3) := by decide +kernel
theorem dX11_far_58 : decode cX11_far 58 = .ok (.goto (-32), 3) := by decide +kernel
theorem dX11_far_61 : decode cX11_far 61 = .ok (.iconst (-1), 1) := by decide +kernel
theorem dX11_far_62 : decode cX11_far 62 = .ok (.ireturn, 1) := by decide +kernel
theorem dX11_told_0 : decode cX11_told 0 = .ok (.iload_n 1, 1) := by decide +kernel
theorem dX11_told_1 : decode cX11_told 1 = .ok (.ifCond .lt 14, 3) := by decide +kernel
theorem dX11_told_4 : decode cX11_told 4 = .ok (.iload_n 1, 1) := by decide +kernel
theorem dX11_told_5 : decode cX11_told 5 = .ok (.aload_n 0, 1) := by decide +kernel
theorem dX11_told_6 : decode cX11_told 6 = .ok (.getfield 35, 3) := by decide +kernel
theorem dX11_told_9 : decode cX11_told 9 = .ok (.getfield 166, 3) := by decide +kernel
theorem dX11_told_12 : decode cX11_told 12 = .ok (.if_icmp .lt 6, 3) := by decide +kernel
theorem dX11_told_15 : decode cX11_told 15 = .ok (.bipush (-2), 2) := by decide +kernel
theorem dX11_told_17 : decode cX11_told 17 = .ok (.ireturn, 1) := by decide +kernel
theorem dX11_told_18 : decode cX11_told 18 = .ok (.aload_n 0, 1) := by decide +kernel
theorem dX11_told_19 : decode cX11_told 19 = .ok (.getfield 35, 3) := by decide +kernel
theorem dX11_told_22 : decode cX11_told 22 = .ok (.getfield 169, 3) := by decide +kernel
theorem dX11_told_25 : decode cX11_told 25 = .ok (.iload_n 1, 1) := by decide +kernel
theorem dX11_told_26 : decode cX11_told 26 = .ok (.iaload, 1) := by decide +kernel
theorem dX11_told_27 : decode cX11_told 27 = .ok (.iload_n 2, 1) := by decide +kernel
theorem dX11_told_28 : decode cX11_told 28 = .ok (.invokestatic 172, 3) := by decide +kernel
theorem dX11_told_31 : decode cX11_told 31 = .ok (.ireturn, 1) := by decide +kernel
theorem dX11_lit_0 : decode cX11_lit 0 = .ok (.aload_n 0, 1) := by decide +kernel
theorem dX11_lit_1 : decode cX11_lit 1 = .ok (.iload_n 1, 1) := by decide +kernel
theorem dX11_lit_2 : decode cX11_lit 2 = .ok (.invokevirtual 176, 3) := by decide +kernel
theorem dX11_lit_5 : decode cX11_lit 5 = .ok (.ifCond .eq 8, 3) := by decide +kernel
theorem dX11_lit_8 : decode cX11_lit 8 = .ok (.bipush (-2), 2) := by decide +kernel
theorem dX11_lit_10 : decode cX11_lit 10 = .ok (.goto 12, 3) := by decide +kernel
theorem dX11_lit_13 : decode cX11_lit 13 = .ok (.aload_n 0, 1) := by decide +kernel
theorem dX11_lit_14 : decode cX11_lit 14 = .ok (.invokevirtual 179, 3) := by decide +kernel
theorem dX11_lit_17 : decode cX11_lit 17 = .ok (.getfield 183, 3) := by decide +kernel
theorem dX11_lit_20 : decode cX11_lit 20 = .ok (.iload_n 1, 1) := by decide +kernel
theorem dX11_lit_21 : decode cX11_lit 21 = .ok (.iaload, 1) := by decide +kernel
theorem dX11_lit_22 : decode cX11_lit 22 = .ok (.ireturn, 1) := by decide +kernel
theorem dX11_letters_0 : decode cX11_letters 0 = .ok (.aload_n 0, 1) := by decide +kernel
theorem dX11_letters_1 : decode cX11_letters 1 = .ok (.iload_n 1, 1) := by decide +kernel
theorem dX11_letters_2 : decode cX11_letters 2 = .ok (.invokevirtual 145, 3) := by decide +kernel
theorem dX11_letters_5 : decode cX11_letters 5 = .ok (.ifCond .ne 11, 3) := by decide +kernel
theorem dX11_letters_8 : decode cX11_letters 8 = .ok (.aload_n 0, 1) := by decide +kernel
theorem dX11_letters_9 : decode cX11_letters 9 = .ok (.iload_n 2, 1) := by decide +kernel
theorem dX11_letters_10 : decode cX11_letters 10 = .ok (.invokevirtual 176, 3) := by decide +kernel
theorem dX11_letters_13 : decode cX11_letters 13 = .ok (.ifCond .eq 6, 3) := by decide +kernel
theorem dX11_letters_16 : decode cX11_letters 16 = .ok (.bipush (-2), 2) := by decide +kernel
theorem dX11_letters_18 : decode cX11_letters 18 = .ok (.ireturn, 1) := by decide +kernel
theorem dX11_letters_19 : decode cX11_letters 19 = .ok (.aload_n 0, 1) := by decide +kernel
theorem dX11_letters_20 : decode cX11_letters 20 = .ok (.invokevirtual 179, 3) := by decide +kernel
theorem dX11_letters_23 : decode cX11_letters 23 = .ok (.getfield 186, 3) := by decide +kernel
theorem dX11_letters_26 : decode cX11_letters 26 = .ok (.iload_n 1, 1) := by decide +kernel
theorem dX11_letters_27 : decode cX11_letters 27 = .ok (.iload_n 2, 1) := by decide +kernel
theorem dX11_letters_28 : decode cX11_letters 28 = .ok (.invokestatic 189, 3) := by decide +kernel
theorem dX11_letters_31 : decode cX11_letters 31 = .ok (.iaload, 1) := by decide +kernel
theorem dX11_letters_32 : decode cX11_letters 32 = .ok (.invokestatic 192, 3) := by decide +kernel
theorem dX11_letters_35 : decode cX11_letters 35 = .ok (.ireturn, 1) := by decide +kernel
theorem dX11_says_0 : decode cX11_says 0 = .ok (.aload_n 0, 1) := by decide +kernel
theorem dX11_says_1 : decode cX11_says 1 = .ok (.iload_n 1, 1) := by decide +kernel
theorem dX11_says_2 : decode cX11_says 2 = .ok (.invokevirtual 145, 3) := by decide +kernel
theorem dX11_says_5 : decode cX11_says 5 = .ok (.ifCond .ne 15, 3) := by decide +kernel
theorem dX11_says_8 : decode cX11_says 8 = .ok (.aload_n 0, 1) := by decide +kernel
theorem dX11_says_9 : decode cX11_says 9 = .ok (.iload_n 2, 1) := by decide +kernel
theorem dX11_says_10 : decode cX11_says 10 = .ok (.invokevirtual 176, 3) := by decide +kernel
theorem dX11_says_13 : decode cX11_says 13 = .ok (.ifCond .ne 7, 3) := by decide +kernel
theorem dX11_says_16 : decode cX11_says 16 = .ok (.iload_n 3, 1) := by decide +kernel
theorem dX11_says_17 : decode cX11_says 17 = .ok (.ifCond .ge 6, 3) := by decide +kernel
theorem dX11_says_20 : decode cX11_says 20 = .ok (.bipush (-2), 2) := by decide +kernel
theorem dX11_says_22 : decode cX11_says 22 = .ok (.ireturn, 1) := by decide +kernel
theorem dX11_says_23 : decode cX11_says 23 = .ok (.aload_n 0, 1) := by decide +kernel
theorem dX11_says_24 : decode cX11_says 24 = .ok (.invokevirtual 179, 3) := by decide +kernel
theorem dX11_says_27 : decode cX11_says 27 = .ok (.getfield 186, 3) := by decide +kernel
theorem dX11_says_30 : decode cX11_says 30 = .ok (.iload_n 1, 1) := by decide +kernel
theorem dX11_says_31 : decode cX11_says 31 = .ok (.iload_n 2, 1) := by decide +kernel
theorem dX11_says_32 : decode cX11_says 32 = .ok (.invokestatic 189, 3) := by decide +kernel
theorem dX11_says_35 : decode cX11_says 35 = .ok (.iaload, 1) := by decide +kernel
theorem dX11_says_36 : decode cX11_says 36 = .ok (.iload_n 3, 1) := by decide +kernel
theorem dX11_says_37 : decode cX11_says 37 = .ok (.invokestatic 172, 3) := by decide +kernel
theorem dX11_says_40 : decode cX11_says 40 = .ok (.ireturn, 1) := by decide +kernel
theorem dX11_from_0 : decode cX11_from 0 = .ok (.aload_n 0, 1) := by decide +kernel
theorem dX11_from_1 : decode cX11_from 1 = .ok (.iload_n 1, 1) := by decide +kernel
theorem dX11_from_2 : decode cX11_from 2 = .ok (.invokevirtual 145, 3) := by decide +kernel
theorem dX11_from_5 : decode cX11_from 5 = .ok (.ifCond .ne 11, 3) := by decide +kernel
theorem dX11_from_8 : decode cX11_from 8 = .ok (.aload_n 0, 1) := by decide +kernel
theorem dX11_from_9 : decode cX11_from 9 = .ok (.iload_n 2, 1) := by decide +kernel
theorem dX11_from_10 : decode cX11_from 10 = .ok (.invokevirtual 176, 3) := by decide +kernel
theorem dX11_from_13 : decode cX11_from 13 = .ok (.ifCond .eq 6, 3) := by decide +kernel
theorem dX11_from_16 : decode cX11_from 16 = .ok (.bipush (-2), 2) := by decide +kernel
theorem dX11_from_18 : decode cX11_from 18 = .ok (.ireturn, 1) := by decide +kernel
theorem dX11_from_19 : decode cX11_from 19 = .ok (.aload_n 0, 1) := by decide +kernel
theorem dX11_from_20 : decode cX11_from 20 = .ok (.invokevirtual 179, 3) := by decide +kernel
theorem dX11_from_23 : decode cX11_from 23 = .ok (.getfield 197, 3) := by decide +kernel
theorem dX11_from_26 : decode cX11_from 26 = .ok (.iload_n 1, 1) := by decide +kernel
theorem dX11_from_27 : decode cX11_from 27 = .ok (.iload_n 2, 1) := by decide +kernel
theorem dX11_from_28 : decode cX11_from 28 = .ok (.invokestatic 189, 3) := by decide +kernel
theorem dX11_from_31 : decode cX11_from 31 = .ok (.iaload, 1) := by decide +kernel
theorem dX11_from_32 : decode cX11_from 32 = .ok (.ireturn, 1) := by decide +kernel
theorem dX11_since_0 : decode cX11_since 0 = .ok (.aload_n 0, 1) := by decide +kernel
theorem dX11_since_1 : decode cX11_since 1 = .ok (.iload_n 1, 1) := by decide +kernel
theorem dX11_since_2 : decode cX11_since 2 = .ok (.invokevirtual 145, 3) := by decide +kernel
theorem dX11_since_5 : decode cX11_since 5 = .ok (.ifCond .ne 11, 3) := by decide +kernel
theorem dX11_since_8 : decode cX11_since 8 = .ok (.aload_n 0, 1) := by decide +kernel
theorem dX11_since_9 : decode cX11_since 9 = .ok (.iload_n 2, 1) := by decide +kernel
theorem dX11_since_10 : decode cX11_since 10 = .ok (.invokevirtual 176, 3) := by decide +kernel
theorem dX11_since_13 : decode cX11_since 13 = .ok (.ifCond .eq 6, 3) := by decide +kernel
theorem dX11_since_16 : decode cX11_since 16 = .ok (.bipush (-2), 2) := by decide +kernel
theorem dX11_since_18 : decode cX11_since 18 = .ok (.ireturn, 1) := by decide +kernel
theorem dX11_since_19 : decode cX11_since 19 = .ok (.aload_n 0, 1) := by decide +kernel
theorem dX11_since_20 : decode cX11_since 20 = .ok (.invokevirtual 179, 3) := by decide +kernel
theorem dX11_since_23 : decode cX11_since 23 = .ok (.getfield 200, 3) := by decide +kernel
theorem dX11_since_26 : decode cX11_since 26 = .ok (.iload_n 1, 1) := by decide +kernel
theorem dX11_since_27 : decode cX11_since 27 = .ok (.iload_n 2, 1) := by decide +kernel
theorem dX11_since_28 : decode cX11_since 28 = .ok (.invokestatic 189, 3) := by decide +kernel
theorem dX11_since_31 : decode cX11_since 31 = .ok (.iaload, 1) := by decide +kernel
theorem dX11_since_32 : decode cX11_since 32 = .ok (.ireturn, 1) := by decide +kernel
theorem dX11_when_0 : decode cX11_when 0 = .ok (.aload_n 0, 1) := by decide +kernel
theorem dX11_when_1 : decode cX11_when 1 = .ok (.iload_n 1, 1) := by decide +kernel
theorem dX11_when_2 : decode cX11_when 2 = .ok (.invokevirtual 145, 3) := by decide +kernel
theorem dX11_when_5 : decode cX11_when 5 = .ok (.ifCond .eq 6, 3) := by decide +kernel
theorem dX11_when_8 : decode cX11_when 8 = .ok (.bipush (-2), 2) := by decide +kernel
theorem dX11_when_10 : decode cX11_when 10 = .ok (.ireturn, 1) := by decide +kernel
theorem dX11_when_11 : decode cX11_when 11 = .ok (.aload_n 0, 1) := by decide +kernel
theorem dX11_when_12 : decode cX11_when 12 = .ok (.invokevirtual 179, 3) := by decide +kernel
theorem dX11_when_15 : decode cX11_when 15 = .ok (.astore_n 2, 1) := by decide +kernel
theorem dX11_when_16 : decode cX11_when 16 = .ok (.iconst 0, 1) := by decide +kernel
theorem dX11_when_17 : decode cX11_when 17 = .ok (.istore_n 3, 1) := by decide +kernel
theorem dX11_when_18 : decode cX11_when 18 = .ok (.iload_n 3, 1) := by decide +kernel
theorem dX11_when_19 : decode cX11_when 19 = .ok (.aload_n 0, 1) := by decide +kernel
theorem dX11_when_20 : decode cX11_when 20 = .ok (.getfield 35, 3) := by decide +kernel
theorem dX11_when_23 : decode cX11_when 23 = .ok (.getfield 203, 3) := by decide +kernel
theorem dX11_when_26 : decode cX11_when 26 = .ok (.if_icmp .gt 20, 3) := by decide +kernel
theorem dX11_when_29 : decode cX11_when 29 = .ok (.aload_n 2, 1) := by decide +kernel
theorem dX11_when_30 : decode cX11_when 30 = .ok (.iload_n 1, 1) := by decide +kernel
theorem dX11_when_31 : decode cX11_when 31 = .ok (.iload_n 3, 1) := by decide +kernel
theorem dX11_when_32 : decode cX11_when 32 = .ok (.invokevirtual 206, 3) := by decide +kernel
theorem dX11_when_35 : decode cX11_when 35 = .ok (.ifCond .eq 5, 3) := by decide +kernel
theorem dX11_when_38 : decode cX11_when 38 = .ok (.iload_n 3, 1) := by decide +kernel
theorem dX11_when_39 : decode cX11_when 39 = .ok (.ireturn, 1) := by decide +kernel
theorem dX11_when_40 : decode cX11_when 40 = .ok (.iinc 3 1, 3) := by decide +kernel
theorem dX11_when_43 : decode cX11_when 43 = .ok (.goto (-25), 3) := by decide +kernel
theorem dX11_when_46 : decode cX11_when 46 = .ok (.iconst (-1), 1) := by decide +kernel
theorem dX11_when_47 : decode cX11_when 47 = .ok (.ireturn, 1) := by decide +kernel
theorem dX11_often_0 : decode cX11_often 0 = .ok (.aload_n 0, 1) := by decide +kernel
theorem dX11_often_1 : decode cX11_often 1 = .ok (.iload_n 1, 1) := by decide +kernel
theorem dX11_often_2 : decode cX11_often 2 = .ok (.invokevirtual 145, 3) := by decide +kernel
theorem dX11_often_5 : decode cX11_often 5 = .ok (.ifCond .eq 6, 3) := by decide +kernel
theorem dX11_often_8 : decode cX11_often 8 = .ok (.bipush (-2), 2) := by decide +kernel
theorem dX11_often_10 : decode cX11_often 10 = .ok (.ireturn, 1) := by decide +kernel
theorem dX11_often_11 : decode cX11_often 11 = .ok (.aload_n 0, 1) := by decide +kernel
theorem dX11_often_12 : decode cX11_often 12 = .ok (.invokevirtual 179, 3) := by decide +kernel
theorem dX11_often_15 : decode cX11_often 15 = .ok (.astore_n 2, 1) := by decide +kernel
theorem dX11_often_16 : decode cX11_often 16 = .ok (.iconst 0, 1) := by decide +kernel
theorem dX11_often_17 : decode cX11_often 17 = .ok (.istore_n 3, 1) := by decide +kernel
theorem dX11_often_18 : decode cX11_often 18 = .ok (.iconst 0, 1) := by decide +kernel
theorem dX11_often_19 : decode cX11_often 19 = .ok (.istore 4, 2) := by decide +kernel
theorem dX11_often_21 : decode cX11_often 21 = .ok (.iload 4, 2) := by decide +kernel
theorem dX11_often_23 : decode cX11_often 23 = .ok (.aload_n 0, 1) := by decide +kernel
theorem dX11_often_24 : decode cX11_often 24 = .ok (.getfield 35, 3) := by decide +kernel
theorem dX11_often_27 : decode cX11_often 27 = .ok (.getfield 203, 3) := by decide +kernel
theorem dX11_often_30 : decode cX11_often 30 = .ok (.if_icmp .gt 22, 3) := by decide +kernel
theorem dX11_often_33 : decode cX11_often 33 = .ok (.aload_n 2, 1) := by decide +kernel
theorem dX11_often_34 : decode cX11_often 34 = .ok (.iload_n 1, 1) := by decide +kernel
theorem dX11_often_35 : decode cX11_often 35 = .ok (.iload 4, 2) := by decide +kernel
theorem dX11_often_37 : decode cX11_often 37 = .ok (.invokevirtual 206, 3) := by decide +kernel
theorem dX11_often_40 : decode cX11_often 40 = .ok (.ifCond .eq 6, 3) := by decide +kernel
theorem dX11_often_43 : decode cX11_often 43 = .ok (.iinc 3 1, 3) := by decide +kernel
theorem dX11_often_46 : decode cX11_often 46 = .ok (.iinc 4 1, 3) := by decide +kernel
theorem dX11_often_49 : decode cX11_often 49 = .ok (.goto (-28), 3) := by decide +kernel
theorem dX11_often_52 : decode cX11_often 52 = .ok (.iload_n 3, 1) := by decide +kernel
theorem dX11_often_53 : decode cX11_often 53 = .ok (.ireturn, 1) := by decide +kernel
theorem dX11_full_0 : decode cX11_full 0 = .ok (.aload_n 0, 1) := by decide +kernel
theorem dX11_full_1 : decode cX11_full 1 = .ok (.invokevirtual 210, 3) := by decide +kernel
theorem dX11_full_4 : decode cX11_full 4 = .ok (.ifCond .eq 6, 3) := by decide +kernel
theorem dX11_full_7 : decode cX11_full 7 = .ok (.bipush (-2), 2) := by decide +kernel
theorem dX11_full_9 : decode cX11_full 9 = .ok (.ireturn, 1) := by decide +kernel
theorem dX11_full_10 : decode cX11_full 10 = .ok (.aload_n 0, 1) := by decide +kernel
theorem dX11_full_11 : decode cX11_full 11 = .ok (.invokevirtual 179, 3) := by decide +kernel
theorem dX11_full_14 : decode cX11_full 14 = .ok (.astore_n 1, 1) := by decide +kernel
theorem dX11_full_15 : decode cX11_full 15 = .ok (.iconst 0, 1) := by decide +kernel
theorem dX11_full_16 : decode cX11_full 16 = .ok (.istore_n 2, 1) := by decide +kernel
theorem dX11_full_17 : decode cX11_full 17 = .ok (.iload_n 2, 1) := by decide +kernel
theorem dX11_full_18 : decode cX11_full 18 = .ok (.aload_n 0, 1) := by decide +kernel
theorem dX11_full_19 : decode cX11_full 19 = .ok (.getfield 35, 3) := by decide +kernel
theorem dX11_full_22 : decode cX11_full 22 = .ok (.getfield 203, 3) := by decide +kernel
theorem dX11_full_25 : decode cX11_full 25 = .ok (.if_icmp .gt 37, 3) := by decide +kernel
theorem dX11_full_28 : decode cX11_full 28 = .ok (.aload_n 0, 1) := by decide +kernel
theorem dX11_full_29 : decode cX11_full 29 = .ok (.getfield 35, 3) := by decide +kernel
theorem dX11_full_32 : decode cX11_full 32 = .ok (.getfield 214, 3) := by decide +kernel
theorem dX11_full_35 : decode cX11_full 35 = .ok (.ifCond .le 21, 3) := by decide +kernel
theorem dX11_full_38 : decode cX11_full 38 = .ok (.aload_n 1, 1) := by decide +kernel
theorem dX11_full_39 : decode cX11_full 39 = .ok (.getfield 183, 3) := by decide +kernel
theorem dX11_full_42 : decode cX11_full 42 = .ok (.iload_n 2, 1) := by decide +kernel
theorem dX11_full_43 : decode cX11_full 43 = .ok (.iaload, 1) := by decide +kernel
theorem dX11_full_44 : decode cX11_full 44 = .ok (.aload_n 0, 1) := by decide +kernel
theorem dX11_full_45 : decode cX11_full 45 = .ok (.getfield 35, 3) := by decide +kernel
theorem dX11_full_48 : decode cX11_full 48 = .ok (.invokevirtual 217, 3) := by decide +kernel
theorem dX11_full_51 : decode cX11_full 51 = .ok (.if_icmp .ne 5, 3) := by decide +kernel
theorem dX11_full_54 : decode cX11_full 54 = .ok (.iload_n 2, 1) := by decide +kernel
theorem dX11_full_55 : decode cX11_full 55 = .ok (.ireturn, 1) := by decide +kernel
theorem dX11_full_56 : decode cX11_full 56 = .ok (.iinc 2 1, 3) := by decide +kernel
theorem dX11_full_59 : decode cX11_full 59 = .ok (.goto (-42), 3) := by decide +kernel
theorem dX11_full_62 : decode cX11_full 62 = .ok (.iconst (-1), 1) := by decide +kernel
theorem dX11_full_63 : decode cX11_full 63 = .ok (.ireturn, 1) := by decide +kernel
theorem dX11_dark_0 : decode cX11_dark 0 = .ok (.aload_n 0, 1) := by decide +kernel
theorem dX11_dark_1 : decode cX11_dark 1 = .ok (.invokevirtual 210, 3) := by decide +kernel
theorem dX11_dark_4 : decode cX11_dark 4 = .ok (.ifCond .eq 6, 3) := by decide +kernel
theorem dX11_dark_7 : decode cX11_dark 7 = .ok (.bipush (-2), 2) := by decide +kernel
theorem dX11_dark_9 : decode cX11_dark 9 = .ok (.ireturn, 1) := by decide +kernel
theorem dX11_dark_10 : decode cX11_dark 10 = .ok (.aload_n 0, 1) := by decide +kernel
theorem dX11_dark_11 : decode cX11_dark 11 = .ok (.invokevirtual 179, 3) := by decide +kernel
theorem dX11_dark_14 : decode cX11_dark 14 = .ok (.astore_n 1, 1) := by decide +kernel
theorem dX11_dark_15 : decode cX11_dark 15 = .ok (.aload_n 0, 1) := by decide +kernel
theorem dX11_dark_16 : decode cX11_dark 16 = .ok (.getfield 35, 3) := by decide +kernel
theorem dX11_dark_19 : decode cX11_dark 19 = .ok (.invokevirtual 217, 3) := by decide +kernel
theorem dX11_dark_22 : decode cX11_dark 22 = .ok (.istore_n 2, 1) := by decide +kernel
theorem dX11_dark_23 : decode cX11_dark 23 = .ok (.iconst 0, 1) := by decide +kernel
theorem dX11_dark_24 : decode cX11_dark 24 = .ok (.istore_n 3, 1) := by decide +kernel
theorem dX11_dark_25 : decode cX11_dark 25 = .ok (.iload_n 3, 1) := by decide +kernel
theorem dX11_dark_26 : decode cX11_dark 26 = .ok (.aload_n 0, 1) := by decide +kernel
theorem dX11_dark_27 : decode cX11_dark 27 = .ok (.getfield 35, 3) := by decide +kernel
theorem dX11_dark_30 : decode cX11_dark 30 = .ok (.getfield 203, 3) := by decide +kernel
theorem dX11_dark_33 : decode cX11_dark 33 = .ok (.if_icmp .gt 20, 3) := by decide +kernel
theorem dX11_dark_36 : decode cX11_dark 36 = .ok (.iload_n 2, 1) := by decide +kernel
theorem dX11_dark_37 : decode cX11_dark 37 = .ok (.aload_n 1, 1) := by decide +kernel
theorem dX11_dark_38 : decode cX11_dark 38 = .ok (.getfield 183, 3) := by decide +kernel
theorem dX11_dark_41 : decode cX11_dark 41 = .ok (.iload_n 3, 1) := by decide +kernel
theorem dX11_dark_42 : decode cX11_dark 42 = .ok (.iaload, 1) := by decide +kernel
theorem dX11_dark_43 : decode cX11_dark 43 = .ok (.iconst (-1), 1) := by decide +kernel
theorem dX11_dark_44 : decode cX11_dark 44 = .ok (.ixor, 1) := by decide +kernel
theorem dX11_dark_45 : decode cX11_dark 45 = .ok (.iand, 1) := by decide +kernel
theorem dX11_dark_46 : decode cX11_dark 46 = .ok (.istore_n 2, 1) := by decide +kernel
theorem dX11_dark_47 : decode cX11_dark 47 = .ok (.iinc 3 1, 3) := by decide +kernel
theorem dX11_dark_50 : decode cX11_dark 50 = .ok (.goto (-25), 3) := by decide +kernel
theorem dX11_dark_53 : decode cX11_dark 53 = .ok (.iload_n 2, 1) := by decide +kernel
theorem dX11_dark_54 : decode cX11_dark 54 = .ok (.ireturn, 1) := by decide +kernel
theorem dX11_still_0 : decode cX11_still 0 = .ok (.aload_n 0, 1) := by decide +kernel
theorem dX11_still_1 : decode cX11_still 1 = .ok (.invokevirtual 210, 3) := by decide +kernel
theorem dX11_still_4 : decode cX11_still 4 = .ok (.ifCond .eq 6, 3) := by decide +kernel
theorem dX11_still_7 : decode cX11_still 7 = .ok (.bipush (-2), 2) := by decide +kernel
theorem dX11_still_9 : decode cX11_still 9 = .ok (.ireturn, 1) := by decide +kernel
theorem dX11_still_10 : decode cX11_still 10 = .ok (.aload_n 0, 1) := by decide +kernel
theorem dX11_still_11 : decode cX11_still 11 = .ok (.invokevirtual 179, 3) := by decide +kernel
theorem dX11_still_14 : decode cX11_still 14 = .ok (.astore_n 1, 1) := by decide +kernel
theorem dX11_still_15 : decode cX11_still 15 = .ok (.aload_n 0, 1) := by decide +kernel
theorem dX11_still_16 : decode cX11_still 16 = .ok (.getfield 35, 3) := by decide +kernel
theorem dX11_still_19 : decode cX11_still 19 = .ok (.getfield 203, 3) := by decide +kernel
theorem dX11_still_22 : decode cX11_still 22 = .ok (.istore_n 2, 1) := by decide +kernel
theorem dX11_still_23 : decode cX11_still 23 = .ok (.iload_n 2, 1) := by decide +kernel
theorem dX11_still_24 : decode cX11_still 24 = .ok (.ifCond .le 20, 3) := by decide +kernel
theorem dX11_still_27 : decode cX11_still 27 = .ok (.aload_n 1, 1) := by decide +kernel
theorem dX11_still_28 : decode cX11_still 28 = .ok (.iload_n 2, 1) := by decide +kernel
theorem dX11_still_29 : decode cX11_still 29 = .ok (.iload_n 2, 1) := by decide +kernel
theorem dX11_still_30 : decode cX11_still 30 = .ok (.iconst 1, 1) := by decide +kernel
theorem dX11_still_31 : decode cX11_still 31 = .ok (.isub, 1) := by decide +kernel
theorem dX11_still_32 : decode cX11_still 32 = .ok (.invokevirtual 221, 3) := by decide +kernel
theorem dX11_still_35 : decode cX11_still 35 = .ok (.ifCond .ne 9, 3) := by decide +kernel
theorem dX11_still_38 : decode cX11_still 38 = .ok (.iinc 2 (-1), 3) := by decide +kernel
theorem dX11_still_41 : decode cX11_still 41 = .ok (.goto (-18), 3) := by decide +kernel
theorem dX11_still_44 : decode cX11_still 44 = .ok (.iload_n 2, 1) := by decide +kernel
theorem dX11_still_45 : decode cX11_still 45 = .ok (.ireturn, 1) := by decide +kernel
theorem dX11_sorts_0 : decode cX11_sorts 0 = .ok (.aload_n 0, 1) := by decide +kernel
theorem dX11_sorts_1 : decode cX11_sorts 1 = .ok (.iload_n 1, 1) := by decide +kernel
theorem dX11_sorts_2 : decode cX11_sorts 2 = .ok (.invokevirtual 176, 3) := by decide +kernel
theorem dX11_sorts_5 : decode cX11_sorts 5 = .ok (.ifCond .eq 6, 3) := by decide +kernel
theorem dX11_sorts_8 : decode cX11_sorts 8 = .ok (.bipush (-2), 2) := by decide +kernel
theorem dX11_sorts_10 : decode cX11_sorts 10 = .ok (.ireturn, 1) := by decide +kernel
theorem dX11_sorts_11 : decode cX11_sorts 11 = .ok (.aload_n 0, 1) := by decide +kernel
theorem dX11_sorts_12 : decode cX11_sorts 12 = .ok (.invokevirtual 179, 3) := by decide +kernel
theorem dX11_sorts_15 : decode cX11_sorts 15 = .ok (.astore_n 2, 1) := by decide +kernel
theorem dX11_sorts_16 : decode cX11_sorts 16 = .ok (.iconst 0, 1) := by decide +kernel
theorem dX11_sorts_17 : decode cX11_sorts 17 = .ok (.istore_n 3, 1) := by decide +kernel
theorem dX11_sorts_18 : decode cX11_sorts 18 = .ok (.iconst 0, 1) := by decide +kernel
theorem dX11_sorts_19 : decode cX11_sorts 19 = .ok (.istore 4, 2) := by decide +kernel
theorem dX11_sorts_21 : decode cX11_sorts 21 = .ok (.iload 4, 2) := by decide +kernel
theorem dX11_sorts_23 : decode cX11_sorts 23 = .ok (.aload_n 0, 1) := by decide +kernel
theorem dX11_sorts_24 : decode cX11_sorts 24 = .ok (.getfield 35, 3) := by decide +kernel
theorem dX11_sorts_27 : decode cX11_sorts 27 = .ok (.getfield 214, 3) := by decide +kernel
theorem dX11_sorts_30 : decode cX11_sorts 30 = .ok (.if_icmp .ge 38, 3) := by decide +kernel
theorem dX11_sorts_33 : decode cX11_sorts 33 = .ok (.aload_n 2, 1) := by decide +kernel
theorem dX11_sorts_34 : decode cX11_sorts 34 = .ok (.iload 4, 2) := by decide +kernel
theorem dX11_sorts_36 : decode cX11_sorts 36 = .ok (.iload_n 1, 1) := by decide +kernel
theorem dX11_sorts_37 : decode cX11_sorts 37 = .ok (.invokevirtual 224, 3) := by decide +kernel
theorem dX11_sorts_40 : decode cX11_sorts 40 = .ok (.istore 5, 2) := by decide +kernel
theorem dX11_sorts_42 : decode cX11_sorts 42 = .ok (.iload 5, 2) := by decide +kernel
theorem dX11_sorts_44 : decode cX11_sorts 44 = .ok (.ifCond .eq 18, 3) := by decide +kernel
theorem dX11_sorts_47 : decode cX11_sorts 47 = .ok (.iload 5, 2) := by decide +kernel
theorem dX11_sorts_49 : decode cX11_sorts 49 = .ok (.iconst 1, 1) := by decide +kernel
theorem dX11_sorts_50 : decode cX11_sorts 50 = .ok (.iload 4, 2) := by decide +kernel
theorem dX11_sorts_52 : decode cX11_sorts 52 = .ok (.ishl, 1) := by decide +kernel
theorem dX11_sorts_53 : decode cX11_sorts 53 = .ok (.iconst 1, 1) := by decide +kernel
theorem dX11_sorts_54 : decode cX11_sorts 54 = .ok (.isub, 1) := by decide +kernel
theorem dX11_sorts_55 : decode cX11_sorts 55 = .ok (.iand, 1) := by decide +kernel
theorem dX11_sorts_56 : decode cX11_sorts 56 = .ok (.ifCond .ne 6, 3) := by decide +kernel
theorem dX11_sorts_59 : decode cX11_sorts 59 = .ok (.iinc 3 1, 3) := by decide +kernel
theorem dX11_sorts_62 : decode cX11_sorts 62 = .ok (.iinc 4 1, 3) := by decide +kernel
theorem dX11_sorts_65 : decode cX11_sorts 65 = .ok (.goto (-44), 3) := by decide +kernel
theorem dX11_sorts_68 : decode cX11_sorts 68 = .ok (.iload_n 3, 1) := by decide +kernel
theorem dX11_sorts_69 : decode cX11_sorts 69 = .ok (.ireturn, 1) := by decide +kernel
theorem dX11_alike_0 : decode cX11_alike 0 = .ok (.aload_n 0, 1) := by decide +kernel
theorem dX11_alike_1 : decode cX11_alike 1 = .ok (.iload_n 1, 1) := by decide +kernel
theorem dX11_alike_2 : decode cX11_alike 2 = .ok (.invokevirtual 145, 3) := by decide +kernel
theorem dX11_alike_5 : decode cX11_alike 5 = .ok (.ifCond .ne 11, 3) := by decide +kernel
theorem dX11_alike_8 : decode cX11_alike 8 = .ok (.aload_n 0, 1) := by decide +kernel
theorem dX11_alike_9 : decode cX11_alike 9 = .ok (.iload_n 2, 1) := by decide +kernel
theorem dX11_alike_10 : decode cX11_alike 10 = .ok (.invokevirtual 176, 3) := by decide +kernel
theorem dX11_alike_13 : decode cX11_alike 13 = .ok (.ifCond .eq 6, 3) := by decide +kernel
theorem dX11_alike_16 : decode cX11_alike 16 = .ok (.bipush (-2), 2) := by decide +kernel
theorem dX11_alike_18 : decode cX11_alike 18 = .ok (.ireturn, 1) := by decide +kernel
theorem dX11_alike_19 : decode cX11_alike 19 = .ok (.aload_n 0, 1) := by decide +kernel
theorem dX11_alike_20 : decode cX11_alike 20 = .ok (.invokevirtual 179, 3) := by decide +kernel
theorem dX11_alike_23 : decode cX11_alike 23 = .ok (.iload_n 1, 1) := by decide +kernel
theorem dX11_alike_24 : decode cX11_alike 24 = .ok (.iload_n 2, 1) := by decide +kernel
theorem dX11_alike_25 : decode cX11_alike 25 = .ok (.invokevirtual 224, 3) := by decide +kernel
theorem dX11_alike_28 : decode cX11_alike 28 = .ok (.ireturn, 1) := by decide +kernel
theorem dX11_depth_0 : decode cX11_depth 0 = .ok (.aload_n 0, 1) := by decide +kernel
theorem dX11_depth_1 : decode cX11_depth 1 = .ok (.iload_n 1, 1) := by decide +kernel
theorem dX11_depth_2 : decode cX11_depth 2 = .ok (.invokevirtual 145, 3) := by decide +kernel
theorem dX11_depth_5 : decode cX11_depth 5 = .ok (.ifCond .ne 11, 3) := by decide +kernel
theorem dX11_depth_8 : decode cX11_depth 8 = .ok (.aload_n 0, 1) := by decide +kernel
theorem dX11_depth_9 : decode cX11_depth 9 = .ok (.iload_n 2, 1) := by decide +kernel
theorem dX11_depth_10 : decode cX11_depth 10 = .ok (.invokevirtual 176, 3) := by decide +kernel
theorem dX11_depth_13 : decode cX11_depth 13 = .ok (.ifCond .eq 6, 3) := by decide +kernel
theorem dX11_depth_16 : decode cX11_depth 16 = .ok (.bipush (-2), 2) := by decide +kernel
theorem dX11_depth_18 : decode cX11_depth 18 = .ok (.ireturn, 1) := by decide +kernel
theorem dX11_depth_19 : decode cX11_depth 19 = .ok (.aload_n 0, 1) := by decide +kernel
theorem dX11_depth_20 : decode cX11_depth 20 = .ok (.invokevirtual 179, 3) := by decide +kernel
theorem dX11_depth_23 : decode cX11_depth 23 = .ok (.getfield 227, 3) := by decide +kernel
theorem dX11_depth_26 : decode cX11_depth 26 = .ok (.iload_n 1, 1) := by decide +kernel
theorem dX11_depth_27 : decode cX11_depth 27 = .ok (.iload_n 2, 1) := by decide +kernel
theorem dX11_depth_28 : decode cX11_depth 28 = .ok (.invokestatic 189, 3) := by decide +kernel
theorem dX11_depth_31 : decode cX11_depth 31 = .ok (.iaload, 1) := by decide +kernel
theorem dX11_depth_32 : decode cX11_depth 32 = .ok (.ireturn, 1) := by decide +kernel
theorem dX11_longest_0 : decode cX11_longest 0 = .ok (.aload_n 0, 1) := by decide +kernel
theorem dX11_longest_1 : decode cX11_longest 1 = .ok (.iload_n 1, 1) := by decide +kernel
theorem dX11_longest_2 : decode cX11_longest 2 = .ok (.invokevirtual 176, 3) := by decide +kernel
theorem dX11_longest_5 : decode cX11_longest 5 = .ok (.ifCond .eq 6, 3) := by decide +kernel
theorem dX11_longest_8 : decode cX11_longest 8 = .ok (.bipush (-2), 2) := by decide +kernel
theorem dX11_longest_10 : decode cX11_longest 10 = .ok (.ireturn, 1) := by decide +kernel
theorem dX11_longest_11 : decode cX11_longest 11 = .ok (.aload_n 0, 1) := by decide +kernel
theorem dX11_longest_12 : decode cX11_longest 12 = .ok (.invokevirtual 179, 3) := by decide +kernel
theorem dX11_longest_15 : decode cX11_longest 15 = .ok (.astore_n 2, 1) := by decide +kernel
theorem dX11_longest_16 : decode cX11_longest 16 = .ok (.iconst (-1), 1) := by decide +kernel
theorem dX11_longest_17 : decode cX11_longest 17 = .ok (.istore_n 3, 1) := by decide +kernel
theorem dX11_longest_18 : decode cX11_longest 18 = .ok (.iconst 0, 1) := by decide +kernel
theorem dX11_longest_19 : decode cX11_longest 19 = .ok (.istore 4, 2) := by decide +kernel
theorem dX11_longest_21 : decode cX11_longest 21 = .ok (.iconst 0, 1) := by decide +kernel
theorem dX11_longest_22 : decode cX11_longest 22 = .ok (.istore 5, 2) := by decide +kernel
theorem dX11_longest_24 : decode cX11_longest 24 = .ok (.iload 5, 2) := by decide +kernel
theorem dX11_longest_26 : decode cX11_longest 26 = .ok (.aload_n 0, 1) := by decide +kernel
theorem dX11_longest_27 : decode cX11_longest 27 = .ok (.getfield 35, 3) := by decide +kernel
theorem dX11_longest_30 : decode cX11_longest 30 = .ok (.getfield 214, 3) := by decide +kernel
theorem dX11_longest_33 : decode cX11_longest 33 = .ok (.if_icmp .ge 39, 3) := by decide +kernel
theorem dX11_longest_36 : decode cX11_longest 36 = .ok (.aload_n 2, 1) := by decide +kernel
theorem dX11_longest_37 : decode cX11_longest 37 = .ok (.getfield 186, 3) := by decide +kernel
theorem dX11_longest_40 : decode cX11_longest 40 = .ok (.iload 5, 2) := by decide +kernel
theorem dX11_longest_42 : decode cX11_longest 42 = .ok (.iload_n 1, 1) := by decide +kernel
theorem dX11_longest_43 : decode cX11_longest 43 = .ok (.invokestatic 189, 3) := by decide +kernel
theorem dX11_longest_46 : decode cX11_longest 46 = .ok (.iaload, 1) := by decide +kernel
theorem dX11_longest_47 : decode cX11_longest 47 = .ok (.invokestatic 192, 3) := by decide +kernel
theorem dX11_longest_50 : decode cX11_longest 50 = .ok (.istore 6, 2) := by decide +kernel
theorem dX11_longest_52 : decode cX11_longest 52 = .ok (.iload 6, 2) := by decide +kernel
theorem dX11_longest_54 : decode cX11_longest 54 = .ok (.iload 4, 2) := by decide +kernel
theorem dX11_longest_56 : decode cX11_longest 56 = .ok (.if_icmp .le 10, 3) := by decide +kernel
theorem dX11_longest_59 : decode cX11_longest 59 = .ok (.iload 6, 2) := by decide +kernel
theorem dX11_longest_61 : decode cX11_longest 61 = .ok (.istore 4, 2) := by decide +kernel
theorem dX11_longest_63 : decode cX11_longest 63 = .ok (.iload 5, 2) := by decide +kernel
theorem dX11_longest_65 : decode cX11_longest 65 = .ok (.istore_n 3, 1) := by decide +kernel
theorem dX11_longest_66 : decode cX11_longest 66 = .ok (.iinc 5 1, 3) := by decide +kernel
theorem dX11_longest_69 : decode cX11_longest 69 = .ok (.goto (-45), 3) := by decide +kernel
theorem dX11_longest_72 : decode cX11_longest 72 = .ok (.iload_n 3, 1) := by decide +kernel
theorem dX11_longest_73 : decode cX11_longest 73 = .ok (.ireturn, 1) := by decide +kernel
theorem dX11_shortest_0 : decode cX11_shortest 0 = .ok (.aload_n 0, 1) := by decide +kernel
theorem dX11_shortest_1 : decode cX11_shortest 1 = .ok (.iload_n 1, 1) := by decide +kernel
theorem dX11_shortest_2 : decode cX11_shortest 2 = .ok (.invokevirtual 176, 3) := by decide +kernel
theorem dX11_shortest_5 : decode cX11_shortest 5 = .ok (.ifCond .eq 6, 3) := by decide +kernel
theorem dX11_shortest_8 : decode cX11_shortest 8 = .ok (.bipush (-2), 2) := by decide +kernel
theorem dX11_shortest_10 : decode cX11_shortest 10 = .ok (.ireturn, 1) := by decide +kernel
theorem dX11_shortest_11 : decode cX11_shortest 11 = .ok (.aload_n 0, 1) := by decide +kernel
theorem dX11_shortest_12 : decode cX11_shortest 12 = .ok (.invokevirtual 179, 3) := by decide +kernel
theorem dX11_shortest_15 : decode cX11_shortest 15 = .ok (.astore_n 2, 1) := by decide +kernel
theorem dX11_shortest_16 : decode cX11_shortest 16 = .ok (.iconst (-1), 1) := by decide +kernel
theorem dX11_shortest_17 : decode cX11_shortest 17 = .ok (.istore_n 3, 1) := by decide +kernel
theorem dX11_shortest_18 : decode cX11_shortest 18 = .ok (.bipush 7, 2) := by decide +kernel
theorem dX11_shortest_20 : decode cX11_shortest 20 = .ok (.istore 4, 2) := by decide +kernel
theorem dX11_shortest_22 : decode cX11_shortest 22 = .ok (.iconst 0, 1) := by decide +kernel
theorem dX11_shortest_23 : decode cX11_shortest 23 = .ok (.istore 5, 2) := by decide +kernel
theorem dX11_shortest_25 : decode cX11_shortest 25 = .ok (.iload 5, 2) := by decide +kernel
theorem dX11_shortest_27 : decode cX11_shortest 27 = .ok (.aload_n 0, 1) := by decide +kernel
theorem dX11_shortest_28 : decode cX11_shortest 28 = .ok (.getfield 35, 3) := by decide +kernel
theorem dX11_shortest_31 : decode cX11_shortest 31 = .ok (.getfield 214, 3) := by decide +kernel
theorem dX11_shortest_34 : decode cX11_shortest 34 = .ok (.if_icmp .ge 44, 3) := by decide +kernel
theorem dX11_shortest_37 : decode cX11_shortest 37 = .ok (.aload_n 2, 1) := by decide +kernel
theorem dX11_shortest_38 : decode cX11_shortest 38 = .ok (.getfield 186, 3) := by decide +kernel
theorem dX11_shortest_41 : decode cX11_shortest 41 = .ok (.iload 5, 2) := by decide +kernel
theorem dX11_shortest_43 : decode cX11_shortest 43 = .ok (.iload_n 1, 1) := by decide +kernel
theorem dX11_shortest_44 : decode cX11_shortest 44 = .ok (.invokestatic 189, 3) := by decide +kernel
theorem dX11_shortest_47 : decode cX11_shortest 47 = .ok (.iaload, 1) := by decide +kernel
theorem dX11_shortest_48 : decode cX11_shortest 48 = .ok (.invokestatic 192, 3) := by decide +kernel
theorem dX11_shortest_51 : decode cX11_shortest 51 = .ok (.istore 6, 2) := by decide +kernel
theorem dX11_shortest_53 : decode cX11_shortest 53 = .ok (.iload 6, 2) := by decide +kernel
theorem dX11_shortest_55 : decode cX11_shortest 55 = .ok (.ifCond .le 17, 3) := by decide +kernel
theorem dX11_shortest_58 : decode cX11_shortest 58 = .ok (.iload 6, 2) := by decide +kernel
theorem dX11_shortest_60 : decode cX11_shortest 60 = .ok (.iload 4, 2) := by decide +kernel
theorem dX11_shortest_62 : decode cX11_shortest 62 = .ok (.if_icmp .ge 10, 3) := by decide +kernel
theorem dX11_shortest_65 : decode cX11_shortest 65 = .ok (.iload 6, 2) := by decide +kernel
theorem dX11_shortest_67 : decode cX11_shortest 67 = .ok (.istore 4, 2) := by decide +kernel
theorem dX11_shortest_69 : decode cX11_shortest 69 = .ok (.iload 5, 2) := by decide +kernel
theorem dX11_shortest_71 : decode cX11_shortest 71 = .ok (.istore_n 3, 1) := by decide +kernel
theorem dX11_shortest_72 : decode cX11_shortest 72 = .ok (.iinc 5 1, 3) := by decide +kernel
theorem dX11_shortest_75 : decode cX11_shortest 75 = .ok (.goto (-50), 3) := by decide +kernel
theorem dX11_shortest_78 : decode cX11_shortest 78 = .ok (.iload_n 3, 1) := by decide +kernel
theorem dX11_shortest_79 : decode cX11_shortest 79 = .ok (.ireturn, 1) := by decide +kernel
theorem dX11_words_0 : decode cX11_words 0 = .ok (.aload_n 0, 1) := by decide +kernel
theorem dX11_words_1 : decode cX11_words 1 = .ok (.iload_n 1, 1) := by decide +kernel
theorem dX11_words_2 : decode cX11_words 2 = .ok (.invokevirtual 176, 3) := by decide +kernel
theorem dX11_words_5 : decode cX11_words 5 = .ok (.ifCond .eq 8, 3) := by decide +kernel
theorem dX11_words_8 : decode cX11_words 8 = .ok (.bipush (-2), 2) := by decide +kernel
theorem dX11_words_10 : decode cX11_words 10 = .ok (.goto 11, 3) := by decide +kernel
theorem dX11_words_13 : decode cX11_words 13 = .ok (.aload_n 0, 1) := by decide +kernel
theorem dX11_words_14 : decode cX11_words 14 = .ok (.invokevirtual 179, 3) := by decide +kernel
theorem dX11_words_17 : decode cX11_words 17 = .ok (.iload_n 1, 1) := by decide +kernel
theorem dX11_words_18 : decode cX11_words 18 = .ok (.invokevirtual 230, 3) := by decide +kernel
theorem dX11_words_21 : decode cX11_words 21 = .ok (.ireturn, 1) := by decide +kernel
theorem dX11_turned_0 : decode cX11_turned 0 = .ok (.aload_n 0, 1) := by decide +kernel
theorem dX11_turned_1 : decode cX11_turned 1 = .ok (.iload_n 1, 1) := by decide +kernel
theorem dX11_turned_2 : decode cX11_turned 2 = .ok (.invokevirtual 176, 3) := by decide +kernel
theorem dX11_turned_5 : decode cX11_turned 5 = .ok (.ifCond .eq 6, 3) := by decide +kernel
theorem dX11_turned_8 : decode cX11_turned 8 = .ok (.bipush (-2), 2) := by decide +kernel
theorem dX11_turned_10 : decode cX11_turned 10 = .ok (.ireturn, 1) := by decide +kernel
theorem dX11_turned_11 : decode cX11_turned 11 = .ok (.aload_n 0, 1) := by decide +kernel
theorem dX11_turned_12 : decode cX11_turned 12 = .ok (.invokevirtual 179, 3) := by decide +kernel
theorem dX11_turned_15 : decode cX11_turned 15 = .ok (.astore_n 2, 1) := by decide +kernel
theorem dX11_turned_16 : decode cX11_turned 16 = .ok (.iload_n 1, 1) := by decide +kernel
theorem dX11_turned_17 : decode cX11_turned 17 = .ok (.ifCond .ne 12, 3) := by decide +kernel
theorem dX11_turned_20 : decode cX11_turned 20 = .ok (.aload_n 2, 1) := by decide +kernel
theorem dX11_turned_21 : decode cX11_turned 21 = .ok (.getfield 183, 3) := by decide +kernel
theorem dX11_turned_24 : decode cX11_turned 24 = .ok (.iconst 0, 1) := by decide +kernel
theorem dX11_turned_25 : decode cX11_turned 25 = .ok (.iaload, 1) := by decide +kernel
theorem dX11_turned_26 : decode cX11_turned 26 = .ok (.goto 11, 3) := by decide +kernel
theorem dX11_turned_29 : decode cX11_turned 29 = .ok (.aload_n 2, 1) := by decide +kernel
theorem dX11_turned_30 : decode cX11_turned 30 = .ok (.iload_n 1, 1) := by decide +kernel
theorem dX11_turned_31 : decode cX11_turned 31 = .ok (.iload_n 1, 1) := by decide +kernel
theorem dX11_turned_32 : decode cX11_turned 32 = .ok (.iconst 1, 1) := by decide +kernel
theorem dX11_turned_33 : decode cX11_turned 33 = .ok (.isub, 1) := by decide +kernel
theorem dX11_turned_34 : decode cX11_turned 34 = .ok (.invokevirtual 221, 3) := by decide +kernel
theorem dX11_turned_37 : decode cX11_turned 37 = .ok (.ireturn, 1) := by decide +kernel
theorem dX11_spoken_0 : decode cX11_spoken 0 = .ok (.iload_n 1, 1) := by decide +kernel
theorem dX11_spoken_1 : decode cX11_spoken 1 = .ok (.invokestatic 233, 3) := by decide +kernel
theorem dX11_spoken_4 : decode cX11_spoken 4 = .ok (.ifCond .ne 11, 3) := by decide +kernel
theorem dX11_spoken_7 : decode cX11_spoken 7 = .ok (.aload_n 0, 1) := by decide +kernel
theorem dX11_spoken_8 : decode cX11_spoken 8 = .ok (.iload_n 2, 1) := by decide +kernel
theorem dX11_spoken_9 : decode cX11_spoken 9 = .ok (.invokevirtual 176, 3) := by decide +kernel
theorem dX11_spoken_12 : decode cX11_spoken 12 = .ok (.ifCond .eq 6, 3) := by decide +kernel
theorem dX11_spoken_15 : decode cX11_spoken 15 = .ok (.bipush (-2), 2) := by decide +kernel
theorem dX11_spoken_17 : decode cX11_spoken 17 = .ok (.ireturn, 1) := by decide +kernel
theorem dX11_spoken_18 : decode cX11_spoken 18 = .ok (.aload_n 0, 1) := by decide +kernel
theorem dX11_spoken_19 : decode cX11_spoken 19 = .ok (.invokevirtual 179, 3) := by decide +kernel
theorem dX11_spoken_22 : decode cX11_spoken 22 = .ok (.astore_n 3, 1) := by decide +kernel
theorem dX11_spoken_23 : decode cX11_spoken 23 = .ok (.iconst 0, 1) := by decide +kernel
theorem dX11_spoken_24 : decode cX11_spoken 24 = .ok (.istore 4, 2) := by decide +kernel
theorem dX11_spoken_26 : decode cX11_spoken 26 = .ok (.iconst 0, 1) := by decide +kernel
theorem dX11_spoken_27 : decode cX11_spoken 27 = .ok (.istore 5, 2) := by decide +kernel
theorem dX11_spoken_29 : decode cX11_spoken 29 = .ok (.iload 5, 2) := by decide +kernel
theorem dX11_spoken_31 : decode cX11_spoken 31 = .ok (.aload_n 0, 1) := by decide +kernel
theorem dX11_spoken_32 : decode cX11_spoken 32 = .ok (.getfield 35, 3) := by decide +kernel
theorem dX11_spoken_35 : decode cX11_spoken 35 = .ok (.getfield 214, 3) := by decide +kernel
theorem dX11_spoken_38 : decode cX11_spoken 38 = .ok (.if_icmp .ge 48, 3) := by decide +kernel
theorem dX11_spoken_41 : decode cX11_spoken 41 = .ok (.iconst 0, 1) := by decide +kernel
theorem dX11_spoken_42 : decode cX11_spoken 42 = .ok (.istore 6, 2) := by decide +kernel
theorem dX11_spoken_44 : decode cX11_spoken 44 = .ok (.iload 6, 2) := by decide +kernel
theorem dX11_spoken_46 : decode cX11_spoken 46 = .ok (.bipush 6, 2) := by decide +kernel
theorem dX11_spoken_48 : decode cX11_spoken 48 = .ok (.if_icmp .ge 32, 3) := by decide +kernel
theorem dX11_spoken_51 : decode cX11_spoken 51 = .ok (.aload_n 3, 1) := by decide +kernel
theorem dX11_spoken_52 : decode cX11_spoken 52 = .ok (.getfield 186, 3) := by decide +kernel
theorem dX11_spoken_55 : decode cX11_spoken 55 = .ok (.iload 5, 2) := by decide +kernel
theorem dX11_spoken_57 : decode cX11_spoken 57 = .ok (.iload_n 2, 1) := by decide +kernel
theorem dX11_spoken_58 : decode cX11_spoken 58 = .ok (.invokestatic 189, 3) := by decide +kernel
theorem dX11_spoken_61 : decode cX11_spoken 61 = .ok (.iaload, 1) := by decide +kernel
theorem dX11_spoken_62 : decode cX11_spoken 62 = .ok (.iload 6, 2) := by decide +kernel
theorem dX11_spoken_64 : decode cX11_spoken 64 = .ok (.invokestatic 236, 3) := by decide +kernel
theorem dX11_spoken_67 : decode cX11_spoken 67 = .ok (.iload_n 1, 1) := by decide +kernel
theorem dX11_spoken_68 : decode cX11_spoken 68 = .ok (.if_icmp .ne 6, 3) := by decide +kernel
theorem dX11_spoken_71 : decode cX11_spoken 71 = .ok (.iinc 4 1, 3) := by decide +kernel
theorem dX11_spoken_74 : decode cX11_spoken 74 = .ok (.iinc 6 1, 3) := by decide +kernel
theorem dX11_spoken_77 : decode cX11_spoken 77 = .ok (.goto (-33), 3) := by decide +kernel
theorem dX11_spoken_80 : decode cX11_spoken 80 = .ok (.iinc 5 1, 3) := by decide +kernel
theorem dX11_spoken_83 : decode cX11_spoken 83 = .ok (.goto (-54), 3) := by decide +kernel
theorem dX11_spoken_86 : decode cX11_spoken 86 = .ok (.iload 4, 2) := by decide +kernel
theorem dX11_spoken_88 : decode cX11_spoken 88 = .ok (.ireturn, 1) := by decide +kernel
theorem dX11_taught_0 : decode cX11_taught 0 = .ok (.aload_n 0, 1) := by decide +kernel
theorem dX11_taught_1 : decode cX11_taught 1 = .ok (.iload_n 1, 1) := by decide +kernel
theorem dX11_taught_2 : decode cX11_taught 2 = .ok (.invokevirtual 145, 3) := by decide +kernel
theorem dX11_taught_5 : decode cX11_taught 5 = .ok (.ifCond .eq 6, 3) := by decide +kernel
theorem dX11_taught_8 : decode cX11_taught 8 = .ok (.bipush (-2), 2) := by decide +kernel
theorem dX11_taught_10 : decode cX11_taught 10 = .ok (.ireturn, 1) := by decide +kernel
theorem dX11_taught_11 : decode cX11_taught 11 = .ok (.aload_n 0, 1) := by decide +kernel
theorem dX11_taught_12 : decode cX11_taught 12 = .ok (.invokevirtual 179, 3) := by decide +kernel
theorem dX11_taught_15 : decode cX11_taught 15 = .ok (.astore_n 2, 1) := by decide +kernel
theorem dX11_taught_16 : decode cX11_taught 16 = .ok (.iconst 0, 1) := by decide +kernel
theorem dX11_taught_17 : decode cX11_taught 17 = .ok (.istore_n 3, 1) := by decide +kernel
theorem dX11_taught_18 : decode cX11_taught 18 = .ok (.iconst 0, 1) := by decide +kernel
theorem dX11_taught_19 : decode cX11_taught 19 = .ok (.istore 4, 2) := by decide +kernel
theorem dX11_taught_21 : decode cX11_taught 21 = .ok (.iload 4, 2) := by decide +kernel
theorem dX11_taught_23 : decode cX11_taught 23 = .ok (.aload_n 0, 1) := by decide +kernel
theorem dX11_taught_24 : decode cX11_taught 24 = .ok (.getfield 35, 3) := by decide +kernel
theorem dX11_taught_27 : decode cX11_taught 27 = .ok (.getfield 203, 3) := by decide +kernel
theorem dX11_taught_30 : decode cX11_taught 30 = .ok (.if_icmp .gt 53, 3) := by decide +kernel
theorem dX11_taught_33 : decode cX11_taught 33 = .ok (.iconst 0, 1) := by decide +kernel
theorem dX11_taught_34 : decode cX11_taught 34 = .ok (.istore 5, 2) := by decide +kernel
theorem dX11_taught_36 : decode cX11_taught 36 = .ok (.iload 5, 2) := by decide +kernel
theorem dX11_taught_38 : decode cX11_taught 38 = .ok (.aload_n 0, 1) := by decide +kernel
theorem dX11_taught_39 : decode cX11_taught 39 = .ok (.getfield 35, 3) := by decide +kernel
theorem dX11_taught_42 : decode cX11_taught 42 = .ok (.getfield 214, 3) := by decide +kernel
theorem dX11_taught_45 : decode cX11_taught 45 = .ok (.if_icmp .ge 32, 3) := by decide +kernel
theorem dX11_taught_48 : decode cX11_taught 48 = .ok (.aload_n 2, 1) := by decide +kernel
theorem dX11_taught_49 : decode cX11_taught 49 = .ok (.getfield 197, 3) := by decide +kernel
theorem dX11_taught_52 : decode cX11_taught 52 = .ok (.iload 5, 2) := by decide +kernel
theorem dX11_taught_54 : decode cX11_taught 54 = .ok (.iload 4, 2) := by decide +kernel
theorem dX11_taught_56 : decode cX11_taught 56 = .ok (.invokestatic 189, 3) := by decide +kernel
theorem dX11_taught_59 : decode cX11_taught 59 = .ok (.iaload, 1) := by decide +kernel
theorem dX11_taught_60 : decode cX11_taught 60 = .ok (.iload_n 1, 1) := by decide +kernel
theorem dX11_taught_61 : decode cX11_taught 61 = .ok (.if_icmp .ne 10, 3) := by decide +kernel
theorem dX11_taught_64 : decode cX11_taught 64 = .ok (.iload_n 3, 1) := by decide +kernel
theorem dX11_taught_65 : decode cX11_taught 65 = .ok (.iconst 1, 1) := by decide +kernel
theorem dX11_taught_66 : decode cX11_taught 66 = .ok (.iload 5, 2) := by decide +kernel
theorem dX11_taught_68 : decode cX11_taught 68 = .ok (.ishl, 1) := by decide +kernel
theorem dX11_taught_69 : decode cX11_taught 69 = .ok (.ior, 1) := by decide +kernel
theorem dX11_taught_70 : decode cX11_taught 70 = .ok (.istore_n 3, 1) := by decide +kernel
theorem dX11_taught_71 : decode cX11_taught 71 = .ok (.iinc 5 1, 3) := by decide +kernel
theorem dX11_taught_74 : decode cX11_taught 74 = .ok (.goto (-38), 3) := by decide +kernel
theorem dX11_taught_77 : decode cX11_taught 77 = .ok (.iinc 4 1, 3) := by decide +kernel
theorem dX11_taught_80 : decode cX11_taught 80 = .ok (.goto (-59), 3) := by decide +kernel
theorem dX11_taught_83 : decode cX11_taught 83 = .ok (.iload_n 3, 1) := by decide +kernel
theorem dX11_taught_84 : decode cX11_taught 84 = .ok (.ireturn, 1) := by decide +kernel
theorem dX11_deepest_0 : decode cX11_deepest 0 = .ok (.aload_n 0, 1) := by decide +kernel
theorem dX11_deepest_1 : decode cX11_deepest 1 = .ok (.invokevirtual 210, 3) := by decide +kernel
theorem dX11_deepest_4 : decode cX11_deepest 4 = .ok (.ifCond .eq 6, 3) := by decide +kernel
theorem dX11_deepest_7 : decode cX11_deepest 7 = .ok (.bipush (-2), 2) := by decide +kernel
theorem dX11_deepest_9 : decode cX11_deepest 9 = .ok (.ireturn, 1) := by decide +kernel
theorem dX11_deepest_10 : decode cX11_deepest 10 = .ok (.aload_n 0, 1) := by decide +kernel
theorem dX11_deepest_11 : decode cX11_deepest 11 = .ok (.invokevirtual 179, 3) := by decide +kernel
theorem dX11_deepest_14 : decode cX11_deepest 14 = .ok (.astore_n 1, 1) := by decide +kernel
theorem dX11_deepest_15 : decode cX11_deepest 15 = .ok (.iconst (-1), 1) := by decide +kernel
theorem dX11_deepest_16 : decode cX11_deepest 16 = .ok (.istore_n 2, 1) := by decide +kernel
theorem dX11_deepest_17 : decode cX11_deepest 17 = .ok (.iconst 0, 1) := by decide +kernel
theorem dX11_deepest_18 : decode cX11_deepest 18 = .ok (.istore_n 3, 1) := by decide +kernel
theorem dX11_deepest_19 : decode cX11_deepest 19 = .ok (.iload_n 3, 1) := by decide +kernel
theorem dX11_deepest_20 : decode cX11_deepest 20 = .ok (.aload_n 0, 1) := by decide +kernel
theorem dX11_deepest_21 : decode cX11_deepest 21 = .ok (.getfield 35, 3) := by decide +kernel
theorem dX11_deepest_24 : decode cX11_deepest 24 = .ok (.getfield 203, 3) := by decide +kernel
theorem dX11_deepest_27 : decode cX11_deepest 27 = .ok (.if_icmp .gt 46, 3) := by decide +kernel
theorem dX11_deepest_30 : decode cX11_deepest 30 = .ok (.iconst 0, 1) := by decide +kernel
theorem dX11_deepest_31 : decode cX11_deepest 31 = .ok (.istore 4, 2) := by decide +kernel
theorem dX11_deepest_33 : decode cX11_deepest 33 = .ok (.iload 4, 2) := by decide +kernel
theorem dX11_deepest_35 : decode cX11_deepest 35 = .ok (.aload_n 0, 1) := by decide +kernel
theorem dX11_deepest_36 : decode cX11_deepest 36 = .ok (.getfield 35, 3) := by decide +kernel
theorem dX11_deepest_39 : decode cX11_deepest 39 = .ok (.getfield 214, 3) := by decide +kernel
theorem dX11_deepest_42 : decode cX11_deepest 42 = .ok (.if_icmp .ge 25, 3) := by decide +kernel
theorem dX11_deepest_45 : decode cX11_deepest 45 = .ok (.iload_n 2, 1) := by decide +kernel
theorem dX11_deepest_46 : decode cX11_deepest 46 = .ok (.aload_n 1, 1) := by decide +kernel
theorem dX11_deepest_47 : decode cX11_deepest 47 = .ok (.getfield 227, 3) := by decide +kernel
theorem dX11_deepest_50 : decode cX11_deepest 50 = .ok (.iload 4, 2) := by decide +kernel
theorem dX11_deepest_52 : decode cX11_deepest 52 = .ok (.iload_n 3, 1) := by decide +kernel
theorem dX11_deepest_53 : decode cX11_deepest 53 = .ok (.invokestatic 189, 3) := by decide +kernel
theorem dX11_deepest_56 : decode cX11_deepest 56 = .ok (.iaload, 1) := by decide +kernel
theorem dX11_deepest_57 : decode cX11_deepest 57 = .ok (.invokestatic 239, 3) := by decide +kernel
theorem dX11_deepest_60 : decode cX11_deepest 60 = .ok (.istore_n 2, 1) := by decide +kernel
theorem dX11_deepest_61 : decode cX11_deepest 61 = .ok (.iinc 4 1, 3) := by decide +kernel
theorem dX11_deepest_64 : decode cX11_deepest 64 = .ok (.goto (-31), 3) := by decide +kernel
theorem dX11_deepest_67 : decode cX11_deepest 67 = .ok (.iinc 3 1, 3) := by decide +kernel
theorem dX11_deepest_70 : decode cX11_deepest 70 = .ok (.goto (-51), 3) := by decide +kernel
theorem dX11_deepest_73 : decode cX11_deepest 73 = .ok (.iload_n 2, 1) := by decide +kernel
theorem dX11_deepest_74 : decode cX11_deepest 74 = .ok (.ireturn, 1) := by decide +kernel
theorem dX11_fresh_0 : decode cX11_fresh 0 = .ok (.aload_n 0, 1) := by decide +kernel
theorem dX11_fresh_1 : decode cX11_fresh 1 = .ok (.iload_n 1, 1) := by decide +kernel
theorem dX11_fresh_2 : decode cX11_fresh 2 = .ok (.invokevirtual 176, 3) := by decide +kernel
theorem dX11_fresh_5 : decode cX11_fresh 5 = .ok (.ifCond .eq 6, 3) := by decide +kernel
theorem dX11_fresh_8 : decode cX11_fresh 8 = .ok (.bipush (-2), 2) := by decide +kernel
theorem dX11_fresh_10 : decode cX11_fresh 10 = .ok (.ireturn, 1) := by decide +kernel
theorem dX11_fresh_11 : decode cX11_fresh 11 = .ok (.aload_n 0, 1) := by decide +kernel
theorem dX11_fresh_12 : decode cX11_fresh 12 = .ok (.invokevirtual 179, 3) := by decide +kernel
theorem dX11_fresh_15 : decode cX11_fresh 15 = .ok (.astore_n 2, 1) := by decide +kernel
theorem dX11_fresh_16 : decode cX11_fresh 16 = .ok (.iconst 0, 1) := by decide +kernel
theorem dX11_fresh_17 : decode cX11_fresh 17 = .ok (.istore_n 3, 1) := by decide +kernel
theorem dX11_fresh_18 : decode cX11_fresh 18 = .ok (.iconst 0, 1) := by decide +kernel
theorem dX11_fresh_19 : decode cX11_fresh 19 = .ok (.istore 4, 2) := by decide +kernel
theorem dX11_fresh_21 : decode cX11_fresh 21 = .ok (.iload 4, 2) := by decide +kernel
theorem dX11_fresh_23 : decode cX11_fresh 23 = .ok (.aload_n 0, 1) := by decide +kernel
theorem dX11_fresh_24 : decode cX11_fresh 24 = .ok (.getfield 35, 3) := by decide +kernel
theorem dX11_fresh_27 : decode cX11_fresh 27 = .ok (.getfield 214, 3) := by decide +kernel
theorem dX11_fresh_30 : decode cX11_fresh 30 = .ok (.if_icmp .ge 31, 3) := by decide +kernel
theorem dX11_fresh_33 : decode cX11_fresh 33 = .ok (.aload_n 2, 1) := by decide +kernel
theorem dX11_fresh_34 : decode cX11_fresh 34 = .ok (.getfield 200, 3) := by decide +kernel
theorem dX11_fresh_37 : decode cX11_fresh 37 = .ok (.iload 4, 2) := by decide +kernel
theorem dX11_fresh_39 : decode cX11_fresh 39 = .ok (.iload_n 1, 1) := by decide +kernel
theorem dX11_fresh_40 : decode cX11_fresh 40 = .ok (.invokestatic 189, 3) := by decide +kernel
theorem dX11_fresh_43 : decode cX11_fresh 43 = .ok (.iaload, 1) := by decide +kernel
theorem dX11_fresh_44 : decode cX11_fresh 44 = .ok (.iload_n 1, 1) := by decide +kernel
theorem dX11_fresh_45 : decode cX11_fresh 45 = .ok (.if_icmp .ne 10, 3) := by decide +kernel
theorem dX11_fresh_48 : decode cX11_fresh 48 = .ok (.iload_n 3, 1) := by decide +kernel
theorem dX11_fresh_49 : decode cX11_fresh 49 = .ok (.iconst 1, 1) := by decide +kernel
theorem dX11_fresh_50 : decode cX11_fresh 50 = .ok (.iload 4, 2) := by decide +kernel
theorem dX11_fresh_52 : decode cX11_fresh 52 = .ok (.ishl, 1) := by decide +kernel
theorem dX11_fresh_53 : decode cX11_fresh 53 = .ok (.ior, 1) := by decide +kernel
theorem dX11_fresh_54 : decode cX11_fresh 54 = .ok (.istore_n 3, 1) := by decide +kernel
theorem dX11_fresh_55 : decode cX11_fresh 55 = .ok (.iinc 4 1, 3) := by decide +kernel
theorem dX11_fresh_58 : decode cX11_fresh 58 = .ok (.goto (-37), 3) := by decide +kernel
theorem dX11_fresh_61 : decode cX11_fresh 61 = .ok (.iload_n 3, 1) := by decide +kernel
theorem dX11_fresh_62 : decode cX11_fresh 62 = .ok (.ireturn, 1) := by decide +kernel
theorem dX11_gone_0 : decode cX11_gone 0 = .ok (.aload_n 0, 1) := by decide +kernel
theorem dX11_gone_1 : decode cX11_gone 1 = .ok (.iload_n 1, 1) := by decide +kernel
theorem dX11_gone_2 : decode cX11_gone 2 = .ok (.invokevirtual 176, 3) := by decide +kernel
theorem dX11_gone_5 : decode cX11_gone 5 = .ok (.ifCond .eq 6, 3) := by decide +kernel
theorem dX11_gone_8 : decode cX11_gone 8 = .ok (.bipush (-2), 2) := by decide +kernel
theorem dX11_gone_10 : decode cX11_gone 10 = .ok (.ireturn, 1) := by decide +kernel
theorem dX11_gone_11 : decode cX11_gone 11 = .ok (.aload_n 0, 1) := by decide +kernel
theorem dX11_gone_12 : decode cX11_gone 12 = .ok (.invokevirtual 179, 3) := by decide +kernel
theorem dX11_gone_15 : decode cX11_gone 15 = .ok (.astore_n 2, 1) := by decide +kernel
theorem dX11_gone_16 : decode cX11_gone 16 = .ok (.iload_n 1, 1) := by decide +kernel
theorem dX11_gone_17 : decode cX11_gone 17 = .ok (.ifCond .ne 7, 3) := by decide +kernel
theorem dX11_gone_20 : decode cX11_gone 20 = .ok (.iconst 0, 1) := by decide +kernel
theorem dX11_gone_21 : decode cX11_gone 21 = .ok (.goto 20, 3) := by decide +kernel
theorem dX11_gone_24 : decode cX11_gone 24 = .ok (.aload_n 2, 1) := by decide +kernel
theorem dX11_gone_25 : decode cX11_gone 25 = .ok (.getfield 183, 3) := by decide +kernel
theorem dX11_gone_28 : decode cX11_gone 28 = .ok (.iload_n 1, 1) := by decide +kernel
theorem dX11_gone_29 : decode cX11_gone 29 = .ok (.iconst 1, 1) := by decide +kernel
theorem dX11_gone_30 : decode cX11_gone 30 = .ok (.isub, 1) := by decide +kernel
theorem dX11_gone_31 : decode cX11_gone 31 = .ok (.iaload, 1) := by decide +kernel
theorem dX11_gone_32 : decode cX11_gone 32 = .ok (.aload_n 2, 1) := by decide +kernel
theorem dX11_gone_33 : decode cX11_gone 33 = .ok (.getfield 183, 3) := by decide +kernel
theorem dX11_gone_36 : decode cX11_gone 36 = .ok (.iload_n 1, 1) := by decide +kernel
theorem dX11_gone_37 : decode cX11_gone 37 = .ok (.iaload, 1) := by decide +kernel
theorem dX11_gone_38 : decode cX11_gone 38 = .ok (.iconst (-1), 1) := by decide +kernel
theorem dX11_gone_39 : decode cX11_gone 39 = .ok (.ixor, 1) := by decide +kernel
theorem dX11_gone_40 : decode cX11_gone 40 = .ok (.iand, 1) := by decide +kernel
theorem dX11_gone_41 : decode cX11_gone 41 = .ok (.ireturn, 1) := by decide +kernel
theorem dX11_hears_0 : decode cX11_hears 0 = .ok (.aload_n 0, 1) := by decide +kernel
theorem dX11_hears_1 : decode cX11_hears 1 = .ok (.iload_n 1, 1) := by decide +kernel
theorem dX11_hears_2 : decode cX11_hears 2 = .ok (.iload_n 2, 1) := by decide +kernel
theorem dX11_hears_3 : decode cX11_hears 3 = .ok (.iload_n 3, 1) := by decide +kernel
theorem dX11_hears_4 : decode cX11_hears 4 = .ok (.invokevirtual 244, 3) := by decide +kernel
theorem dX11_hears_7 : decode cX11_hears 7 = .ok (.istore 4, 2) := by decide +kernel
theorem dX11_hears_9 : decode cX11_hears 9 = .ok (.iload 4, 2) := by decide +kernel
theorem dX11_hears_11 : decode cX11_hears 11 = .ok (.ifCond .eq 8, 3) := by decide +kernel
theorem dX11_hears_14 : decode cX11_hears 14 = .ok (.iload 4, 2) := by decide +kernel
theorem dX11_hears_16 : decode cX11_hears 16 = .ok (.goto 20, 3) := by decide +kernel
theorem dX11_hears_19 : decode cX11_hears 19 = .ok (.aload_n 0, 1) := by decide +kernel
theorem dX11_hears_20 : decode cX11_hears 20 = .ok (.aload_n 0, 1) := by decide +kernel
theorem dX11_hears_21 : decode cX11_hears 21 = .ok (.getfield 49, 3) := by decide +kernel
theorem dX11_hears_24 : decode cX11_hears 24 = .ok (.iload_n 1, 1) := by decide +kernel
theorem dX11_hears_25 : decode cX11_hears 25 = .ok (.invokevirtual 248, 3) := by decide +kernel
theorem dX11_hears_28 : decode cX11_hears 28 = .ok (.iload_n 2, 1) := by decide +kernel
theorem dX11_hears_29 : decode cX11_hears 29 = .ok (.iload_n 3, 1) := by decide +kernel
theorem dX11_hears_30 : decode cX11_hears 30 = .ok (.invokevirtual 251, 3) := by decide +kernel
theorem dX11_hears_33 : decode cX11_hears 33 = .ok (.invokestatic 192, 3) := by decide +kernel
theorem dX11_hears_36 : decode cX11_hears 36 = .ok (.ireturn, 1) := by decide +kernel
theorem dX11_heard_0 : decode cX11_heard 0 = .ok (.iload 4, 2) := by decide +kernel
theorem dX11_heard_2 : decode cX11_heard 2 = .ok (.ifCond .ge 8, 3) := by decide +kernel
theorem dX11_heard_5 : decode cX11_heard 5 = .ok (.bipush (-2), 2) := by decide +kernel
theorem dX11_heard_7 : decode cX11_heard 7 = .ok (.goto 10, 3) := by decide +kernel
theorem dX11_heard_10 : decode cX11_heard 10 = .ok (.aload_n 0, 1) := by decide +kernel
theorem dX11_heard_11 : decode cX11_heard 11 = .ok (.iload_n 1, 1) := by decide +kernel
theorem dX11_heard_12 : decode cX11_heard 12 = .ok (.iload_n 2, 1) := by decide +kernel
theorem dX11_heard_13 : decode cX11_heard 13 = .ok (.iload_n 3, 1) := by decide +kernel
theorem dX11_heard_14 : decode cX11_heard 14 = .ok (.invokevirtual 244, 3) := by decide +kernel
theorem dX11_heard_17 : decode cX11_heard 17 = .ok (.istore 5, 2) := by decide +kernel
theorem dX11_heard_19 : decode cX11_heard 19 = .ok (.iload 5, 2) := by decide +kernel
theorem dX11_heard_21 : decode cX11_heard 21 = .ok (.ifCond .eq 8, 3) := by decide +kernel
theorem dX11_heard_24 : decode cX11_heard 24 = .ok (.iload 5, 2) := by decide +kernel
theorem dX11_heard_26 : decode cX11_heard 26 = .ok (.goto 22, 3) := by decide +kernel
theorem dX11_heard_29 : decode cX11_heard 29 = .ok (.aload_n 0, 1) := by decide +kernel
theorem dX11_heard_30 : decode cX11_heard 30 = .ok (.aload_n 0, 1) := by decide +kernel
theorem dX11_heard_31 : decode cX11_heard 31 = .ok (.getfield 49, 3) := by decide +kernel
theorem dX11_heard_34 : decode cX11_heard 34 = .ok (.iload_n 1, 1) := by decide +kernel
theorem dX11_heard_35 : decode cX11_heard 35 = .ok (.invokevirtual 248, 3) := by decide +kernel
theorem dX11_heard_38 : decode cX11_heard 38 = .ok (.iload_n 2, 1) := by decide +kernel
theorem dX11_heard_39 : decode cX11_heard 39 = .ok (.iload_n 3, 1) := by decide +kernel
theorem dX11_heard_40 : decode cX11_heard 40 = .ok (.invokevirtual 251, 3) := by decide +kernel
theorem dX11_heard_43 : decode cX11_heard 43 = .ok (.iload 4, 2) := by decide +kernel
theorem dX11_heard_45 : decode cX11_heard 45 = .ok (.invokestatic 172, 3) := by decide +kernel
theorem dX11_heard_48 : decode cX11_heard 48 = .ok (.ireturn, 1) := by decide +kernel
theorem dX11_round_0 : decode cX11_round 0 = .ok (.aload_n 0, 1) := by decide +kernel
theorem dX11_round_1 : decode cX11_round 1 = .ok (.iload_n 1, 1) := by decide +kernel
theorem dX11_round_2 : decode cX11_round 2 = .ok (.iload_n 2, 1) := by decide +kernel
theorem dX11_round_3 : decode cX11_round 3 = .ok (.iload_n 3, 1) := by decide +kernel
theorem dX11_round_4 : decode cX11_round 4 = .ok (.invokevirtual 244, 3) := by decide +kernel
theorem dX11_round_7 : decode cX11_round 7 = .ok (.istore 4, 2) := by decide +kernel
theorem dX11_round_9 : decode cX11_round 9 = .ok (.iload 4, 2) := by decide +kernel
theorem dX11_round_11 : decode cX11_round 11 = .ok (.ifCond .eq 6, 3) := by decide +kernel
theorem dX11_round_14 : decode cX11_round 14 = .ok (.iload 4, 2) := by decide +kernel
theorem dX11_round_16 : decode cX11_round 16 = .ok (.ireturn, 1) := by decide +kernel
theorem dX11_round_17 : decode cX11_round 17 = .ok (.aload_n 0, 1) := by decide +kernel
theorem dX11_round_18 : decode cX11_round 18 = .ok (.getfield 49, 3) := by decide +kernel
theorem dX11_round_21 : decode cX11_round 21 = .ok (.iload_n 1, 1) := by decide +kernel
theorem dX11_round_22 : decode cX11_round 22 = .ok (.invokevirtual 248, 3) := by decide +kernel
theorem dX11_round_25 : decode cX11_round 25 = .ok (.istore 5, 2) := by decide +kernel
theorem dX11_round_27 : decode cX11_round 27 = .ok (.iload 5, 2) := by decide +kernel
theorem dX11_round_29 : decode cX11_round 29 = .ok (.istore 6, 2) := by decide +kernel
theorem dX11_round_31 : decode cX11_round 31 = .ok (.iconst 1, 1) := by decide +kernel
theorem dX11_round_32 : decode cX11_round 32 = .ok (.istore 7, 2) := by decide +kernel
theorem dX11_round_34 : decode cX11_round 34 = .ok (.iload 7, 2) := by decide +kernel
theorem dX11_round_36 : decode cX11_round 36 = .ok (.bipush 50, 2) := by decide +kernel
theorem dX11_round_38 : decode cX11_round 38 = .ok (.if_icmp .gt 29, 3) := by decide +kernel
theorem dX11_round_41 : decode cX11_round 41 = .ok (.aload_n 0, 1) := by decide +kernel
theorem dX11_round_42 : decode cX11_round 42 = .ok (.iload 6, 2) := by decide +kernel
theorem dX11_round_44 : decode cX11_round 44 = .ok (.iload_n 2, 1) := by decide +kernel
theorem dX11_round_45 : decode cX11_round 45 = .ok (.iload_n 3, 1) := by decide +kernel
theorem dX11_round_46 : decode cX11_round 46 = .ok (.invokevirtual 251, 3) := by decide +kernel
theorem dX11_round_49 : decode cX11_round 49 = .ok (.istore 6, 2) := by decide +kernel
theorem dX11_round_51 : decode cX11_round 51 = .ok (.iload 6, 2) := by decide +kernel
theorem dX11_round_53 : decode cX11_round 53 = .ok (.iload 5, 2) := by decide +kernel
theorem dX11_round_55 : decode cX11_round 55 = .ok (.if_icmp .ne 6, 3) := by decide +kernel
theorem dX11_round_58 : decode cX11_round 58 = .ok (.iload 7, 2) := by decide +kernel
theorem dX11_round_60 : decode cX11_round 60 = .ok (.ireturn, 1) := by decide +kernel
theorem dX11_round_61 : decode cX11_round 61 = .ok (.iinc 7 1, 3) := by decide +kernel
theorem dX11_round_64 : decode cX11_round 64 = .ok (.goto (-30), 3) := by decide +kernel
theorem dX11_round_67 : decode cX11_round 67 = .ok (.iconst (-1), 1) := by decide +kernel
theorem dX11_round_68 : decode cX11_round 68 = .ok (.ireturn, 1) := by decide +kernel
theorem dX11_first_0 : decode cX11_first 0 = .ok (.aload_n 0, 1) := by decide +kernel
theorem dX11_first_1 : decode cX11_first 1 = .ok (.iload_n 1, 1) := by decide +kernel
theorem dX11_first_2 : decode cX11_first 2 = .ok (.iload_n 2, 1) := by decide +kernel
theorem dX11_first_3 : decode cX11_first 3 = .ok (.iload_n 3, 1) := by decide +kernel
theorem dX11_first_4 : decode cX11_first 4 = .ok (.invokevirtual 244, 3) := by decide +kernel
theorem dX11_first_7 : decode cX11_first 7 = .ok (.istore 4, 2) := by decide +kernel
theorem dX11_first_9 : decode cX11_first 9 = .ok (.iload 4, 2) := by decide +kernel
theorem dX11_first_11 : decode cX11_first 11 = .ok (.ifCond .eq 6, 3) := by decide +kernel
theorem dX11_first_14 : decode cX11_first 14 = .ok (.iload 4, 2) := by decide +kernel
theorem dX11_first_16 : decode cX11_first 16 = .ok (.ireturn, 1) := by decide +kernel
theorem dX11_first_17 : decode cX11_first 17 = .ok (.aload_n 0, 1) := by decide +kernel
theorem dX11_first_18 : decode cX11_first 18 = .ok (.getfield 96, 3) := by decide +kernel
theorem dX11_first_21 : decode cX11_first 21 = .ok (.aload_n 0, 1) := by decide +kernel
theorem dX11_first_22 : decode cX11_first 22 = .ok (.getfield 49, 3) := by decide +kernel
theorem dX11_first_25 : decode cX11_first 25 = .ok (.iload_n 1, 1) := by decide +kernel
theorem dX11_first_26 : decode cX11_first 26 = .ok (.invokevirtual 248, 3) := by decide +kernel
theorem dX11_first_29 : decode cX11_first 29 = .ok (.iload_n 2, 1) := by decide +kernel
theorem dX11_first_30 : decode cX11_first 30 = .ok (.iload_n 3, 1) := by decide +kernel
theorem dX11_first_31 : decode cX11_first 31 = .ok (.invokevirtual 254, 3) := by decide +kernel
theorem dX11_first_34 : decode cX11_first 34 = .ok (.aload_n 0, 1) := by decide +kernel
theorem dX11_first_35 : decode cX11_first 35 = .ok (.getfield 96, 3) := by decide +kernel
theorem dX11_first_38 : decode cX11_first 38 = .ok (.getfield 258, 3) := by decide +kernel
theorem dX11_first_41 : decode cX11_first 41 = .ok (.ifCond .ne 7, 3) := by decide +kernel
theorem dX11_first_44 : decode cX11_first 44 = .ok (.iconst (-1), 1) := by decide +kernel
theorem dX11_first_45 : decode cX11_first 45 = .ok (.goto 13, 3) := by decide +kernel
theorem dX11_first_48 : decode cX11_first 48 = .ok (.aload_n 0, 1) := by decide +kernel
theorem dX11_first_49 : decode cX11_first 49 = .ok (.getfield 96, 3) := by decide +kernel
theorem dX11_first_52 : decode cX11_first 52 = .ok (.getfield 261, 3) := by decide +kernel
theorem dX11_first_55 : decode cX11_first 55 = .ok (.invokestatic 192, 3) := by decide +kernel
theorem dX11_first_58 : decode cX11_first 58 = .ok (.ireturn, 1) := by decide +kernel
theorem dX11_letter_0 : decode cX11_letter 0 = .ok (.iload 4, 2) := by decide +kernel
theorem dX11_letter_2 : decode cX11_letter 2 = .ok (.ifCond .ge 8, 3) := by decide +kernel
theorem dX11_letter_5 : decode cX11_letter 5 = .ok (.bipush (-2), 2) := by decide +kernel
theorem dX11_letter_7 : decode cX11_letter 7 = .ok (.goto 10, 3) := by decide +kernel
theorem dX11_letter_10 : decode cX11_letter 10 = .ok (.aload_n 0, 1) := by decide +kernel
theorem dX11_letter_11 : decode cX11_letter 11 = .ok (.iload_n 1, 1) := by decide +kernel
theorem dX11_letter_12 : decode cX11_letter 12 = .ok (.iload_n 2, 1) := by decide +kernel
theorem dX11_letter_13 : decode cX11_letter 13 = .ok (.iload_n 3, 1) := by decide +kernel
theorem dX11_letter_14 : decode cX11_letter 14 = .ok (.invokevirtual 244, 3) := by decide +kernel
theorem dX11_letter_17 : decode cX11_letter 17 = .ok (.istore 5, 2) := by decide +kernel
theorem dX11_letter_19 : decode cX11_letter 19 = .ok (.iload 5, 2) := by decide +kernel
theorem dX11_letter_21 : decode cX11_letter 21 = .ok (.ifCond .eq 6, 3) := by decide +kernel
theorem dX11_letter_24 : decode cX11_letter 24 = .ok (.iload 5, 2) := by decide +kernel
theorem dX11_letter_26 : decode cX11_letter 26 = .ok (.ireturn, 1) := by decide +kernel
theorem dX11_letter_27 : decode cX11_letter 27 = .ok (.aload_n 0, 1) := by decide +kernel
theorem dX11_letter_28 : decode cX11_letter 28 = .ok (.getfield 96, 3) := by decide +kernel
theorem dX11_letter_31 : decode cX11_letter 31 = .ok (.aload_n 0, 1) := by decide +kernel
theorem dX11_letter_32 : decode cX11_letter 32 = .ok (.getfield 49, 3) := by decide +kernel
theorem dX11_letter_35 : decode cX11_letter 35 = .ok (.iload_n 1, 1) := by decide +kernel
theorem dX11_letter_36 : decode cX11_letter 36 = .ok (.invokevirtual 248, 3) := by decide +kernel
theorem dX11_letter_39 : decode cX11_letter 39 = .ok (.iload_n 2, 1) := by decide +kernel
theorem dX11_letter_40 : decode cX11_letter 40 = .ok (.iload_n 3, 1) := by decide +kernel
theorem dX11_letter_41 : decode cX11_letter 41 = .ok (.invokevirtual 254, 3) := by decide +kernel
theorem dX11_letter_44 : decode cX11_letter 44 = .ok (.aload_n 0, 1) := by decide +kernel
theorem dX11_letter_45 : decode cX11_letter 45 = .ok (.getfield 96, 3) := by decide +kernel
theorem dX11_letter_48 : decode cX11_letter 48 = .ok (.getfield 261, 3) := by decide +kernel
theorem dX11_letter_51 : decode cX11_letter 51 = .ok (.iload 4, 2) := by decide +kernel
theorem dX11_letter_53 : decode cX11_letter 53 = .ok (.invokestatic 172, 3) := by decide +kernel
theorem dX11_letter_56 : decode cX11_letter 56 = .ok (.ireturn, 1) := by decide +kernel
theorem dX11_ways_0 : decode cX11_ways 0 = .ok (.aload_n 0, 1) := by decide +kernel
theorem dX11_ways_1 : decode cX11_ways 1 = .ok (.iload_n 1, 1) := by decide +kernel
theorem dX11_ways_2 : decode cX11_ways 2 = .ok (.iload_n 2, 1) := by decide +kernel
theorem dX11_ways_3 : decode cX11_ways 3 = .ok (.iload_n 3, 1) := by decide +kernel
theorem dX11_ways_4 : decode cX11_ways 4 = .ok (.invokevirtual 244, 3) := by decide +kernel
theorem dX11_ways_7 : decode cX11_ways 7 = .ok (.istore 4, 2) := by decide +kernel
theorem dX11_ways_9 : decode cX11_ways 9 = .ok (.iload 4, 2) := by decide +kernel
theorem dX11_ways_11 : decode cX11_ways 11 = .ok (.ifCond .eq 6, 3) := by decide +kernel
theorem dX11_ways_14 : decode cX11_ways 14 = .ok (.iload 4, 2) := by decide +kernel
theorem dX11_ways_16 : decode cX11_ways 16 = .ok (.ireturn, 1) := by decide +kernel
theorem dX11_ways_17 : decode cX11_ways 17 = .ok (.aload_n 0, 1) := by decide +kernel
theorem dX11_ways_18 : decode cX11_ways 18 = .ok (.getfield 96, 3) := by decide +kernel
theorem dX11_ways_21 : decode cX11_ways 21 = .ok (.aload_n 0, 1) := by decide +kernel
theorem dX11_ways_22 : decode cX11_ways 22 = .ok (.getfield 49, 3) := by decide +kernel
theorem dX11_ways_25 : decode cX11_ways 25 = .ok (.iload_n 1, 1) := by decide +kernel
theorem dX11_ways_26 : decode cX11_ways 26 = .ok (.invokevirtual 248, 3) := by decide +kernel
theorem dX11_ways_29 : decode cX11_ways 29 = .ok (.iload_n 2, 1) := by decide +kernel
theorem dX11_ways_30 : decode cX11_ways 30 = .ok (.iload_n 3, 1) := by decide +kernel
theorem dX11_ways_31 : decode cX11_ways 31 = .ok (.invokevirtual 254, 3) := by decide +kernel
theorem dX11_ways_34 : decode cX11_ways 34 = .ok (.aload_n 0, 1) := by decide +kernel
theorem dX11_ways_35 : decode cX11_ways 35 = .ok (.getfield 96, 3) := by decide +kernel
theorem dX11_ways_38 : decode cX11_ways 38 = .ok (.getfield 258, 3) := by decide +kernel
theorem dX11_ways_41 : decode cX11_ways 41 = .ok (.ireturn, 1) := by decide +kernel
theorem dX11_hearingRefusal_0 : decode cX11_hearingRefusal 0 = .ok (.iload_n 1, 1) := by decide +kernel
theorem dX11_hearingRefusal_1 : decode cX11_hearingRefusal 1 = .ok (.invokestatic 264, 3) := by decide +kernel
theorem dX11_hearingRefusal_4 : decode cX11_hearingRefusal 4 = .ok (.ifCond .ne 19, 3) := by decide +kernel
theorem dX11_hearingRefusal_7 : decode cX11_hearingRefusal 7 = .ok (.aload_n 0, 1) := by decide +kernel
theorem dX11_hearingRefusal_8 : decode cX11_hearingRefusal 8 = .ok (.iload_n 2, 1) := by decide +kernel
theorem dX11_hearingRefusal_9 : decode cX11_hearingRefusal 9 = .ok (.invokevirtual 145, 3) := by decide +kernel
theorem dX11_hearingRefusal_12 : decode cX11_hearingRefusal 12 = .ok (.ifCond .ne 11, 3) := by decide +kernel
theorem dX11_hearingRefusal_15 : decode cX11_hearingRefusal 15 = .ok (.aload_n 0, 1) := by decide +kernel
theorem dX11_hearingRefusal_16 : decode cX11_hearingRefusal 16 = .ok (.iload_n 3, 1) := by decide +kernel
theorem dX11_hearingRefusal_17 : decode cX11_hearingRefusal 17 = .ok (.invokevirtual 145, 3) := by decide +kernel
theorem dX11_hearingRefusal_20 : decode cX11_hearingRefusal 20 = .ok (.ifCond .eq 6, 3) := by decide +kernel
theorem dX11_hearingRefusal_23 : decode cX11_hearingRefusal 23 = .ok (.bipush (-2), 2) := by decide +kernel
theorem dX11_hearingRefusal_25 : decode cX11_hearingRefusal 25 = .ok (.ireturn, 1) := by decide +kernel
theorem dX11_hearingRefusal_26 : decode cX11_hearingRefusal 26 = .ok (.aload_n 0, 1) := by decide +kernel
theorem dX11_hearingRefusal_27 : decode cX11_hearingRefusal 27 = .ok (.getfield 49, 3) := by decide +kernel
theorem dX11_hearingRefusal_30 : decode cX11_hearingRefusal 30 = .ok (.iload_n 1, 1) := by decide +kernel
theorem dX11_hearingRefusal_31 : decode cX11_hearingRefusal 31 = .ok (.invokevirtual 267, 3) := by decide +kernel
theorem dX11_hearingRefusal_34 : decode cX11_hearingRefusal 34 = .ok (.ifCond .ne 6, 3) := by decide +kernel
theorem dX11_hearingRefusal_37 : decode cX11_hearingRefusal 37 = .ok (.bipush (-6), 2) := by decide +kernel
theorem dX11_hearingRefusal_39 : decode cX11_hearingRefusal 39 = .ok (.ireturn, 1) := by decide +kernel
theorem dX11_hearingRefusal_40 : decode cX11_hearingRefusal 40 = .ok (.aload_n 0, 1) := by decide +kernel
theorem dX11_hearingRefusal_41 : decode cX11_hearingRefusal 41 = .ok (.getfield 49, 3) := by decide +kernel
theorem dX11_hearingRefusal_44 : decode cX11_hearingRefusal 44 = .ok (.iload_n 1, 1) := by decide +kernel
theorem dX11_hearingRefusal_45 : decode cX11_hearingRefusal 45 = .ok (.invokevirtual 248, 3) := by decide +kernel
theorem dX11_hearingRefusal_48 : decode cX11_hearingRefusal 48 = .ok (.ifCond .ne 8, 3) := by decide +kernel
theorem dX11_hearingRefusal_51 : decode cX11_hearingRefusal 51 = .ok (.bipush (-2), 2) := by decide +kernel
theorem dX11_hearingRefusal_53 : decode cX11_hearingRefusal 53 = .ok (.goto 4, 3) := by decide +kernel
theorem dX11_hearingRefusal_56 : decode cX11_hearingRefusal 56 = .ok (.iconst 0, 1) := by decide +kernel
theorem dX11_hearingRefusal_57 : decode cX11_hearingRefusal 57 = .ok (.ireturn, 1) := by decide +kernel
theorem dX11_heardTwice_0 : decode cX11_heardTwice 0 = .ok (.aload_n 0, 1) := by decide +kernel
theorem dX11_heardTwice_1 : decode cX11_heardTwice 1 = .ok (.getfield 35, 3) := by decide +kernel
theorem dX11_heardTwice_4 : decode cX11_heardTwice 4 = .ok (.iload_n 3, 1) := by decide +kernel
theorem dX11_heardTwice_5 : decode cX11_heardTwice 5 = .ok (.aload_n 0, 1) := by decide +kernel
theorem dX11_heardTwice_6 : decode cX11_heardTwice 6 = .ok (.getfield 35, 3) := by decide +kernel
theorem dX11_heardTwice_9 : decode cX11_heardTwice 9 = .ok (.iload_n 2, 1) := by decide +kernel
theorem dX11_heardTwice_10 : decode cX11_heardTwice 10 = .ok (.iload_n 1, 1) := by decide +kernel
theorem dX11_heardTwice_11 : decode cX11_heardTwice 11 = .ok (.invokevirtual 270, 3) := by decide +kernel
theorem dX11_heardTwice_14 : decode cX11_heardTwice 14 = .ok (.invokevirtual 270, 3) := by decide +kernel
theorem dX11_heardTwice_17 : decode cX11_heardTwice 17 = .ok (.ireturn, 1) := by decide +kernel
theorem dX11_best_0 : decode cX11_best 0 = .ok (.aload_n 0, 1) := by decide +kernel
theorem dX11_best_1 : decode cX11_best 1 = .ok (.invokevirtual 210, 3) := by decide +kernel
theorem dX11_best_4 : decode cX11_best 4 = .ok (.ifCond .eq 6, 3) := by decide +kernel
theorem dX11_best_7 : decode cX11_best 7 = .ok (.bipush (-2), 2) := by decide +kernel
theorem dX11_best_9 : decode cX11_best 9 = .ok (.ireturn, 1) := by decide +kernel
theorem dX11_best_10 : decode cX11_best 10 = .ok (.iconst (-1), 1) := by decide +kernel
theorem dX11_best_11 : decode cX11_best 11 = .ok (.istore_n 1, 1) := by decide +kernel
theorem dX11_best_12 : decode cX11_best 12 = .ok (.iconst (-1), 1) := by decide +kernel
theorem dX11_best_13 : decode cX11_best 13 = .ok (.istore_n 2, 1) := by decide +kernel
theorem dX11_best_14 : decode cX11_best 14 = .ok (.iconst 0, 1) := by decide +kernel
theorem dX11_best_15 : decode cX11_best 15 = .ok (.istore_n 3, 1) := by decide +kernel
theorem dX11_best_16 : decode cX11_best 16 = .ok (.iload_n 3, 1) := by decide +kernel
theorem dX11_best_17 : decode cX11_best 17 = .ok (.aload_n 0, 1) := by decide +kernel
theorem dX11_best_18 : decode cX11_best 18 = .ok (.getfield 35, 3) := by decide +kernel
theorem dX11_best_21 : decode cX11_best 21 = .ok (.getfield 214, 3) := by decide +kernel
theorem dX11_best_24 : decode cX11_best 24 = .ok (.if_icmp .ge 32, 3) := by decide +kernel
theorem dX11_best_27 : decode cX11_best 27 = .ok (.aload_n 0, 1) := by decide +kernel
theorem dX11_best_28 : decode cX11_best 28 = .ok (.getfield 89, 3) := by decide +kernel
theorem dX11_best_31 : decode cX11_best 31 = .ok (.iconst 1, 1) := by decide +kernel
theorem dX11_best_32 : decode cX11_best 32 = .ok (.iload_n 3, 1) := by decide +kernel
theorem dX11_best_33 : decode cX11_best 33 = .ok (.ishl, 1) := by decide +kernel
theorem dX11_best_34 : decode cX11_best 34 = .ok (.invokevirtual 273, 3) := by decide +kernel
theorem dX11_best_37 : decode cX11_best 37 = .ok (.istore 4, 2) := by decide +kernel
theorem dX11_best_39 : decode cX11_best 39 = .ok (.iload 4, 2) := by decide +kernel
theorem dX11_best_41 : decode cX11_best 41 = .ok (.iload_n 2, 1) := by decide +kernel
theorem dX11_best_42 : decode cX11_best 42 = .ok (.if_icmp .le 8, 3) := by decide +kernel
theorem dX11_best_45 : decode cX11_best 45 = .ok (.iload 4, 2) := by decide +kernel
theorem dX11_best_47 : decode cX11_best 47 = .ok (.istore_n 2, 1) := by decide +kernel
theorem dX11_best_48 : decode cX11_best 48 = .ok (.iload_n 3, 1) := by decide +kernel
theorem dX11_best_49 : decode cX11_best 49 = .ok (.istore_n 1, 1) := by decide +kernel
theorem dX11_best_50 : decode cX11_best 50 = .ok (.iinc 3 1, 3) := by decide +kernel
theorem dX11_best_53 : decode cX11_best 53 = .ok (.goto (-37), 3) := by decide +kernel
theorem dX11_best_56 : decode cX11_best 56 = .ok (.iload_n 1, 1) := by decide +kernel
theorem dX11_best_57 : decode cX11_best 57 = .ok (.ireturn, 1) := by decide +kernel
theorem dX11_worth_0 : decode cX11_worth 0 = .ok (.aload_n 0, 1) := by decide +kernel
theorem dX11_worth_1 : decode cX11_worth 1 = .ok (.invokevirtual 210, 3) := by decide +kernel
theorem dX11_worth_4 : decode cX11_worth 4 = .ok (.ifCond .ne 17, 3) := by decide +kernel
theorem dX11_worth_7 : decode cX11_worth 7 = .ok (.iload_n 1, 1) := by decide +kernel
theorem dX11_worth_8 : decode cX11_worth 8 = .ok (.aload_n 0, 1) := by decide +kernel
theorem dX11_worth_9 : decode cX11_worth 9 = .ok (.getfield 35, 3) := by decide +kernel
theorem dX11_worth_12 : decode cX11_worth 12 = .ok (.invokevirtual 217, 3) := by decide +kernel
theorem dX11_worth_15 : decode cX11_worth 15 = .ok (.iconst (-1), 1) := by decide +kernel
theorem dX11_worth_16 : decode cX11_worth 16 = .ok (.ixor, 1) := by decide +kernel
theorem dX11_worth_17 : decode cX11_worth 17 = .ok (.iand, 1) := by decide +kernel
theorem dX11_worth_18 : decode cX11_worth 18 = .ok (.ifCond .eq 6, 3) := by decide +kernel
theorem dX11_worth_21 : decode cX11_worth 21 = .ok (.bipush (-2), 2) := by decide +kernel
theorem dX11_worth_23 : decode cX11_worth 23 = .ok (.ireturn, 1) := by decide +kernel
theorem dX11_worth_24 : decode cX11_worth 24 = .ok (.aload_n 0, 1) := by decide +kernel
theorem dX11_worth_25 : decode cX11_worth 25 = .ok (.getfield 89, 3) := by decide +kernel
theorem dX11_worth_28 : decode cX11_worth 28 = .ok (.iload_n 1, 1) := by decide +kernel
theorem dX11_worth_29 : decode cX11_worth 29 = .ok (.invokevirtual 273, 3) := by decide +kernel
theorem dX11_worth_32 : decode cX11_worth 32 = .ok (.ireturn, 1) := by decide +kernel
theorem dX11_share_0 : decode cX11_share 0 = .ok (.aload_n 0, 1) := by decide +kernel
theorem dX11_share_1 : decode cX11_share 1 = .ok (.iload_n 1, 1) := by decide +kernel
theorem dX11_share_2 : decode cX11_share 2 = .ok (.invokevirtual 145, 3) := by decide +kernel
theorem dX11_share_5 : decode cX11_share 5 = .ok (.ifCond .ne 10, 3) := by decide +kernel
theorem dX11_share_8 : decode cX11_share 8 = .ok (.iload_n 2, 1) := by decide +kernel
theorem dX11_share_9 : decode cX11_share 9 = .ok (.invokestatic 276, 3) := by decide +kernel
theorem dX11_share_12 : decode cX11_share 12 = .ok (.ifCond .eq 6, 3) := by decide +kernel
theorem dX11_share_15 : decode cX11_share 15 = .ok (.bipush (-2), 2) := by decide +kernel
theorem dX11_share_17 : decode cX11_share 17 = .ok (.ireturn, 1) := by decide +kernel
theorem dX11_share_18 : decode cX11_share 18 = .ok (.aload_n 0, 1) := by decide +kernel
theorem dX11_share_19 : decode cX11_share 19 = .ok (.getfield 89, 3) := by decide +kernel
theorem dX11_share_22 : decode cX11_share 22 = .ok (.iload_n 1, 1) := by decide +kernel
theorem dX11_share_23 : decode cX11_share 23 = .ok (.invokevirtual 279, 3) := by decide +kernel
theorem dX11_share_26 : decode cX11_share 26 = .ok (.i2l, 1) := by decide +kernel
theorem dX11_share_27 : decode cX11_share 27 = .ok (.aload_n 0, 1) := by decide +kernel
theorem dX11_share_28 : decode cX11_share 28 = .ok (.getfield 35, 3) := by decide +kernel
theorem dX11_share_31 : decode cX11_share 31 = .ok (.getfield 214, 3) := by decide +kernel
theorem dX11_share_34 : decode cX11_share 34 = .ok (.invokestatic 282, 3) := by decide +kernel
theorem dX11_share_37 : decode cX11_share 37 = .ok (.i2l, 1) := by decide +kernel
theorem dX11_share_38 : decode cX11_share 38 = .ok (.iload_n 2, 1) := by decide +kernel
theorem dX11_share_39 : decode cX11_share 39 = .ok (.invokestatic 285, 3) := by decide +kernel
theorem dX11_share_42 : decode cX11_share 42 = .ok (.l2i, 1) := by decide +kernel
theorem dX11_share_43 : decode cX11_share 43 = .ok (.ireturn, 1) := by decide +kernel
theorem dX11_fewest_0 : decode cX11_fewest 0 = .ok (.aload_n 0, 1) := by decide +kernel
theorem dX11_fewest_1 : decode cX11_fewest 1 = .ok (.invokevirtual 210, 3) := by decide +kernel
theorem dX11_fewest_4 : decode cX11_fewest 4 = .ok (.ifCond .eq 6, 3) := by decide +kernel
theorem dX11_fewest_7 : decode cX11_fewest 7 = .ok (.bipush (-2), 2) := by decide +kernel
theorem dX11_fewest_9 : decode cX11_fewest 9 = .ok (.ireturn, 1) := by decide +kernel
theorem dX11_fewest_10 : decode cX11_fewest 10 = .ok (.aload_n 0, 1) := by decide +kernel
theorem dX11_fewest_11 : decode cX11_fewest 11 = .ok (.getfield 89, 3) := by decide +kernel
theorem dX11_fewest_14 : decode cX11_fewest 14 = .ok (.invokevirtual 289, 3) := by decide +kernel
theorem dX11_fewest_17 : decode cX11_fewest 17 = .ok (.istore_n 1, 1) := by decide +kernel
theorem dX11_fewest_18 : decode cX11_fewest 18 = .ok (.iload_n 1, 1) := by decide +kernel
theorem dX11_fewest_19 : decode cX11_fewest 19 = .ok (.iconst (-1), 1) := by decide +kernel
theorem dX11_fewest_20 : decode cX11_fewest 20 = .ok (.if_icmp .ne 7, 3) := by decide +kernel
theorem dX11_fewest_23 : decode cX11_fewest 23 = .ok (.iconst (-1), 1) := by decide +kernel
theorem dX11_fewest_24 : decode cX11_fewest 24 = .ok (.goto 7, 3) := by decide +kernel
theorem dX11_fewest_27 : decode cX11_fewest 27 = .ok (.iload_n 1, 1) := by decide +kernel
theorem dX11_fewest_28 : decode cX11_fewest 28 = .ok (.invokestatic 292, 3) := by decide +kernel
theorem dX11_fewest_31 : decode cX11_fewest 31 = .ok (.ireturn, 1) := by decide +kernel
theorem dX11_sets_0 : decode cX11_sets 0 = .ok (.aload_n 0, 1) := by decide +kernel
theorem dX11_sets_1 : decode cX11_sets 1 = .ok (.invokevirtual 210, 3) := by decide +kernel
theorem dX11_sets_4 : decode cX11_sets 4 = .ok (.ifCond .eq 8, 3) := by decide +kernel
theorem dX11_sets_7 : decode cX11_sets 7 = .ok (.bipush (-2), 2) := by decide +kernel
theorem dX11_sets_9 : decode cX11_sets 9 = .ok (.goto 10, 3) := by decide +kernel
theorem dX11_sets_12 : decode cX11_sets 12 = .ok (.aload_n 0, 1) := by decide +kernel
theorem dX11_sets_13 : decode cX11_sets 13 = .ok (.getfield 89, 3) := by decide +kernel
theorem dX11_sets_16 : decode cX11_sets 16 = .ok (.invokevirtual 289, 3) := by decide +kernel
theorem dX11_sets_19 : decode cX11_sets 19 = .ok (.ireturn, 1) := by decide +kernel
theorem dX11_gust_0 : decode cX11_gust 0 = .ok (.aload_n 0, 1) := by decide +kernel
theorem dX11_gust_1 : decode cX11_gust 1 = .ok (.iload_n 1, 1) := by decide +kernel
theorem dX11_gust_2 : decode cX11_gust 2 = .ok (.invokevirtual 176, 3) := by decide +kernel
theorem dX11_gust_5 : decode cX11_gust 5 = .ok (.ifCond .eq 8, 3) := by decide +kernel
theorem dX11_gust_8 : decode cX11_gust 8 = .ok (.bipush (-2), 2) := by decide +kernel
theorem dX11_gust_10 : decode cX11_gust 10 = .ok (.goto 15, 3) := by decide +kernel
theorem dX11_gust_13 : decode cX11_gust 13 = .ok (.aload_n 0, 1) := by decide +kernel
theorem dX11_gust_14 : decode cX11_gust 14 = .ok (.getfield 82, 3) := by decide +kernel
theorem dX11_gust_17 : decode cX11_gust 17 = .ok (.iload_n 1, 1) := by decide +kernel
theorem dX11_gust_18 : decode cX11_gust 18 = .ok (.aload_n 0, 1) := by decide +kernel
theorem dX11_gust_19 : decode cX11_gust 19 = .ok (.invokevirtual 297, 3) := by decide +kernel
theorem dX11_gust_22 : decode cX11_gust 22 = .ok (.invokevirtual 300, 3) := by decide +kernel
theorem dX11_gust_25 : decode cX11_gust 25 = .ok (.ireturn, 1) := by decide +kernel
theorem dX11_guard_0 : decode cX11_guard 0 = .ok (.aload_n 0, 1) := by decide +kernel
theorem dX11_guard_1 : decode cX11_guard 1 = .ok (.invokevirtual 210, 3) := by decide +kernel
theorem dX11_guard_4 : decode cX11_guard 4 = .ok (.ifCond .eq 8, 3) := by decide +kernel
theorem dX11_guard_7 : decode cX11_guard 7 = .ok (.bipush (-2), 2) := by decide +kernel
theorem dX11_guard_9 : decode cX11_guard 9 = .ok (.goto 14, 3) := by decide +kernel
theorem dX11_guard_12 : decode cX11_guard 12 = .ok (.aload_n 0, 1) := by decide +kernel
theorem dX11_guard_13 : decode cX11_guard 13 = .ok (.getfield 82, 3) := by decide +kernel
theorem dX11_guard_16 : decode cX11_guard 16 = .ok (.aload_n 0, 1) := by decide +kernel
theorem dX11_guard_17 : decode cX11_guard 17 = .ok (.invokevirtual 297, 3) := by decide +kernel
theorem dX11_guard_20 : decode cX11_guard 20 = .ok (.invokevirtual 303, 3) := by decide +kernel
theorem dX11_guard_23 : decode cX11_guard 23 = .ok (.ireturn, 1) := by decide +kernel
theorem dX11_whom_0 : decode cX11_whom 0 = .ok (.aload_n 0, 1) := by decide +kernel
theorem dX11_whom_1 : decode cX11_whom 1 = .ok (.iload_n 1, 1) := by decide +kernel
theorem dX11_whom_2 : decode cX11_whom 2 = .ok (.invokevirtual 306, 3) := by decide +kernel
theorem dX11_whom_5 : decode cX11_whom 5 = .ok (.istore_n 2, 1) := by decide +kernel
theorem dX11_whom_6 : decode cX11_whom 6 = .ok (.iload_n 2, 1) := by decide +kernel
theorem dX11_whom_7 : decode cX11_whom 7 = .ok (.ifCond .eq 7, 3) := by decide +kernel
theorem dX11_whom_10 : decode cX11_whom 10 = .ok (.iload_n 2, 1) := by decide +kernel
theorem dX11_whom_11 : decode cX11_whom 11 = .ok (.goto 11, 3) := by decide +kernel
theorem dX11_whom_14 : decode cX11_whom 14 = .ok (.aload_n 0, 1) := by decide +kernel
theorem dX11_whom_15 : decode cX11_whom 15 = .ok (.getfield 105, 3) := by decide +kernel
theorem dX11_whom_18 : decode cX11_whom 18 = .ok (.iload_n 1, 1) := by decide +kernel
theorem dX11_whom_19 : decode cX11_whom 19 = .ok (.invokevirtual 309, 3) := by decide +kernel
theorem dX11_whom_22 : decode cX11_whom 22 = .ok (.ireturn, 1) := by decide +kernel
theorem dX11_ask_0 : decode cX11_ask 0 = .ok (.aload_n 0, 1) := by decide +kernel
theorem dX11_ask_1 : decode cX11_ask 1 = .ok (.iload_n 1, 1) := by decide +kernel
theorem dX11_ask_2 : decode cX11_ask 2 = .ok (.invokevirtual 306, 3) := by decide +kernel
theorem dX11_ask_5 : decode cX11_ask 5 = .ok (.istore_n 2, 1) := by decide +kernel
theorem dX11_ask_6 : decode cX11_ask 6 = .ok (.iload_n 2, 1) := by decide +kernel
theorem dX11_ask_7 : decode cX11_ask 7 = .ok (.ifCond .eq 5, 3) := by decide +kernel
theorem dX11_ask_10 : decode cX11_ask 10 = .ok (.iload_n 2, 1) := by decide +kernel
theorem dX11_ask_11 : decode cX11_ask 11 = .ok (.ireturn, 1) := by decide +kernel
theorem dX11_ask_12 : decode cX11_ask 12 = .ok (.aload_n 0, 1) := by decide +kernel
theorem dX11_ask_13 : decode cX11_ask 13 = .ok (.getfield 105, 3) := by decide +kernel
theorem dX11_ask_16 : decode cX11_ask 16 = .ok (.aload_n 0, 1) := by decide +kernel
theorem dX11_ask_17 : decode cX11_ask 17 = .ok (.getfield 105, 3) := by decide +kernel
theorem dX11_ask_20 : decode cX11_ask 20 = .ok (.iload_n 1, 1) := by decide +kernel
theorem dX11_ask_21 : decode cX11_ask 21 = .ok (.invokevirtual 309, 3) := by decide +kernel
theorem dX11_ask_24 : decode cX11_ask 24 = .ok (.invokevirtual 312, 3) := by decide +kernel
theorem dX11_ask_27 : decode cX11_ask 27 = .ok (.aload_n 0, 1) := by decide +kernel
theorem dX11_ask_28 : decode cX11_ask 28 = .ok (.getfield 105, 3) := by decide +kernel
theorem dX11_ask_31 : decode cX11_ask 31 = .ok (.getfield 315, 3) := by decide +kernel
theorem dX11_ask_34 : decode cX11_ask 34 = .ok (.ireturn, 1) := by decide +kernel
theorem dX11_leaves_0 : decode cX11_leaves 0 = .ok (.aload_n 0, 1) := by decide +kernel
theorem dX11_leaves_1 : decode cX11_leaves 1 = .ok (.iload_n 1, 1) := by decide +kernel
theorem dX11_leaves_2 : decode cX11_leaves 2 = .ok (.invokevirtual 306, 3) := by decide +kernel
theorem dX11_leaves_5 : decode cX11_leaves 5 = .ok (.istore_n 2, 1) := by decide +kernel
theorem dX11_leaves_6 : decode cX11_leaves 6 = .ok (.iload_n 2, 1) := by decide +kernel
theorem dX11_leaves_7 : decode cX11_leaves 7 = .ok (.ifCond .eq 5, 3) := by decide +kernel
theorem dX11_leaves_10 : decode cX11_leaves 10 = .ok (.iload_n 2, 1) := by decide +kernel
theorem dX11_leaves_11 : decode cX11_leaves 11 = .ok (.ireturn, 1) := by decide +kernel
theorem dX11_leaves_12 : decode cX11_leaves 12 = .ok (.aload_n 0, 1) := by decide +kernel
theorem dX11_leaves_13 : decode cX11_leaves 13 = .ok (.getfield 105, 3) := by decide +kernel
theorem dX11_leaves_16 : decode cX11_leaves 16 = .ok (.aload_n 0, 1) := by decide +kernel
theorem dX11_leaves_17 : decode cX11_leaves 17 = .ok (.getfield 105, 3) := by decide +kernel
theorem dX11_leaves_20 : decode cX11_leaves 20 = .ok (.iload_n 1, 1) := by decide +kernel
theorem dX11_leaves_21 : decode cX11_leaves 21 = .ok (.invokevirtual 309, 3) := by decide +kernel
theorem dX11_leaves_24 : decode cX11_leaves 24 = .ok (.invokevirtual 312, 3) := by decide +kernel
theorem dX11_leaves_27 : decode cX11_leaves 27 = .ok (.aload_n 0, 1) := by decide +kernel
theorem dX11_leaves_28 : decode cX11_leaves 28 = .ok (.getfield 105, 3) := by decide +kernel
theorem dX11_leaves_31 : decode cX11_leaves 31 = .ok (.getfield 318, 3) := by decide +kernel
theorem dX11_leaves_34 : decode cX11_leaves 34 = .ok (.ireturn, 1) := by decide +kernel
theorem dX11_laws_0 : decode cX11_laws 0 = .ok (.aload_n 0, 1) := by decide +kernel
theorem dX11_laws_1 : decode cX11_laws 1 = .ok (.iload_n 1, 1) := by decide +kernel
theorem dX11_laws_2 : decode cX11_laws 2 = .ok (.invokevirtual 321, 3) := by decide +kernel
theorem dX11_laws_5 : decode cX11_laws 5 = .ok (.istore_n 2, 1) := by decide +kernel
theorem dX11_laws_6 : decode cX11_laws 6 = .ok (.iload_n 2, 1) := by decide +kernel
theorem dX11_laws_7 : decode cX11_laws 7 = .ok (.ifCond .eq 7, 3) := by decide +kernel
theorem dX11_laws_10 : decode cX11_laws 10 = .ok (.iload_n 2, 1) := by decide +kernel
theorem dX11_laws_11 : decode cX11_laws 11 = .ok (.goto 11, 3) := by decide +kernel
theorem dX11_laws_14 : decode cX11_laws 14 = .ok (.aload_n 0, 1) := by decide +kernel
theorem dX11_laws_15 : decode cX11_laws 15 = .ok (.getfield 105, 3) := by decide +kernel
theorem dX11_laws_18 : decode cX11_laws 18 = .ok (.iload_n 1, 1) := by decide +kernel
theorem dX11_laws_19 : decode cX11_laws 19 = .ok (.invokevirtual 324, 3) := by decide +kernel
theorem dX11_laws_22 : decode cX11_laws 22 = .ok (.ireturn, 1) := by decide +kernel
theorem dX11_originRefusal_0 : decode cX11_originRefusal 0 = .ok (.aload_n 0, 1) := by decide +kernel
theorem dX11_originRefusal_1 : decode cX11_originRefusal 1 = .ok (.getfield 35, 3) := by decide +kernel
theorem dX11_originRefusal_4 : decode cX11_originRefusal 4 = .ok (.getfield 166, 3) := by decide +kernel
theorem dX11_originRefusal_7 : decode cX11_originRefusal 7 = .ok (.ifCond .ne 8, 3) := by decide +kernel
theorem dX11_originRefusal_10 : decode cX11_originRefusal 10 = .ok (.bipush (-2), 2) := by decide +kernel
theorem dX11_originRefusal_12 : decode cX11_originRefusal 12 = .ok (.goto 8, 3) := by decide +kernel
theorem dX11_originRefusal_15 : decode cX11_originRefusal 15 = .ok (.aload_n 0, 1) := by decide +kernel
theorem dX11_originRefusal_16 : decode cX11_originRefusal 16 = .ok (.iload_n 1, 1) := by decide +kernel
theorem dX11_originRefusal_17 : decode cX11_originRefusal 17 = .ok (.invokevirtual 321, 3) := by decide +kernel
theorem dX11_originRefusal_20 : decode cX11_originRefusal 20 = .ok (.ireturn, 1) := by decide +kernel
theorem dX11_clueRefusal_0 : decode cX11_clueRefusal 0 = .ok (.iload_n 1, 1) := by decide +kernel
theorem dX11_clueRefusal_1 : decode cX11_clueRefusal 1 = .ok (.invokestatic 264, 3) := by decide +kernel
theorem dX11_clueRefusal_4 : decode cX11_clueRefusal 4 = .ok (.ifCond .ne 10, 3) := by decide +kernel
theorem dX11_clueRefusal_7 : decode cX11_clueRefusal 7 = .ok (.aload_n 0, 1) := by decide +kernel
theorem dX11_clueRefusal_8 : decode cX11_clueRefusal 8 = .ok (.invokevirtual 210, 3) := by decide +kernel
theorem dX11_clueRefusal_11 : decode cX11_clueRefusal 11 = .ok (.ifCond .eq 6, 3) := by decide +kernel
theorem dX11_clueRefusal_14 : decode cX11_clueRefusal 14 = .ok (.bipush (-2), 2) := by decide +kernel
theorem dX11_clueRefusal_16 : decode cX11_clueRefusal 16 = .ok (.ireturn, 1) := by decide +kernel
theorem dX11_clueRefusal_17 : decode cX11_clueRefusal 17 = .ok (.aload_n 0, 1) := by decide +kernel
theorem dX11_clueRefusal_18 : decode cX11_clueRefusal 18 = .ok (.getfield 49, 3) := by decide +kernel
theorem dX11_clueRefusal_21 : decode cX11_clueRefusal 21 = .ok (.iload_n 1, 1) := by decide +kernel
theorem dX11_clueRefusal_22 : decode cX11_clueRefusal 22 = .ok (.invokevirtual 267, 3) := by decide +kernel
theorem dX11_clueRefusal_25 : decode cX11_clueRefusal 25 = .ok (.ifCond .ne 6, 3) := by decide +kernel
theorem dX11_clueRefusal_28 : decode cX11_clueRefusal 28 = .ok (.bipush (-6), 2) := by decide +kernel
theorem dX11_clueRefusal_30 : decode cX11_clueRefusal 30 = .ok (.ireturn, 1) := by decide +kernel
theorem dX11_clueRefusal_31 : decode cX11_clueRefusal 31 = .ok (.aload_n 0, 1) := by decide +kernel
theorem dX11_clueRefusal_32 : decode cX11_clueRefusal 32 = .ok (.getfield 105, 3) := by decide +kernel
theorem dX11_clueRefusal_35 : decode cX11_clueRefusal 35 = .ok (.iload_n 1, 1) := by decide +kernel
theorem dX11_clueRefusal_36 : decode cX11_clueRefusal 36 = .ok (.invokevirtual 327, 3) := by decide +kernel
theorem dX11_clueRefusal_39 : decode cX11_clueRefusal 39 = .ok (.ifCond .eq 7, 3) := by decide +kernel
theorem dX11_clueRefusal_42 : decode cX11_clueRefusal 42 = .ok (.iconst 0, 1) := by decide +kernel
theorem dX11_clueRefusal_43 : decode cX11_clueRefusal 43 = .ok (.goto 5, 3) := by decide +kernel
theorem dX11_clueRefusal_46 : decode cX11_clueRefusal 46 = .ok (.bipush (-2), 2) := by decide +kernel
theorem dX11_clueRefusal_48 : decode cX11_clueRefusal 48 = .ok (.ireturn, 1) := by decide +kernel
theorem dX11_by_0 : decode cX11_by 0 = .ok (.aload_n 0, 1) := by decide +kernel
theorem dX11_by_1 : decode cX11_by 1 = .ok (.invokevirtual 210, 3) := by decide +kernel
theorem dX11_by_4 : decode cX11_by 4 = .ok (.ifCond .ne 12, 3) := by decide +kernel
theorem dX11_by_7 : decode cX11_by 7 = .ok (.iload_n 1, 1) := by decide +kernel
theorem dX11_by_8 : decode cX11_by 8 = .ok (.ifCond .lt 8, 3) := by decide +kernel
theorem dX11_by_11 : decode cX11_by 11 = .ok (.iload_n 1, 1) := by decide +kernel
theorem dX11_by_12 : decode cX11_by 12 = .ok (.iconst 4, 1) := by decide +kernel
theorem dX11_by_13 : decode cX11_by 13 = .ok (.if_icmp .lt 6, 3) := by decide +kernel
theorem dX11_by_16 : decode cX11_by 16 = .ok (.bipush (-2), 2) := by decide +kernel
theorem dX11_by_18 : decode cX11_by 18 = .ok (.ireturn, 1) := by decide +kernel
theorem dX11_by_19 : decode cX11_by 19 = .ok (.aload_n 0, 1) := by decide +kernel
theorem dX11_by_20 : decode cX11_by 20 = .ok (.getfield 74, 3) := by decide +kernel
theorem dX11_by_23 : decode cX11_by 23 = .ok (.iload_n 1, 1) := by decide +kernel
theorem dX11_by_24 : decode cX11_by 24 = .ok (.invokevirtual 330, 3) := by decide +kernel
theorem dX11_by_27 : decode cX11_by 27 = .ok (.aload_n 0, 1) := by decide +kernel
theorem dX11_by_28 : decode cX11_by 28 = .ok (.getfield 74, 3) := by decide +kernel
theorem dX11_by_31 : decode cX11_by 31 = .ok (.iconst 0, 1) := by decide +kernel
theorem dX11_by_32 : decode cX11_by 32 = .ok (.aload_n 0, 1) := by decide +kernel
theorem dX11_by_33 : decode cX11_by 33 = .ok (.getfield 35, 3) := by decide +kernel
theorem dX11_by_36 : decode cX11_by 36 = .ok (.getfield 203, 3) := by decide +kernel
theorem dX11_by_39 : decode cX11_by 39 = .ok (.invokevirtual 333, 3) := by decide +kernel
theorem dX11_by_42 : decode cX11_by 42 = .ok (.pop, 1) := by decide +kernel
theorem dX11_by_43 : decode cX11_by 43 = .ok (.aload_n 0, 1) := by decide +kernel
theorem dX11_by_44 : decode cX11_by 44 = .ok (.getfield 74, 3) := by decide +kernel
theorem dX11_by_47 : decode cX11_by 47 = .ok (.getfield 183, 3) := by decide +kernel
theorem dX11_by_50 : decode cX11_by 50 = .ok (.aload_n 0, 1) := by decide +kernel
theorem dX11_by_51 : decode cX11_by 51 = .ok (.getfield 35, 3) := by decide +kernel
theorem dX11_by_54 : decode cX11_by 54 = .ok (.getfield 203, 3) := by decide +kernel
theorem dX11_by_57 : decode cX11_by 57 = .ok (.iaload, 1) := by decide +kernel
theorem dX11_by_58 : decode cX11_by 58 = .ok (.ireturn, 1) := by decide +kernel
theorem dX11_law_0 : decode cX11_law 0 = .ok (.aload_n 0, 1) := by decide +kernel
theorem dX11_law_1 : decode cX11_law 1 = .ok (.invokevirtual 210, 3) := by decide +kernel
theorem dX11_law_4 : decode cX11_law 4 = .ok (.ifCond .eq 6, 3) := by decide +kernel
theorem dX11_law_7 : decode cX11_law 7 = .ok (.bipush (-2), 2) := by decide +kernel
theorem dX11_law_9 : decode cX11_law 9 = .ok (.ireturn, 1) := by decide +kernel
theorem dX11_law_10 : decode cX11_law 10 = .ok (.iconst 0, 1) := by decide +kernel
theorem dX11_law_11 : decode cX11_law 11 = .ok (.istore_n 1, 1) := by decide +kernel
theorem dX11_law_12 : decode cX11_law 12 = .ok (.iconst (-1), 1) := by decide +kernel
theorem dX11_law_13 : decode cX11_law 13 = .ok (.istore_n 2, 1) := by decide +kernel
theorem dX11_law_14 : decode cX11_law 14 = .ok (.iconst 0, 1) := by decide +kernel
theorem dX11_law_15 : decode cX11_law 15 = .ok (.istore_n 3, 1) := by decide +kernel
theorem dX11_law_16 : decode cX11_law 16 = .ok (.iload_n 3, 1) := by decide +kernel
theorem dX11_law_17 : decode cX11_law 17 = .ok (.iconst 4, 1) := by decide +kernel
theorem dX11_law_18 : decode cX11_law 18 = .ok (.if_icmp .ge 60, 3) := by decide +kernel
theorem dX11_law_21 : decode cX11_law 21 = .ok (.aload_n 0, 1) := by decide +kernel
theorem dX11_law_22 : decode cX11_law 22 = .ok (.getfield 74, 3) := by decide +kernel
theorem dX11_law_25 : decode cX11_law 25 = .ok (.iload_n 3, 1) := by decide +kernel
theorem dX11_law_26 : decode cX11_law 26 = .ok (.invokevirtual 330, 3) := by decide +kernel
theorem dX11_law_29 : decode cX11_law 29 = .ok (.aload_n 0, 1) := by decide +kernel
theorem dX11_law_30 : decode cX11_law 30 = .ok (.getfield 74, 3) := by decide +kernel
theorem dX11_law_33 : decode cX11_law 33 = .ok (.iconst 0, 1) := by decide +kernel
theorem dX11_law_34 : decode cX11_law 34 = .ok (.aload_n 0, 1) := by decide +kernel
theorem dX11_law_35 : decode cX11_law 35 = .ok (.getfield 35, 3) := by decide +kernel
theorem dX11_law_38 : decode cX11_law 38 = .ok (.getfield 203, 3) := by decide +kernel
theorem dX11_law_41 : decode cX11_law 41 = .ok (.invokevirtual 333, 3) := by decide +kernel
theorem dX11_law_44 : decode cX11_law 44 = .ok (.pop, 1) := by decide +kernel
theorem dX11_law_45 : decode cX11_law 45 = .ok (.aload_n 0, 1) := by decide +kernel
theorem dX11_law_46 : decode cX11_law 46 = .ok (.getfield 74, 3) := by decide +kernel
theorem dX11_law_49 : decode cX11_law 49 = .ok (.aload_n 0, 1) := by decide +kernel
theorem dX11_law_50 : decode cX11_law 50 = .ok (.getfield 35, 3) := by decide +kernel
theorem dX11_law_53 : decode cX11_law 53 = .ok (.getfield 203, 3) := by decide +kernel
theorem dX11_law_56 : decode cX11_law 56 = .ok (.invokevirtual 230, 3) := by decide +kernel
theorem dX11_law_59 : decode cX11_law 59 = .ok (.istore 4, 2) := by decide +kernel
theorem dX11_law_61 : decode cX11_law 61 = .ok (.iload 4, 2) := by decide +kernel
theorem dX11_law_63 : decode cX11_law 63 = .ok (.iload_n 2, 1) := by decide +kernel
theorem dX11_law_64 : decode cX11_law 64 = .ok (.if_icmp .le 8, 3) := by decide +kernel
theorem dX11_law_67 : decode cX11_law 67 = .ok (.iload 4, 2) := by decide +kernel
theorem dX11_law_69 : decode cX11_law 69 = .ok (.istore_n 2, 1) := by decide +kernel
theorem dX11_law_70 : decode cX11_law 70 = .ok (.iload_n 3, 1) := by decide +kernel
theorem dX11_law_71 : decode cX11_law 71 = .ok (.istore_n 1, 1) := by decide +kernel
theorem dX11_law_72 : decode cX11_law 72 = .ok (.iinc 3 1, 3) := by decide +kernel
theorem dX11_law_75 : decode cX11_law 75 = .ok (.goto (-59), 3) := by decide +kernel
theorem dX11_law_78 : decode cX11_law 78 = .ok (.iload_n 1, 1) := by decide +kernel
theorem dX11_law_79 : decode cX11_law 79 = .ok (.ireturn, 1) := by decide +kernel
theorem dX11_rector_0 : decode cX11_rector 0 = .ok (.aload_n 0, 1) := by decide +kernel
theorem dX11_rector_1 : decode cX11_rector 1 = .ok (.getfield 35, 3) := by decide +kernel
theorem dX11_rector_4 : decode cX11_rector 4 = .ok (.getfield 214, 3) := by decide +kernel
theorem dX11_rector_7 : decode cX11_rector 7 = .ok (.ifCond .ne 7, 3) := by decide +kernel
theorem dX11_rector_10 : decode cX11_rector 10 = .ok (.sipush (-1000), 3) := by decide +kernel
theorem dX11_rector_13 : decode cX11_rector 13 = .ok (.ireturn, 1) := by decide +kernel
theorem dX11_rector_14 : decode cX11_rector 14 = .ok (.aload_n 0, 1) := by decide +kernel
theorem dX11_rector_15 : decode cX11_rector 15 = .ok (.getfield 82, 3) := by decide +kernel
theorem dX11_rector_18 : decode cX11_rector 18 = .ok (.invokevirtual 336, 3) := by decide +kernel
theorem dX11_rector_21 : decode cX11_rector 21 = .ok (.aload_n 0, 1) := by decide +kernel
theorem dX11_rector_22 : decode cX11_rector 22 = .ok (.getfield 82, 3) := by decide +kernel
theorem dX11_rector_25 : decode cX11_rector 25 = .ok (.getfield 339, 3) := by decide +kernel
theorem dX11_rector_28 : decode cX11_rector 28 = .ok (.ireturn, 1) := by decide +kernel
theorem dX11_opens_0 : decode cX11_opens 0 = .ok (.aload_n 0, 1) := by decide +kernel
theorem dX11_opens_1 : decode cX11_opens 1 = .ok (.invokevirtual 210, 3) := by decide +kernel
theorem dX11_opens_4 : decode cX11_opens 4 = .ok (.ifCond .eq 6, 3) := by decide +kernel
theorem dX11_opens_7 : decode cX11_opens 7 = .ok (.bipush (-2), 2) := by decide +kernel
theorem dX11_opens_9 : decode cX11_opens 9 = .ok (.ireturn, 1) := by decide +kernel
theorem dX11_opens_10 : decode cX11_opens 10 = .ok (.aload_n 0, 1) := by decide +kernel
theorem dX11_opens_11 : decode cX11_opens 11 = .ok (.getfield 82, 3) := by decide +kernel
theorem dX11_opens_14 : decode cX11_opens 14 = .ok (.invokevirtual 336, 3) := by decide +kernel
theorem dX11_opens_17 : decode cX11_opens 17 = .ok (.aload_n 0, 1) := by decide +kernel
theorem dX11_opens_18 : decode cX11_opens 18 = .ok (.getfield 82, 3) := by decide +kernel
theorem dX11_opens_21 : decode cX11_opens 21 = .ok (.getfield 342, 3) := by decide +kernel
theorem dX11_opens_24 : decode cX11_opens 24 = .ok (.ireturn, 1) := by decide +kernel
theorem dX11_replies_0 : decode cX11_replies 0 = .ok (.aload_n 0, 1) := by decide +kernel
theorem dX11_replies_1 : decode cX11_replies 1 = .ok (.iload_n 1, 1) := by decide +kernel
theorem dX11_replies_2 : decode cX11_replies 2 = .ok (.invokevirtual 145, 3) := by decide +kernel
theorem dX11_replies_5 : decode cX11_replies 5 = .ok (.ifCond .eq 6, 3) := by decide +kernel
theorem dX11_replies_8 : decode cX11_replies 8 = .ok (.bipush (-2), 2) := by decide +kernel
theorem dX11_replies_10 : decode cX11_replies 10 = .ok (.ireturn, 1) := by decide +kernel
theorem dX11_replies_11 : decode cX11_replies 11 = .ok (.aload_n 0, 1) := by decide +kernel
theorem dX11_replies_12 : decode cX11_replies 12 = .ok (.getfield 82, 3) := by decide +kernel
theorem dX11_replies_15 : decode cX11_replies 15 = .ok (.iload_n 1, 1) := by decide +kernel
theorem dX11_replies_16 : decode cX11_replies 16 = .ok (.invokevirtual 345, 3) := by decide +kernel
theorem dX11_replies_19 : decode cX11_replies 19 = .ok (.aload_n 0, 1) := by decide +kernel
theorem dX11_replies_20 : decode cX11_replies 20 = .ok (.getfield 82, 3) := by decide +kernel
theorem dX11_replies_23 : decode cX11_replies 23 = .ok (.getfield 348, 3) := by decide +kernel
theorem dX11_replies_26 : decode cX11_replies 26 = .ok (.ireturn, 1) := by decide +kernel
theorem dX11_rests_0 : decode cX11_rests 0 = .ok (.aload_n 0, 1) := by decide +kernel
theorem dX11_rests_1 : decode cX11_rests 1 = .ok (.iload_n 1, 1) := by decide +kernel
theorem dX11_rests_2 : decode cX11_rests 2 = .ok (.invokevirtual 145, 3) := by decide +kernel
theorem dX11_rests_5 : decode cX11_rests 5 = .ok (.ifCond .ne 16, 3) := by decide +kernel
theorem dX11_rests_8 : decode cX11_rests 8 = .ok (.aload_n 0, 1) := by decide +kernel
theorem dX11_rests_9 : decode cX11_rests 9 = .ok (.iload_n 2, 1) := by decide +kernel
theorem dX11_rests_10 : decode cX11_rests 10 = .ok (.invokevirtual 145, 3) := by decide +kernel
theorem dX11_rests_13 : decode cX11_rests 13 = .ok (.ifCond .ne 8, 3) := by decide +kernel
theorem dX11_rests_16 : decode cX11_rests 16 = .ok (.iload_n 1, 1) := by decide +kernel
theorem dX11_rests_17 : decode cX11_rests 17 = .ok (.iload_n 2, 1) := by decide +kernel
theorem dX11_rests_18 : decode cX11_rests 18 = .ok (.if_icmp .ne 6, 3) := by decide +kernel
theorem dX11_rests_21 : decode cX11_rests 21 = .ok (.bipush (-2), 2) := by decide +kernel
theorem dX11_rests_23 : decode cX11_rests 23 = .ok (.ireturn, 1) := by decide +kernel
theorem dX11_rests_24 : decode cX11_rests 24 = .ok (.iconst 0, 1) := by decide +kernel
theorem dX11_rests_25 : decode cX11_rests 25 = .ok (.istore_n 3, 1) := by decide +kernel
theorem dX11_rests_26 : decode cX11_rests 26 = .ok (.iconst 0, 1) := by decide +kernel
theorem dX11_rests_27 : decode cX11_rests 27 = .ok (.istore 4, 2) := by decide +kernel
theorem dX11_rests_29 : decode cX11_rests 29 = .ok (.iload 4, 2) := by decide +kernel
theorem dX11_rests_31 : decode cX11_rests 31 = .ok (.iconst 1, 1) := by decide +kernel
theorem dX11_rests_32 : decode cX11_rests 32 = .ok (.if_icmp .gt 122, 3) := by decide +kernel
theorem dX11_rests_35 : decode cX11_rests 35 = .ok (.iconst 0, 1) := by decide +kernel
theorem dX11_rests_36 : decode cX11_rests 36 = .ok (.istore 5, 2) := by decide +kernel
theorem dX11_rests_38 : decode cX11_rests 38 = .ok (.iload 5, 2) := by decide +kernel
theorem dX11_rests_40 : decode cX11_rests 40 = .ok (.iconst 1, 1) := by decide +kernel
theorem dX11_rests_41 : decode cX11_rests 41 = .ok (.if_icmp .gt 107, 3) := by decide +kernel
theorem dX11_rests_44 : decode cX11_rests 44 = .ok (.aload_n 0, 1) := by decide +kernel
theorem dX11_rests_45 : decode cX11_rests 45 = .ok (.getfield 82, 3) := by decide +kernel
theorem dX11_rests_48 : decode cX11_rests 48 = .ok (.iload_n 1, 1) := by decide +kernel
theorem dX11_rests_49 : decode cX11_rests 49 = .ok (.iload_n 2, 1) := by decide +kernel
theorem dX11_rests_50 : decode cX11_rests 50 = .ok (.iload 5, 2) := by decide +kernel
theorem dX11_rests_52 : decode cX11_rests 52 = .ok (.iload 4, 2) := by decide +kernel
theorem dX11_rests_54 : decode cX11_rests 54 = .ok (.invokevirtual 351, 3) := by decide +kernel
theorem dX11_rests_57 : decode cX11_rests 57 = .ok (.aload_n 0, 1) := by decide +kernel
theorem dX11_rests_58 : decode cX11_rests 58 = .ok (.getfield 82, 3) := by decide +kernel
theorem dX11_rests_61 : decode cX11_rests 61 = .ok (.iload_n 1, 1) := by decide +kernel
theorem dX11_rests_62 : decode cX11_rests 62 = .ok (.iload_n 2, 1) := by decide +kernel
theorem dX11_rests_63 : decode cX11_rests 63 = .ok (.iconst 1, 1) := by decide +kernel
theorem dX11_rests_64 : decode cX11_rests 64 = .ok (.iload 5, 2) := by decide +kernel
theorem dX11_rests_66 : decode cX11_rests 66 = .ok (.isub, 1) := by decide +kernel
theorem dX11_rests_67 : decode cX11_rests 67 = .ok (.iload 4, 2) := by decide +kernel
theorem dX11_rests_69 : decode cX11_rests 69 = .ok (.invokevirtual 351, 3) := by decide +kernel
theorem dX11_rests_72 : decode cX11_rests 72 = .ok (.if_icmp .lt 7, 3) := by decide +kernel
theorem dX11_rests_75 : decode cX11_rests 75 = .ok (.iconst 1, 1) := by decide +kernel
theorem dX11_rests_76 : decode cX11_rests 76 = .ok (.goto 4, 3) := by decide +kernel
theorem dX11_rests_79 : decode cX11_rests 79 = .ok (.iconst 0, 1) := by decide +kernel
theorem dX11_rests_80 : decode cX11_rests 80 = .ok (.istore 6, 2) := by decide +kernel
theorem dX11_rests_82 : decode cX11_rests 82 = .ok (.aload_n 0, 1) := by decide +kernel
theorem dX11_rests_83 : decode cX11_rests 83 = .ok (.getfield 82, 3) := by decide +kernel
theorem dX11_rests_86 : decode cX11_rests 86 = .ok (.iload_n 2, 1) := by decide +kernel
theorem dX11_rests_87 : decode cX11_rests 87 = .ok (.iload_n 1, 1) := by decide +kernel
theorem dX11_rests_88 : decode cX11_rests 88 = .ok (.iload 4, 2) := by decide +kernel
theorem dX11_rests_90 : decode cX11_rests 90 = .ok (.iload 5, 2) := by decide +kernel
theorem dX11_rests_92 : decode cX11_rests 92 = .ok (.invokevirtual 351, 3) := by decide +kernel
theorem dX11_rests_95 : decode cX11_rests 95 = .ok (.aload_n 0, 1) := by decide +kernel
theorem dX11_rests_96 : decode cX11_rests 96 = .ok (.getfield 82, 3) := by decide +kernel
theorem dX11_rests_99 : decode cX11_rests 99 = .ok (.iload_n 2, 1) := by decide +kernel
theorem dX11_rests_100 : decode cX11_rests 100 = .ok (.iload_n 1, 1) := by decide +kernel
theorem dX11_rests_101 : decode cX11_rests 101 = .ok (.iconst 1, 1) := by decide +kernel
theorem dX11_rests_102 : decode cX11_rests 102 = .ok (.iload 4, 2) := by decide +kernel
theorem dX11_rests_104 : decode cX11_rests 104 = .ok (.isub, 1) := by decide +kernel
theorem dX11_rests_105 : decode cX11_rests 105 = .ok (.iload 5, 2) := by decide +kernel
theorem dX11_rests_107 : decode cX11_rests 107 = .ok (.invokevirtual 351, 3) := by decide +kernel
theorem dX11_rests_110 : decode cX11_rests 110 = .ok (.if_icmp .lt 7, 3) := by decide +kernel
theorem dX11_rests_113 : decode cX11_rests 113 = .ok (.iconst 1, 1) := by decide +kernel
theorem dX11_rests_114 : decode cX11_rests 114 = .ok (.goto 4, 3) := by decide +kernel
theorem dX11_rests_117 : decode cX11_rests 117 = .ok (.iconst 0, 1) := by decide +kernel
theorem dX11_rests_118 : decode cX11_rests 118 = .ok (.istore 7, 2) := by decide +kernel
theorem dX11_rests_120 : decode cX11_rests 120 = .ok (.iload 6, 2) := by decide +kernel
theorem dX11_rests_122 : decode cX11_rests 122 = .ok (.ifCond .eq 20, 3) := by decide +kernel
theorem dX11_rests_125 : decode cX11_rests 125 = .ok (.iload 7, 2) := by decide +kernel
theorem dX11_rests_127 : decode cX11_rests 127 = .ok (.ifCond .eq 15, 3) := by decide +kernel
theorem dX11_rests_130 : decode cX11_rests 130 = .ok (.iload_n 3, 1) := by decide +kernel
theorem dX11_rests_131 : decode cX11_rests 131 = .ok (.iconst 1, 1) := by decide +kernel
theorem dX11_rests_132 : decode cX11_rests 132 = .ok (.iload 5, 2) := by decide +kernel
theorem dX11_rests_134 : decode cX11_rests 134 = .ok (.iconst 2, 1) := by decide +kernel
theorem dX11_rests_135 : decode cX11_rests 135 = .ok (.iload 4, 2) := by decide +kernel
theorem dX11_rests_137 : decode cX11_rests 137 = .ok (.imul, 1) := by decide +kernel
theorem dX11_rests_138 : decode cX11_rests 138 = .ok (.iadd, 1) := by decide +kernel
theorem dX11_rests_139 : decode cX11_rests 139 = .ok (.ishl, 1) := by decide +kernel
theorem dX11_rests_140 : decode cX11_rests 140 = .ok (.ior, 1) := by decide +kernel
theorem dX11_rests_141 : decode cX11_rests 141 = .ok (.istore_n 3, 1) := by decide +kernel
theorem dX11_rests_142 : decode cX11_rests 142 = .ok (.iinc 5 1, 3) := by decide +kernel
theorem dX11_rests_145 : decode cX11_rests 145 = .ok (.goto (-107), 3) := by decide +kernel
theorem dX11_rests_148 : decode cX11_rests 148 = .ok (.iinc 4 1, 3) := by decide +kernel
theorem dX11_rests_151 : decode cX11_rests 151 = .ok (.goto (-122), 3) := by decide +kernel
theorem dX11_rests_154 : decode cX11_rests 154 = .ok (.iload_n 3, 1) := by decide +kernel
theorem dX11_rests_155 : decode cX11_rests 155 = .ok (.ireturn, 1) := by decide +kernel
theorem dX11_gets_0 : decode cX11_gets 0 = .ok (.iload_n 3, 1) := by decide +kernel
theorem dX11_gets_1 : decode cX11_gets 1 = .ok (.ifCond .lt 19, 3) := by decide +kernel
theorem dX11_gets_4 : decode cX11_gets 4 = .ok (.iload_n 3, 1) := by decide +kernel
theorem dX11_gets_5 : decode cX11_gets 5 = .ok (.iconst 1, 1) := by decide +kernel
theorem dX11_gets_6 : decode cX11_gets 6 = .ok (.if_icmp .gt 14, 3) := by decide +kernel
theorem dX11_gets_9 : decode cX11_gets 9 = .ok (.iload 4, 2) := by decide +kernel
theorem dX11_gets_11 : decode cX11_gets 11 = .ok (.ifCond .lt 9, 3) := by decide +kernel
theorem dX11_gets_14 : decode cX11_gets 14 = .ok (.iload 4, 2) := by decide +kernel
theorem dX11_gets_16 : decode cX11_gets 16 = .ok (.iconst 1, 1) := by decide +kernel
theorem dX11_gets_17 : decode cX11_gets 17 = .ok (.if_icmp .le 7, 3) := by decide +kernel
theorem dX11_gets_20 : decode cX11_gets 20 = .ok (.iconst 1, 1) := by decide +kernel
theorem dX11_gets_21 : decode cX11_gets 21 = .ok (.goto 4, 3) := by decide +kernel
theorem dX11_gets_24 : decode cX11_gets 24 = .ok (.iconst 0, 1) := by decide +kernel
theorem dX11_gets_25 : decode cX11_gets 25 = .ok (.istore 5, 2) := by decide +kernel
theorem dX11_gets_27 : decode cX11_gets 27 = .ok (.aload_n 0, 1) := by decide +kernel
theorem dX11_gets_28 : decode cX11_gets 28 = .ok (.iload_n 1, 1) := by decide +kernel
theorem dX11_gets_29 : decode cX11_gets 29 = .ok (.invokevirtual 145, 3) := by decide +kernel
theorem dX11_gets_32 : decode cX11_gets 32 = .ok (.ifCond .ne 21, 3) := by decide +kernel
theorem dX11_gets_35 : decode cX11_gets 35 = .ok (.aload_n 0, 1) := by decide +kernel
theorem dX11_gets_36 : decode cX11_gets 36 = .ok (.iload_n 2, 1) := by decide +kernel
theorem dX11_gets_37 : decode cX11_gets 37 = .ok (.invokevirtual 145, 3) := by decide +kernel
theorem dX11_gets_40 : decode cX11_gets 40 = .ok (.ifCond .ne 13, 3) := by decide +kernel
theorem dX11_gets_43 : decode cX11_gets 43 = .ok (.iload_n 1, 1) := by decide +kernel
theorem dX11_gets_44 : decode cX11_gets 44 = .ok (.iload_n 2, 1) := by decide +kernel
theorem dX11_gets_45 : decode cX11_gets 45 = .ok (.if_icmp .eq 8, 3) := by decide +kernel
theorem dX11_gets_48 : decode cX11_gets 48 = .ok (.iload 5, 2) := by decide +kernel
theorem dX11_gets_50 : decode cX11_gets 50 = .ok (.ifCond .eq 7, 3) := by decide +kernel
theorem dX11_gets_53 : decode cX11_gets 53 = .ok (.sipush (-1000), 3) := by decide +kernel
theorem dX11_gets_56 : decode cX11_gets 56 = .ok (.ireturn, 1) := by decide +kernel
theorem dX11_gets_57 : decode cX11_gets 57 = .ok (.aload_n 0, 1) := by decide +kernel
theorem dX11_gets_58 : decode cX11_gets 58 = .ok (.getfield 82, 3) := by decide +kernel
theorem dX11_gets_61 : decode cX11_gets 61 = .ok (.iload_n 1, 1) := by decide +kernel
theorem dX11_gets_62 : decode cX11_gets 62 = .ok (.iload_n 2, 1) := by decide +kernel
theorem dX11_gets_63 : decode cX11_gets 63 = .ok (.iload_n 3, 1) := by decide +kernel
theorem dX11_gets_64 : decode cX11_gets 64 = .ok (.iload 4, 2) := by decide +kernel
theorem dX11_gets_66 : decode cX11_gets 66 = .ok (.invokevirtual 351, 3) := by decide +kernel
theorem dX11_gets_69 : decode cX11_gets 69 = .ok (.ireturn, 1) := by decide +kernel
theorem dX11_chance_0 : decode cX11_chance 0 = .ok (.aload_n 0, 1) := by decide +kernel
theorem dX11_chance_1 : decode cX11_chance 1 = .ok (.iload_n 1, 1) := by decide +kernel
theorem dX11_chance_2 : decode cX11_chance 2 = .ok (.invokevirtual 145, 3) := by decide +kernel
theorem dX11_chance_5 : decode cX11_chance 5 = .ok (.ifCond .ne 18, 3) := by decide +kernel
theorem dX11_chance_8 : decode cX11_chance 8 = .ok (.aload_n 0, 1) := by decide +kernel
theorem dX11_chance_9 : decode cX11_chance 9 = .ok (.iload_n 2, 1) := by decide +kernel
theorem dX11_chance_10 : decode cX11_chance 10 = .ok (.invokevirtual 355, 3) := by decide +kernel
theorem dX11_chance_13 : decode cX11_chance 13 = .ok (.ifCond .ne 10, 3) := by decide +kernel
theorem dX11_chance_16 : decode cX11_chance 16 = .ok (.iload_n 3, 1) := by decide +kernel
theorem dX11_chance_17 : decode cX11_chance 17 = .ok (.invokestatic 276, 3) := by decide +kernel
theorem dX11_chance_20 : decode cX11_chance 20 = .ok (.ifCond .eq 7, 3) := by decide +kernel
theorem dX11_chance_23 : decode cX11_chance 23 = .ok (.ldc2_w 358, 3) := by decide +kernel
theorem dX11_chance_26 : decode cX11_chance 26 = .ok (.lreturn, 1) := by decide +kernel
theorem dX11_chance_27 : decode cX11_chance 27 = .ok (.aload_n 0, 1) := by decide +kernel
theorem dX11_chance_28 : decode cX11_chance 28 = .ok (.getfield 112, 3) := by decide +kernel
theorem dX11_chance_31 : decode cX11_chance 31 = .ok (.iload_n 2, 1) := by decide +kernel
theorem dX11_chance_32 : decode cX11_chance 32 = .ok (.iload_n 1, 1) := by decide +kernel
theorem dX11_chance_33 : decode cX11_chance 33 = .ok (.invokevirtual 360, 3) := by decide +kernel
theorem dX11_chance_36 : decode cX11_chance 36 = .ok (.bipush 10, 2) := by decide +kernel
theorem dX11_chance_38 : decode cX11_chance 38 = .ok (.iload_n 2, 1) := by decide +kernel
theorem dX11_chance_39 : decode cX11_chance 39 = .ok (.iconst 1, 1) := by decide +kernel
theorem dX11_chance_40 : decode cX11_chance 40 = .ok (.iadd, 1) := by decide +kernel
theorem dX11_chance_41 : decode cX11_chance 41 = .ok (.invokestatic 364, 3) := by decide +kernel
theorem dX11_chance_44 : decode cX11_chance 44 = .ok (.iload_n 3, 1) := by decide +kernel
theorem dX11_chance_45 : decode cX11_chance 45 = .ok (.invokestatic 285, 3) := by decide +kernel
theorem dX11_chance_48 : decode cX11_chance 48 = .ok (.lreturn, 1) := by decide +kernel
theorem dX11_mean_0 : decode cX11_mean 0 = .ok (.aload_n 0, 1) := by decide +kernel
theorem dX11_mean_1 : decode cX11_mean 1 = .ok (.iload_n 1, 1) := by decide +kernel
theorem dX11_mean_2 : decode cX11_mean 2 = .ok (.invokevirtual 355, 3) := by decide +kernel
theorem dX11_mean_5 : decode cX11_mean 5 = .ok (.ifCond .ne 10, 3) := by decide +kernel
theorem dX11_mean_8 : decode cX11_mean 8 = .ok (.iload_n 2, 1) := by decide +kernel
theorem dX11_mean_9 : decode cX11_mean 9 = .ok (.invokestatic 276, 3) := by decide +kernel
theorem dX11_mean_12 : decode cX11_mean 12 = .ok (.ifCond .eq 7, 3) := by decide +kernel
theorem dX11_mean_15 : decode cX11_mean 15 = .ok (.ldc2_w 358, 3) := by decide +kernel
theorem dX11_mean_18 : decode cX11_mean 18 = .ok (.lreturn, 1) := by decide +kernel
theorem dX11_mean_19 : decode cX11_mean 19 = .ok (.aload_n 0, 1) := by decide +kernel
theorem dX11_mean_20 : decode cX11_mean 20 = .ok (.getfield 112, 3) := by decide +kernel
theorem dX11_mean_23 : decode cX11_mean 23 = .ok (.iload_n 1, 1) := by decide +kernel
theorem dX11_mean_24 : decode cX11_mean 24 = .ok (.iconst (-1), 1) := by decide +kernel
theorem dX11_mean_25 : decode cX11_mean 25 = .ok (.invokevirtual 360, 3) := by decide +kernel
theorem dX11_mean_28 : decode cX11_mean 28 = .ok (.bipush 10, 2) := by decide +kernel
theorem dX11_mean_30 : decode cX11_mean 30 = .ok (.iload_n 1, 1) := by decide +kernel
theorem dX11_mean_31 : decode cX11_mean 31 = .ok (.iconst 1, 1) := by decide +kernel
theorem dX11_mean_32 : decode cX11_mean 32 = .ok (.iadd, 1) := by decide +kernel
theorem dX11_mean_33 : decode cX11_mean 33 = .ok (.invokestatic 364, 3) := by decide +kernel
theorem dX11_mean_36 : decode cX11_mean 36 = .ok (.iload_n 2, 1) := by decide +kernel
theorem dX11_mean_37 : decode cX11_mean 37 = .ok (.invokestatic 285, 3) := by decide +kernel
theorem dX11_mean_40 : decode cX11_mean 40 = .ok (.lreturn, 1) := by decide +kernel
theorem dX11_noChanceHour_0 : decode cX11_noChanceHour 0 = .ok (.iload_n 1, 1) := by decide +kernel
theorem dX11_noChanceHour_1 : decode cX11_noChanceHour 1 = .ok (.ifCond .lt 20, 3) := by decide +kernel
theorem dX11_noChanceHour_4 : decode cX11_noChanceHour 4 = .ok (.iload_n 1, 1) := by decide +kernel
theorem dX11_noChanceHour_5 : decode cX11_noChanceHour 5 = .ok (.bipush 7, 2) := by decide +kernel
theorem dX11_noChanceHour_7 : decode cX11_noChanceHour 7 = .ok (.if_icmp .gt 14, 3) := by decide +kernel
theorem dX11_noChanceHour_10 : decode cX11_noChanceHour 10 = .ok (.iload_n 1, 1) := by decide +kernel
theorem dX11_noChanceHour_11 : decode cX11_noChanceHour 11 = .ok (.aload_n 0, 1) := by decide +kernel
theorem dX11_noChanceHour_12 : decode cX11_noChanceHour 12 = .ok (.getfield 35, 3) := by decide +kernel
theorem dX11_noChanceHour_15 : decode cX11_noChanceHour 15 = .ok (.getfield 203, 3) := by decide +kernel
theorem dX11_noChanceHour_18 : decode cX11_noChanceHour 18 = .ok (.if_icmp .lt 7, 3) := by decide +kernel
theorem dX11_noChanceHour_21 : decode cX11_noChanceHour 21 = .ok (.iconst 1, 1) := by decide +kernel
theorem dX11_noChanceHour_22 : decode cX11_noChanceHour 22 = .ok (.goto 4, 3) := by decide +kernel
theorem dX11_noChanceHour_25 : decode cX11_noChanceHour 25 = .ok (.iconst 0, 1) := by decide +kernel
theorem dX11_noChanceHour_26 : decode cX11_noChanceHour 26 = .ok (.ireturn, 1) := by decide +kernel
theorem dX11_light_0 : decode cX11_light 0 = .ok (.aload_n 0, 1) := by decide +kernel
theorem dX11_light_1 : decode cX11_light 1 = .ok (.iload_n 1, 1) := by decide +kernel
theorem dX11_light_2 : decode cX11_light 2 = .ok (.invokevirtual 145, 3) := by decide +kernel
theorem dX11_light_5 : decode cX11_light 5 = .ok (.ifCond .ne 18, 3) := by decide +kernel
theorem dX11_light_8 : decode cX11_light 8 = .ok (.iload_n 2, 1) := by decide +kernel
theorem dX11_light_9 : decode cX11_light 9 = .ok (.invokestatic 233, 3) := by decide +kernel
theorem dX11_light_12 : decode cX11_light 12 = .ok (.ifCond .ne 11, 3) := by decide +kernel
theorem dX11_light_15 : decode cX11_light 15 = .ok (.aload_n 0, 1) := by decide +kernel
theorem dX11_light_16 : decode cX11_light 16 = .ok (.iload_n 3, 1) := by decide +kernel
theorem dX11_light_17 : decode cX11_light 17 = .ok (.invokevirtual 176, 3) := by decide +kernel
theorem dX11_light_20 : decode cX11_light 20 = .ok (.ifCond .eq 6, 3) := by decide +kernel
theorem dX11_light_23 : decode cX11_light 23 = .ok (.bipush (-2), 2) := by decide +kernel
theorem dX11_light_25 : decode cX11_light 25 = .ok (.ireturn, 1) := by decide +kernel
theorem dX11_light_26 : decode cX11_light 26 = .ok (.aload_n 0, 1) := by decide +kernel
theorem dX11_light_27 : decode cX11_light 27 = .ok (.iload_n 1, 1) := by decide +kernel
theorem dX11_light_28 : decode cX11_light 28 = .ok (.iload_n 2, 1) := by decide +kernel
theorem dX11_light_29 : decode cX11_light 29 = .ok (.iload_n 3, 1) := by decide +kernel
theorem dX11_light_30 : decode cX11_light 30 = .ok (.invokevirtual 367, 3) := by decide +kernel
theorem dX11_light_33 : decode cX11_light 33 = .ok (.ireturn, 1) := by decide +kernel
theorem dX11_draught_0 : decode cX11_draught 0 = .ok (.aload_n 0, 1) := by decide +kernel
theorem dX11_draught_1 : decode cX11_draught 1 = .ok (.iload_n 1, 1) := by decide +kernel
theorem dX11_draught_2 : decode cX11_draught 2 = .ok (.invokevirtual 145, 3) := by decide +kernel
theorem dX11_draught_5 : decode cX11_draught 5 = .ok (.ifCond .ne 11, 3) := by decide +kernel
theorem dX11_draught_8 : decode cX11_draught 8 = .ok (.aload_n 0, 1) := by decide +kernel
theorem dX11_draught_9 : decode cX11_draught 9 = .ok (.iload_n 2, 1) := by decide +kernel
theorem dX11_draught_10 : decode cX11_draught 10 = .ok (.invokevirtual 176, 3) := by decide +kernel
theorem dX11_draught_13 : decode cX11_draught 13 = .ok (.ifCond .eq 6, 3) := by decide +kernel
theorem dX11_draught_16 : decode cX11_draught 16 = .ok (.bipush (-2), 2) := by decide +kernel
theorem dX11_draught_18 : decode cX11_draught 18 = .ok (.ireturn, 1) := by decide +kernel
theorem dX11_draught_19 : decode cX11_draught 19 = .ok (.aload_n 0, 1) := by decide +kernel
theorem dX11_draught_20 : decode cX11_draught 20 = .ok (.iload_n 1, 1) := by decide +kernel
theorem dX11_draught_21 : decode cX11_draught 21 = .ok (.iconst 0, 1) := by decide +kernel
theorem dX11_draught_22 : decode cX11_draught 22 = .ok (.iload_n 2, 1) := by decide +kernel
theorem dX11_draught_23 : decode cX11_draught 23 = .ok (.invokevirtual 367, 3) := by decide +kernel
theorem dX11_draught_26 : decode cX11_draught 26 = .ok (.ireturn, 1) := by decide +kernel
theorem dX11_act_0 : decode cX11_act 0 = .ok (.aload_n 0, 1) := by decide +kernel
theorem dX11_act_1 : decode cX11_act 1 = .ok (.getfield 42, 3) := by decide +kernel
theorem dX11_act_4 : decode cX11_act 4 = .ok (.getfield 136, 3) := by decide +kernel
theorem dX11_act_7 : decode cX11_act 7 = .ok (.bipush 30, 2) := by decide +kernel
theorem dX11_act_9 : decode cX11_act 9 = .ok (.if_icmp .lt 6, 3) := by decide +kernel
theorem dX11_act_12 : decode cX11_act 12 = .ok (.bipush (-5), 2) := by decide +kernel
theorem dX11_act_14 : decode cX11_act 14 = .ok (.ireturn, 1) := by decide +kernel
theorem dX11_act_15 : decode cX11_act 15 = .ok (.aload_n 0, 1) := by decide +kernel
theorem dX11_act_16 : decode cX11_act 16 = .ok (.getfield 42, 3) := by decide +kernel
theorem dX11_act_19 : decode cX11_act 19 = .ok (.iload_n 1, 1) := by decide +kernel
theorem dX11_act_20 : decode cX11_act 20 = .ok (.iload_n 2, 1) := by decide +kernel
theorem dX11_act_21 : decode cX11_act 21 = .ok (.iload_n 3, 1) := by decide +kernel
theorem dX11_act_22 : decode cX11_act 22 = .ok (.invokevirtual 370, 3) := by decide +kernel
theorem dX11_act_25 : decode cX11_act 25 = .ok (.aload_n 0, 1) := by decide +kernel
theorem dX11_act_26 : decode cX11_act 26 = .ok (.invokevirtual 139, 3) := by decide +kernel
theorem dX11_act_29 : decode cX11_act 29 = .ok (.aload_n 0, 1) := by decide +kernel
theorem dX11_act_30 : decode cX11_act 30 = .ok (.invokevirtual 179, 3) := by decide +kernel
theorem dX11_act_33 : decode cX11_act 33 = .ok (.getfield 183, 3) := by decide +kernel
theorem dX11_act_36 : decode cX11_act 36 = .ok (.aload_n 0, 1) := by decide +kernel
theorem dX11_act_37 : decode cX11_act 37 = .ok (.getfield 35, 3) := by decide +kernel
theorem dX11_act_40 : decode cX11_act 40 = .ok (.getfield 203, 3) := by decide +kernel
theorem dX11_act_43 : decode cX11_act 43 = .ok (.iaload, 1) := by decide +kernel
theorem dX11_act_44 : decode cX11_act 44 = .ok (.invokestatic 292, 3) := by decide +kernel
theorem dX11_act_47 : decode cX11_act 47 = .ok (.ireturn, 1) := by decide +kernel
theorem dX11_undo_0 : decode cX11_undo 0 = .ok (.aload_n 0, 1) := by decide +kernel
theorem dX11_undo_1 : decode cX11_undo 1 = .ok (.invokevirtual 210, 3) := by decide +kernel
theorem dX11_undo_4 : decode cX11_undo 4 = .ok (.ifCond .eq 6, 3) := by decide +kernel
theorem dX11_undo_7 : decode cX11_undo 7 = .ok (.bipush (-2), 2) := by decide +kernel
theorem dX11_undo_9 : decode cX11_undo 9 = .ok (.ireturn, 1) := by decide +kernel
theorem dX11_undo_10 : decode cX11_undo 10 = .ok (.aload_n 0, 1) := by decide +kernel
theorem dX11_undo_11 : decode cX11_undo 11 = .ok (.getfield 42, 3) := by decide +kernel
theorem dX11_undo_14 : decode cX11_undo 14 = .ok (.getfield 136, 3) := by decide +kernel
theorem dX11_undo_17 : decode cX11_undo 17 = .ok (.ifCond .ne 6, 3) := by decide +kernel
theorem dX11_undo_20 : decode cX11_undo 20 = .ok (.bipush (-5), 2) := by decide +kernel
theorem dX11_undo_22 : decode cX11_undo 22 = .ok (.ireturn, 1) := by decide +kernel
theorem dX11_undo_23 : decode cX11_undo 23 = .ok (.aload_n 0, 1) := by decide +kernel
theorem dX11_undo_24 : decode cX11_undo 24 = .ok (.getfield 42, 3) := by decide +kernel
theorem dX11_undo_27 : decode cX11_undo 27 = .ok (.dup, 1) := by decide +kernel
theorem dX11_undo_28 : decode cX11_undo 28 = .ok (.getfield 136, 3) := by decide +kernel
theorem dX11_undo_31 : decode cX11_undo 31 = .ok (.iconst 1, 1) := by decide +kernel
theorem dX11_undo_32 : decode cX11_undo 32 = .ok (.isub, 1) := by decide +kernel
theorem dX11_undo_33 : decode cX11_undo 33 = .ok (.putfield 136, 3) := by decide +kernel
theorem dX11_undo_36 : decode cX11_undo 36 = .ok (.aload_n 0, 1) := by decide +kernel
theorem dX11_undo_37 : decode cX11_undo 37 = .ok (.invokevirtual 139, 3) := by decide +kernel
theorem dX11_undo_40 : decode cX11_undo 40 = .ok (.aload_n 0, 1) := by decide +kernel
theorem dX11_undo_41 : decode cX11_undo 41 = .ok (.getfield 42, 3) := by decide +kernel
theorem dX11_undo_44 : decode cX11_undo 44 = .ok (.getfield 136, 3) := by decide +kernel
theorem dX11_undo_47 : decode cX11_undo 47 = .ok (.ireturn, 1) := by decide +kernel
theorem dX11_anew_0 : decode cX11_anew 0 = .ok (.aload_n 0, 1) := by decide +kernel
theorem dX11_anew_1 : decode cX11_anew 1 = .ok (.invokevirtual 210, 3) := by decide +kernel
theorem dX11_anew_4 : decode cX11_anew 4 = .ok (.ifCond .eq 6, 3) := by decide +kernel
theorem dX11_anew_7 : decode cX11_anew 7 = .ok (.bipush (-2), 2) := by decide +kernel
theorem dX11_anew_9 : decode cX11_anew 9 = .ok (.ireturn, 1) := by decide +kernel
theorem dX11_anew_10 : decode cX11_anew 10 = .ok (.aload_n 0, 1) := by decide +kernel
theorem dX11_anew_11 : decode cX11_anew 11 = .ok (.getfield 42, 3) := by decide +kernel
theorem dX11_anew_14 : decode cX11_anew 14 = .ok (.getfield 136, 3) := by decide +kernel
theorem dX11_anew_17 : decode cX11_anew 17 = .ok (.istore_n 1, 1) := by decide +kernel
theorem dX11_anew_18 : decode cX11_anew 18 = .ok (.aload_n 0, 1) := by decide +kernel
theorem dX11_anew_19 : decode cX11_anew 19 = .ok (.getfield 42, 3) := by decide +kernel
theorem dX11_anew_22 : decode cX11_anew 22 = .ok (.iconst 0, 1) := by decide +kernel
theorem dX11_anew_23 : decode cX11_anew 23 = .ok (.putfield 136, 3) := by decide +kernel
theorem dX11_anew_26 : decode cX11_anew 26 = .ok (.aload_n 0, 1) := by decide +kernel
theorem dX11_anew_27 : decode cX11_anew 27 = .ok (.invokevirtual 139, 3) := by decide +kernel
theorem dX11_anew_30 : decode cX11_anew 30 = .ok (.iload_n 1, 1) := by decide +kernel
theorem dX11_anew_31 : decode cX11_anew 31 = .ok (.ireturn, 1) := by decide +kernel
theorem dX11_drawn_0 : decode cX11_drawn 0 = .ok (.aload_n 0, 1) := by decide +kernel
theorem dX11_drawn_1 : decode cX11_drawn 1 = .ok (.invokevirtual 210, 3) := by decide +kernel
theorem dX11_drawn_4 : decode cX11_drawn 4 = .ok (.ifCond .ne 17, 3) := by decide +kernel
theorem dX11_drawn_7 : decode cX11_drawn 7 = .ok (.iload_n 1, 1) := by decide +kernel
theorem dX11_drawn_8 : decode cX11_drawn 8 = .ok (.invokestatic 373, 3) := by decide +kernel
theorem dX11_drawn_11 : decode cX11_drawn 11 = .ok (.ifCond .ne 10, 3) := by decide +kernel
theorem dX11_drawn_14 : decode cX11_drawn 14 = .ok (.iload_n 2, 1) := by decide +kernel
theorem dX11_drawn_15 : decode cX11_drawn 15 = .ok (.invokestatic 276, 3) := by decide +kernel
theorem dX11_drawn_18 : decode cX11_drawn 18 = .ok (.ifCond .eq 6, 3) := by decide +kernel
theorem dX11_drawn_21 : decode cX11_drawn 21 = .ok (.bipush (-2), 2) := by decide +kernel
theorem dX11_drawn_23 : decode cX11_drawn 23 = .ok (.ireturn, 1) := by decide +kernel
theorem dX11_drawn_24 : decode cX11_drawn 24 = .ok (.aload_n 0, 1) := by decide +kernel
theorem dX11_drawn_25 : decode cX11_drawn 25 = .ok (.getfield 112, 3) := by decide +kernel
theorem dX11_drawn_28 : decode cX11_drawn 28 = .ok (.iload_n 1, 1) := by decide +kernel
theorem dX11_drawn_29 : decode cX11_drawn 29 = .ok (.i2l, 1) := by decide +kernel
theorem dX11_drawn_30 : decode cX11_drawn 30 = .ok (.invokevirtual 376, 3) := by decide +kernel
theorem dX11_drawn_33 : decode cX11_drawn 33 = .ok (.istore_n 3, 1) := by decide +kernel
theorem dX11_drawn_34 : decode cX11_drawn 34 = .ok (.iload_n 2, 1) := by decide +kernel
theorem dX11_drawn_35 : decode cX11_drawn 35 = .ok (.ifCond .ne 7, 3) := by decide +kernel
theorem dX11_drawn_38 : decode cX11_drawn 38 = .ok (.iload_n 3, 1) := by decide +kernel
theorem dX11_drawn_39 : decode cX11_drawn 39 = .ok (.goto 11, 3) := by decide +kernel
theorem dX11_drawn_42 : decode cX11_drawn 42 = .ok (.aload_n 0, 1) := by decide +kernel
theorem dX11_drawn_43 : decode cX11_drawn 43 = .ok (.getfield 112, 3) := by decide +kernel
theorem dX11_drawn_46 : decode cX11_drawn 46 = .ok (.iload_n 3, 1) := by decide +kernel
theorem dX11_drawn_47 : decode cX11_drawn 47 = .ok (.invokevirtual 380, 3) := by decide +kernel
theorem dX11_drawn_50 : decode cX11_drawn 50 = .ok (.ireturn, 1) := by decide +kernel
theorem dX11_luck_0 : decode cX11_luck 0 = .ok (.aload_n 0, 1) := by decide +kernel
theorem dX11_luck_1 : decode cX11_luck 1 = .ok (.iload_n 3, 1) := by decide +kernel
theorem dX11_luck_2 : decode cX11_luck 2 = .ok (.invokevirtual 145, 3) := by decide +kernel
theorem dX11_luck_5 : decode cX11_luck 5 = .ok (.ifCond .ne 21, 3) := by decide +kernel
theorem dX11_luck_8 : decode cX11_luck 8 = .ok (.iload_n 1, 1) := by decide +kernel
theorem dX11_luck_9 : decode cX11_luck 9 = .ok (.invokestatic 373, 3) := by decide +kernel
theorem dX11_luck_12 : decode cX11_luck 12 = .ok (.ifCond .ne 14, 3) := by decide +kernel
theorem dX11_luck_15 : decode cX11_luck 15 = .ok (.iload_n 2, 1) := by decide +kernel
theorem dX11_luck_16 : decode cX11_luck 16 = .ok (.iconst 1, 1) := by decide +kernel
theorem dX11_luck_17 : decode cX11_luck 17 = .ok (.if_icmp .lt 9, 3) := by decide +kernel
theorem dX11_luck_20 : decode cX11_luck 20 = .ok (.iload_n 2, 1) := by decide +kernel
theorem dX11_luck_21 : decode cX11_luck 21 = .ok (.bipush 20, 2) := by decide +kernel
theorem dX11_luck_23 : decode cX11_luck 23 = .ok (.if_icmp .le 6, 3) := by decide +kernel
theorem dX11_luck_26 : decode cX11_luck 26 = .ok (.bipush (-2), 2) := by decide +kernel
theorem dX11_luck_28 : decode cX11_luck 28 = .ok (.ireturn, 1) := by decide +kernel
theorem dX11_luck_29 : decode cX11_luck 29 = .ok (.iconst 0, 1) := by decide +kernel
theorem dX11_luck_30 : decode cX11_luck 30 = .ok (.istore 4, 2) := by decide +kernel
theorem dX11_luck_32 : decode cX11_luck 32 = .ok (.iconst 0, 1) := by decide +kernel
theorem dX11_luck_33 : decode cX11_luck 33 = .ok (.istore 5, 2) := by decide +kernel
theorem dX11_luck_35 : decode cX11_luck 35 = .ok (.iload 5, 2) := by decide +kernel
theorem dX11_luck_37 : decode cX11_luck 37 = .ok (.iload_n 2, 1) := by decide +kernel
theorem dX11_luck_38 : decode cX11_luck 38 = .ok (.if_icmp .ge 38, 3) := by decide +kernel
theorem dX11_luck_41 : decode cX11_luck 41 = .ok (.iload 4, 2) := by decide +kernel
theorem dX11_luck_43 : decode cX11_luck 43 = .ok (.aload_n 0, 1) := by decide +kernel
theorem dX11_luck_44 : decode cX11_luck 44 = .ok (.getfield 112, 3) := by decide +kernel
theorem dX11_luck_47 : decode cX11_luck 47 = .ok (.aload_n 0, 1) := by decide +kernel
theorem dX11_luck_48 : decode cX11_luck 48 = .ok (.getfield 112, 3) := by decide +kernel
theorem dX11_luck_51 : decode cX11_luck 51 = .ok (.iload_n 1, 1) := by decide +kernel
theorem dX11_luck_52 : decode cX11_luck 52 = .ok (.i2l, 1) := by decide +kernel
theorem dX11_luck_53 : decode cX11_luck 53 = .ok (.iload 5, 2) := by decide +kernel
theorem dX11_luck_55 : decode cX11_luck 55 = .ok (.i2l, 1) := by decide +kernel
theorem dX11_luck_56 : decode cX11_luck 56 = .ok (.ladd, 1) := by decide +kernel
theorem dX11_luck_57 : decode cX11_luck 57 = .ok (.invokevirtual 376, 3) := by decide +kernel
theorem dX11_luck_60 : decode cX11_luck 60 = .ok (.invokevirtual 380, 3) := by decide +kernel
theorem dX11_luck_63 : decode cX11_luck 63 = .ok (.iload_n 3, 1) := by decide +kernel
theorem dX11_luck_64 : decode cX11_luck 64 = .ok (.ishr, 1) := by decide +kernel
theorem dX11_luck_65 : decode cX11_luck 65 = .ok (.iconst 1, 1) := by decide +kernel
theorem dX11_luck_66 : decode cX11_luck 66 = .ok (.iand, 1) := by decide +kernel
theorem dX11_luck_67 : decode cX11_luck 67 = .ok (.iadd, 1) := by decide +kernel
theorem dX11_luck_68 : decode cX11_luck 68 = .ok (.istore 4, 2) := by decide +kernel
theorem dX11_luck_70 : decode cX11_luck 70 = .ok (.iinc 5 1, 3) := by decide +kernel
theorem dX11_luck_73 : decode cX11_luck 73 = .ok (.goto (-38), 3) := by decide +kernel
theorem dX11_luck_76 : decode cX11_luck 76 = .ok (.iload 4, 2) := by decide +kernel
theorem dX11_luck_78 : decode cX11_luck 78 = .ok (.ireturn, 1) := by decide +kernel
theorem dX11_noSeed_0 : decode cX11_noSeed 0 = .ok (.iload_n 0, 1) := by decide +kernel
theorem dX11_noSeed_1 : decode cX11_noSeed 1 = .ok (.ifCond .lt 10, 3) := by decide +kernel
theorem dX11_noSeed_4 : decode cX11_noSeed 4 = .ok (.iload_n 0, 1) := by decide +kernel
theorem dX11_noSeed_5 : decode cX11_noSeed 5 = .ok (.ldc_w 383, 3) := by decide +kernel
theorem dX11_noSeed_8 : decode cX11_noSeed 8 = .ok (.if_icmp .le 7, 3) := by decide +kernel
theorem dX11_noSeed_11 : decode cX11_noSeed 11 = .ok (.iconst 1, 1) := by decide +kernel
theorem dX11_noSeed_12 : decode cX11_noSeed 12 = .ok (.goto 4, 3) := by decide +kernel
theorem dX11_noSeed_15 : decode cX11_noSeed 15 = .ok (.iconst 0, 1) := by decide +kernel
theorem dX11_noSeed_16 : decode cX11_noSeed 16 = .ok (.ireturn, 1) := by decide +kernel
theorem dX11_hushes_0 : decode cX11_hushes 0 = .ok (.aload_n 0, 1) := by decide +kernel
theorem dX11_hushes_1 : decode cX11_hushes 1 = .ok (.iload_n 1, 1) := by decide +kernel
theorem dX11_hushes_2 : decode cX11_hushes 2 = .ok (.invokevirtual 145, 3) := by decide +kernel
theorem dX11_hushes_5 : decode cX11_hushes 5 = .ok (.ifCond .eq 6, 3) := by decide +kernel
theorem dX11_hushes_8 : decode cX11_hushes 8 = .ok (.bipush (-2), 2) := by decide +kernel
theorem dX11_hushes_10 : decode cX11_hushes 10 = .ok (.ireturn, 1) := by decide +kernel
theorem dX11_hushes_11 : decode cX11_hushes 11 = .ok (.aload_n 0, 1) := by decide +kernel
theorem dX11_hushes_12 : decode cX11_hushes 12 = .ok (.getfield 42, 3) := by decide +kernel
theorem dX11_hushes_15 : decode cX11_hushes 15 = .ok (.getfield 136, 3) := by decide +kernel
theorem dX11_hushes_18 : decode cX11_hushes 18 = .ok (.ifCond .le 6, 3) := by decide +kernel
theorem dX11_hushes_21 : decode cX11_hushes 21 = .ok (.bipush (-5), 2) := by decide +kernel
theorem dX11_hushes_23 : decode cX11_hushes 23 = .ok (.ireturn, 1) := by decide +kernel
theorem dX11_hushes_24 : decode cX11_hushes 24 = .ok (.aload_n 0, 1) := by decide +kernel
theorem dX11_hushes_25 : decode cX11_hushes 25 = .ok (.getfield 35, 3) := by decide +kernel
theorem dX11_hushes_28 : decode cX11_hushes 28 = .ok (.getfield 149, 3) := by decide +kernel
theorem dX11_hushes_31 : decode cX11_hushes 31 = .ok (.iload_n 1, 1) := by decide +kernel
theorem dX11_hushes_32 : decode cX11_hushes 32 = .ok (.iaload, 1) := by decide +kernel
theorem dX11_hushes_33 : decode cX11_hushes 33 = .ok (.istore_n 2, 1) := by decide +kernel
theorem dX11_hushes_34 : decode cX11_hushes 34 = .ok (.aload_n 0, 1) := by decide +kernel
theorem dX11_hushes_35 : decode cX11_hushes 35 = .ok (.getfield 35, 3) := by decide +kernel
theorem dX11_hushes_38 : decode cX11_hushes 38 = .ok (.iload_n 1, 1) := by decide +kernel
theorem dX11_hushes_39 : decode cX11_hushes 39 = .ok (.iconst 0, 1) := by decide +kernel
theorem dX11_hushes_40 : decode cX11_hushes 40 = .ok (.iconst 0, 1) := by decide +kernel
theorem dX11_hushes_41 : decode cX11_hushes 41 = .ok (.iconst 0, 1) := by decide +kernel
theorem dX11_hushes_42 : decode cX11_hushes 42 = .ok (.invokevirtual 384, 3) := by decide +kernel
theorem dX11_hushes_45 : decode cX11_hushes 45 = .ok (.aload_n 0, 1) := by decide +kernel
theorem dX11_hushes_46 : decode cX11_hushes 46 = .ok (.invokevirtual 139, 3) := by decide +kernel
theorem dX11_hushes_49 : decode cX11_hushes 49 = .ok (.iload_n 2, 1) := by decide +kernel
theorem dX11_hushes_50 : decode cX11_hushes 50 = .ok (.ireturn, 1) := by decide +kernel
theorem dX11_count_0 : decode cX11_count 0 = .ok (.iload_n 1, 1) := by decide +kernel
theorem dX11_count_1 : decode cX11_count 1 = .ok (.tableswitch 144 0 10 #[59, 67, 75, 83, 91, 99, 107, 115, 123, 131, 136], 59) := by decide +kernel
theorem dX11_count_60 : decode cX11_count 60 = .ok (.aload_n 0, 1) := by decide +kernel
theorem dX11_count_61 : decode cX11_count 61 = .ok (.getfield 35, 3) := by decide +kernel
theorem dX11_count_64 : decode cX11_count 64 = .ok (.getfield 203, 3) := by decide +kernel
theorem dX11_count_67 : decode cX11_count 67 = .ok (.ireturn, 1) := by decide +kernel
theorem dX11_count_68 : decode cX11_count 68 = .ok (.aload_n 0, 1) := by decide +kernel
theorem dX11_count_69 : decode cX11_count 69 = .ok (.getfield 35, 3) := by decide +kernel
theorem dX11_count_72 : decode cX11_count 72 = .ok (.getfield 388, 3) := by decide +kernel
theorem dX11_count_75 : decode cX11_count 75 = .ok (.ireturn, 1) := by decide +kernel
theorem dX11_count_76 : decode cX11_count 76 = .ok (.aload_n 0, 1) := by decide +kernel
theorem dX11_count_77 : decode cX11_count 77 = .ok (.getfield 35, 3) := by decide +kernel
theorem dX11_count_80 : decode cX11_count 80 = .ok (.getfield 391, 3) := by decide +kernel
theorem dX11_count_83 : decode cX11_count 83 = .ok (.ireturn, 1) := by decide +kernel
theorem dX11_count_84 : decode cX11_count 84 = .ok (.aload_n 0, 1) := by decide +kernel
theorem dX11_count_85 : decode cX11_count 85 = .ok (.getfield 35, 3) := by decide +kernel
theorem dX11_count_88 : decode cX11_count 88 = .ok (.getfield 214, 3) := by decide +kernel
theorem dX11_count_91 : decode cX11_count 91 = .ok (.ireturn, 1) := by decide +kernel
theorem dX11_count_92 : decode cX11_count 92 = .ok (.aload_n 0, 1) := by decide +kernel
theorem dX11_count_93 : decode cX11_count 93 = .ok (.getfield 35, 3) := by decide +kernel
theorem dX11_count_96 : decode cX11_count 96 = .ok (.getfield 394, 3) := by decide +kernel
theorem dX11_count_99 : decode cX11_count 99 = .ok (.ireturn, 1) := by decide +kernel
theorem dX11_count_100 : decode cX11_count 100 = .ok (.aload_n 0, 1) := by decide +kernel
theorem dX11_count_101 : decode cX11_count 101 = .ok (.getfield 35, 3) := by decide +kernel
theorem dX11_count_104 : decode cX11_count 104 = .ok (.getfield 166, 3) := by decide +kernel
theorem dX11_count_107 : decode cX11_count 107 = .ok (.ireturn, 1) := by decide +kernel
theorem dX11_count_108 : decode cX11_count 108 = .ok (.aload_n 0, 1) := by decide +kernel
theorem dX11_count_109 : decode cX11_count 109 = .ok (.getfield 35, 3) := by decide +kernel
theorem dX11_count_112 : decode cX11_count 112 = .ok (.getfield 397, 3) := by decide +kernel
theorem dX11_count_115 : decode cX11_count 115 = .ok (.ireturn, 1) := by decide +kernel
theorem dX11_count_116 : decode cX11_count 116 = .ok (.aload_n 0, 1) := by decide +kernel
theorem dX11_count_117 : decode cX11_count 117 = .ok (.getfield 42, 3) := by decide +kernel
theorem dX11_count_120 : decode cX11_count 120 = .ok (.getfield 136, 3) := by decide +kernel
theorem dX11_count_123 : decode cX11_count 123 = .ok (.ireturn, 1) := by decide +kernel
theorem dX11_count_124 : decode cX11_count 124 = .ok (.aload_n 0, 1) := by decide +kernel
theorem dX11_count_125 : decode cX11_count 125 = .ok (.getfield 35, 3) := by decide +kernel
theorem dX11_count_128 : decode cX11_count 128 = .ok (.getfield 142, 3) := by decide +kernel
theorem dX11_count_131 : decode cX11_count 131 = .ok (.ireturn, 1) := by decide +kernel
theorem dX11_count_132 : decode cX11_count 132 = .ok (.aload_n 0, 1) := by decide +kernel
theorem dX11_count_133 : decode cX11_count 133 = .ok (.getfield 13, 3) := by decide +kernel
theorem dX11_count_136 : decode cX11_count 136 = .ok (.ireturn, 1) := by decide +kernel
theorem dX11_count_137 : decode cX11_count 137 = .ok (.aload_n 0, 1) := by decide +kernel
theorem dX11_count_138 : decode cX11_count 138 = .ok (.getfield 49, 3) := by decide +kernel
theorem dX11_count_141 : decode cX11_count 141 = .ok (.invokevirtual 400, 3) := by decide +kernel
theorem dX11_count_144 : decode cX11_count 144 = .ok (.ireturn, 1) := by decide +kernel
theorem dX11_count_145 : decode cX11_count 145 = .ok (.iconst (-1), 1) := by decide +kernel
theorem dX11_count_146 : decode cX11_count 146 = .ok (.ireturn, 1) := by decide +kernel
theorem dX11_image_0 : decode cX11_image 0 = .ok (.iload_n 1, 1) := by decide +kernel
theorem dX11_image_1 : decode cX11_image 1 = .ok (.ifCond .lt 8, 3) := by decide +kernel
theorem dX11_image_4 : decode cX11_image 4 = .ok (.iload_n 1, 1) := by decide +kernel
theorem dX11_image_5 : decode cX11_image 5 = .ok (.iconst 3, 1) := by decide +kernel
theorem dX11_image_6 : decode cX11_image 6 = .ok (.if_icmp .lt 6, 3) := by decide +kernel
theorem dX11_image_9 : decode cX11_image 9 = .ok (.bipush (-2), 2) := by decide +kernel
theorem dX11_image_11 : decode cX11_image 11 = .ok (.ireturn, 1) := by decide +kernel
theorem dX11_image_12 : decode cX11_image 12 = .ok (.aload_n 0, 1) := by decide +kernel
theorem dX11_image_13 : decode cX11_image 13 = .ok (.getfield 53, 3) := by decide +kernel
theorem dX11_image_16 : decode cX11_image 16 = .ok (.iload_n 1, 1) := by decide +kernel
theorem dX11_image_17 : decode cX11_image 17 = .ok (.aaload, 1) := by decide +kernel
theorem dX11_image_18 : decode cX11_image 18 = .ok (.aload_n 0, 1) := by decide +kernel
theorem dX11_image_19 : decode cX11_image 19 = .ok (.getfield 35, 3) := by decide +kernel
theorem dX11_image_22 : decode cX11_image 22 = .ok (.invokevirtual 132, 3) := by decide +kernel
theorem dX11_image_25 : decode cX11_image 25 = .ok (.aload_n 0, 1) := by decide +kernel
theorem dX11_image_26 : decode cX11_image 26 = .ok (.getfield 57, 3) := by decide +kernel
theorem dX11_image_29 : decode cX11_image 29 = .ok (.iload_n 1, 1) := by decide +kernel
theorem dX11_image_30 : decode cX11_image 30 = .ok (.aaload, 1) := by decide +kernel
theorem dX11_image_31 : decode cX11_image 31 = .ok (.aload_n 0, 1) := by decide +kernel
theorem dX11_image_32 : decode cX11_image 32 = .ok (.getfield 42, 3) := by decide +kernel
theorem dX11_image_35 : decode cX11_image 35 = .ok (.invokevirtual 403, 3) := by decide +kernel
theorem dX11_image_38 : decode cX11_image 38 = .ok (.aload_n 0, 1) := by decide +kernel
theorem dX11_image_39 : decode cX11_image 39 = .ok (.getfield 61, 3) := by decide +kernel
theorem dX11_image_42 : decode cX11_image 42 = .ok (.iload_n 1, 1) := by decide +kernel
theorem dX11_image_43 : decode cX11_image 43 = .ok (.iconst 1, 1) := by decide +kernel
theorem dX11_image_44 : decode cX11_image 44 = .ok (.bastore, 1) := by decide +kernel
theorem dX11_image_45 : decode cX11_image 45 = .ok (.iconst 0, 1) := by decide +kernel
theorem dX11_image_46 : decode cX11_image 46 = .ok (.ireturn, 1) := by decide +kernel
theorem dX11_back_0 : decode cX11_back 0 = .ok (.iload_n 1, 1) := by decide +kernel
theorem dX11_back_1 : decode cX11_back 1 = .ok (.ifCond .lt 8, 3) := by decide +kernel
theorem dX11_back_4 : decode cX11_back 4 = .ok (.iload_n 1, 1) := by decide +kernel
theorem dX11_back_5 : decode cX11_back 5 = .ok (.iconst 3, 1) := by decide +kernel
theorem dX11_back_6 : decode cX11_back 6 = .ok (.if_icmp .lt 6, 3) := by decide +kernel
theorem dX11_back_9 : decode cX11_back 9 = .ok (.bipush (-2), 2) := by decide +kernel
theorem dX11_back_11 : decode cX11_back 11 = .ok (.ireturn, 1) := by decide +kernel
theorem dX11_back_12 : decode cX11_back 12 = .ok (.aload_n 0, 1) := by decide +kernel
theorem dX11_back_13 : decode cX11_back 13 = .ok (.getfield 61, 3) := by decide +kernel
theorem dX11_back_16 : decode cX11_back 16 = .ok (.iload_n 1, 1) := by decide +kernel
theorem dX11_back_17 : decode cX11_back 17 = .ok (.baload, 1) := by decide +kernel
theorem dX11_back_18 : decode cX11_back 18 = .ok (.ifCond .ne 6, 3) := by decide +kernel
theorem dX11_back_21 : decode cX11_back 21 = .ok (.bipush (-6), 2) := by decide +kernel
theorem dX11_back_23 : decode cX11_back 23 = .ok (.ireturn, 1) := by decide +kernel
theorem dX11_back_24 : decode cX11_back 24 = .ok (.aload_n 0, 1) := by decide +kernel
theorem dX11_back_25 : decode cX11_back 25 = .ok (.getfield 35, 3) := by decide +kernel
theorem dX11_back_28 : decode cX11_back 28 = .ok (.aload_n 0, 1) := by decide +kernel
theorem dX11_back_29 : decode cX11_back 29 = .ok (.getfield 53, 3) := by decide +kernel
theorem dX11_back_32 : decode cX11_back 32 = .ok (.iload_n 1, 1) := by decide +kernel
theorem dX11_back_33 : decode cX11_back 33 = .ok (.aaload, 1) := by decide +kernel
theorem dX11_back_34 : decode cX11_back 34 = .ok (.invokevirtual 132, 3) := by decide +kernel
theorem dX11_back_37 : decode cX11_back 37 = .ok (.aload_n 0, 1) := by decide +kernel
theorem dX11_back_38 : decode cX11_back 38 = .ok (.getfield 42, 3) := by decide +kernel
theorem dX11_back_41 : decode cX11_back 41 = .ok (.aload_n 0, 1) := by decide +kernel
theorem dX11_back_42 : decode cX11_back 42 = .ok (.getfield 57, 3) := by decide +kernel
theorem dX11_back_45 : decode cX11_back 45 = .ok (.iload_n 1, 1) := by decide +kernel
theorem dX11_back_46 : decode cX11_back 46 = .ok (.aaload, 1) := by decide +kernel
theorem dX11_back_47 : decode cX11_back 47 = .ok (.invokevirtual 403, 3) := by decide +kernel
theorem dX11_back_50 : decode cX11_back 50 = .ok (.aload_n 0, 1) := by decide +kernel
theorem dX11_back_51 : decode cX11_back 51 = .ok (.invokevirtual 139, 3) := by decide +kernel
theorem dX11_back_54 : decode cX11_back 54 = .ok (.iconst 0, 1) := by decide +kernel
theorem dX11_back_55 : decode cX11_back 55 = .ok (.ireturn, 1) := by decide +kernel
theorem dX11_row_0 : decode cX11_row 0 = .ok (.iload_n 1, 1) := by decide +kernel
theorem dX11_row_1 : decode cX11_row 1 = .ok (.invokestatic 264, 3) := by decide +kernel
theorem dX11_row_4 : decode cX11_row 4 = .ok (.ifCond .ne 18, 3) := by decide +kernel
theorem dX11_row_7 : decode cX11_row 7 = .ok (.iload_n 2, 1) := by decide +kernel
theorem dX11_row_8 : decode cX11_row 8 = .ok (.ifCond .lt 14, 3) := by decide +kernel
theorem dX11_row_11 : decode cX11_row 11 = .ok (.iload_n 2, 1) := by decide +kernel
theorem dX11_row_12 : decode cX11_row 12 = .ok (.iconst 3, 1) := by decide +kernel
theorem dX11_row_13 : decode cX11_row 13 = .ok (.if_icmp .gt 9, 3) := by decide +kernel
theorem dX11_row_16 : decode cX11_row 16 = .ok (.iload_n 3, 1) := by decide +kernel
theorem dX11_row_17 : decode cX11_row 17 = .ok (.bipush 60, 2) := by decide +kernel
theorem dX11_row_19 : decode cX11_row 19 = .ok (.if_icmp .le 6, 3) := by decide +kernel
theorem dX11_row_22 : decode cX11_row 22 = .ok (.bipush (-2), 2) := by decide +kernel
theorem dX11_row_24 : decode cX11_row 24 = .ok (.ireturn, 1) := by decide +kernel
theorem dX11_row_25 : decode cX11_row 25 = .ok (.iload_n 3, 1) := by decide +kernel
theorem dX11_row_26 : decode cX11_row 26 = .ok (.ifCond .ge 6, 3) := by decide +kernel
theorem dX11_row_29 : decode cX11_row 29 = .ok (.bipush (-3), 2) := by decide +kernel
theorem dX11_row_31 : decode cX11_row 31 = .ok (.ireturn, 1) := by decide +kernel
theorem dX11_row_32 : decode cX11_row 32 = .ok (.aload_n 0, 1) := by decide +kernel
theorem dX11_row_33 : decode cX11_row 33 = .ok (.getfield 49, 3) := by decide +kernel
theorem dX11_row_36 : decode cX11_row 36 = .ok (.iload_n 1, 1) := by decide +kernel
theorem dX11_row_37 : decode cX11_row 37 = .ok (.iload_n 2, 1) := by decide +kernel
theorem dX11_row_38 : decode cX11_row 38 = .ok (.iload_n 3, 1) := by decide +kernel
theorem dX11_row_39 : decode cX11_row 39 = .ok (.invokevirtual 406, 3) := by decide +kernel
theorem dX11_row_42 : decode cX11_row 42 = .ok (.iconst 0, 1) := by decide +kernel
theorem dX11_row_43 : decode cX11_row 43 = .ok (.ireturn, 1) := by decide +kernel
theorem dX11_write_0 : decode cX11_write 0 = .ok (.iload_n 1, 1) := by decide +kernel
theorem dX11_write_1 : decode cX11_write 1 = .ok (.invokestatic 264, 3) := by decide +kernel
theorem dX11_write_4 : decode cX11_write 4 = .ok (.ifCond .eq 6, 3) := by decide +kernel
theorem dX11_write_7 : decode cX11_write 7 = .ok (.bipush (-2), 2) := by decide +kernel
theorem dX11_write_9 : decode cX11_write 9 = .ok (.ireturn, 1) := by decide +kernel
theorem dX11_write_10 : decode cX11_write 10 = .ok (.aload_n 0, 1) := by decide +kernel
theorem dX11_write_11 : decode cX11_write 11 = .ok (.getfield 49, 3) := by decide +kernel
theorem dX11_write_14 : decode cX11_write 14 = .ok (.iload_n 1, 1) := by decide +kernel
theorem dX11_write_15 : decode cX11_write 15 = .ok (.invokevirtual 267, 3) := by decide +kernel
theorem dX11_write_18 : decode cX11_write 18 = .ok (.ifCond .ne 6, 3) := by decide +kernel
theorem dX11_write_21 : decode cX11_write 21 = .ok (.bipush (-6), 2) := by decide +kernel
theorem dX11_write_23 : decode cX11_write 23 = .ok (.ireturn, 1) := by decide +kernel
theorem dX11_write_24 : decode cX11_write 24 = .ok (.aload_n 0, 1) := by decide +kernel
theorem dX11_write_25 : decode cX11_write 25 = .ok (.getfield 49, 3) := by decide +kernel
theorem dX11_write_28 : decode cX11_write 28 = .ok (.iload_n 1, 1) := by decide +kernel
theorem dX11_write_29 : decode cX11_write 29 = .ok (.iload_n 2, 1) := by decide +kernel
theorem dX11_write_30 : decode cX11_write 30 = .ok (.iconst 1, 1) := by decide +kernel
theorem dX11_write_31 : decode cX11_write 31 = .ok (.invokevirtual 409, 3) := by decide +kernel
theorem dX11_write_34 : decode cX11_write 34 = .ok (.ifCond .eq 6, 3) := by decide +kernel
theorem dX11_write_37 : decode cX11_write 37 = .ok (.bipush (-7), 2) := by decide +kernel
theorem dX11_write_39 : decode cX11_write 39 = .ok (.ireturn, 1) := by decide +kernel
theorem dX11_write_40 : decode cX11_write 40 = .ok (.aload_n 0, 1) := by decide +kernel
theorem dX11_write_41 : decode cX11_write 41 = .ok (.getfield 49, 3) := by decide +kernel
theorem dX11_write_44 : decode cX11_write 44 = .ok (.iload_n 1, 1) := by decide +kernel
theorem dX11_write_45 : decode cX11_write 45 = .ok (.iload_n 2, 1) := by decide +kernel
theorem dX11_write_46 : decode cX11_write 46 = .ok (.lload_n 3, 1) := by decide +kernel
theorem dX11_write_47 : decode cX11_write 47 = .ok (.invokevirtual 413, 3) := by decide +kernel
theorem dX11_write_50 : decode cX11_write 50 = .ok (.iconst 0, 1) := by decide +kernel
theorem dX11_write_51 : decode cX11_write 51 = .ok (.ireturn, 1) := by decide +kernel
theorem dX11_paste_0 : decode cX11_paste 0 = .ok (.iload_n 1, 1) := by decide +kernel
theorem dX11_paste_1 : decode cX11_paste 1 = .ok (.invokestatic 264, 3) := by decide +kernel
theorem dX11_paste_4 : decode cX11_paste 4 = .ok (.ifCond .ne 10, 3) := by decide +kernel
theorem dX11_paste_7 : decode cX11_paste 7 = .ok (.iload_n 3, 1) := by decide +kernel
theorem dX11_paste_8 : decode cX11_paste 8 = .ok (.invokestatic 264, 3) := by decide +kernel
theorem dX11_paste_11 : decode cX11_paste 11 = .ok (.ifCond .eq 6, 3) := by decide +kernel
theorem dX11_paste_14 : decode cX11_paste 14 = .ok (.bipush (-2), 2) := by decide +kernel
theorem dX11_paste_16 : decode cX11_paste 16 = .ok (.ireturn, 1) := by decide +kernel
theorem dX11_paste_17 : decode cX11_paste 17 = .ok (.aload_n 0, 1) := by decide +kernel
theorem dX11_paste_18 : decode cX11_paste 18 = .ok (.getfield 49, 3) := by decide +kernel
theorem dX11_paste_21 : decode cX11_paste 21 = .ok (.iload_n 1, 1) := by decide +kernel
theorem dX11_paste_22 : decode cX11_paste 22 = .ok (.invokevirtual 267, 3) := by decide +kernel
theorem dX11_paste_25 : decode cX11_paste 25 = .ok (.ifCond .eq 14, 3) := by decide +kernel
theorem dX11_paste_28 : decode cX11_paste 28 = .ok (.aload_n 0, 1) := by decide +kernel
theorem dX11_paste_29 : decode cX11_paste 29 = .ok (.getfield 49, 3) := by decide +kernel
theorem dX11_paste_32 : decode cX11_paste 32 = .ok (.iload_n 3, 1) := by decide +kernel
theorem dX11_paste_33 : decode cX11_paste 33 = .ok (.invokevirtual 267, 3) := by decide +kernel
theorem dX11_paste_36 : decode cX11_paste 36 = .ok (.ifCond .ne 6, 3) := by decide +kernel
theorem dX11_paste_39 : decode cX11_paste 39 = .ok (.bipush (-6), 2) := by decide +kernel
theorem dX11_paste_41 : decode cX11_paste 41 = .ok (.ireturn, 1) := by decide +kernel
theorem dX11_paste_42 : decode cX11_paste 42 = .ok (.aload_n 0, 1) := by decide +kernel
theorem dX11_paste_43 : decode cX11_paste 43 = .ok (.getfield 49, 3) := by decide +kernel
theorem dX11_paste_46 : decode cX11_paste 46 = .ok (.getfield 417, 3) := by decide +kernel
theorem dX11_paste_49 : decode cX11_paste 49 = .ok (.iload_n 1, 1) := by decide +kernel
theorem dX11_paste_50 : decode cX11_paste 50 = .ok (.iaload, 1) := by decide +kernel
theorem dX11_paste_51 : decode cX11_paste 51 = .ok (.aload_n 0, 1) := by decide +kernel
theorem dX11_paste_52 : decode cX11_paste 52 = .ok (.getfield 49, 3) := by decide +kernel
theorem dX11_paste_55 : decode cX11_paste 55 = .ok (.getfield 417, 3) := by decide +kernel
theorem dX11_paste_58 : decode cX11_paste 58 = .ok (.iload_n 3, 1) := by decide +kernel
theorem dX11_paste_59 : decode cX11_paste 59 = .ok (.iaload, 1) := by decide +kernel
theorem dX11_paste_60 : decode cX11_paste 60 = .ok (.if_icmp .eq 6, 3) := by decide +kernel
theorem dX11_paste_63 : decode cX11_paste 63 = .ok (.bipush (-8), 2) := by decide +kernel
theorem dX11_paste_65 : decode cX11_paste 65 = .ok (.ireturn, 1) := by decide +kernel
theorem dX11_paste_66 : decode cX11_paste 66 = .ok (.aload_n 0, 1) := by decide +kernel
theorem dX11_paste_67 : decode cX11_paste 67 = .ok (.getfield 49, 3) := by decide +kernel
theorem dX11_paste_70 : decode cX11_paste 70 = .ok (.iload_n 1, 1) := by decide +kernel
theorem dX11_paste_71 : decode cX11_paste 71 = .ok (.iload_n 2, 1) := by decide +kernel
theorem dX11_paste_72 : decode cX11_paste 72 = .ok (.iload 5, 2) := by decide +kernel
theorem dX11_paste_74 : decode cX11_paste 74 = .ok (.invokevirtual 409, 3) := by decide +kernel
theorem dX11_paste_77 : decode cX11_paste 77 = .ok (.ifCond .ne 18, 3) := by decide +kernel
theorem dX11_paste_80 : decode cX11_paste 80 = .ok (.aload_n 0, 1) := by decide +kernel
theorem dX11_paste_81 : decode cX11_paste 81 = .ok (.getfield 49, 3) := by decide +kernel
theorem dX11_paste_84 : decode cX11_paste 84 = .ok (.iload_n 3, 1) := by decide +kernel
theorem dX11_paste_85 : decode cX11_paste 85 = .ok (.iload 4, 2) := by decide +kernel
theorem dX11_paste_87 : decode cX11_paste 87 = .ok (.iload 5, 2) := by decide +kernel
theorem dX11_paste_89 : decode cX11_paste 89 = .ok (.invokevirtual 409, 3) := by decide +kernel
theorem dX11_paste_92 : decode cX11_paste 92 = .ok (.ifCond .eq 6, 3) := by decide +kernel
theorem dX11_paste_95 : decode cX11_paste 95 = .ok (.bipush (-7), 2) := by decide +kernel
theorem dX11_paste_97 : decode cX11_paste 97 = .ok (.ireturn, 1) := by decide +kernel
theorem dX11_paste_98 : decode cX11_paste 98 = .ok (.aload_n 0, 1) := by decide +kernel
theorem dX11_paste_99 : decode cX11_paste 99 = .ok (.getfield 49, 3) := by decide +kernel
theorem dX11_paste_102 : decode cX11_paste 102 = .ok (.getfield 420, 3) := by decide +kernel
theorem dX11_paste_105 : decode cX11_paste 105 = .ok (.iload_n 1, 1) := by decide +kernel
theorem dX11_paste_106 : decode cX11_paste 106 = .ok (.aaload, 1) := by decide +kernel
theorem dX11_paste_107 : decode cX11_paste 107 = .ok (.iload_n 2, 1) := by decide +kernel
theorem dX11_paste_108 : decode cX11_paste 108 = .ok (.aload_n 0, 1) := by decide +kernel
theorem dX11_paste_109 : decode cX11_paste 109 = .ok (.getfield 49, 3) := by decide +kernel
theorem dX11_paste_112 : decode cX11_paste 112 = .ok (.getfield 420, 3) := by decide +kernel
theorem dX11_paste_115 : decode cX11_paste 115 = .ok (.iload_n 3, 1) := by decide +kernel
theorem dX11_paste_116 : decode cX11_paste 116 = .ok (.aaload, 1) := by decide +kernel
theorem dX11_paste_117 : decode cX11_paste 117 = .ok (.iload 4, 2) := by decide +kernel
theorem dX11_paste_119 : decode cX11_paste 119 = .ok (.iload 5, 2) := by decide +kernel
theorem dX11_paste_121 : decode cX11_paste 121 = .ok (.invokestatic 424, 3) := by decide +kernel
theorem dX11_paste_124 : decode cX11_paste 124 = .ok (.iconst 0, 1) := by decide +kernel
theorem dX11_paste_125 : decode cX11_paste 125 = .ok (.ireturn, 1) := by decide +kernel
theorem dX11_noNight_0 : decode cX11_noNight 0 = .ok (.aload_n 0, 1) := by decide +kernel
theorem dX11_noNight_1 : decode cX11_noNight 1 = .ok (.getfield 35, 3) := by decide +kernel
theorem dX11_noNight_4 : decode cX11_noNight 4 = .ok (.getfield 142, 3) := by decide +kernel
theorem dX11_noNight_7 : decode cX11_noNight 7 = .ok (.ifCond .ne 7, 3) := by decide +kernel
theorem dX11_noNight_10 : decode cX11_noNight 10 = .ok (.iconst 1, 1) := by decide +kernel
theorem dX11_noNight_11 : decode cX11_noNight 11 = .ok (.goto 4, 3) := by decide +kernel
theorem dX11_noNight_14 : decode cX11_noNight 14 = .ok (.iconst 0, 1) := by decide +kernel
theorem dX11_noNight_15 : decode cX11_noNight 15 = .ok (.ireturn, 1) := by decide +kernel
theorem dX11_noPew_0 : decode cX11_noPew 0 = .ok (.iload_n 1, 1) := by decide +kernel
theorem dX11_noPew_1 : decode cX11_noPew 1 = .ok (.ifCond .lt 14, 3) := by decide +kernel
theorem dX11_noPew_4 : decode cX11_noPew 4 = .ok (.iload_n 1, 1) := by decide +kernel
theorem dX11_noPew_5 : decode cX11_noPew 5 = .ok (.aload_n 0, 1) := by decide +kernel
theorem dX11_noPew_6 : decode cX11_noPew 6 = .ok (.getfield 35, 3) := by decide +kernel
theorem dX11_noPew_9 : decode cX11_noPew 9 = .ok (.getfield 214, 3) := by decide +kernel
theorem dX11_noPew_12 : decode cX11_noPew 12 = .ok (.if_icmp .lt 7, 3) := by decide +kernel
theorem dX11_noPew_15 : decode cX11_noPew 15 = .ok (.iconst 1, 1) := by decide +kernel
theorem dX11_noPew_16 : decode cX11_noPew 16 = .ok (.goto 4, 3) := by decide +kernel
theorem dX11_noPew_19 : decode cX11_noPew 19 = .ok (.iconst 0, 1) := by decide +kernel
theorem dX11_noPew_20 : decode cX11_noPew 20 = .ok (.ireturn, 1) := by decide +kernel
theorem dX11_noHour_0 : decode cX11_noHour 0 = .ok (.aload_n 0, 1) := by decide +kernel
theorem dX11_noHour_1 : decode cX11_noHour 1 = .ok (.invokevirtual 210, 3) := by decide +kernel
theorem dX11_noHour_4 : decode cX11_noHour 4 = .ok (.ifCond .ne 18, 3) := by decide +kernel
theorem dX11_noHour_7 : decode cX11_noHour 7 = .ok (.iload_n 1, 1) := by decide +kernel
theorem dX11_noHour_8 : decode cX11_noHour 8 = .ok (.ifCond .lt 14, 3) := by decide +kernel
theorem dX11_noHour_11 : decode cX11_noHour 11 = .ok (.iload_n 1, 1) := by decide +kernel
theorem dX11_noHour_12 : decode cX11_noHour 12 = .ok (.aload_n 0, 1) := by decide +kernel
theorem dX11_noHour_13 : decode cX11_noHour 13 = .ok (.getfield 35, 3) := by decide +kernel
theorem dX11_noHour_16 : decode cX11_noHour 16 = .ok (.getfield 203, 3) := by decide +kernel
theorem dX11_noHour_19 : decode cX11_noHour 19 = .ok (.if_icmp .le 7, 3) := by decide +kernel
theorem dX11_noHour_22 : decode cX11_noHour 22 = .ok (.iconst 1, 1) := by decide +kernel
theorem dX11_noHour_23 : decode cX11_noHour 23 = .ok (.goto 4, 3) := by decide +kernel
theorem dX11_noHour_26 : decode cX11_noHour 26 = .ok (.iconst 0, 1) := by decide +kernel
theorem dX11_noHour_27 : decode cX11_noHour 27 = .ok (.ireturn, 1) := by decide +kernel
theorem dX11_noLetter_0 : decode cX11_noLetter 0 = .ok (.iload_n 0, 1) := by decide +kernel
theorem dX11_noLetter_1 : decode cX11_noLetter 1 = .ok (.iconst 1, 1) := by decide +kernel
theorem dX11_noLetter_2 : decode cX11_noLetter 2 = .ok (.if_icmp .lt 8, 3) := by decide +kernel
theorem dX11_noLetter_5 : decode cX11_noLetter 5 = .ok (.iload_n 0, 1) := by decide +kernel
theorem dX11_noLetter_6 : decode cX11_noLetter 6 = .ok (.iconst 4, 1) := by decide +kernel
theorem dX11_noLetter_7 : decode cX11_noLetter 7 = .ok (.if_icmp .le 7, 3) := by decide +kernel
theorem dX11_noLetter_10 : decode cX11_noLetter 10 = .ok (.iconst 1, 1) := by decide +kernel
theorem dX11_noLetter_11 : decode cX11_noLetter 11 = .ok (.goto 4, 3) := by decide +kernel
theorem dX11_noLetter_14 : decode cX11_noLetter 14 = .ok (.iconst 0, 1) := by decide +kernel
theorem dX11_noLetter_15 : decode cX11_noLetter 15 = .ok (.ireturn, 1) := by decide +kernel
theorem dX11_noPart_0 : decode cX11_noPart 0 = .ok (.iload_n 0, 1) := by decide +kernel
theorem dX11_noPart_1 : decode cX11_noPart 1 = .ok (.ifCond .lt 8, 3) := by decide +kernel
theorem dX11_noPart_4 : decode cX11_noPart 4 = .ok (.iload_n 0, 1) := by decide +kernel
theorem dX11_noPart_5 : decode cX11_noPart 5 = .ok (.iconst 1, 1) := by decide +kernel
theorem dX11_noPart_6 : decode cX11_noPart 6 = .ok (.if_icmp .le 7, 3) := by decide +kernel
theorem dX11_noPart_9 : decode cX11_noPart 9 = .ok (.iconst 1, 1) := by decide +kernel
theorem dX11_noPart_10 : decode cX11_noPart 10 = .ok (.goto 4, 3) := by decide +kernel
theorem dX11_noPart_13 : decode cX11_noPart 13 = .ok (.iconst 0, 1) := by decide +kernel
theorem dX11_noPart_14 : decode cX11_noPart 14 = .ok (.ireturn, 1) := by decide +kernel
theorem dX11_cell_0 : decode cX11_cell 0 = .ok (.iload_n 1, 1) := by decide +kernel
theorem dX11_cell_1 : decode cX11_cell 1 = .ok (.bipush 7, 2) := by decide +kernel
theorem dX11_cell_3 : decode cX11_cell 3 = .ok (.imul, 1) := by decide +kernel
theorem dX11_cell_4 : decode cX11_cell 4 = .ok (.iload_n 0, 1) := by decide +kernel
theorem dX11_cell_5 : decode cX11_cell 5 = .ok (.iadd, 1) := by decide +kernel
theorem dX11_cell_6 : decode cX11_cell 6 = .ok (.ireturn, 1) := by decide +kernel
theorem dX11_letterOrNone_0 : decode cX11_letterOrNone 0 = .ok (.iload_n 0, 1) := by decide +kernel
theorem dX11_letterOrNone_1 : decode cX11_letterOrNone 1 = .ok (.iload_n 1, 1) := by decide +kernel
theorem dX11_letterOrNone_2 : decode cX11_letterOrNone 2 = .ok (.invokestatic 236, 3) := by decide +kernel
theorem dX11_letterOrNone_5 : decode cX11_letterOrNone 5 = .ok (.istore_n 2, 1) := by decide +kernel
theorem dX11_letterOrNone_6 : decode cX11_letterOrNone 6 = .ok (.iload_n 2, 1) := by decide +kernel
theorem dX11_letterOrNone_7 : decode cX11_letterOrNone 7 = .ok (.ifCond .ne 7, 3) := by decide +kernel
theorem dX11_letterOrNone_10 : decode cX11_letterOrNone 10 = .ok (.iconst (-1), 1) := by decide +kernel
theorem dX11_letterOrNone_11 : decode cX11_letterOrNone 11 = .ok (.goto 4, 3) := by decide +kernel
theorem dX11_letterOrNone_14 : decode cX11_letterOrNone 14 = .ok (.iload_n 2, 1) := by decide +kernel
theorem dX11_letterOrNone_15 : decode cX11_letterOrNone 15 = .ok (.ireturn, 1) := by decide +kernel
theorem dX11_unsettle_0 : decode cX11_unsettle 0 = .ok (.aload_n 0, 1) := by decide +kernel
theorem dX11_unsettle_1 : decode cX11_unsettle 1 = .ok (.iconst 0, 1) := by decide +kernel
theorem dX11_unsettle_2 : decode cX11_unsettle 2 = .ok (.putfield 116, 3) := by decide +kernel
theorem dX11_unsettle_5 : decode cX11_unsettle 5 = .ok (.aload_n 0, 1) := by decide +kernel
theorem dX11_unsettle_6 : decode cX11_unsettle 6 = .ok (.getfield 89, 3) := by decide +kernel
theorem dX11_unsettle_9 : decode cX11_unsettle 9 = .ok (.invokevirtual 430, 3) := by decide +kernel
theorem dX11_unsettle_12 : decode cX11_unsettle 12 = .ok (.return_, 1) := by decide +kernel
theorem dX11_settledCourse_0 : decode cX11_settledCourse 0 = .ok (.aload_n 0, 1) := by decide +kernel
theorem dX11_settledCourse_1 : decode cX11_settledCourse 1 = .ok (.getfield 116, 3) := by decide +kernel
theorem dX11_settledCourse_4 : decode cX11_settledCourse 4 = .ok (.ifCond .ne 31, 3) := by decide +kernel
theorem dX11_settledCourse_7 : decode cX11_settledCourse 7 = .ok (.aload_n 0, 1) := by decide +kernel
theorem dX11_settledCourse_8 : decode cX11_settledCourse 8 = .ok (.getfield 70, 3) := by decide +kernel
theorem dX11_settledCourse_11 : decode cX11_settledCourse 11 = .ok (.invokevirtual 433, 3) := by decide +kernel
theorem dX11_settledCourse_14 : decode cX11_settledCourse 14 = .ok (.aload_n 0, 1) := by decide +kernel
theorem dX11_settledCourse_15 : decode cX11_settledCourse 15 = .ok (.getfield 70, 3) := by decide +kernel
theorem dX11_settledCourse_18 : decode cX11_settledCourse 18 = .ok (.iconst 0, 1) := by decide +kernel
theorem dX11_settledCourse_19 : decode cX11_settledCourse 19 = .ok (.aload_n 0, 1) := by decide +kernel
theorem dX11_settledCourse_20 : decode cX11_settledCourse 20 = .ok (.getfield 35, 3) := by decide +kernel
theorem dX11_settledCourse_23 : decode cX11_settledCourse 23 = .ok (.getfield 203, 3) := by decide +kernel
theorem dX11_settledCourse_26 : decode cX11_settledCourse 26 = .ok (.invokevirtual 333, 3) := by decide +kernel
theorem dX11_settledCourse_29 : decode cX11_settledCourse 29 = .ok (.pop, 1) := by decide +kernel
theorem dX11_settledCourse_30 : decode cX11_settledCourse 30 = .ok (.aload_n 0, 1) := by decide +kernel
theorem dX11_settledCourse_31 : decode cX11_settledCourse 31 = .ok (.iconst 1, 1) := by decide +kernel
theorem dX11_settledCourse_32 : decode cX11_settledCourse 32 = .ok (.putfield 116, 3) := by decide +kernel
theorem dX11_settledCourse_35 : decode cX11_settledCourse 35 = .ok (.aload_n 0, 1) := by decide +kernel
theorem dX11_settledCourse_36 : decode cX11_settledCourse 36 = .ok (.getfield 70, 3) := by decide +kernel
theorem dX11_settledCourse_39 : decode cX11_settledCourse 39 = .ok (.areturn, 1) := by decide +kernel
theorem dX11_litAtLast_0 : decode cX11_litAtLast 0 = .ok (.aload_n 0, 1) := by decide +kernel
theorem dX11_litAtLast_1 : decode cX11_litAtLast 1 = .ok (.invokevirtual 179, 3) := by decide +kernel
theorem dX11_litAtLast_4 : decode cX11_litAtLast 4 = .ok (.getfield 183, 3) := by decide +kernel
theorem dX11_litAtLast_7 : decode cX11_litAtLast 7 = .ok (.aload_n 0, 1) := by decide +kernel
theorem dX11_litAtLast_8 : decode cX11_litAtLast 8 = .ok (.getfield 35, 3) := by decide +kernel
theorem dX11_litAtLast_11 : decode cX11_litAtLast 11 = .ok (.getfield 203, 3) := by decide +kernel
theorem dX11_litAtLast_14 : decode cX11_litAtLast 14 = .ok (.iaload, 1) := by decide +kernel
theorem dX11_litAtLast_15 : decode cX11_litAtLast 15 = .ok (.invokestatic 292, 3) := by decide +kernel
theorem dX11_litAtLast_18 : decode cX11_litAtLast 18 = .ok (.ireturn, 1) := by decide +kernel
theorem dX11_lowestPart_0 : decode cX11_lowestPart 0 = .ok (.lload_n 2, 1) := by decide +kernel
theorem dX11_lowestPart_1 : decode cX11_lowestPart 1 = .ok (.lstore 5, 2) := by decide +kernel
theorem dX11_lowestPart_3 : decode cX11_lowestPart 3 = .ok (.lload_n 0, 1) := by decide +kernel
theorem dX11_lowestPart_4 : decode cX11_lowestPart 4 = .ok (.invokestatic 436, 3) := by decide +kernel
theorem dX11_lowestPart_7 : decode cX11_lowestPart 7 = .ok (.lstore 7, 2) := by decide +kernel
theorem dX11_lowestPart_9 : decode cX11_lowestPart 9 = .ok (.iconst 0, 1) := by decide +kernel
theorem dX11_lowestPart_10 : decode cX11_lowestPart 10 = .ok (.istore 9, 2) := by decide +kernel
theorem dX11_lowestPart_12 : decode cX11_lowestPart 12 = .ok (.iload 9, 2) := by decide +kernel
theorem dX11_lowestPart_14 : decode cX11_lowestPart 14 = .ok (.bipush 100, 2) := by decide +kernel
theorem dX11_lowestPart_16 : decode cX11_lowestPart 16 = .ok (.if_icmp .ge 31, 3) := by decide +kernel
theorem dX11_lowestPart_19 : decode cX11_lowestPart 19 = .ok (.lload 7, 2) := by decide +kernel
theorem dX11_lowestPart_21 : decode cX11_lowestPart 21 = .ok (.lconst 0, 1) := by decide +kernel
theorem dX11_lowestPart_22 : decode cX11_lowestPart 22 = .ok (.lcmp, 1) := by decide +kernel
theorem dX11_lowestPart_23 : decode cX11_lowestPart 23 = .ok (.ifCond .eq 24, 3) := by decide +kernel
theorem dX11_lowestPart_26 : decode cX11_lowestPart 26 = .ok (.lload 5, 2) := by decide +kernel
theorem dX11_lowestPart_28 : decode cX11_lowestPart 28 = .ok (.lload 7, 2) := by decide +kernel
theorem dX11_lowestPart_30 : decode cX11_lowestPart 30 = .ok (.lrem, 1) := by decide +kernel
theorem dX11_lowestPart_31 : decode cX11_lowestPart 31 = .ok (.lstore 10, 2) := by decide +kernel
theorem dX11_lowestPart_33 : decode cX11_lowestPart 33 = .ok (.lload 7, 2) := by decide +kernel
theorem dX11_lowestPart_35 : decode cX11_lowestPart 35 = .ok (.lstore 5, 2) := by decide +kernel
theorem dX11_lowestPart_37 : decode cX11_lowestPart 37 = .ok (.lload 10, 2) := by decide +kernel
theorem dX11_lowestPart_39 : decode cX11_lowestPart 39 = .ok (.lstore 7, 2) := by decide +kernel
theorem dX11_lowestPart_41 : decode cX11_lowestPart 41 = .ok (.iinc 9 1, 3) := by decide +kernel
theorem dX11_lowestPart_44 : decode cX11_lowestPart 44 = .ok (.goto (-32), 3) := by decide +kernel
theorem dX11_lowestPart_47 : decode cX11_lowestPart 47 = .ok (.iload 4, 2) := by decide +kernel
theorem dX11_lowestPart_49 : decode cX11_lowestPart 49 = .ok (.ifCond .ne 7, 3) := by decide +kernel
theorem dX11_lowestPart_52 : decode cX11_lowestPart 52 = .ok (.lload_n 0, 1) := by decide +kernel
theorem dX11_lowestPart_53 : decode cX11_lowestPart 53 = .ok (.goto 4, 3) := by decide +kernel
theorem dX11_lowestPart_56 : decode cX11_lowestPart 56 = .ok (.lload_n 2, 1) := by decide +kernel
theorem dX11_lowestPart_57 : decode cX11_lowestPart 57 = .ok (.lstore 9, 2) := by decide +kernel
theorem dX11_lowestPart_59 : decode cX11_lowestPart 59 = .ok (.lload 5, 2) := by decide +kernel
theorem dX11_lowestPart_61 : decode cX11_lowestPart 61 = .ok (.lconst 0, 1) := by decide +kernel
theorem dX11_lowestPart_62 : decode cX11_lowestPart 62 = .ok (.lcmp, 1) := by decide +kernel
theorem dX11_lowestPart_63 : decode cX11_lowestPart 63 = .ok (.ifCond .ne 8, 3) := by decide +kernel
theorem dX11_lowestPart_66 : decode cX11_lowestPart 66 = .ok (.lload 9, 2) := by decide +kernel
theorem dX11_lowestPart_68 : decode cX11_lowestPart 68 = .ok (.goto 8, 3) := by decide +kernel
theorem dX11_lowestPart_71 : decode cX11_lowestPart 71 = .ok (.lload 9, 2) := by decide +kernel
theorem dX11_lowestPart_73 : decode cX11_lowestPart 73 = .ok (.lload 5, 2) := by decide +kernel
theorem dX11_lowestPart_75 : decode cX11_lowestPart 75 = .ok (.ldiv, 1) := by decide +kernel
theorem dX11_lowestPart_76 : decode cX11_lowestPart 76 = .ok (.lreturn, 1) := by decide +kernel
theorem dX12_init_0 : decode cX12_init 0 = .ok (.aload_n 0, 1) := by decide +kernel
theorem dX12_init_1 : decode cX12_init 1 = .ok (.invokespecial 3, 3) := by decide +kernel
theorem dX12_init_4 : decode cX12_init 4 = .ok (.aload_n 0, 1) := by decide +kernel
theorem dX12_init_5 : decode cX12_init 5 = .ok (.bipush 104, 2) := by decide +kernel
theorem dX12_init_7 : decode cX12_init 7 = .ok (.newarray .int, 2) := by decide +kernel
theorem dX12_init_9 : decode cX12_init 9 = .ok (.putfield 9, 3) := by decide +kernel
theorem dX12_init_12 : decode cX12_init 12 = .ok (.aload_n 0, 1) := by decide +kernel
theorem dX12_init_13 : decode cX12_init 13 = .ok (.sipush 312, 3) := by decide +kernel
theorem dX12_init_16 : decode cX12_init 16 = .ok (.newarray .int, 2) := by decide +kernel
theorem dX12_init_18 : decode cX12_init 18 = .ok (.putfield 13, 3) := by decide +kernel
theorem dX12_init_21 : decode cX12_init 21 = .ok (.aload_n 0, 1) := by decide +kernel
theorem dX12_init_22 : decode cX12_init 22 = .ok (.iconst 3, 1) := by decide +kernel
theorem dX12_init_23 : decode cX12_init 23 = .ok (.newarray .boolean, 2) := by decide +kernel
theorem dX12_init_25 : decode cX12_init 25 = .ok (.putfield 16, 3) := by decide +kernel
theorem dX12_init_28 : decode cX12_init 28 = .ok (.aload_n 0, 1) := by decide +kernel
theorem dX12_init_29 : decode cX12_init 29 = .ok (.sipush 600, 3) := by decide +kernel
theorem dX12_init_32 : decode cX12_init 32 = .ok (.newarray .byte, 2) := by decide +kernel
theorem dX12_init_34 : decode cX12_init 34 = .ok (.putfield 20, 3) := by decide +kernel
theorem dX12_init_37 : decode cX12_init 37 = .ok (.aload_n 0, 1) := by decide +kernel
theorem dX12_init_38 : decode cX12_init 38 = .ok (.iconst 5, 1) := by decide +kernel
theorem dX12_init_39 : decode cX12_init 39 = .ok (.newarray .int, 2) := by decide +kernel
theorem dX12_init_41 : decode cX12_init 41 = .ok (.putfield 24, 3) := by decide +kernel
theorem dX12_init_44 : decode cX12_init 44 = .ok (.aload_n 0, 1) := by decide +kernel
theorem dX12_init_45 : decode cX12_init 45 = .ok (.iconst (-1), 1) := by decide +kernel
theorem dX12_init_46 : decode cX12_init 46 = .ok (.putfield 27, 3) := by decide +kernel
theorem dX12_init_49 : decode cX12_init 49 = .ok (.aload_n 0, 1) := by decide +kernel
theorem dX12_init_50 : decode cX12_init 50 = .ok (.bipush 104, 2) := by decide +kernel
theorem dX12_init_52 : decode cX12_init 52 = .ok (.newarray .int, 2) := by decide +kernel
theorem dX12_init_54 : decode cX12_init 54 = .ok (.putfield 31, 3) := by decide +kernel
theorem dX12_init_57 : decode cX12_init 57 = .ok (.aload_n 0, 1) := by decide +kernel
theorem dX12_init_58 : decode cX12_init 58 = .ok (.bipush 91, 2) := by decide +kernel
theorem dX12_init_60 : decode cX12_init 60 = .ok (.newarray .int, 2) := by decide +kernel
theorem dX12_init_62 : decode cX12_init 62 = .ok (.putfield 34, 3) := by decide +kernel
theorem dX12_init_65 : decode cX12_init 65 = .ok (.aload_n 0, 1) := by decide +kernel
theorem dX12_init_66 : decode cX12_init 66 = .ok (.bipush 91, 2) := by decide +kernel
theorem dX12_init_68 : decode cX12_init 68 = .ok (.newarray .int, 2) := by decide +kernel
theorem dX12_init_70 : decode cX12_init 70 = .ok (.putfield 37, 3) := by decide +kernel
theorem dX12_init_73 : decode cX12_init 73 = .ok (.aload_n 0, 1) := by decide +kernel
theorem dX12_init_74 : decode cX12_init 74 = .ok (.bipush 91, 2) := by decide +kernel
theorem dX12_init_76 : decode cX12_init 76 = .ok (.newarray .int, 2) := by decide +kernel
theorem dX12_init_78 : decode cX12_init 78 = .ok (.putfield 40, 3) := by decide +kernel
theorem dX12_init_81 : decode cX12_init 81 = .ok (.aload_n 0, 1) := by decide +kernel
theorem dX12_init_82 : decode cX12_init 82 = .ok (.bipush 91, 2) := by decide +kernel
theorem dX12_init_84 : decode cX12_init 84 = .ok (.newarray .int, 2) := by decide +kernel
theorem dX12_init_86 : decode cX12_init 86 = .ok (.putfield 43, 3) := by decide +kernel
theorem dX12_init_89 : decode cX12_init 89 = .ok (.aload_n 0, 1) := by decide +kernel
theorem dX12_init_90 : decode cX12_init 90 = .ok (.sipush 128, 3) := by decide +kernel
theorem dX12_init_93 : decode cX12_init 93 = .ok (.newarray .int, 2) := by decide +kernel
theorem dX12_init_95 : decode cX12_init 95 = .ok (.putfield 46, 3) := by decide +kernel
theorem dX12_init_98 : decode cX12_init 98 = .ok (.aload_n 0, 1) := by decide +kernel
theorem dX12_init_99 : decode cX12_init 99 = .ok (.sipush 637, 3) := by decide +kernel
theorem dX12_init_102 : decode cX12_init 102 = .ok (.newarray .int, 2) := by decide +kernel
theorem dX12_init_104 : decode cX12_init 104 = .ok (.putfield 49, 3) := by decide +kernel
theorem dX12_init_107 : decode cX12_init 107 = .ok (.aload_n 0, 1) := by decide +kernel
theorem dX12_init_108 : decode cX12_init 108 = .ok (.iconst 4, 1) := by decide +kernel
theorem dX12_init_109 : decode cX12_init 109 = .ok (.newarray .int, 2) := by decide +kernel
theorem dX12_init_111 : decode cX12_init 111 = .ok (.dup, 1) := by decide +kernel
theorem dX12_init_112 : decode cX12_init 112 = .ok (.iconst 0, 1) := by decide +kernel
theorem dX12_init_113 : decode cX12_init 113 = .ok (.iconst (-1), 1) := by decide +kernel
theorem dX12_init_114 : decode cX12_init 114 = .ok (.iastore, 1) := by decide +kernel
theorem dX12_init_115 : decode cX12_init 115 = .ok (.dup, 1) := by decide +kernel
theorem dX12_init_116 : decode cX12_init 116 = .ok (.iconst 1, 1) := by decide +kernel
theorem dX12_init_117 : decode cX12_init 117 = .ok (.iconst (-1), 1) := by decide +kernel
theorem dX12_init_118 : decode cX12_init 118 = .ok (.iastore, 1) := by decide +kernel
theorem dX12_init_119 : decode cX12_init 119 = .ok (.dup, 1) := by decide +kernel
theorem dX12_init_120 : decode cX12_init 120 = .ok (.iconst 2, 1) := by decide +kernel
theorem dX12_init_121 : decode cX12_init 121 = .ok (.iconst (-1), 1) := by decide +kernel
theorem dX12_init_122 : decode cX12_init 122 = .ok (.iastore, 1) := by decide +kernel
theorem dX12_init_123 : decode cX12_init 123 = .ok (.dup, 1) := by decide +kernel
theorem dX12_init_124 : decode cX12_init 124 = .ok (.iconst 3, 1) := by decide +kernel
theorem dX12_init_125 : decode cX12_init 125 = .ok (.iconst (-1), 1) := by decide +kernel
theorem dX12_init_126 : decode cX12_init 126 = .ok (.iastore, 1) := by decide +kernel
theorem dX12_init_127 : decode cX12_init 127 = .ok (.putfield 52, 3) := by decide +kernel
theorem dX12_init_130 : decode cX12_init 130 = .ok (.aload_n 0, 1) := by decide +kernel
theorem dX12_init_131 : decode cX12_init 131 = .ok (.iconst 4, 1) := by decide +kernel
theorem dX12_init_132 : decode cX12_init 132 = .ok (.newarray .int, 2) := by decide +kernel
theorem dX12_init_134 : decode cX12_init 134 = .ok (.putfield 55, 3) := by decide +kernel
theorem dX12_init_137 : decode cX12_init 137 = .ok (.aload_n 0, 1) := by decide +kernel
theorem dX12_init_138 : decode cX12_init 138 = .ok (.sipush 240, 3) := by decide +kernel
theorem dX12_init_141 : decode cX12_init 141 = .ok (.newarray .long, 2) := by decide +kernel
theorem dX12_init_143 : decode cX12_init 143 = .ok (.putfield 58, 3) := by decide +kernel
theorem dX12_init_146 : decode cX12_init 146 = .ok (.aload_n 0, 1) := by decide +kernel
theorem dX12_init_147 : decode cX12_init 147 = .ok (.bipush 60, 2) := by decide +kernel
theorem dX12_init_149 : decode cX12_init 149 = .ok (.newarray .long, 2) := by decide +kernel
theorem dX12_init_151 : decode cX12_init 151 = .ok (.putfield 62, 3) := by decide +kernel
theorem dX12_init_154 : decode cX12_init 154 = .ok (.return_, 1) := by decide +kernel
theorem dX12_in_0 : decode cX12_in 0 = .ok (.lload_n 0, 1) := by decide +kernel
theorem dX12_in_1 : decode cX12_in 1 = .ok (.lload_n 2, 1) := by decide +kernel
theorem dX12_in_2 : decode cX12_in 2 = .ok (.lcmp, 1) := by decide +kernel
theorem dX12_in_3 : decode cX12_in 3 = .ok (.ifCond .lt 14, 3) := by decide +kernel
theorem dX12_in_6 : decode cX12_in 6 = .ok (.lload_n 0, 1) := by decide +kernel
theorem dX12_in_7 : decode cX12_in 7 = .ok (.lload 4, 2) := by decide +kernel
theorem dX12_in_9 : decode cX12_in 9 = .ok (.lcmp, 1) := by decide +kernel
theorem dX12_in_10 : decode cX12_in 10 = .ok (.ifCond .gt 7, 3) := by decide +kernel
theorem dX12_in_13 : decode cX12_in 13 = .ok (.iconst 1, 1) := by decide +kernel
theorem dX12_in_14 : decode cX12_in 14 = .ok (.goto 4, 3) := by decide +kernel
theorem dX12_in_17 : decode cX12_in 17 = .ok (.iconst 0, 1) := by decide +kernel
theorem dX12_in_18 : decode cX12_in 18 = .ok (.ireturn, 1) := by decide +kernel
theorem dX12_bits_0 : decode cX12_bits 0 = .ok (.iconst 0, 1) := by decide +kernel
theorem dX12_bits_1 : decode cX12_bits 1 = .ok (.istore_n 1, 1) := by decide +kernel
theorem dX12_bits_2 : decode cX12_bits 2 = .ok (.iconst 0, 1) := by decide +kernel
theorem dX12_bits_3 : decode cX12_bits 3 = .ok (.istore_n 2, 1) := by decide +kernel
theorem dX12_bits_4 : decode cX12_bits 4 = .ok (.iload_n 2, 1) := by decide +kernel
theorem dX12_bits_5 : decode cX12_bits 5 = .ok (.bipush 16, 2) := by decide +kernel
theorem dX12_bits_7 : decode cX12_bits 7 = .ok (.if_icmp .ge 17, 3) := by decide +kernel
theorem dX12_bits_10 : decode cX12_bits 10 = .ok (.iload_n 1, 1) := by decide +kernel
theorem dX12_bits_11 : decode cX12_bits 11 = .ok (.iload_n 0, 1) := by decide +kernel
theorem dX12_bits_12 : decode cX12_bits 12 = .ok (.iload_n 2, 1) := by decide +kernel
theorem dX12_bits_13 : decode cX12_bits 13 = .ok (.ishr, 1) := by decide +kernel
theorem dX12_bits_14 : decode cX12_bits 14 = .ok (.iconst 1, 1) := by decide +kernel
theorem dX12_bits_15 : decode cX12_bits 15 = .ok (.iand, 1) := by decide +kernel
theorem dX12_bits_16 : decode cX12_bits 16 = .ok (.iadd, 1) := by decide +kernel
theorem dX12_bits_17 : decode cX12_bits 17 = .ok (.istore_n 1, 1) := by decide +kernel
theorem dX12_bits_18 : decode cX12_bits 18 = .ok (.iinc 2 1, 3) := by decide +kernel
theorem dX12_bits_21 : decode cX12_bits 21 = .ok (.goto (-17), 3) := by decide +kernel
theorem dX12_bits_24 : decode cX12_bits 24 = .ok (.iload_n 1, 1) := by decide +kernel
theorem dX12_bits_25 : decode cX12_bits 25 = .ok (.ireturn, 1) := by decide +kernel
theorem dX12_bit_0 : decode cX12_bit 0 = .ok (.iload_n 0, 1) := by decide +kernel
theorem dX12_bit_1 : decode cX12_bit 1 = .ok (.iload_n 1, 1) := by decide +kernel
theorem dX12_bit_2 : decode cX12_bit 2 = .ok (.ishr, 1) := by decide +kernel
theorem dX12_bit_3 : decode cX12_bit 3 = .ok (.iconst 1, 1) := by decide +kernel
theorem dX12_bit_4 : decode cX12_bit 4 = .ok (.iand, 1) := by decide +kernel
theorem dX12_bit_5 : decode cX12_bit 5 = .ok (.ireturn, 1) := by decide +kernel
theorem dX12_image_0 : decode cX12_image 0 = .ok (.iload_n 1, 1) := by decide +kernel
theorem dX12_image_1 : decode cX12_image 1 = .ok (.i2l, 1) := by decide +kernel
theorem dX12_image_2 : decode cX12_image 2 = .ok (.lconst 0, 1) := by decide +kernel
theorem dX12_image_3 : decode cX12_image 3 = .ok (.ldc2_w 68, 3) := by decide +kernel
theorem dX12_image_6 : decode cX12_image 6 = .ok (.invokestatic 70, 3) := by decide +kernel
theorem dX12_image_9 : decode cX12_image 9 = .ok (.ifCond .ne 6, 3) := by decide +kernel
theorem dX12_image_12 : decode cX12_image 12 = .ok (.bipush (-2), 2) := by decide +kernel
theorem dX12_image_14 : decode cX12_image 14 = .ok (.ireturn, 1) := by decide +kernel
theorem dX12_image_15 : decode cX12_image 15 = .ok (.iconst 0, 1) := by decide +kernel
theorem dX12_image_16 : decode cX12_image 16 = .ok (.istore_n 2, 1) := by decide +kernel
theorem dX12_image_17 : decode cX12_image 17 = .ok (.iload_n 2, 1) := by decide +kernel
theorem dX12_image_18 : decode cX12_image 18 = .ok (.bipush 104, 2) := by decide +kernel
theorem dX12_image_20 : decode cX12_image 20 = .ok (.if_icmp .ge 26, 3) := by decide +kernel
theorem dX12_image_23 : decode cX12_image 23 = .ok (.aload_n 0, 1) := by decide +kernel
theorem dX12_image_24 : decode cX12_image 24 = .ok (.getfield 13, 3) := by decide +kernel
theorem dX12_image_27 : decode cX12_image 27 = .ok (.bipush 104, 2) := by decide +kernel
theorem dX12_image_29 : decode cX12_image 29 = .ok (.iload_n 1, 1) := by decide +kernel
theorem dX12_image_30 : decode cX12_image 30 = .ok (.imul, 1) := by decide +kernel
theorem dX12_image_31 : decode cX12_image 31 = .ok (.iload_n 2, 1) := by decide +kernel
theorem dX12_image_32 : decode cX12_image 32 = .ok (.iadd, 1) := by decide +kernel
theorem dX12_image_33 : decode cX12_image 33 = .ok (.aload_n 0, 1) := by decide +kernel
theorem dX12_image_34 : decode cX12_image 34 = .ok (.getfield 9, 3) := by decide +kernel
theorem dX12_image_37 : decode cX12_image 37 = .ok (.iload_n 2, 1) := by decide +kernel
theorem dX12_image_38 : decode cX12_image 38 = .ok (.iaload, 1) := by decide +kernel
theorem dX12_image_39 : decode cX12_image 39 = .ok (.iastore, 1) := by decide +kernel
theorem dX12_image_40 : decode cX12_image 40 = .ok (.iinc 2 1, 3) := by decide +kernel
theorem dX12_image_43 : decode cX12_image 43 = .ok (.goto (-26), 3) := by decide +kernel
theorem dX12_image_46 : decode cX12_image 46 = .ok (.aload_n 0, 1) := by decide +kernel
theorem dX12_image_47 : decode cX12_image 47 = .ok (.getfield 16, 3) := by decide +kernel
theorem dX12_image_50 : decode cX12_image 50 = .ok (.iload_n 1, 1) := by decide +kernel
theorem dX12_image_51 : decode cX12_image 51 = .ok (.iconst 1, 1) := by decide +kernel
theorem dX12_image_52 : decode cX12_image 52 = .ok (.bastore, 1) := by decide +kernel
theorem dX12_image_53 : decode cX12_image 53 = .ok (.iconst 0, 1) := by decide +kernel
theorem dX12_image_54 : decode cX12_image 54 = .ok (.ireturn, 1) := by decide +kernel
theorem dX12_back_0 : decode cX12_back 0 = .ok (.iload_n 1, 1) := by decide +kernel
theorem dX12_back_1 : decode cX12_back 1 = .ok (.i2l, 1) := by decide +kernel
theorem dX12_back_2 : decode cX12_back 2 = .ok (.lconst 0, 1) := by decide +kernel
theorem dX12_back_3 : decode cX12_back 3 = .ok (.ldc2_w 68, 3) := by decide +kernel
theorem dX12_back_6 : decode cX12_back 6 = .ok (.invokestatic 70, 3) := by decide +kernel
theorem dX12_back_9 : decode cX12_back 9 = .ok (.ifCond .ne 6, 3) := by decide +kernel
theorem dX12_back_12 : decode cX12_back 12 = .ok (.bipush (-2), 2) := by decide +kernel
theorem dX12_back_14 : decode cX12_back 14 = .ok (.ireturn, 1) := by decide +kernel
theorem dX12_back_15 : decode cX12_back 15 = .ok (.aload_n 0, 1) := by decide +kernel
theorem dX12_back_16 : decode cX12_back 16 = .ok (.getfield 16, 3) := by decide +kernel
theorem dX12_back_19 : decode cX12_back 19 = .ok (.iload_n 1, 1) := by decide +kernel
theorem dX12_back_20 : decode cX12_back 20 = .ok (.baload, 1) := by decide +kernel
theorem dX12_back_21 : decode cX12_back 21 = .ok (.ifCond .ne 6, 3) := by decide +kernel
theorem dX12_back_24 : decode cX12_back 24 = .ok (.bipush (-6), 2) := by decide +kernel
theorem dX12_back_26 : decode cX12_back 26 = .ok (.ireturn, 1) := by decide +kernel
theorem dX12_back_27 : decode cX12_back 27 = .ok (.iconst 0, 1) := by decide +kernel
theorem dX12_back_28 : decode cX12_back 28 = .ok (.istore_n 2, 1) := by decide +kernel
theorem dX12_back_29 : decode cX12_back 29 = .ok (.iload_n 2, 1) := by decide +kernel
theorem dX12_back_30 : decode cX12_back 30 = .ok (.bipush 104, 2) := by decide +kernel
theorem dX12_back_32 : decode cX12_back 32 = .ok (.if_icmp .ge 26, 3) := by decide +kernel
theorem dX12_back_35 : decode cX12_back 35 = .ok (.aload_n 0, 1) := by decide +kernel
theorem dX12_back_36 : decode cX12_back 36 = .ok (.getfield 9, 3) := by decide +kernel
theorem dX12_back_39 : decode cX12_back 39 = .ok (.iload_n 2, 1) := by decide +kernel
theorem dX12_back_40 : decode cX12_back 40 = .ok (.aload_n 0, 1) := by decide +kernel
theorem dX12_back_41 : decode cX12_back 41 = .ok (.getfield 13, 3) := by decide +kernel
theorem dX12_back_44 : decode cX12_back 44 = .ok (.bipush 104, 2) := by decide +kernel
theorem dX12_back_46 : decode cX12_back 46 = .ok (.iload_n 1, 1) := by decide +kernel
theorem dX12_back_47 : decode cX12_back 47 = .ok (.imul, 1) := by decide +kernel
theorem dX12_back_48 : decode cX12_back 48 = .ok (.iload_n 2, 1) := by decide +kernel
theorem dX12_back_49 : decode cX12_back 49 = .ok (.iadd, 1) := by decide +kernel
theorem dX12_back_50 : decode cX12_back 50 = .ok (.iaload, 1) := by decide +kernel
theorem dX12_back_51 : decode cX12_back 51 = .ok (.iastore, 1) := by decide +kernel
theorem dX12_back_52 : decode cX12_back 52 = .ok (.iinc 2 1, 3) := by decide +kernel
theorem dX12_back_55 : decode cX12_back 55 = .ok (.goto (-26), 3) := by decide +kernel
theorem dX12_back_58 : decode cX12_back 58 = .ok (.iconst 0, 1) := by decide +kernel
theorem dX12_back_59 : decode cX12_back 59 = .ok (.ireturn, 1) := by decide +kernel
theorem dX12_isNight_0 : decode cX12_isNight 0 = .ok (.aload_n 0, 1) := by decide +kernel
theorem dX12_isNight_1 : decode cX12_isNight 1 = .ok (.getfield 9, 3) := by decide +kernel
theorem dX12_isNight_4 : decode cX12_isNight 4 = .ok (.bipush 8, 2) := by decide +kernel
theorem dX12_isNight_6 : decode cX12_isNight 6 = .ok (.iaload, 1) := by decide +kernel
theorem dX12_isNight_7 : decode cX12_isNight 7 = .ok (.ifCond .le 7, 3) := by decide +kernel
theorem dX12_isNight_10 : decode cX12_isNight 10 = .ok (.iconst 1, 1) := by decide +kernel
theorem dX12_isNight_11 : decode cX12_isNight 11 = .ok (.goto 4, 3) := by decide +kernel
theorem dX12_isNight_14 : decode cX12_isNight 14 = .ok (.iconst 0, 1) := by decide +kernel
theorem dX12_isNight_15 : decode cX12_isNight 15 = .ok (.ireturn, 1) := by decide +kernel
theorem dX12_hours_0 : decode cX12_hours 0 = .ok (.aload_n 0, 1) := by decide +kernel
theorem dX12_hours_1 : decode cX12_hours 1 = .ok (.getfield 9, 3) := by decide +kernel
theorem dX12_hours_4 : decode cX12_hours 4 = .ok (.iconst 0, 1) := by decide +kernel
theorem dX12_hours_5 : decode cX12_hours 5 = .ok (.iaload, 1) := by decide +kernel
theorem dX12_hours_6 : decode cX12_hours 6 = .ok (.ireturn, 1) := by decide +kernel
theorem dX12_pews_0 : decode cX12_pews 0 = .ok (.aload_n 0, 1) := by decide +kernel
theorem dX12_pews_1 : decode cX12_pews 1 = .ok (.getfield 9, 3) := by decide +kernel
theorem dX12_pews_4 : decode cX12_pews 4 = .ok (.iconst 3, 1) := by decide +kernel
theorem dX12_pews_5 : decode cX12_pews 5 = .ok (.iaload, 1) := by decide +kernel
theorem dX12_pews_6 : decode cX12_pews 6 = .ok (.ireturn, 1) := by decide +kernel
theorem dX12_allPews_0 : decode cX12_allPews 0 = .ok (.iconst 1, 1) := by decide +kernel
theorem dX12_allPews_1 : decode cX12_allPews 1 = .ok (.aload_n 0, 1) := by decide +kernel
theorem dX12_allPews_2 : decode cX12_allPews 2 = .ok (.invokevirtual 74, 3) := by decide +kernel
theorem dX12_allPews_5 : decode cX12_allPews 5 = .ok (.ishl, 1) := by decide +kernel
theorem dX12_allPews_6 : decode cX12_allPews 6 = .ok (.iconst 1, 1) := by decide +kernel
theorem dX12_allPews_7 : decode cX12_allPews 7 = .ok (.isub, 1) := by decide +kernel
theorem dX12_allPews_8 : decode cX12_allPews 8 = .ok (.ireturn, 1) := by decide +kernel
theorem dX12_isHour_0 : decode cX12_isHour 0 = .ok (.aload_n 0, 1) := by decide +kernel
theorem dX12_isHour_1 : decode cX12_isHour 1 = .ok (.invokevirtual 78, 3) := by decide +kernel
theorem dX12_isHour_4 : decode cX12_isHour 4 = .ok (.ifCond .eq 20, 3) := by decide +kernel
theorem dX12_isHour_7 : decode cX12_isHour 7 = .ok (.lload_n 1, 1) := by decide +kernel
theorem dX12_isHour_8 : decode cX12_isHour 8 = .ok (.lconst 0, 1) := by decide +kernel
theorem dX12_isHour_9 : decode cX12_isHour 9 = .ok (.aload_n 0, 1) := by decide +kernel
theorem dX12_isHour_10 : decode cX12_isHour 10 = .ok (.invokevirtual 82, 3) := by decide +kernel
theorem dX12_isHour_13 : decode cX12_isHour 13 = .ok (.i2l, 1) := by decide +kernel
theorem dX12_isHour_14 : decode cX12_isHour 14 = .ok (.invokestatic 70, 3) := by decide +kernel
theorem dX12_isHour_17 : decode cX12_isHour 17 = .ok (.ifCond .eq 7, 3) := by decide +kernel
theorem dX12_isHour_20 : decode cX12_isHour 20 = .ok (.iconst 1, 1) := by decide +kernel
theorem dX12_isHour_21 : decode cX12_isHour 21 = .ok (.goto 4, 3) := by decide +kernel
theorem dX12_isHour_24 : decode cX12_isHour 24 = .ok (.iconst 0, 1) := by decide +kernel
theorem dX12_isHour_25 : decode cX12_isHour 25 = .ok (.ireturn, 1) := by decide +kernel
theorem dX12_isPew_0 : decode cX12_isPew 0 = .ok (.lload_n 1, 1) := by decide +kernel
theorem dX12_isPew_1 : decode cX12_isPew 1 = .ok (.lconst 0, 1) := by decide +kernel
theorem dX12_isPew_2 : decode cX12_isPew 2 = .ok (.aload_n 0, 1) := by decide +kernel
theorem dX12_isPew_3 : decode cX12_isPew 3 = .ok (.invokevirtual 74, 3) := by decide +kernel
theorem dX12_isPew_6 : decode cX12_isPew 6 = .ok (.iconst 1, 1) := by decide +kernel
theorem dX12_isPew_7 : decode cX12_isPew 7 = .ok (.isub, 1) := by decide +kernel
theorem dX12_isPew_8 : decode cX12_isPew 8 = .ok (.i2l, 1) := by decide +kernel
theorem dX12_isPew_9 : decode cX12_isPew 9 = .ok (.invokestatic 70, 3) := by decide +kernel
theorem dX12_isPew_12 : decode cX12_isPew 12 = .ok (.ireturn, 1) := by decide +kernel
theorem dX12_ruleOf_0 : decode cX12_ruleOf 0 = .ok (.aload_n 0, 1) := by decide +kernel
theorem dX12_ruleOf_1 : decode cX12_ruleOf 1 = .ok (.getfield 9, 3) := by decide +kernel
theorem dX12_ruleOf_4 : decode cX12_ruleOf 4 = .ok (.bipush 9, 2) := by decide +kernel
theorem dX12_ruleOf_6 : decode cX12_ruleOf 6 = .ok (.iconst 3, 1) := by decide +kernel
theorem dX12_ruleOf_7 : decode cX12_ruleOf 7 = .ok (.iload_n 1, 1) := by decide +kernel
theorem dX12_ruleOf_8 : decode cX12_ruleOf 8 = .ok (.imul, 1) := by decide +kernel
theorem dX12_ruleOf_9 : decode cX12_ruleOf 9 = .ok (.iadd, 1) := by decide +kernel
theorem dX12_ruleOf_10 : decode cX12_ruleOf 10 = .ok (.iload_n 2, 1) := by decide +kernel
theorem dX12_ruleOf_11 : decode cX12_ruleOf 11 = .ok (.iadd, 1) := by decide +kernel
theorem dX12_ruleOf_12 : decode cX12_ruleOf 12 = .ok (.iaload, 1) := by decide +kernel
theorem dX12_ruleOf_13 : decode cX12_ruleOf 13 = .ok (.ireturn, 1) := by decide +kernel
theorem dX12_feed_0 : decode cX12_feed 0 = .ok (.aload_n 0, 1) := by decide +kernel
theorem dX12_feed_1 : decode cX12_feed 1 = .ok (.getfield 85, 3) := by decide +kernel
theorem dX12_feed_4 : decode cX12_feed 4 = .ok (.bipush 20, 2) := by decide +kernel
theorem dX12_feed_6 : decode cX12_feed 6 = .ok (.iadd, 1) := by decide +kernel
theorem dX12_feed_7 : decode cX12_feed 7 = .ok (.sipush 600, 3) := by decide +kernel
theorem dX12_feed_10 : decode cX12_feed 10 = .ok (.if_icmp .le 5, 3) := by decide +kernel
theorem dX12_feed_13 : decode cX12_feed 13 = .ok (.iconst (-1), 1) := by decide +kernel
theorem dX12_feed_14 : decode cX12_feed 14 = .ok (.ireturn, 1) := by decide +kernel
theorem dX12_feed_15 : decode cX12_feed 15 = .ok (.aload_n 0, 1) := by decide +kernel
theorem dX12_feed_16 : decode cX12_feed 16 = .ok (.getfield 24, 3) := by decide +kernel
theorem dX12_feed_19 : decode cX12_feed 19 = .ok (.iconst 0, 1) := by decide +kernel
theorem dX12_feed_20 : decode cX12_feed 20 = .ok (.iload_n 1, 1) := by decide +kernel
theorem dX12_feed_21 : decode cX12_feed 21 = .ok (.iastore, 1) := by decide +kernel
theorem dX12_feed_22 : decode cX12_feed 22 = .ok (.aload_n 0, 1) := by decide +kernel
theorem dX12_feed_23 : decode cX12_feed 23 = .ok (.getfield 24, 3) := by decide +kernel
theorem dX12_feed_26 : decode cX12_feed 26 = .ok (.iconst 1, 1) := by decide +kernel
theorem dX12_feed_27 : decode cX12_feed 27 = .ok (.iload_n 2, 1) := by decide +kernel
theorem dX12_feed_28 : decode cX12_feed 28 = .ok (.iastore, 1) := by decide +kernel
theorem dX12_feed_29 : decode cX12_feed 29 = .ok (.aload_n 0, 1) := by decide +kernel
theorem dX12_feed_30 : decode cX12_feed 30 = .ok (.getfield 24, 3) := by decide +kernel
theorem dX12_feed_33 : decode cX12_feed 33 = .ok (.iconst 2, 1) := by decide +kernel
theorem dX12_feed_34 : decode cX12_feed 34 = .ok (.iload_n 3, 1) := by decide +kernel
theorem dX12_feed_35 : decode cX12_feed 35 = .ok (.iastore, 1) := by decide +kernel
theorem dX12_feed_36 : decode cX12_feed 36 = .ok (.aload_n 0, 1) := by decide +kernel
theorem dX12_feed_37 : decode cX12_feed 37 = .ok (.getfield 24, 3) := by decide +kernel
theorem dX12_feed_40 : decode cX12_feed 40 = .ok (.iconst 3, 1) := by decide +kernel
theorem dX12_feed_41 : decode cX12_feed 41 = .ok (.iload 4, 2) := by decide +kernel
theorem dX12_feed_43 : decode cX12_feed 43 = .ok (.iastore, 1) := by decide +kernel
theorem dX12_feed_44 : decode cX12_feed 44 = .ok (.aload_n 0, 1) := by decide +kernel
theorem dX12_feed_45 : decode cX12_feed 45 = .ok (.getfield 24, 3) := by decide +kernel
theorem dX12_feed_48 : decode cX12_feed 48 = .ok (.iconst 4, 1) := by decide +kernel
theorem dX12_feed_49 : decode cX12_feed 49 = .ok (.iload 5, 2) := by decide +kernel
theorem dX12_feed_51 : decode cX12_feed 51 = .ok (.iastore, 1) := by decide +kernel
theorem dX12_feed_52 : decode cX12_feed 52 = .ok (.iconst 0, 1) := by decide +kernel
theorem dX12_feed_53 : decode cX12_feed 53 = .ok (.istore 6, 2) := by decide +kernel
theorem dX12_feed_55 : decode cX12_feed 55 = .ok (.iload 6, 2) := by decide +kernel
theorem dX12_feed_57 : decode cX12_feed 57 = .ok (.bipush 20, 2) := by decide +kernel
theorem dX12_feed_59 : decode cX12_feed 59 = .ok (.if_icmp .ge 42, 3) := by decide +kernel
theorem dX12_feed_62 : decode cX12_feed 62 = .ok (.aload_n 0, 1) := by decide +kernel
theorem dX12_feed_63 : decode cX12_feed 63 = .ok (.getfield 20, 3) := by decide +kernel
theorem dX12_feed_66 : decode cX12_feed 66 = .ok (.aload_n 0, 1) := by decide +kernel
theorem dX12_feed_67 : decode cX12_feed 67 = .ok (.getfield 85, 3) := by decide +kernel
theorem dX12_feed_70 : decode cX12_feed 70 = .ok (.iload 6, 2) := by decide +kernel
theorem dX12_feed_72 : decode cX12_feed 72 = .ok (.iadd, 1) := by decide +kernel
theorem dX12_feed_73 : decode cX12_feed 73 = .ok (.aload_n 0, 1) := by decide +kernel
theorem dX12_feed_74 : decode cX12_feed 74 = .ok (.getfield 24, 3) := by decide +kernel
theorem dX12_feed_77 : decode cX12_feed 77 = .ok (.iload 6, 2) := by decide +kernel
theorem dX12_feed_79 : decode cX12_feed 79 = .ok (.iconst 4, 1) := by decide +kernel
theorem dX12_feed_80 : decode cX12_feed 80 = .ok (.idiv, 1) := by decide +kernel
theorem dX12_feed_81 : decode cX12_feed 81 = .ok (.iaload, 1) := by decide +kernel
theorem dX12_feed_82 : decode cX12_feed 82 = .ok (.bipush 24, 2) := by decide +kernel
theorem dX12_feed_84 : decode cX12_feed 84 = .ok (.bipush 8, 2) := by decide +kernel
theorem dX12_feed_86 : decode cX12_feed 86 = .ok (.iload 6, 2) := by decide +kernel
theorem dX12_feed_88 : decode cX12_feed 88 = .ok (.iconst 4, 1) := by decide +kernel
theorem dX12_feed_89 : decode cX12_feed 89 = .ok (.irem, 1) := by decide +kernel
theorem dX12_feed_90 : decode cX12_feed 90 = .ok (.imul, 1) := by decide +kernel
theorem dX12_feed_91 : decode cX12_feed 91 = .ok (.isub, 1) := by decide +kernel
theorem dX12_feed_92 : decode cX12_feed 92 = .ok (.ishr, 1) := by decide +kernel
theorem dX12_feed_93 : decode cX12_feed 93 = .ok (.i2b, 1) := by decide +kernel
theorem dX12_feed_94 : decode cX12_feed 94 = .ok (.bastore, 1) := by decide +kernel
theorem dX12_feed_95 : decode cX12_feed 95 = .ok (.iinc 6 1, 3) := by decide +kernel
theorem dX12_feed_98 : decode cX12_feed 98 = .ok (.goto (-43), 3) := by decide +kernel
theorem dX12_feed_101 : decode cX12_feed 101 = .ok (.aload_n 0, 1) := by decide +kernel
theorem dX12_feed_102 : decode cX12_feed 102 = .ok (.dup, 1) := by decide +kernel
theorem dX12_feed_103 : decode cX12_feed 103 = .ok (.getfield 85, 3) := by decide +kernel
theorem dX12_feed_106 : decode cX12_feed 106 = .ok (.bipush 20, 2) := by decide +kernel
theorem dX12_feed_108 : decode cX12_feed 108 = .ok (.iadd, 1) := by decide +kernel
theorem dX12_feed_109 : decode cX12_feed 109 = .ok (.putfield 85, 3) := by decide +kernel
theorem dX12_feed_112 : decode cX12_feed 112 = .ok (.aload_n 0, 1) := by decide +kernel
theorem dX12_feed_113 : decode cX12_feed 113 = .ok (.getfield 85, 3) := by decide +kernel
theorem dX12_feed_116 : decode cX12_feed 116 = .ok (.ireturn, 1) := by decide +kernel
theorem dX12_end_0 : decode cX12_end 0 = .ok (.iload_n 1, 1) := by decide +kernel
theorem dX12_end_1 : decode cX12_end 1 = .ok (.i2l, 1) := by decide +kernel
theorem dX12_end_2 : decode cX12_end 2 = .ok (.lconst 0, 1) := by decide +kernel
theorem dX12_end_3 : decode cX12_end 3 = .ok (.aload_n 0, 1) := by decide +kernel
theorem dX12_end_4 : decode cX12_end 4 = .ok (.getfield 85, 3) := by decide +kernel
theorem dX12_end_7 : decode cX12_end 7 = .ok (.i2l, 1) := by decide +kernel
theorem dX12_end_8 : decode cX12_end 8 = .ok (.invokestatic 70, 3) := by decide +kernel
theorem dX12_end_11 : decode cX12_end 11 = .ok (.ifCond .ne 5, 3) := by decide +kernel
theorem dX12_end_14 : decode cX12_end 14 = .ok (.iconst (-1), 1) := by decide +kernel
theorem dX12_end_15 : decode cX12_end 15 = .ok (.ireturn, 1) := by decide +kernel
theorem dX12_end_16 : decode cX12_end 16 = .ok (.aload_n 0, 1) := by decide +kernel
theorem dX12_end_17 : decode cX12_end 17 = .ok (.iload_n 1, 1) := by decide +kernel
theorem dX12_end_18 : decode cX12_end 18 = .ok (.putfield 85, 3) := by decide +kernel
theorem dX12_end_21 : decode cX12_end 21 = .ok (.iload_n 1, 1) := by decide +kernel
theorem dX12_end_22 : decode cX12_end 22 = .ok (.ireturn, 1) := by decide +kernel
theorem dX12_see_0 : decode cX12_see 0 = .ok (.iload_n 1, 1) := by decide +kernel
theorem dX12_see_1 : decode cX12_see 1 = .ok (.aload_n 0, 1) := by decide +kernel
theorem dX12_see_2 : decode cX12_see 2 = .ok (.getfield 88, 3) := by decide +kernel
theorem dX12_see_5 : decode cX12_see 5 = .ok (.if_icmp .ge 16, 3) := by decide +kernel
theorem dX12_see_8 : decode cX12_see 8 = .ok (.aload_n 0, 1) := by decide +kernel
theorem dX12_see_9 : decode cX12_see 9 = .ok (.getfield 20, 3) := by decide +kernel
theorem dX12_see_12 : decode cX12_see 12 = .ok (.iload_n 1, 1) := by decide +kernel
theorem dX12_see_13 : decode cX12_see 13 = .ok (.baload, 1) := by decide +kernel
theorem dX12_see_14 : decode cX12_see 14 = .ok (.sipush 255, 3) := by decide +kernel
theorem dX12_see_17 : decode cX12_see 17 = .ok (.iand, 1) := by decide +kernel
theorem dX12_see_18 : decode cX12_see 18 = .ok (.goto 4, 3) := by decide +kernel
theorem dX12_see_21 : decode cX12_see 21 = .ok (.iconst (-1), 1) := by decide +kernel
theorem dX12_see_22 : decode cX12_see 22 = .ok (.ireturn, 1) := by decide +kernel
theorem dX12_advance_0 : decode cX12_advance 0 = .ok (.aload_n 0, 1) := by decide +kernel
theorem dX12_advance_1 : decode cX12_advance 1 = .ok (.aload_n 0, 1) := by decide +kernel
theorem dX12_advance_2 : decode cX12_advance 2 = .ok (.getfield 91, 3) := by decide +kernel
theorem dX12_advance_5 : decode cX12_advance 5 = .ok (.invokevirtual 94, 3) := by decide +kernel
theorem dX12_advance_8 : decode cX12_advance 8 = .ok (.bipush 32, 2) := by decide +kernel
theorem dX12_advance_10 : decode cX12_advance 10 = .ok (.if_icmp .eq 16, 3) := by decide +kernel
theorem dX12_advance_13 : decode cX12_advance 13 = .ok (.aload_n 0, 1) := by decide +kernel
theorem dX12_advance_14 : decode cX12_advance 14 = .ok (.aload_n 0, 1) := by decide +kernel
theorem dX12_advance_15 : decode cX12_advance 15 = .ok (.getfield 91, 3) := by decide +kernel
theorem dX12_advance_18 : decode cX12_advance 18 = .ok (.invokevirtual 94, 3) := by decide +kernel
theorem dX12_advance_21 : decode cX12_advance 21 = .ok (.bipush 10, 2) := by decide +kernel
theorem dX12_advance_23 : decode cX12_advance 23 = .ok (.if_icmp .ne 16, 3) := by decide +kernel
theorem dX12_advance_26 : decode cX12_advance 26 = .ok (.aload_n 0, 1) := by decide +kernel
theorem dX12_advance_27 : decode cX12_advance 27 = .ok (.dup, 1) := by decide +kernel
theorem dX12_advance_28 : decode cX12_advance 28 = .ok (.getfield 91, 3) := by decide +kernel
theorem dX12_advance_31 : decode cX12_advance 31 = .ok (.iconst 1, 1) := by decide +kernel
theorem dX12_advance_32 : decode cX12_advance 32 = .ok (.iadd, 1) := by decide +kernel
theorem dX12_advance_33 : decode cX12_advance 33 = .ok (.putfield 91, 3) := by decide +kernel
theorem dX12_advance_36 : decode cX12_advance 36 = .ok (.goto (-36), 3) := by decide +kernel
theorem dX12_advance_39 : decode cX12_advance 39 = .ok (.aload_n 0, 1) := by decide +kernel
theorem dX12_advance_40 : decode cX12_advance 40 = .ok (.aload_n 0, 1) := by decide +kernel
theorem dX12_advance_41 : decode cX12_advance 41 = .ok (.getfield 91, 3) := by decide +kernel
theorem dX12_advance_44 : decode cX12_advance 44 = .ok (.putfield 98, 3) := by decide +kernel
theorem dX12_advance_47 : decode cX12_advance 47 = .ok (.aload_n 0, 1) := by decide +kernel
theorem dX12_advance_48 : decode cX12_advance 48 = .ok (.aload_n 0, 1) := by decide +kernel
theorem dX12_advance_49 : decode cX12_advance 49 = .ok (.getfield 91, 3) := by decide +kernel
theorem dX12_advance_52 : decode cX12_advance 52 = .ok (.invokevirtual 94, 3) := by decide +kernel
theorem dX12_advance_55 : decode cX12_advance 55 = .ok (.istore_n 1, 1) := by decide +kernel
theorem dX12_advance_56 : decode cX12_advance 56 = .ok (.iload_n 1, 1) := by decide +kernel
theorem dX12_advance_57 : decode cX12_advance 57 = .ok (.iconst (-1), 1) := by decide +kernel
theorem dX12_advance_58 : decode cX12_advance 58 = .ok (.if_icmp .ne 11, 3) := by decide +kernel
theorem dX12_advance_61 : decode cX12_advance 61 = .ok (.aload_n 0, 1) := by decide +kernel
theorem dX12_advance_62 : decode cX12_advance 62 = .ok (.iconst 0, 1) := by decide +kernel
theorem dX12_advance_63 : decode cX12_advance 63 = .ok (.putfield 101, 3) := by decide +kernel
theorem dX12_advance_66 : decode cX12_advance 66 = .ok (.goto 173, 3) := by decide +kernel
theorem dX12_advance_69 : decode cX12_advance 69 = .ok (.iload_n 1, 1) := by decide +kernel
theorem dX12_advance_70 : decode cX12_advance 70 = .ok (.i2l, 1) := by decide +kernel
theorem dX12_advance_71 : decode cX12_advance 71 = .ok (.ldc2_w 104, 3) := by decide +kernel
theorem dX12_advance_74 : decode cX12_advance 74 = .ok (.ldc2_w 106, 3) := by decide +kernel
theorem dX12_advance_77 : decode cX12_advance 77 = .ok (.invokestatic 70, 3) := by decide +kernel
theorem dX12_advance_80 : decode cX12_advance 80 = .ok (.ifCond .eq 45, 3) := by decide +kernel
theorem dX12_advance_83 : decode cX12_advance 83 = .ok (.aload_n 0, 1) := by decide +kernel
theorem dX12_advance_84 : decode cX12_advance 84 = .ok (.aload_n 0, 1) := by decide +kernel
theorem dX12_advance_85 : decode cX12_advance 85 = .ok (.getfield 91, 3) := by decide +kernel
theorem dX12_advance_88 : decode cX12_advance 88 = .ok (.invokevirtual 94, 3) := by decide +kernel
theorem dX12_advance_91 : decode cX12_advance 91 = .ok (.i2l, 1) := by decide +kernel
theorem dX12_advance_92 : decode cX12_advance 92 = .ok (.ldc2_w 104, 3) := by decide +kernel
theorem dX12_advance_95 : decode cX12_advance 95 = .ok (.ldc2_w 106, 3) := by decide +kernel
theorem dX12_advance_98 : decode cX12_advance 98 = .ok (.invokestatic 70, 3) := by decide +kernel
theorem dX12_advance_101 : decode cX12_advance 101 = .ok (.ifCond .eq 16, 3) := by decide +kernel
theorem dX12_advance_104 : decode cX12_advance 104 = .ok (.aload_n 0, 1) := by decide +kernel
theorem dX12_advance_105 : decode cX12_advance 105 = .ok (.dup, 1) := by decide +kernel
theorem dX12_advance_106 : decode cX12_advance 106 = .ok (.getfield 91, 3) := by decide +kernel
theorem dX12_advance_109 : decode cX12_advance 109 = .ok (.iconst 1, 1) := by decide +kernel
theorem dX12_advance_110 : decode cX12_advance 110 = .ok (.iadd, 1) := by decide +kernel
theorem dX12_advance_111 : decode cX12_advance 111 = .ok (.putfield 91, 3) := by decide +kernel
theorem dX12_advance_114 : decode cX12_advance 114 = .ok (.goto (-31), 3) := by decide +kernel
theorem dX12_advance_117 : decode cX12_advance 117 = .ok (.aload_n 0, 1) := by decide +kernel
theorem dX12_advance_118 : decode cX12_advance 118 = .ok (.iconst 1, 1) := by decide +kernel
theorem dX12_advance_119 : decode cX12_advance 119 = .ok (.putfield 101, 3) := by decide +kernel
theorem dX12_advance_122 : decode cX12_advance 122 = .ok (.goto 117, 3) := by decide +kernel
theorem dX12_advance_125 : decode cX12_advance 125 = .ok (.iload_n 1, 1) := by decide +kernel
theorem dX12_advance_126 : decode cX12_advance 126 = .ok (.i2l, 1) := by decide +kernel
theorem dX12_advance_127 : decode cX12_advance 127 = .ok (.ldc2_w 108, 3) := by decide +kernel
theorem dX12_advance_130 : decode cX12_advance 130 = .ok (.ldc2_w 110, 3) := by decide +kernel
theorem dX12_advance_133 : decode cX12_advance 133 = .ok (.invokestatic 70, 3) := by decide +kernel
theorem dX12_advance_136 : decode cX12_advance 136 = .ok (.ifCond .eq 78, 3) := by decide +kernel
theorem dX12_advance_139 : decode cX12_advance 139 = .ok (.aload_n 0, 1) := by decide +kernel
theorem dX12_advance_140 : decode cX12_advance 140 = .ok (.iconst 0, 1) := by decide +kernel
theorem dX12_advance_141 : decode cX12_advance 141 = .ok (.putfield 112, 3) := by decide +kernel
theorem dX12_advance_144 : decode cX12_advance 144 = .ok (.aload_n 0, 1) := by decide +kernel
theorem dX12_advance_145 : decode cX12_advance 145 = .ok (.aload_n 0, 1) := by decide +kernel
theorem dX12_advance_146 : decode cX12_advance 146 = .ok (.getfield 91, 3) := by decide +kernel
theorem dX12_advance_149 : decode cX12_advance 149 = .ok (.invokevirtual 94, 3) := by decide +kernel
theorem dX12_advance_152 : decode cX12_advance 152 = .ok (.i2l, 1) := by decide +kernel
theorem dX12_advance_153 : decode cX12_advance 153 = .ok (.ldc2_w 108, 3) := by decide +kernel
theorem dX12_advance_156 : decode cX12_advance 156 = .ok (.ldc2_w 110, 3) := by decide +kernel
theorem dX12_advance_159 : decode cX12_advance 159 = .ok (.invokestatic 70, 3) := by decide +kernel
theorem dX12_advance_162 : decode cX12_advance 162 = .ok (.ifCond .eq 44, 3) := by decide +kernel
theorem dX12_advance_165 : decode cX12_advance 165 = .ok (.aload_n 0, 1) := by decide +kernel
theorem dX12_advance_166 : decode cX12_advance 166 = .ok (.ldc 115, 2) := by decide +kernel
theorem dX12_advance_168 : decode cX12_advance 168 = .ok (.bipush 10, 2) := by decide +kernel
theorem dX12_advance_170 : decode cX12_advance 170 = .ok (.aload_n 0, 1) := by decide +kernel
theorem dX12_advance_171 : decode cX12_advance 171 = .ok (.getfield 112, 3) := by decide +kernel
theorem dX12_advance_174 : decode cX12_advance 174 = .ok (.imul, 1) := by decide +kernel
theorem dX12_advance_175 : decode cX12_advance 175 = .ok (.aload_n 0, 1) := by decide +kernel
theorem dX12_advance_176 : decode cX12_advance 176 = .ok (.aload_n 0, 1) := by decide +kernel
theorem dX12_advance_177 : decode cX12_advance 177 = .ok (.getfield 91, 3) := by decide +kernel
theorem dX12_advance_180 : decode cX12_advance 180 = .ok (.invokevirtual 94, 3) := by decide +kernel
theorem dX12_advance_183 : decode cX12_advance 183 = .ok (.iadd, 1) := by decide +kernel
theorem dX12_advance_184 : decode cX12_advance 184 = .ok (.bipush 48, 2) := by decide +kernel
theorem dX12_advance_186 : decode cX12_advance 186 = .ok (.isub, 1) := by decide +kernel
theorem dX12_advance_187 : decode cX12_advance 187 = .ok (.invokestatic 116, 3) := by decide +kernel
theorem dX12_advance_190 : decode cX12_advance 190 = .ok (.putfield 112, 3) := by decide +kernel
theorem dX12_advance_193 : decode cX12_advance 193 = .ok (.aload_n 0, 1) := by decide +kernel
theorem dX12_advance_194 : decode cX12_advance 194 = .ok (.dup, 1) := by decide +kernel
theorem dX12_advance_195 : decode cX12_advance 195 = .ok (.getfield 91, 3) := by decide +kernel
theorem dX12_advance_198 : decode cX12_advance 198 = .ok (.iconst 1, 1) := by decide +kernel
theorem dX12_advance_199 : decode cX12_advance 199 = .ok (.iadd, 1) := by decide +kernel
theorem dX12_advance_200 : decode cX12_advance 200 = .ok (.putfield 91, 3) := by decide +kernel
theorem dX12_advance_203 : decode cX12_advance 203 = .ok (.goto (-59), 3) := by decide +kernel
theorem dX12_advance_206 : decode cX12_advance 206 = .ok (.aload_n 0, 1) := by decide +kernel
theorem dX12_advance_207 : decode cX12_advance 207 = .ok (.iconst 2, 1) := by decide +kernel
theorem dX12_advance_208 : decode cX12_advance 208 = .ok (.putfield 101, 3) := by decide +kernel
theorem dX12_advance_211 : decode cX12_advance 211 = .ok (.goto 28, 3) := by decide +kernel
theorem dX12_advance_214 : decode cX12_advance 214 = .ok (.aload_n 0, 1) := by decide +kernel
theorem dX12_advance_215 : decode cX12_advance 215 = .ok (.iload_n 1, 1) := by decide +kernel
theorem dX12_advance_216 : decode cX12_advance 216 = .ok (.bipush 59, 2) := by decide +kernel
theorem dX12_advance_218 : decode cX12_advance 218 = .ok (.if_icmp .ne 7, 3) := by decide +kernel
theorem dX12_advance_221 : decode cX12_advance 221 = .ok (.iconst 3, 1) := by decide +kernel
theorem dX12_advance_222 : decode cX12_advance 222 = .ok (.goto 4, 3) := by decide +kernel
theorem dX12_advance_225 : decode cX12_advance 225 = .ok (.iconst 4, 1) := by decide +kernel
theorem dX12_advance_226 : decode cX12_advance 226 = .ok (.putfield 101, 3) := by decide +kernel
theorem dX12_advance_229 : decode cX12_advance 229 = .ok (.aload_n 0, 1) := by decide +kernel
theorem dX12_advance_230 : decode cX12_advance 230 = .ok (.dup, 1) := by decide +kernel
theorem dX12_advance_231 : decode cX12_advance 231 = .ok (.getfield 91, 3) := by decide +kernel
theorem dX12_advance_234 : decode cX12_advance 234 = .ok (.iconst 1, 1) := by decide +kernel
theorem dX12_advance_235 : decode cX12_advance 235 = .ok (.iadd, 1) := by decide +kernel
theorem dX12_advance_236 : decode cX12_advance 236 = .ok (.putfield 91, 3) := by decide +kernel
theorem dX12_advance_239 : decode cX12_advance 239 = .ok (.return_, 1) := by decide +kernel
theorem dX12_good_0 : decode cX12_good 0 = .ok (.aload_n 0, 1) := by decide +kernel
theorem dX12_good_1 : decode cX12_good 1 = .ok (.getfield 122, 3) := by decide +kernel
theorem dX12_good_4 : decode cX12_good 4 = .ok (.ifCond .ne 7, 3) := by decide +kernel
theorem dX12_good_7 : decode cX12_good 7 = .ok (.iconst 1, 1) := by decide +kernel
theorem dX12_good_8 : decode cX12_good 8 = .ok (.goto 4, 3) := by decide +kernel
theorem dX12_good_11 : decode cX12_good 11 = .ok (.iconst 0, 1) := by decide +kernel
theorem dX12_good_12 : decode cX12_good 12 = .ok (.ireturn, 1) := by decide +kernel
theorem dX12_errs_0 : decode cX12_errs 0 = .ok (.aload_n 0, 1) := by decide +kernel
theorem dX12_errs_1 : decode cX12_errs 1 = .ok (.invokevirtual 125, 3) := by decide +kernel
theorem dX12_errs_4 : decode cX12_errs 4 = .ok (.ifCond .ne 4, 3) := by decide +kernel
theorem dX12_errs_7 : decode cX12_errs 7 = .ok (.return_, 1) := by decide +kernel
theorem dX12_errs_8 : decode cX12_errs 8 = .ok (.aload_n 0, 1) := by decide +kernel
theorem dX12_errs_9 : decode cX12_errs 9 = .ok (.iload_n 1, 1) := by decide +kernel
theorem dX12_errs_10 : decode cX12_errs 10 = .ok (.putfield 122, 3) := by decide +kernel
theorem dX12_errs_13 : decode cX12_errs 13 = .ok (.aload_n 0, 1) := by decide +kernel
theorem dX12_errs_14 : decode cX12_errs 14 = .ok (.aload_n 0, 1) := by decide +kernel
theorem dX12_errs_15 : decode cX12_errs 15 = .ok (.getfield 98, 3) := by decide +kernel
theorem dX12_errs_18 : decode cX12_errs 18 = .ok (.putfield 27, 3) := by decide +kernel
theorem dX12_errs_21 : decode cX12_errs 21 = .ok (.return_, 1) := by decide +kernel
theorem dX12_is_0 : decode cX12_is 0 = .ok (.aload_n 0, 1) := by decide +kernel
theorem dX12_is_1 : decode cX12_is 1 = .ok (.invokevirtual 125, 3) := by decide +kernel
theorem dX12_is_4 : decode cX12_is 4 = .ok (.ifCond .eq 31, 3) := by decide +kernel
theorem dX12_is_7 : decode cX12_is 7 = .ok (.aload_n 0, 1) := by decide +kernel
theorem dX12_is_8 : decode cX12_is 8 = .ok (.getfield 101, 3) := by decide +kernel
theorem dX12_is_11 : decode cX12_is 11 = .ok (.iconst 1, 1) := by decide +kernel
theorem dX12_is_12 : decode cX12_is 12 = .ok (.if_icmp .ne 23, 3) := by decide +kernel
theorem dX12_is_15 : decode cX12_is 15 = .ok (.aload_n 0, 1) := by decide +kernel
theorem dX12_is_16 : decode cX12_is 16 = .ok (.getfield 91, 3) := by decide +kernel
theorem dX12_is_19 : decode cX12_is 19 = .ok (.aload_n 0, 1) := by decide +kernel
theorem dX12_is_20 : decode cX12_is 20 = .ok (.getfield 98, 3) := by decide +kernel
theorem dX12_is_23 : decode cX12_is 23 = .ok (.isub, 1) := by decide +kernel
theorem dX12_is_24 : decode cX12_is 24 = .ok (.aload_n 1, 1) := by decide +kernel
theorem dX12_is_25 : decode cX12_is 25 = .ok (.invokevirtual 128, 3) := by decide +kernel
theorem dX12_is_28 : decode cX12_is 28 = .ok (.if_icmp .ne 7, 3) := by decide +kernel
theorem dX12_is_31 : decode cX12_is 31 = .ok (.iconst 1, 1) := by decide +kernel
theorem dX12_is_32 : decode cX12_is 32 = .ok (.goto 4, 3) := by decide +kernel
theorem dX12_is_35 : decode cX12_is 35 = .ok (.iconst 0, 1) := by decide +kernel
theorem dX12_is_36 : decode cX12_is 36 = .ok (.istore_n 2, 1) := by decide +kernel
theorem dX12_is_37 : decode cX12_is 37 = .ok (.iconst 0, 1) := by decide +kernel
theorem dX12_is_38 : decode cX12_is 38 = .ok (.istore_n 3, 1) := by decide +kernel
theorem dX12_is_39 : decode cX12_is 39 = .ok (.iload_n 3, 1) := by decide +kernel
theorem dX12_is_40 : decode cX12_is 40 = .ok (.aload_n 1, 1) := by decide +kernel
theorem dX12_is_41 : decode cX12_is 41 = .ok (.invokevirtual 128, 3) := by decide +kernel
theorem dX12_is_44 : decode cX12_is 44 = .ok (.if_icmp .ge 38, 3) := by decide +kernel
theorem dX12_is_47 : decode cX12_is 47 = .ok (.iload_n 2, 1) := by decide +kernel
theorem dX12_is_48 : decode cX12_is 48 = .ok (.ifCond .eq 34, 3) := by decide +kernel
theorem dX12_is_51 : decode cX12_is 51 = .ok (.aload_n 0, 1) := by decide +kernel
theorem dX12_is_52 : decode cX12_is 52 = .ok (.getfield 20, 3) := by decide +kernel
theorem dX12_is_55 : decode cX12_is 55 = .ok (.aload_n 0, 1) := by decide +kernel
theorem dX12_is_56 : decode cX12_is 56 = .ok (.getfield 98, 3) := by decide +kernel
theorem dX12_is_59 : decode cX12_is 59 = .ok (.iload_n 3, 1) := by decide +kernel
theorem dX12_is_60 : decode cX12_is 60 = .ok (.iadd, 1) := by decide +kernel
theorem dX12_is_61 : decode cX12_is 61 = .ok (.baload, 1) := by decide +kernel
theorem dX12_is_62 : decode cX12_is 62 = .ok (.aload_n 1, 1) := by decide +kernel
theorem dX12_is_63 : decode cX12_is 63 = .ok (.iload_n 3, 1) := by decide +kernel
theorem dX12_is_64 : decode cX12_is 64 = .ok (.invokevirtual 133, 3) := by decide +kernel
theorem dX12_is_67 : decode cX12_is 67 = .ok (.if_icmp .ne 7, 3) := by decide +kernel
theorem dX12_is_70 : decode cX12_is 70 = .ok (.iconst 1, 1) := by decide +kernel
theorem dX12_is_71 : decode cX12_is 71 = .ok (.goto 4, 3) := by decide +kernel
theorem dX12_is_74 : decode cX12_is 74 = .ok (.iconst 0, 1) := by decide +kernel
theorem dX12_is_75 : decode cX12_is 75 = .ok (.istore_n 2, 1) := by decide +kernel
theorem dX12_is_76 : decode cX12_is 76 = .ok (.iinc 3 1, 3) := by decide +kernel
theorem dX12_is_79 : decode cX12_is 79 = .ok (.goto (-40), 3) := by decide +kernel
theorem dX12_is_82 : decode cX12_is 82 = .ok (.iload_n 2, 1) := by decide +kernel
theorem dX12_is_83 : decode cX12_is 83 = .ok (.ireturn, 1) := by decide +kernel
theorem dX12_takes_0 : decode cX12_takes 0 = .ok (.aload_n 0, 1) := by decide +kernel
theorem dX12_takes_1 : decode cX12_takes 1 = .ok (.aload_n 1, 1) := by decide +kernel
theorem dX12_takes_2 : decode cX12_takes 2 = .ok (.invokevirtual 137, 3) := by decide +kernel
theorem dX12_takes_5 : decode cX12_takes 5 = .ok (.istore_n 2, 1) := by decide +kernel
theorem dX12_takes_6 : decode cX12_takes 6 = .ok (.iload_n 2, 1) := by decide +kernel
theorem dX12_takes_7 : decode cX12_takes 7 = .ok (.ifCond .eq 7, 3) := by decide +kernel
theorem dX12_takes_10 : decode cX12_takes 10 = .ok (.aload_n 0, 1) := by decide +kernel
theorem dX12_takes_11 : decode cX12_takes 11 = .ok (.invokevirtual 141, 3) := by decide +kernel
theorem dX12_takes_14 : decode cX12_takes 14 = .ok (.iload_n 2, 1) := by decide +kernel
theorem dX12_takes_15 : decode cX12_takes 15 = .ok (.ireturn, 1) := by decide +kernel
theorem dX12_expects_0 : decode cX12_expects 0 = .ok (.aload_n 0, 1) := by decide +kernel
theorem dX12_expects_1 : decode cX12_expects 1 = .ok (.aload_n 1, 1) := by decide +kernel
theorem dX12_expects_2 : decode cX12_expects 2 = .ok (.invokevirtual 144, 3) := by decide +kernel
theorem dX12_expects_5 : decode cX12_expects 5 = .ok (.ifCond .ne 8, 3) := by decide +kernel
theorem dX12_expects_8 : decode cX12_expects 8 = .ok (.aload_n 0, 1) := by decide +kernel
theorem dX12_expects_9 : decode cX12_expects 9 = .ok (.iconst 1, 1) := by decide +kernel
theorem dX12_expects_10 : decode cX12_expects 10 = .ok (.invokevirtual 147, 3) := by decide +kernel
theorem dX12_expects_13 : decode cX12_expects 13 = .ok (.return_, 1) := by decide +kernel
theorem dX12_number_0 : decode cX12_number 0 = .ok (.aload_n 0, 1) := by decide +kernel
theorem dX12_number_1 : decode cX12_number 1 = .ok (.invokevirtual 125, 3) := by decide +kernel
theorem dX12_number_4 : decode cX12_number 4 = .ok (.ifCond .eq 16, 3) := by decide +kernel
theorem dX12_number_7 : decode cX12_number 7 = .ok (.aload_n 0, 1) := by decide +kernel
theorem dX12_number_8 : decode cX12_number 8 = .ok (.getfield 101, 3) := by decide +kernel
theorem dX12_number_11 : decode cX12_number 11 = .ok (.iconst 2, 1) := by decide +kernel
theorem dX12_number_12 : decode cX12_number 12 = .ok (.if_icmp .eq 8, 3) := by decide +kernel
theorem dX12_number_15 : decode cX12_number 15 = .ok (.aload_n 0, 1) := by decide +kernel
theorem dX12_number_16 : decode cX12_number 16 = .ok (.iconst 1, 1) := by decide +kernel
theorem dX12_number_17 : decode cX12_number 17 = .ok (.invokevirtual 147, 3) := by decide +kernel
theorem dX12_number_20 : decode cX12_number 20 = .ok (.aload_n 0, 1) := by decide +kernel
theorem dX12_number_21 : decode cX12_number 21 = .ok (.invokevirtual 125, 3) := by decide +kernel
theorem dX12_number_24 : decode cX12_number 24 = .ok (.ifCond .eq 23, 3) := by decide +kernel
theorem dX12_number_27 : decode cX12_number 27 = .ok (.aload_n 0, 1) := by decide +kernel
theorem dX12_number_28 : decode cX12_number 28 = .ok (.getfield 112, 3) := by decide +kernel
theorem dX12_number_31 : decode cX12_number 31 = .ok (.i2l, 1) := by decide +kernel
theorem dX12_number_32 : decode cX12_number 32 = .ok (.iload_n 1, 1) := by decide +kernel
theorem dX12_number_33 : decode cX12_number 33 = .ok (.i2l, 1) := by decide +kernel
theorem dX12_number_34 : decode cX12_number 34 = .ok (.iload_n 2, 1) := by decide +kernel
theorem dX12_number_35 : decode cX12_number 35 = .ok (.i2l, 1) := by decide +kernel
theorem dX12_number_36 : decode cX12_number 36 = .ok (.invokestatic 70, 3) := by decide +kernel
theorem dX12_number_39 : decode cX12_number 39 = .ok (.ifCond .ne 8, 3) := by decide +kernel
theorem dX12_number_42 : decode cX12_number 42 = .ok (.aload_n 0, 1) := by decide +kernel
theorem dX12_number_43 : decode cX12_number 43 = .ok (.iconst 2, 1) := by decide +kernel
theorem dX12_number_44 : decode cX12_number 44 = .ok (.invokevirtual 147, 3) := by decide +kernel
theorem dX12_number_47 : decode cX12_number 47 = .ok (.aload_n 0, 1) := by decide +kernel
theorem dX12_number_48 : decode cX12_number 48 = .ok (.invokevirtual 125, 3) := by decide +kernel
theorem dX12_number_51 : decode cX12_number 51 = .ok (.ifCond .ne 5, 3) := by decide +kernel
theorem dX12_number_54 : decode cX12_number 54 = .ok (.iconst 0, 1) := by decide +kernel
theorem dX12_number_55 : decode cX12_number 55 = .ok (.ireturn, 1) := by decide +kernel
theorem dX12_number_56 : decode cX12_number 56 = .ok (.aload_n 0, 1) := by decide +kernel
theorem dX12_number_57 : decode cX12_number 57 = .ok (.getfield 112, 3) := by decide +kernel
theorem dX12_number_60 : decode cX12_number 60 = .ok (.istore_n 3, 1) := by decide +kernel
theorem dX12_number_61 : decode cX12_number 61 = .ok (.aload_n 0, 1) := by decide +kernel
theorem dX12_number_62 : decode cX12_number 62 = .ok (.invokevirtual 141, 3) := by decide +kernel
theorem dX12_number_65 : decode cX12_number 65 = .ok (.iload_n 3, 1) := by decide +kernel
theorem dX12_number_66 : decode cX12_number 66 = .ok (.ireturn, 1) := by decide +kernel
theorem dX12_toldBy_0 : decode cX12_toldBy 0 = .ok (.aload_n 0, 1) := by decide +kernel
theorem dX12_toldBy_1 : decode cX12_toldBy 1 = .ok (.aload_n 1, 1) := by decide +kernel
theorem dX12_toldBy_2 : decode cX12_toldBy 2 = .ok (.invokevirtual 151, 3) := by decide +kernel
theorem dX12_toldBy_5 : decode cX12_toldBy 5 = .ok (.aload_n 0, 1) := by decide +kernel
theorem dX12_toldBy_6 : decode cX12_toldBy 6 = .ok (.iload_n 2, 1) := by decide +kernel
theorem dX12_toldBy_7 : decode cX12_toldBy 7 = .ok (.iload_n 3, 1) := by decide +kernel
theorem dX12_toldBy_8 : decode cX12_toldBy 8 = .ok (.invokevirtual 155, 3) := by decide +kernel
theorem dX12_toldBy_11 : decode cX12_toldBy 11 = .ok (.ireturn, 1) := by decide +kernel
theorem dX12_fault_0 : decode cX12_fault 0 = .ok (.iload_n 1, 1) := by decide +kernel
theorem dX12_fault_1 : decode cX12_fault 1 = .ok (.ifCond .ne 10, 3) := by decide +kernel
theorem dX12_fault_4 : decode cX12_fault 4 = .ok (.aload_n 0, 1) := by decide +kernel
theorem dX12_fault_5 : decode cX12_fault 5 = .ok (.getfield 122, 3) := by decide +kernel
theorem dX12_fault_8 : decode cX12_fault 8 = .ok (.goto 16, 3) := by decide +kernel
theorem dX12_fault_11 : decode cX12_fault 11 = .ok (.iload_n 1, 1) := by decide +kernel
theorem dX12_fault_12 : decode cX12_fault 12 = .ok (.iconst 1, 1) := by decide +kernel
theorem dX12_fault_13 : decode cX12_fault 13 = .ok (.if_icmp .ne 10, 3) := by decide +kernel
theorem dX12_fault_16 : decode cX12_fault 16 = .ok (.aload_n 0, 1) := by decide +kernel
theorem dX12_fault_17 : decode cX12_fault 17 = .ok (.getfield 27, 3) := by decide +kernel
theorem dX12_fault_20 : decode cX12_fault 20 = .ok (.goto 4, 3) := by decide +kernel
theorem dX12_fault_23 : decode cX12_fault 23 = .ok (.iconst (-1), 1) := by decide +kernel
theorem dX12_fault_24 : decode cX12_fault 24 = .ok (.ireturn, 1) := by decide +kernel
theorem dX12_readFirst_0 : decode cX12_readFirst 0 = .ok (.aload_n 0, 1) := by decide +kernel
theorem dX12_readFirst_1 : decode cX12_readFirst 1 = .ok (.ldc 158, 2) := by decide +kernel
theorem dX12_readFirst_3 : decode cX12_readFirst 3 = .ok (.invokevirtual 151, 3) := by decide +kernel
theorem dX12_readFirst_6 : decode cX12_readFirst 6 = .ok (.aload_n 0, 1) := by decide +kernel
theorem dX12_readFirst_7 : decode cX12_readFirst 7 = .ok (.getfield 31, 3) := by decide +kernel
theorem dX12_readFirst_10 : decode cX12_readFirst 10 = .ok (.iconst 0, 1) := by decide +kernel
theorem dX12_readFirst_11 : decode cX12_readFirst 11 = .ok (.aload_n 0, 1) := by decide +kernel
theorem dX12_readFirst_12 : decode cX12_readFirst 12 = .ok (.ldc 160, 2) := by decide +kernel
theorem dX12_readFirst_14 : decode cX12_readFirst 14 = .ok (.iconst 1, 1) := by decide +kernel
theorem dX12_readFirst_15 : decode cX12_readFirst 15 = .ok (.bipush 12, 2) := by decide +kernel
theorem dX12_readFirst_17 : decode cX12_readFirst 17 = .ok (.invokevirtual 161, 3) := by decide +kernel
theorem dX12_readFirst_20 : decode cX12_readFirst 20 = .ok (.iastore, 1) := by decide +kernel
theorem dX12_readFirst_21 : decode cX12_readFirst 21 = .ok (.aload_n 0, 1) := by decide +kernel
theorem dX12_readFirst_22 : decode cX12_readFirst 22 = .ok (.getfield 31, 3) := by decide +kernel
theorem dX12_readFirst_25 : decode cX12_readFirst 25 = .ok (.iconst 1, 1) := by decide +kernel
theorem dX12_readFirst_26 : decode cX12_readFirst 26 = .ok (.aload_n 0, 1) := by decide +kernel
theorem dX12_readFirst_27 : decode cX12_readFirst 27 = .ok (.ldc 165, 2) := by decide +kernel
theorem dX12_readFirst_29 : decode cX12_readFirst 29 = .ok (.iconst 0, 1) := by decide +kernel
theorem dX12_readFirst_30 : decode cX12_readFirst 30 = .ok (.iconst 3, 1) := by decide +kernel
theorem dX12_readFirst_31 : decode cX12_readFirst 31 = .ok (.invokevirtual 161, 3) := by decide +kernel
theorem dX12_readFirst_34 : decode cX12_readFirst 34 = .ok (.iastore, 1) := by decide +kernel
theorem dX12_readFirst_35 : decode cX12_readFirst 35 = .ok (.aload_n 0, 1) := by decide +kernel
theorem dX12_readFirst_36 : decode cX12_readFirst 36 = .ok (.getfield 31, 3) := by decide +kernel
theorem dX12_readFirst_39 : decode cX12_readFirst 39 = .ok (.iconst 2, 1) := by decide +kernel
theorem dX12_readFirst_40 : decode cX12_readFirst 40 = .ok (.aload_n 0, 1) := by decide +kernel
theorem dX12_readFirst_41 : decode cX12_readFirst 41 = .ok (.ldc 167, 2) := by decide +kernel
theorem dX12_readFirst_43 : decode cX12_readFirst 43 = .ok (.iconst 0, 1) := by decide +kernel
theorem dX12_readFirst_44 : decode cX12_readFirst 44 = .ok (.bipush 10, 2) := by decide +kernel
theorem dX12_readFirst_46 : decode cX12_readFirst 46 = .ok (.invokevirtual 161, 3) := by decide +kernel
theorem dX12_readFirst_49 : decode cX12_readFirst 49 = .ok (.iastore, 1) := by decide +kernel
theorem dX12_readFirst_50 : decode cX12_readFirst 50 = .ok (.return_, 1) := by decide +kernel
theorem dX12_readPew_0 : decode cX12_readPew 0 = .ok (.bipush 9, 2) := by decide +kernel
theorem dX12_readPew_2 : decode cX12_readPew 2 = .ok (.iconst 3, 1) := by decide +kernel
theorem dX12_readPew_3 : decode cX12_readPew 3 = .ok (.aload_n 0, 1) := by decide +kernel
theorem dX12_readPew_4 : decode cX12_readPew 4 = .ok (.getfield 31, 3) := by decide +kernel
theorem dX12_readPew_7 : decode cX12_readPew 7 = .ok (.iconst 3, 1) := by decide +kernel
theorem dX12_readPew_8 : decode cX12_readPew 8 = .ok (.iaload, 1) := by decide +kernel
theorem dX12_readPew_9 : decode cX12_readPew 9 = .ok (.imul, 1) := by decide +kernel
theorem dX12_readPew_10 : decode cX12_readPew 10 = .ok (.iadd, 1) := by decide +kernel
theorem dX12_readPew_11 : decode cX12_readPew 11 = .ok (.istore_n 1, 1) := by decide +kernel
theorem dX12_readPew_12 : decode cX12_readPew 12 = .ok (.aload_n 0, 1) := by decide +kernel
theorem dX12_readPew_13 : decode cX12_readPew 13 = .ok (.ldc 169, 2) := by decide +kernel
theorem dX12_readPew_15 : decode cX12_readPew 15 = .ok (.invokevirtual 144, 3) := by decide +kernel
theorem dX12_readPew_18 : decode cX12_readPew 18 = .ok (.ifCond .eq 13, 3) := by decide +kernel
theorem dX12_readPew_21 : decode cX12_readPew 21 = .ok (.aload_n 0, 1) := by decide +kernel
theorem dX12_readPew_22 : decode cX12_readPew 22 = .ok (.getfield 31, 3) := by decide +kernel
theorem dX12_readPew_25 : decode cX12_readPew 25 = .ok (.iload_n 1, 1) := by decide +kernel
theorem dX12_readPew_26 : decode cX12_readPew 26 = .ok (.iconst 0, 1) := by decide +kernel
theorem dX12_readPew_27 : decode cX12_readPew 27 = .ok (.iastore, 1) := by decide +kernel
theorem dX12_readPew_28 : decode cX12_readPew 28 = .ok (.goto 150, 3) := by decide +kernel
theorem dX12_readPew_31 : decode cX12_readPew 31 = .ok (.aload_n 0, 1) := by decide +kernel
theorem dX12_readPew_32 : decode cX12_readPew 32 = .ok (.ldc 171, 2) := by decide +kernel
theorem dX12_readPew_34 : decode cX12_readPew 34 = .ok (.invokevirtual 144, 3) := by decide +kernel
theorem dX12_readPew_37 : decode cX12_readPew 37 = .ok (.ifCond .eq 13, 3) := by decide +kernel
theorem dX12_readPew_40 : decode cX12_readPew 40 = .ok (.aload_n 0, 1) := by decide +kernel
theorem dX12_readPew_41 : decode cX12_readPew 41 = .ok (.getfield 31, 3) := by decide +kernel
theorem dX12_readPew_44 : decode cX12_readPew 44 = .ok (.iload_n 1, 1) := by decide +kernel
theorem dX12_readPew_45 : decode cX12_readPew 45 = .ok (.iconst 1, 1) := by decide +kernel
theorem dX12_readPew_46 : decode cX12_readPew 46 = .ok (.iastore, 1) := by decide +kernel
theorem dX12_readPew_47 : decode cX12_readPew 47 = .ok (.goto 131, 3) := by decide +kernel
theorem dX12_readPew_50 : decode cX12_readPew 50 = .ok (.aload_n 0, 1) := by decide +kernel
theorem dX12_readPew_51 : decode cX12_readPew 51 = .ok (.ldc 173, 2) := by decide +kernel
theorem dX12_readPew_53 : decode cX12_readPew 53 = .ok (.invokevirtual 144, 3) := by decide +kernel
theorem dX12_readPew_56 : decode cX12_readPew 56 = .ok (.ifCond .eq 13, 3) := by decide +kernel
theorem dX12_readPew_59 : decode cX12_readPew 59 = .ok (.aload_n 0, 1) := by decide +kernel
theorem dX12_readPew_60 : decode cX12_readPew 60 = .ok (.getfield 31, 3) := by decide +kernel
theorem dX12_readPew_63 : decode cX12_readPew 63 = .ok (.iload_n 1, 1) := by decide +kernel
theorem dX12_readPew_64 : decode cX12_readPew 64 = .ok (.iconst 2, 1) := by decide +kernel
theorem dX12_readPew_65 : decode cX12_readPew 65 = .ok (.iastore, 1) := by decide +kernel
theorem dX12_readPew_66 : decode cX12_readPew 66 = .ok (.goto 112, 3) := by decide +kernel
theorem dX12_readPew_69 : decode cX12_readPew 69 = .ok (.aload_n 0, 1) := by decide +kernel
theorem dX12_readPew_70 : decode cX12_readPew 70 = .ok (.ldc 175, 2) := by decide +kernel
theorem dX12_readPew_72 : decode cX12_readPew 72 = .ok (.invokevirtual 144, 3) := by decide +kernel
theorem dX12_readPew_75 : decode cX12_readPew 75 = .ok (.ifCond .eq 27, 3) := by decide +kernel
theorem dX12_readPew_78 : decode cX12_readPew 78 = .ok (.aload_n 0, 1) := by decide +kernel
theorem dX12_readPew_79 : decode cX12_readPew 79 = .ok (.getfield 31, 3) := by decide +kernel
theorem dX12_readPew_82 : decode cX12_readPew 82 = .ok (.iload_n 1, 1) := by decide +kernel
theorem dX12_readPew_83 : decode cX12_readPew 83 = .ok (.iconst 3, 1) := by decide +kernel
theorem dX12_readPew_84 : decode cX12_readPew 84 = .ok (.iastore, 1) := by decide +kernel
theorem dX12_readPew_85 : decode cX12_readPew 85 = .ok (.aload_n 0, 1) := by decide +kernel
theorem dX12_readPew_86 : decode cX12_readPew 86 = .ok (.getfield 31, 3) := by decide +kernel
theorem dX12_readPew_89 : decode cX12_readPew 89 = .ok (.iload_n 1, 1) := by decide +kernel
theorem dX12_readPew_90 : decode cX12_readPew 90 = .ok (.iconst 1, 1) := by decide +kernel
theorem dX12_readPew_91 : decode cX12_readPew 91 = .ok (.iadd, 1) := by decide +kernel
theorem dX12_readPew_92 : decode cX12_readPew 92 = .ok (.aload_n 0, 1) := by decide +kernel
theorem dX12_readPew_93 : decode cX12_readPew 93 = .ok (.iconst 1, 1) := by decide +kernel
theorem dX12_readPew_94 : decode cX12_readPew 94 = .ok (.iconst 4, 1) := by decide +kernel
theorem dX12_readPew_95 : decode cX12_readPew 95 = .ok (.invokevirtual 155, 3) := by decide +kernel
theorem dX12_readPew_98 : decode cX12_readPew 98 = .ok (.iastore, 1) := by decide +kernel
theorem dX12_readPew_99 : decode cX12_readPew 99 = .ok (.goto 79, 3) := by decide +kernel
theorem dX12_readPew_102 : decode cX12_readPew 102 = .ok (.aload_n 0, 1) := by decide +kernel
theorem dX12_readPew_103 : decode cX12_readPew 103 = .ok (.ldc 177, 2) := by decide +kernel
theorem dX12_readPew_105 : decode cX12_readPew 105 = .ok (.invokevirtual 151, 3) := by decide +kernel
theorem dX12_readPew_108 : decode cX12_readPew 108 = .ok (.aload_n 0, 1) := by decide +kernel
theorem dX12_readPew_109 : decode cX12_readPew 109 = .ok (.getfield 31, 3) := by decide +kernel
theorem dX12_readPew_112 : decode cX12_readPew 112 = .ok (.iload_n 1, 1) := by decide +kernel
theorem dX12_readPew_113 : decode cX12_readPew 113 = .ok (.iconst 4, 1) := by decide +kernel
theorem dX12_readPew_114 : decode cX12_readPew 114 = .ok (.iastore, 1) := by decide +kernel
theorem dX12_readPew_115 : decode cX12_readPew 115 = .ok (.aload_n 0, 1) := by decide +kernel
theorem dX12_readPew_116 : decode cX12_readPew 116 = .ok (.getfield 31, 3) := by decide +kernel
theorem dX12_readPew_119 : decode cX12_readPew 119 = .ok (.iload_n 1, 1) := by decide +kernel
theorem dX12_readPew_120 : decode cX12_readPew 120 = .ok (.iconst 1, 1) := by decide +kernel
theorem dX12_readPew_121 : decode cX12_readPew 121 = .ok (.iadd, 1) := by decide +kernel
theorem dX12_readPew_122 : decode cX12_readPew 122 = .ok (.aload_n 0, 1) := by decide +kernel
theorem dX12_readPew_123 : decode cX12_readPew 123 = .ok (.iconst 1, 1) := by decide +kernel
theorem dX12_readPew_124 : decode cX12_readPew 124 = .ok (.iconst 4, 1) := by decide +kernel
theorem dX12_readPew_125 : decode cX12_readPew 125 = .ok (.invokevirtual 155, 3) := by decide +kernel
theorem dX12_readPew_128 : decode cX12_readPew 128 = .ok (.iastore, 1) := by decide +kernel
theorem dX12_readPew_129 : decode cX12_readPew 129 = .ok (.aload_n 0, 1) := by decide +kernel
theorem dX12_readPew_130 : decode cX12_readPew 130 = .ok (.invokevirtual 125, 3) := by decide +kernel
theorem dX12_readPew_133 : decode cX12_readPew 133 = .ok (.ifCond .eq 31, 3) := by decide +kernel
theorem dX12_readPew_136 : decode cX12_readPew 136 = .ok (.aload_n 0, 1) := by decide +kernel
theorem dX12_readPew_137 : decode cX12_readPew 137 = .ok (.getfield 101, 3) := by decide +kernel
theorem dX12_readPew_140 : decode cX12_readPew 140 = .ok (.iconst 2, 1) := by decide +kernel
theorem dX12_readPew_141 : decode cX12_readPew 141 = .ok (.if_icmp .ne 23, 3) := by decide +kernel
theorem dX12_readPew_144 : decode cX12_readPew 144 = .ok (.aload_n 0, 1) := by decide +kernel
theorem dX12_readPew_145 : decode cX12_readPew 145 = .ok (.getfield 112, 3) := by decide +kernel
theorem dX12_readPew_148 : decode cX12_readPew 148 = .ok (.aload_n 0, 1) := by decide +kernel
theorem dX12_readPew_149 : decode cX12_readPew 149 = .ok (.getfield 31, 3) := by decide +kernel
theorem dX12_readPew_152 : decode cX12_readPew 152 = .ok (.iload_n 1, 1) := by decide +kernel
theorem dX12_readPew_153 : decode cX12_readPew 153 = .ok (.iconst 1, 1) := by decide +kernel
theorem dX12_readPew_154 : decode cX12_readPew 154 = .ok (.iadd, 1) := by decide +kernel
theorem dX12_readPew_155 : decode cX12_readPew 155 = .ok (.iaload, 1) := by decide +kernel
theorem dX12_readPew_156 : decode cX12_readPew 156 = .ok (.if_icmp .ne 8, 3) := by decide +kernel
theorem dX12_readPew_159 : decode cX12_readPew 159 = .ok (.aload_n 0, 1) := by decide +kernel
theorem dX12_readPew_160 : decode cX12_readPew 160 = .ok (.iconst 2, 1) := by decide +kernel
theorem dX12_readPew_161 : decode cX12_readPew 161 = .ok (.invokevirtual 147, 3) := by decide +kernel
theorem dX12_readPew_164 : decode cX12_readPew 164 = .ok (.aload_n 0, 1) := by decide +kernel
theorem dX12_readPew_165 : decode cX12_readPew 165 = .ok (.getfield 31, 3) := by decide +kernel
theorem dX12_readPew_168 : decode cX12_readPew 168 = .ok (.iload_n 1, 1) := by decide +kernel
theorem dX12_readPew_169 : decode cX12_readPew 169 = .ok (.iconst 2, 1) := by decide +kernel
theorem dX12_readPew_170 : decode cX12_readPew 170 = .ok (.iadd, 1) := by decide +kernel
theorem dX12_readPew_171 : decode cX12_readPew 171 = .ok (.aload_n 0, 1) := by decide +kernel
theorem dX12_readPew_172 : decode cX12_readPew 172 = .ok (.iconst 1, 1) := by decide +kernel
theorem dX12_readPew_173 : decode cX12_readPew 173 = .ok (.iconst 4, 1) := by decide +kernel
theorem dX12_readPew_174 : decode cX12_readPew 174 = .ok (.invokevirtual 155, 3) := by decide +kernel
theorem dX12_readPew_177 : decode cX12_readPew 177 = .ok (.iastore, 1) := by decide +kernel
theorem dX12_readPew_178 : decode cX12_readPew 178 = .ok (.aload_n 0, 1) := by decide +kernel
theorem dX12_readPew_179 : decode cX12_readPew 179 = .ok (.getfield 31, 3) := by decide +kernel
theorem dX12_readPew_182 : decode cX12_readPew 182 = .ok (.iconst 3, 1) := by decide +kernel
theorem dX12_readPew_183 : decode cX12_readPew 183 = .ok (.dup2, 1) := by decide +kernel
theorem dX12_readPew_184 : decode cX12_readPew 184 = .ok (.iaload, 1) := by decide +kernel
theorem dX12_readPew_185 : decode cX12_readPew 185 = .ok (.iconst 1, 1) := by decide +kernel
theorem dX12_readPew_186 : decode cX12_readPew 186 = .ok (.iadd, 1) := by decide +kernel
theorem dX12_readPew_187 : decode cX12_readPew 187 = .ok (.iastore, 1) := by decide +kernel
theorem dX12_readPew_188 : decode cX12_readPew 188 = .ok (.return_, 1) := by decide +kernel
theorem dX12_isJoined_0 : decode cX12_isJoined 0 = .ok (.iconst 0, 1) := by decide +kernel
theorem dX12_isJoined_1 : decode cX12_isJoined 1 = .ok (.istore_n 3, 1) := by decide +kernel
theorem dX12_isJoined_2 : decode cX12_isJoined 2 = .ok (.iconst 0, 1) := by decide +kernel
theorem dX12_isJoined_3 : decode cX12_isJoined 3 = .ok (.istore 4, 2) := by decide +kernel
theorem dX12_isJoined_5 : decode cX12_isJoined 5 = .ok (.iload 4, 2) := by decide +kernel
theorem dX12_isJoined_7 : decode cX12_isJoined 7 = .ok (.aload_n 0, 1) := by decide +kernel
theorem dX12_isJoined_8 : decode cX12_isJoined 8 = .ok (.getfield 31, 3) := by decide +kernel
theorem dX12_isJoined_11 : decode cX12_isJoined 11 = .ok (.iconst 4, 1) := by decide +kernel
theorem dX12_isJoined_12 : decode cX12_isJoined 12 = .ok (.iaload, 1) := by decide +kernel
theorem dX12_isJoined_13 : decode cX12_isJoined 13 = .ok (.if_icmp .ge 73, 3) := by decide +kernel
theorem dX12_isJoined_16 : decode cX12_isJoined 16 = .ok (.aload_n 0, 1) := by decide +kernel
theorem dX12_isJoined_17 : decode cX12_isJoined 17 = .ok (.getfield 31, 3) := by decide +kernel
theorem dX12_isJoined_20 : decode cX12_isJoined 20 = .ok (.bipush 30, 2) := by decide +kernel
theorem dX12_isJoined_22 : decode cX12_isJoined 22 = .ok (.iconst 2, 1) := by decide +kernel
theorem dX12_isJoined_23 : decode cX12_isJoined 23 = .ok (.iload 4, 2) := by decide +kernel
theorem dX12_isJoined_25 : decode cX12_isJoined 25 = .ok (.imul, 1) := by decide +kernel
theorem dX12_isJoined_26 : decode cX12_isJoined 26 = .ok (.iadd, 1) := by decide +kernel
theorem dX12_isJoined_27 : decode cX12_isJoined 27 = .ok (.iaload, 1) := by decide +kernel
theorem dX12_isJoined_28 : decode cX12_isJoined 28 = .ok (.istore 5, 2) := by decide +kernel
theorem dX12_isJoined_30 : decode cX12_isJoined 30 = .ok (.aload_n 0, 1) := by decide +kernel
theorem dX12_isJoined_31 : decode cX12_isJoined 31 = .ok (.getfield 31, 3) := by decide +kernel
theorem dX12_isJoined_34 : decode cX12_isJoined 34 = .ok (.bipush 30, 2) := by decide +kernel
theorem dX12_isJoined_36 : decode cX12_isJoined 36 = .ok (.iconst 2, 1) := by decide +kernel
theorem dX12_isJoined_37 : decode cX12_isJoined 37 = .ok (.iload 4, 2) := by decide +kernel
theorem dX12_isJoined_39 : decode cX12_isJoined 39 = .ok (.imul, 1) := by decide +kernel
theorem dX12_isJoined_40 : decode cX12_isJoined 40 = .ok (.iadd, 1) := by decide +kernel
theorem dX12_isJoined_41 : decode cX12_isJoined 41 = .ok (.iconst 1, 1) := by decide +kernel
theorem dX12_isJoined_42 : decode cX12_isJoined 42 = .ok (.iadd, 1) := by decide +kernel
theorem dX12_isJoined_43 : decode cX12_isJoined 43 = .ok (.iaload, 1) := by decide +kernel
theorem dX12_isJoined_44 : decode cX12_isJoined 44 = .ok (.istore 6, 2) := by decide +kernel
theorem dX12_isJoined_46 : decode cX12_isJoined 46 = .ok (.iload_n 3, 1) := by decide +kernel
theorem dX12_isJoined_47 : decode cX12_isJoined 47 = .ok (.ifCond .ne 27, 3) := by decide +kernel
theorem dX12_isJoined_50 : decode cX12_isJoined 50 = .ok (.iload 5, 2) := by decide +kernel
theorem dX12_isJoined_52 : decode cX12_isJoined 52 = .ok (.iload_n 1, 1) := by decide +kernel
theorem dX12_isJoined_53 : decode cX12_isJoined 53 = .ok (.if_icmp .ne 9, 3) := by decide +kernel
theorem dX12_isJoined_56 : decode cX12_isJoined 56 = .ok (.iload 6, 2) := by decide +kernel
theorem dX12_isJoined_58 : decode cX12_isJoined 58 = .ok (.iload_n 2, 1) := by decide +kernel
theorem dX12_isJoined_59 : decode cX12_isJoined 59 = .ok (.if_icmp .eq 15, 3) := by decide +kernel
theorem dX12_isJoined_62 : decode cX12_isJoined 62 = .ok (.iload 5, 2) := by decide +kernel
theorem dX12_isJoined_64 : decode cX12_isJoined 64 = .ok (.iload_n 2, 1) := by decide +kernel
theorem dX12_isJoined_65 : decode cX12_isJoined 65 = .ok (.if_icmp .ne 13, 3) := by decide +kernel
theorem dX12_isJoined_68 : decode cX12_isJoined 68 = .ok (.iload 6, 2) := by decide +kernel
theorem dX12_isJoined_70 : decode cX12_isJoined 70 = .ok (.iload_n 1, 1) := by decide +kernel
theorem dX12_isJoined_71 : decode cX12_isJoined 71 = .ok (.if_icmp .ne 7, 3) := by decide +kernel
theorem dX12_isJoined_74 : decode cX12_isJoined 74 = .ok (.iconst 1, 1) := by decide +kernel
theorem dX12_isJoined_75 : decode cX12_isJoined 75 = .ok (.goto 4, 3) := by decide +kernel
theorem dX12_isJoined_78 : decode cX12_isJoined 78 = .ok (.iconst 0, 1) := by decide +kernel
theorem dX12_isJoined_79 : decode cX12_isJoined 79 = .ok (.istore_n 3, 1) := by decide +kernel
theorem dX12_isJoined_80 : decode cX12_isJoined 80 = .ok (.iinc 4 1, 3) := by decide +kernel
theorem dX12_isJoined_83 : decode cX12_isJoined 83 = .ok (.goto (-78), 3) := by decide +kernel
theorem dX12_isJoined_86 : decode cX12_isJoined 86 = .ok (.iload_n 3, 1) := by decide +kernel
theorem dX12_isJoined_87 : decode cX12_isJoined 87 = .ok (.ireturn, 1) := by decide +kernel
theorem dX12_readAisle_0 : decode cX12_readAisle 0 = .ok (.bipush 30, 2) := by decide +kernel
theorem dX12_readAisle_2 : decode cX12_readAisle 2 = .ok (.iconst 2, 1) := by decide +kernel
theorem dX12_readAisle_3 : decode cX12_readAisle 3 = .ok (.aload_n 0, 1) := by decide +kernel
theorem dX12_readAisle_4 : decode cX12_readAisle 4 = .ok (.getfield 31, 3) := by decide +kernel
theorem dX12_readAisle_7 : decode cX12_readAisle 7 = .ok (.iconst 4, 1) := by decide +kernel
theorem dX12_readAisle_8 : decode cX12_readAisle 8 = .ok (.iaload, 1) := by decide +kernel
theorem dX12_readAisle_9 : decode cX12_readAisle 9 = .ok (.imul, 1) := by decide +kernel
theorem dX12_readAisle_10 : decode cX12_readAisle 10 = .ok (.iadd, 1) := by decide +kernel
theorem dX12_readAisle_11 : decode cX12_readAisle 11 = .ok (.istore_n 1, 1) := by decide +kernel
theorem dX12_readAisle_12 : decode cX12_readAisle 12 = .ok (.aload_n 0, 1) := by decide +kernel
theorem dX12_readAisle_13 : decode cX12_readAisle 13 = .ok (.iconst 0, 1) := by decide +kernel
theorem dX12_readAisle_14 : decode cX12_readAisle 14 = .ok (.aload_n 0, 1) := by decide +kernel
theorem dX12_readAisle_15 : decode cX12_readAisle 15 = .ok (.getfield 31, 3) := by decide +kernel
theorem dX12_readAisle_18 : decode cX12_readAisle 18 = .ok (.iconst 3, 1) := by decide +kernel
theorem dX12_readAisle_19 : decode cX12_readAisle 19 = .ok (.iaload, 1) := by decide +kernel
theorem dX12_readAisle_20 : decode cX12_readAisle 20 = .ok (.iconst 1, 1) := by decide +kernel
theorem dX12_readAisle_21 : decode cX12_readAisle 21 = .ok (.isub, 1) := by decide +kernel
theorem dX12_readAisle_22 : decode cX12_readAisle 22 = .ok (.invokevirtual 155, 3) := by decide +kernel
theorem dX12_readAisle_25 : decode cX12_readAisle 25 = .ok (.istore_n 2, 1) := by decide +kernel
theorem dX12_readAisle_26 : decode cX12_readAisle 26 = .ok (.aload_n 0, 1) := by decide +kernel
theorem dX12_readAisle_27 : decode cX12_readAisle 27 = .ok (.invokevirtual 125, 3) := by decide +kernel
theorem dX12_readAisle_30 : decode cX12_readAisle 30 = .ok (.ifCond .eq 36, 3) := by decide +kernel
theorem dX12_readAisle_33 : decode cX12_readAisle 33 = .ok (.aload_n 0, 1) := by decide +kernel
theorem dX12_readAisle_34 : decode cX12_readAisle 34 = .ok (.getfield 101, 3) := by decide +kernel
theorem dX12_readAisle_37 : decode cX12_readAisle 37 = .ok (.iconst 2, 1) := by decide +kernel
theorem dX12_readAisle_38 : decode cX12_readAisle 38 = .ok (.if_icmp .ne 28, 3) := by decide +kernel
theorem dX12_readAisle_41 : decode cX12_readAisle 41 = .ok (.aload_n 0, 1) := by decide +kernel
theorem dX12_readAisle_42 : decode cX12_readAisle 42 = .ok (.getfield 112, 3) := by decide +kernel
theorem dX12_readAisle_45 : decode cX12_readAisle 45 = .ok (.iload_n 2, 1) := by decide +kernel
theorem dX12_readAisle_46 : decode cX12_readAisle 46 = .ok (.if_icmp .eq 15, 3) := by decide +kernel
theorem dX12_readAisle_49 : decode cX12_readAisle 49 = .ok (.aload_n 0, 1) := by decide +kernel
theorem dX12_readAisle_50 : decode cX12_readAisle 50 = .ok (.iload_n 2, 1) := by decide +kernel
theorem dX12_readAisle_51 : decode cX12_readAisle 51 = .ok (.aload_n 0, 1) := by decide +kernel
theorem dX12_readAisle_52 : decode cX12_readAisle 52 = .ok (.getfield 112, 3) := by decide +kernel
theorem dX12_readAisle_55 : decode cX12_readAisle 55 = .ok (.invokevirtual 179, 3) := by decide +kernel
theorem dX12_readAisle_58 : decode cX12_readAisle 58 = .ok (.ifCond .eq 8, 3) := by decide +kernel
theorem dX12_readAisle_61 : decode cX12_readAisle 61 = .ok (.aload_n 0, 1) := by decide +kernel
theorem dX12_readAisle_62 : decode cX12_readAisle 62 = .ok (.iconst 2, 1) := by decide +kernel
theorem dX12_readAisle_63 : decode cX12_readAisle 63 = .ok (.invokevirtual 147, 3) := by decide +kernel
theorem dX12_readAisle_66 : decode cX12_readAisle 66 = .ok (.aload_n 0, 1) := by decide +kernel
theorem dX12_readAisle_67 : decode cX12_readAisle 67 = .ok (.iconst 0, 1) := by decide +kernel
theorem dX12_readAisle_68 : decode cX12_readAisle 68 = .ok (.aload_n 0, 1) := by decide +kernel
theorem dX12_readAisle_69 : decode cX12_readAisle 69 = .ok (.getfield 31, 3) := by decide +kernel
theorem dX12_readAisle_72 : decode cX12_readAisle 72 = .ok (.iconst 3, 1) := by decide +kernel
theorem dX12_readAisle_73 : decode cX12_readAisle 73 = .ok (.iaload, 1) := by decide +kernel
theorem dX12_readAisle_74 : decode cX12_readAisle 74 = .ok (.iconst 1, 1) := by decide +kernel
theorem dX12_readAisle_75 : decode cX12_readAisle 75 = .ok (.isub, 1) := by decide +kernel
theorem dX12_readAisle_76 : decode cX12_readAisle 76 = .ok (.invokevirtual 155, 3) := by decide +kernel
theorem dX12_readAisle_79 : decode cX12_readAisle 79 = .ok (.istore_n 3, 1) := by decide +kernel
theorem dX12_readAisle_80 : decode cX12_readAisle 80 = .ok (.aload_n 0, 1) := by decide +kernel
theorem dX12_readAisle_81 : decode cX12_readAisle 81 = .ok (.invokevirtual 125, 3) := by decide +kernel
theorem dX12_readAisle_84 : decode cX12_readAisle 84 = .ok (.ifCond .ne 4, 3) := by decide +kernel
theorem dX12_readAisle_87 : decode cX12_readAisle 87 = .ok (.return_, 1) := by decide +kernel
theorem dX12_readAisle_88 : decode cX12_readAisle 88 = .ok (.aload_n 0, 1) := by decide +kernel
theorem dX12_readAisle_89 : decode cX12_readAisle 89 = .ok (.getfield 31, 3) := by decide +kernel
theorem dX12_readAisle_92 : decode cX12_readAisle 92 = .ok (.iload_n 1, 1) := by decide +kernel
theorem dX12_readAisle_93 : decode cX12_readAisle 93 = .ok (.iload_n 2, 1) := by decide +kernel
theorem dX12_readAisle_94 : decode cX12_readAisle 94 = .ok (.iastore, 1) := by decide +kernel
theorem dX12_readAisle_95 : decode cX12_readAisle 95 = .ok (.aload_n 0, 1) := by decide +kernel
theorem dX12_readAisle_96 : decode cX12_readAisle 96 = .ok (.getfield 31, 3) := by decide +kernel
theorem dX12_readAisle_99 : decode cX12_readAisle 99 = .ok (.iload_n 1, 1) := by decide +kernel
theorem dX12_readAisle_100 : decode cX12_readAisle 100 = .ok (.iconst 1, 1) := by decide +kernel
theorem dX12_readAisle_101 : decode cX12_readAisle 101 = .ok (.iadd, 1) := by decide +kernel
theorem dX12_readAisle_102 : decode cX12_readAisle 102 = .ok (.iload_n 3, 1) := by decide +kernel
theorem dX12_readAisle_103 : decode cX12_readAisle 103 = .ok (.iastore, 1) := by decide +kernel
theorem dX12_readAisle_104 : decode cX12_readAisle 104 = .ok (.aload_n 0, 1) := by decide +kernel
theorem dX12_readAisle_105 : decode cX12_readAisle 105 = .ok (.getfield 31, 3) := by decide +kernel
theorem dX12_readAisle_108 : decode cX12_readAisle 108 = .ok (.iconst 4, 1) := by decide +kernel
theorem dX12_readAisle_109 : decode cX12_readAisle 109 = .ok (.dup2, 1) := by decide +kernel
theorem dX12_readAisle_110 : decode cX12_readAisle 110 = .ok (.iaload, 1) := by decide +kernel
theorem dX12_readAisle_111 : decode cX12_readAisle 111 = .ok (.iconst 1, 1) := by decide +kernel
theorem dX12_readAisle_112 : decode cX12_readAisle 112 = .ok (.iadd, 1) := by decide +kernel
theorem dX12_readAisle_113 : decode cX12_readAisle 113 = .ok (.iastore, 1) := by decide +kernel
theorem dX12_readAisle_114 : decode cX12_readAisle 114 = .ok (.return_, 1) := by decide +kernel
theorem dX12_readLight_0 : decode cX12_readLight 0 = .ok (.bipush 54, 2) := by decide +kernel
theorem dX12_readLight_2 : decode cX12_readLight 2 = .ok (.iconst 2, 1) := by decide +kernel
theorem dX12_readLight_3 : decode cX12_readLight 3 = .ok (.aload_n 0, 1) := by decide +kernel
theorem dX12_readLight_4 : decode cX12_readLight 4 = .ok (.getfield 31, 3) := by decide +kernel
theorem dX12_readLight_7 : decode cX12_readLight 7 = .ok (.iconst 5, 1) := by decide +kernel
theorem dX12_readLight_8 : decode cX12_readLight 8 = .ok (.iaload, 1) := by decide +kernel
theorem dX12_readLight_9 : decode cX12_readLight 9 = .ok (.imul, 1) := by decide +kernel
theorem dX12_readLight_10 : decode cX12_readLight 10 = .ok (.iadd, 1) := by decide +kernel
theorem dX12_readLight_11 : decode cX12_readLight 11 = .ok (.istore_n 1, 1) := by decide +kernel
theorem dX12_readLight_12 : decode cX12_readLight 12 = .ok (.aload_n 0, 1) := by decide +kernel
theorem dX12_readLight_13 : decode cX12_readLight 13 = .ok (.getfield 31, 3) := by decide +kernel
theorem dX12_readLight_16 : decode cX12_readLight 16 = .ok (.iload_n 1, 1) := by decide +kernel
theorem dX12_readLight_17 : decode cX12_readLight 17 = .ok (.aload_n 0, 1) := by decide +kernel
theorem dX12_readLight_18 : decode cX12_readLight 18 = .ok (.iconst 0, 1) := by decide +kernel
theorem dX12_readLight_19 : decode cX12_readLight 19 = .ok (.aload_n 0, 1) := by decide +kernel
theorem dX12_readLight_20 : decode cX12_readLight 20 = .ok (.getfield 31, 3) := by decide +kernel
theorem dX12_readLight_23 : decode cX12_readLight 23 = .ok (.iconst 3, 1) := by decide +kernel
theorem dX12_readLight_24 : decode cX12_readLight 24 = .ok (.iaload, 1) := by decide +kernel
theorem dX12_readLight_25 : decode cX12_readLight 25 = .ok (.iconst 1, 1) := by decide +kernel
theorem dX12_readLight_26 : decode cX12_readLight 26 = .ok (.isub, 1) := by decide +kernel
theorem dX12_readLight_27 : decode cX12_readLight 27 = .ok (.invokevirtual 155, 3) := by decide +kernel
theorem dX12_readLight_30 : decode cX12_readLight 30 = .ok (.iastore, 1) := by decide +kernel
theorem dX12_readLight_31 : decode cX12_readLight 31 = .ok (.iconst 0, 1) := by decide +kernel
theorem dX12_readLight_32 : decode cX12_readLight 32 = .ok (.istore_n 2, 1) := by decide +kernel
theorem dX12_readLight_33 : decode cX12_readLight 33 = .ok (.aload_n 0, 1) := by decide +kernel
theorem dX12_readLight_34 : decode cX12_readLight 34 = .ok (.invokevirtual 125, 3) := by decide +kernel
theorem dX12_readLight_37 : decode cX12_readLight 37 = .ok (.ifCond .eq 90, 3) := by decide +kernel
theorem dX12_readLight_40 : decode cX12_readLight 40 = .ok (.iload_n 2, 1) := by decide +kernel
theorem dX12_readLight_41 : decode cX12_readLight 41 = .ok (.ifCond .eq 11, 3) := by decide +kernel
theorem dX12_readLight_44 : decode cX12_readLight 44 = .ok (.aload_n 0, 1) := by decide +kernel
theorem dX12_readLight_45 : decode cX12_readLight 45 = .ok (.getfield 101, 3) := by decide +kernel
theorem dX12_readLight_48 : decode cX12_readLight 48 = .ok (.iconst 2, 1) := by decide +kernel
theorem dX12_readLight_49 : decode cX12_readLight 49 = .ok (.if_icmp .ne 78, 3) := by decide +kernel
theorem dX12_readLight_52 : decode cX12_readLight 52 = .ok (.aload_n 0, 1) := by decide +kernel
theorem dX12_readLight_53 : decode cX12_readLight 53 = .ok (.getfield 101, 3) := by decide +kernel
theorem dX12_readLight_56 : decode cX12_readLight 56 = .ok (.iconst 2, 1) := by decide +kernel
theorem dX12_readLight_57 : decode cX12_readLight 57 = .ok (.if_icmp .ne 22, 3) := by decide +kernel
theorem dX12_readLight_60 : decode cX12_readLight 60 = .ok (.aload_n 0, 1) := by decide +kernel
theorem dX12_readLight_61 : decode cX12_readLight 61 = .ok (.getfield 112, 3) := by decide +kernel
theorem dX12_readLight_64 : decode cX12_readLight 64 = .ok (.i2l, 1) := by decide +kernel
theorem dX12_readLight_65 : decode cX12_readLight 65 = .ok (.lconst 1, 1) := by decide +kernel
theorem dX12_readLight_66 : decode cX12_readLight 66 = .ok (.ldc2_w 183, 3) := by decide +kernel
theorem dX12_readLight_69 : decode cX12_readLight 69 = .ok (.invokestatic 70, 3) := by decide +kernel
theorem dX12_readLight_72 : decode cX12_readLight 72 = .ok (.ifCond .eq 7, 3) := by decide +kernel
theorem dX12_readLight_75 : decode cX12_readLight 75 = .ok (.iconst 1, 1) := by decide +kernel
theorem dX12_readLight_76 : decode cX12_readLight 76 = .ok (.goto 4, 3) := by decide +kernel
theorem dX12_readLight_79 : decode cX12_readLight 79 = .ok (.iconst 0, 1) := by decide +kernel
theorem dX12_readLight_80 : decode cX12_readLight 80 = .ok (.istore_n 3, 1) := by decide +kernel
theorem dX12_readLight_81 : decode cX12_readLight 81 = .ok (.iload_n 2, 1) := by decide +kernel
theorem dX12_readLight_82 : decode cX12_readLight 82 = .ok (.bipush 6, 2) := by decide +kernel
theorem dX12_readLight_84 : decode cX12_readLight 84 = .ok (.if_icmp .ne 12, 3) := by decide +kernel
theorem dX12_readLight_87 : decode cX12_readLight 87 = .ok (.iload_n 3, 1) := by decide +kernel
theorem dX12_readLight_88 : decode cX12_readLight 88 = .ok (.ifCond .eq 8, 3) := by decide +kernel
theorem dX12_readLight_91 : decode cX12_readLight 91 = .ok (.aload_n 0, 1) := by decide +kernel
theorem dX12_readLight_92 : decode cX12_readLight 92 = .ok (.iconst 3, 1) := by decide +kernel
theorem dX12_readLight_93 : decode cX12_readLight 93 = .ok (.invokevirtual 147, 3) := by decide +kernel
theorem dX12_readLight_96 : decode cX12_readLight 96 = .ok (.aload_n 0, 1) := by decide +kernel
theorem dX12_readLight_97 : decode cX12_readLight 97 = .ok (.getfield 31, 3) := by decide +kernel
theorem dX12_readLight_100 : decode cX12_readLight 100 = .ok (.iload_n 1, 1) := by decide +kernel
theorem dX12_readLight_101 : decode cX12_readLight 101 = .ok (.iconst 1, 1) := by decide +kernel
theorem dX12_readLight_102 : decode cX12_readLight 102 = .ok (.iadd, 1) := by decide +kernel
theorem dX12_readLight_103 : decode cX12_readLight 103 = .ok (.iconst 5, 1) := by decide +kernel
theorem dX12_readLight_104 : decode cX12_readLight 104 = .ok (.aload_n 0, 1) := by decide +kernel
theorem dX12_readLight_105 : decode cX12_readLight 105 = .ok (.getfield 31, 3) := by decide +kernel
theorem dX12_readLight_108 : decode cX12_readLight 108 = .ok (.iload_n 1, 1) := by decide +kernel
theorem dX12_readLight_109 : decode cX12_readLight 109 = .ok (.iconst 1, 1) := by decide +kernel
theorem dX12_readLight_110 : decode cX12_readLight 110 = .ok (.iadd, 1) := by decide +kernel
theorem dX12_readLight_111 : decode cX12_readLight 111 = .ok (.iaload, 1) := by decide +kernel
theorem dX12_readLight_112 : decode cX12_readLight 112 = .ok (.imul, 1) := by decide +kernel
theorem dX12_readLight_113 : decode cX12_readLight 113 = .ok (.aload_n 0, 1) := by decide +kernel
theorem dX12_readLight_114 : decode cX12_readLight 114 = .ok (.iconst 1, 1) := by decide +kernel
theorem dX12_readLight_115 : decode cX12_readLight 115 = .ok (.iconst 4, 1) := by decide +kernel
theorem dX12_readLight_116 : decode cX12_readLight 116 = .ok (.invokevirtual 155, 3) := by decide +kernel
theorem dX12_readLight_119 : decode cX12_readLight 119 = .ok (.iadd, 1) := by decide +kernel
theorem dX12_readLight_120 : decode cX12_readLight 120 = .ok (.iastore, 1) := by decide +kernel
theorem dX12_readLight_121 : decode cX12_readLight 121 = .ok (.iinc 2 1, 3) := by decide +kernel
theorem dX12_readLight_124 : decode cX12_readLight 124 = .ok (.goto (-91), 3) := by decide +kernel
theorem dX12_readLight_127 : decode cX12_readLight 127 = .ok (.aload_n 0, 1) := by decide +kernel
theorem dX12_readLight_128 : decode cX12_readLight 128 = .ok (.getfield 31, 3) := by decide +kernel
theorem dX12_readLight_131 : decode cX12_readLight 131 = .ok (.iconst 5, 1) := by decide +kernel
theorem dX12_readLight_132 : decode cX12_readLight 132 = .ok (.dup2, 1) := by decide +kernel
theorem dX12_readLight_133 : decode cX12_readLight 133 = .ok (.iaload, 1) := by decide +kernel
theorem dX12_readLight_134 : decode cX12_readLight 134 = .ok (.iconst 1, 1) := by decide +kernel
theorem dX12_readLight_135 : decode cX12_readLight 135 = .ok (.iadd, 1) := by decide +kernel
theorem dX12_readLight_136 : decode cX12_readLight 136 = .ok (.iastore, 1) := by decide +kernel
theorem dX12_readLight_137 : decode cX12_readLight 137 = .ok (.return_, 1) := by decide +kernel
theorem dX12_readDraught_0 : decode cX12_readDraught 0 = .ok (.bipush 62, 2) := by decide +kernel
theorem dX12_readDraught_2 : decode cX12_readDraught 2 = .ok (.iconst 2, 1) := by decide +kernel
theorem dX12_readDraught_3 : decode cX12_readDraught 3 = .ok (.aload_n 0, 1) := by decide +kernel
theorem dX12_readDraught_4 : decode cX12_readDraught 4 = .ok (.getfield 31, 3) := by decide +kernel
theorem dX12_readDraught_7 : decode cX12_readDraught 7 = .ok (.bipush 6, 2) := by decide +kernel
theorem dX12_readDraught_9 : decode cX12_readDraught 9 = .ok (.iaload, 1) := by decide +kernel
theorem dX12_readDraught_10 : decode cX12_readDraught 10 = .ok (.imul, 1) := by decide +kernel
theorem dX12_readDraught_11 : decode cX12_readDraught 11 = .ok (.iadd, 1) := by decide +kernel
theorem dX12_readDraught_12 : decode cX12_readDraught 12 = .ok (.istore_n 1, 1) := by decide +kernel
theorem dX12_readDraught_13 : decode cX12_readDraught 13 = .ok (.aload_n 0, 1) := by decide +kernel
theorem dX12_readDraught_14 : decode cX12_readDraught 14 = .ok (.getfield 31, 3) := by decide +kernel
theorem dX12_readDraught_17 : decode cX12_readDraught 17 = .ok (.iload_n 1, 1) := by decide +kernel
theorem dX12_readDraught_18 : decode cX12_readDraught 18 = .ok (.aload_n 0, 1) := by decide +kernel
theorem dX12_readDraught_19 : decode cX12_readDraught 19 = .ok (.iconst 0, 1) := by decide +kernel
theorem dX12_readDraught_20 : decode cX12_readDraught 20 = .ok (.aload_n 0, 1) := by decide +kernel
theorem dX12_readDraught_21 : decode cX12_readDraught 21 = .ok (.getfield 31, 3) := by decide +kernel
theorem dX12_readDraught_24 : decode cX12_readDraught 24 = .ok (.iconst 3, 1) := by decide +kernel
theorem dX12_readDraught_25 : decode cX12_readDraught 25 = .ok (.iaload, 1) := by decide +kernel
theorem dX12_readDraught_26 : decode cX12_readDraught 26 = .ok (.iconst 1, 1) := by decide +kernel
theorem dX12_readDraught_27 : decode cX12_readDraught 27 = .ok (.isub, 1) := by decide +kernel
theorem dX12_readDraught_28 : decode cX12_readDraught 28 = .ok (.invokevirtual 155, 3) := by decide +kernel
theorem dX12_readDraught_31 : decode cX12_readDraught 31 = .ok (.iastore, 1) := by decide +kernel
theorem dX12_readDraught_32 : decode cX12_readDraught 32 = .ok (.aload_n 0, 1) := by decide +kernel
theorem dX12_readDraught_33 : decode cX12_readDraught 33 = .ok (.getfield 31, 3) := by decide +kernel
theorem dX12_readDraught_36 : decode cX12_readDraught 36 = .ok (.iload_n 1, 1) := by decide +kernel
theorem dX12_readDraught_37 : decode cX12_readDraught 37 = .ok (.iconst 1, 1) := by decide +kernel
theorem dX12_readDraught_38 : decode cX12_readDraught 38 = .ok (.iadd, 1) := by decide +kernel
theorem dX12_readDraught_39 : decode cX12_readDraught 39 = .ok (.aload_n 0, 1) := by decide +kernel
theorem dX12_readDraught_40 : decode cX12_readDraught 40 = .ok (.ldc 185, 2) := by decide +kernel
theorem dX12_readDraught_42 : decode cX12_readDraught 42 = .ok (.iconst 0, 1) := by decide +kernel
theorem dX12_readDraught_43 : decode cX12_readDraught 43 = .ok (.bipush 11, 2) := by decide +kernel
theorem dX12_readDraught_45 : decode cX12_readDraught 45 = .ok (.invokevirtual 161, 3) := by decide +kernel
theorem dX12_readDraught_48 : decode cX12_readDraught 48 = .ok (.iastore, 1) := by decide +kernel
theorem dX12_readDraught_49 : decode cX12_readDraught 49 = .ok (.aload_n 0, 1) := by decide +kernel
theorem dX12_readDraught_50 : decode cX12_readDraught 50 = .ok (.getfield 31, 3) := by decide +kernel
theorem dX12_readDraught_53 : decode cX12_readDraught 53 = .ok (.bipush 6, 2) := by decide +kernel
theorem dX12_readDraught_55 : decode cX12_readDraught 55 = .ok (.dup2, 1) := by decide +kernel
theorem dX12_readDraught_56 : decode cX12_readDraught 56 = .ok (.iaload, 1) := by decide +kernel
theorem dX12_readDraught_57 : decode cX12_readDraught 57 = .ok (.iconst 1, 1) := by decide +kernel
theorem dX12_readDraught_58 : decode cX12_readDraught 58 = .ok (.iadd, 1) := by decide +kernel
theorem dX12_readDraught_59 : decode cX12_readDraught 59 = .ok (.iastore, 1) := by decide +kernel
theorem dX12_readDraught_60 : decode cX12_readDraught 60 = .ok (.return_, 1) := by decide +kernel
theorem dX12_isFull_0 : decode cX12_isFull 0 = .ok (.aload_n 0, 1) := by decide +kernel
theorem dX12_isFull_1 : decode cX12_isFull 1 = .ok (.ldc 186, 2) := by decide +kernel
theorem dX12_isFull_3 : decode cX12_isFull 3 = .ok (.invokevirtual 137, 3) := by decide +kernel
theorem dX12_isFull_6 : decode cX12_isFull 6 = .ok (.ifCond .eq 14, 3) := by decide +kernel
theorem dX12_isFull_9 : decode cX12_isFull 9 = .ok (.aload_n 0, 1) := by decide +kernel
theorem dX12_isFull_10 : decode cX12_isFull 10 = .ok (.getfield 31, 3) := by decide +kernel
theorem dX12_isFull_13 : decode cX12_isFull 13 = .ok (.iconst 3, 1) := by decide +kernel
theorem dX12_isFull_14 : decode cX12_isFull 14 = .ok (.iaload, 1) := by decide +kernel
theorem dX12_isFull_15 : decode cX12_isFull 15 = .ok (.bipush 7, 2) := by decide +kernel
theorem dX12_isFull_17 : decode cX12_isFull 17 = .ok (.if_icmp .eq 23, 3) := by decide +kernel
theorem dX12_isFull_20 : decode cX12_isFull 20 = .ok (.aload_n 0, 1) := by decide +kernel
theorem dX12_isFull_21 : decode cX12_isFull 21 = .ok (.ldc 188, 2) := by decide +kernel
theorem dX12_isFull_23 : decode cX12_isFull 23 = .ok (.invokevirtual 137, 3) := by decide +kernel
theorem dX12_isFull_26 : decode cX12_isFull 26 = .ok (.ifCond .eq 16, 3) := by decide +kernel
theorem dX12_isFull_29 : decode cX12_isFull 29 = .ok (.aload_n 0, 1) := by decide +kernel
theorem dX12_isFull_30 : decode cX12_isFull 30 = .ok (.getfield 31, 3) := by decide +kernel
theorem dX12_isFull_33 : decode cX12_isFull 33 = .ok (.iconst 4, 1) := by decide +kernel
theorem dX12_isFull_34 : decode cX12_isFull 34 = .ok (.iaload, 1) := by decide +kernel
theorem dX12_isFull_35 : decode cX12_isFull 35 = .ok (.bipush 12, 2) := by decide +kernel
theorem dX12_isFull_37 : decode cX12_isFull 37 = .ok (.if_icmp .ne 5, 3) := by decide +kernel
theorem dX12_isFull_40 : decode cX12_isFull 40 = .ok (.iconst 1, 1) := by decide +kernel
theorem dX12_isFull_41 : decode cX12_isFull 41 = .ok (.ireturn, 1) := by decide +kernel
theorem dX12_isFull_42 : decode cX12_isFull 42 = .ok (.aload_n 0, 1) := by decide +kernel
theorem dX12_isFull_43 : decode cX12_isFull 43 = .ok (.ldc 190, 2) := by decide +kernel
theorem dX12_isFull_45 : decode cX12_isFull 45 = .ok (.invokevirtual 137, 3) := by decide +kernel
theorem dX12_isFull_48 : decode cX12_isFull 48 = .ok (.ifCond .eq 13, 3) := by decide +kernel
theorem dX12_isFull_51 : decode cX12_isFull 51 = .ok (.aload_n 0, 1) := by decide +kernel
theorem dX12_isFull_52 : decode cX12_isFull 52 = .ok (.getfield 31, 3) := by decide +kernel
theorem dX12_isFull_55 : decode cX12_isFull 55 = .ok (.iconst 5, 1) := by decide +kernel
theorem dX12_isFull_56 : decode cX12_isFull 56 = .ok (.iaload, 1) := by decide +kernel
theorem dX12_isFull_57 : decode cX12_isFull 57 = .ok (.iconst 4, 1) := by decide +kernel
theorem dX12_isFull_58 : decode cX12_isFull 58 = .ok (.if_icmp .eq 24, 3) := by decide +kernel
theorem dX12_isFull_61 : decode cX12_isFull 61 = .ok (.aload_n 0, 1) := by decide +kernel
theorem dX12_isFull_62 : decode cX12_isFull 62 = .ok (.ldc 192, 2) := by decide +kernel
theorem dX12_isFull_64 : decode cX12_isFull 64 = .ok (.invokevirtual 137, 3) := by decide +kernel
theorem dX12_isFull_67 : decode cX12_isFull 67 = .ok (.ifCond .eq 19, 3) := by decide +kernel
theorem dX12_isFull_70 : decode cX12_isFull 70 = .ok (.aload_n 0, 1) := by decide +kernel
theorem dX12_isFull_71 : decode cX12_isFull 71 = .ok (.getfield 31, 3) := by decide +kernel
theorem dX12_isFull_74 : decode cX12_isFull 74 = .ok (.bipush 6, 2) := by decide +kernel
theorem dX12_isFull_76 : decode cX12_isFull 76 = .ok (.iaload, 1) := by decide +kernel
theorem dX12_isFull_77 : decode cX12_isFull 77 = .ok (.bipush 6, 2) := by decide +kernel
theorem dX12_isFull_79 : decode cX12_isFull 79 = .ok (.if_icmp .ne 7, 3) := by decide +kernel
theorem dX12_isFull_82 : decode cX12_isFull 82 = .ok (.iconst 1, 1) := by decide +kernel
theorem dX12_isFull_83 : decode cX12_isFull 83 = .ok (.goto 4, 3) := by decide +kernel
theorem dX12_isFull_86 : decode cX12_isFull 86 = .ok (.iconst 0, 1) := by decide +kernel
theorem dX12_isFull_87 : decode cX12_isFull 87 = .ok (.ireturn, 1) := by decide +kernel
theorem dX12_readNext_0 : decode cX12_readNext 0 = .ok (.aload_n 0, 1) := by decide +kernel
theorem dX12_readNext_1 : decode cX12_readNext 1 = .ok (.ldc 186, 2) := by decide +kernel
theorem dX12_readNext_3 : decode cX12_readNext 3 = .ok (.invokevirtual 137, 3) := by decide +kernel
theorem dX12_readNext_6 : decode cX12_readNext 6 = .ok (.ifCond .ne 30, 3) := by decide +kernel
theorem dX12_readNext_9 : decode cX12_readNext 9 = .ok (.aload_n 0, 1) := by decide +kernel
theorem dX12_readNext_10 : decode cX12_readNext 10 = .ok (.ldc 188, 2) := by decide +kernel
theorem dX12_readNext_12 : decode cX12_readNext 12 = .ok (.invokevirtual 137, 3) := by decide +kernel
theorem dX12_readNext_15 : decode cX12_readNext 15 = .ok (.ifCond .ne 21, 3) := by decide +kernel
theorem dX12_readNext_18 : decode cX12_readNext 18 = .ok (.aload_n 0, 1) := by decide +kernel
theorem dX12_readNext_19 : decode cX12_readNext 19 = .ok (.ldc 190, 2) := by decide +kernel
theorem dX12_readNext_21 : decode cX12_readNext 21 = .ok (.invokevirtual 137, 3) := by decide +kernel
theorem dX12_readNext_24 : decode cX12_readNext 24 = .ok (.ifCond .ne 12, 3) := by decide +kernel
theorem dX12_readNext_27 : decode cX12_readNext 27 = .ok (.aload_n 0, 1) := by decide +kernel
theorem dX12_readNext_28 : decode cX12_readNext 28 = .ok (.ldc 192, 2) := by decide +kernel
theorem dX12_readNext_30 : decode cX12_readNext 30 = .ok (.invokevirtual 137, 3) := by decide +kernel
theorem dX12_readNext_33 : decode cX12_readNext 33 = .ok (.ifCond .eq 7, 3) := by decide +kernel
theorem dX12_readNext_36 : decode cX12_readNext 36 = .ok (.iconst 1, 1) := by decide +kernel
theorem dX12_readNext_37 : decode cX12_readNext 37 = .ok (.goto 4, 3) := by decide +kernel
theorem dX12_readNext_40 : decode cX12_readNext 40 = .ok (.iconst 0, 1) := by decide +kernel
theorem dX12_readNext_41 : decode cX12_readNext 41 = .ok (.istore_n 1, 1) := by decide +kernel
theorem dX12_readNext_42 : decode cX12_readNext 42 = .ok (.iload_n 1, 1) := by decide +kernel
theorem dX12_readNext_43 : decode cX12_readNext 43 = .ok (.ifCond .ne 8, 3) := by decide +kernel
theorem dX12_readNext_46 : decode cX12_readNext 46 = .ok (.aload_n 0, 1) := by decide +kernel
theorem dX12_readNext_47 : decode cX12_readNext 47 = .ok (.iconst 1, 1) := by decide +kernel
theorem dX12_readNext_48 : decode cX12_readNext 48 = .ok (.invokevirtual 147, 3) := by decide +kernel
theorem dX12_readNext_51 : decode cX12_readNext 51 = .ok (.aload_n 0, 1) := by decide +kernel
theorem dX12_readNext_52 : decode cX12_readNext 52 = .ok (.invokevirtual 194, 3) := by decide +kernel
theorem dX12_readNext_55 : decode cX12_readNext 55 = .ok (.ifCond .eq 8, 3) := by decide +kernel
theorem dX12_readNext_58 : decode cX12_readNext 58 = .ok (.aload_n 0, 1) := by decide +kernel
theorem dX12_readNext_59 : decode cX12_readNext 59 = .ok (.iconst 3, 1) := by decide +kernel
theorem dX12_readNext_60 : decode cX12_readNext 60 = .ok (.invokevirtual 147, 3) := by decide +kernel
theorem dX12_readNext_63 : decode cX12_readNext 63 = .ok (.aload_n 0, 1) := by decide +kernel
theorem dX12_readNext_64 : decode cX12_readNext 64 = .ok (.invokevirtual 125, 3) := by decide +kernel
theorem dX12_readNext_67 : decode cX12_readNext 67 = .ok (.ifCond .ne 4, 3) := by decide +kernel
theorem dX12_readNext_70 : decode cX12_readNext 70 = .ok (.return_, 1) := by decide +kernel
theorem dX12_readNext_71 : decode cX12_readNext 71 = .ok (.aload_n 0, 1) := by decide +kernel
theorem dX12_readNext_72 : decode cX12_readNext 72 = .ok (.ldc 186, 2) := by decide +kernel
theorem dX12_readNext_74 : decode cX12_readNext 74 = .ok (.invokevirtual 144, 3) := by decide +kernel
theorem dX12_readNext_77 : decode cX12_readNext 77 = .ok (.ifCond .eq 10, 3) := by decide +kernel
theorem dX12_readNext_80 : decode cX12_readNext 80 = .ok (.aload_n 0, 1) := by decide +kernel
theorem dX12_readNext_81 : decode cX12_readNext 81 = .ok (.invokevirtual 197, 3) := by decide +kernel
theorem dX12_readNext_84 : decode cX12_readNext 84 = .ok (.goto 43, 3) := by decide +kernel
theorem dX12_readNext_87 : decode cX12_readNext 87 = .ok (.aload_n 0, 1) := by decide +kernel
theorem dX12_readNext_88 : decode cX12_readNext 88 = .ok (.ldc 188, 2) := by decide +kernel
theorem dX12_readNext_90 : decode cX12_readNext 90 = .ok (.invokevirtual 144, 3) := by decide +kernel
theorem dX12_readNext_93 : decode cX12_readNext 93 = .ok (.ifCond .eq 10, 3) := by decide +kernel
theorem dX12_readNext_96 : decode cX12_readNext 96 = .ok (.aload_n 0, 1) := by decide +kernel
theorem dX12_readNext_97 : decode cX12_readNext 97 = .ok (.invokevirtual 200, 3) := by decide +kernel
theorem dX12_readNext_100 : decode cX12_readNext 100 = .ok (.goto 27, 3) := by decide +kernel
theorem dX12_readNext_103 : decode cX12_readNext 103 = .ok (.aload_n 0, 1) := by decide +kernel
theorem dX12_readNext_104 : decode cX12_readNext 104 = .ok (.ldc 190, 2) := by decide +kernel
theorem dX12_readNext_106 : decode cX12_readNext 106 = .ok (.invokevirtual 144, 3) := by decide +kernel
theorem dX12_readNext_109 : decode cX12_readNext 109 = .ok (.ifCond .eq 10, 3) := by decide +kernel
theorem dX12_readNext_112 : decode cX12_readNext 112 = .ok (.aload_n 0, 1) := by decide +kernel
theorem dX12_readNext_113 : decode cX12_readNext 113 = .ok (.invokevirtual 203, 3) := by decide +kernel
theorem dX12_readNext_116 : decode cX12_readNext 116 = .ok (.goto 11, 3) := by decide +kernel
theorem dX12_readNext_119 : decode cX12_readNext 119 = .ok (.aload_n 0, 1) := by decide +kernel
theorem dX12_readNext_120 : decode cX12_readNext 120 = .ok (.invokevirtual 141, 3) := by decide +kernel
theorem dX12_readNext_123 : decode cX12_readNext 123 = .ok (.aload_n 0, 1) := by decide +kernel
theorem dX12_readNext_124 : decode cX12_readNext 124 = .ok (.invokevirtual 206, 3) := by decide +kernel
theorem dX12_readNext_127 : decode cX12_readNext 127 = .ok (.return_, 1) := by decide +kernel
theorem dX12_readLine_0 : decode cX12_readLine 0 = .ok (.aload_n 0, 1) := by decide +kernel
theorem dX12_readLine_1 : decode cX12_readLine 1 = .ok (.getfield 31, 3) := by decide +kernel
theorem dX12_readLine_4 : decode cX12_readLine 4 = .ok (.bipush 8, 2) := by decide +kernel
theorem dX12_readLine_6 : decode cX12_readLine 6 = .ok (.iaload, 1) := by decide +kernel
theorem dX12_readLine_7 : decode cX12_readLine 7 = .ok (.ifCond .ne 10, 3) := by decide +kernel
theorem dX12_readLine_10 : decode cX12_readLine 10 = .ok (.aload_n 0, 1) := by decide +kernel
theorem dX12_readLine_11 : decode cX12_readLine 11 = .ok (.invokevirtual 209, 3) := by decide +kernel
theorem dX12_readLine_14 : decode cX12_readLine 14 = .ok (.goto 7, 3) := by decide +kernel
theorem dX12_readLine_17 : decode cX12_readLine 17 = .ok (.aload_n 0, 1) := by decide +kernel
theorem dX12_readLine_18 : decode cX12_readLine 18 = .ok (.invokevirtual 212, 3) := by decide +kernel
theorem dX12_readLine_21 : decode cX12_readLine 21 = .ok (.aload_n 0, 1) := by decide +kernel
theorem dX12_readLine_22 : decode cX12_readLine 22 = .ok (.invokevirtual 125, 3) := by decide +kernel
theorem dX12_readLine_25 : decode cX12_readLine 25 = .ok (.ifCond .eq 16, 3) := by decide +kernel
theorem dX12_readLine_28 : decode cX12_readLine 28 = .ok (.aload_n 0, 1) := by decide +kernel
theorem dX12_readLine_29 : decode cX12_readLine 29 = .ok (.getfield 101, 3) := by decide +kernel
theorem dX12_readLine_32 : decode cX12_readLine 32 = .ok (.iconst 3, 1) := by decide +kernel
theorem dX12_readLine_33 : decode cX12_readLine 33 = .ok (.if_icmp .eq 8, 3) := by decide +kernel
theorem dX12_readLine_36 : decode cX12_readLine 36 = .ok (.aload_n 0, 1) := by decide +kernel
theorem dX12_readLine_37 : decode cX12_readLine 37 = .ok (.iconst 1, 1) := by decide +kernel
theorem dX12_readLine_38 : decode cX12_readLine 38 = .ok (.invokevirtual 147, 3) := by decide +kernel
theorem dX12_readLine_41 : decode cX12_readLine 41 = .ok (.aload_n 0, 1) := by decide +kernel
theorem dX12_readLine_42 : decode cX12_readLine 42 = .ok (.invokevirtual 125, 3) := by decide +kernel
theorem dX12_readLine_45 : decode cX12_readLine 45 = .ok (.ifCond .eq 7, 3) := by decide +kernel
theorem dX12_readLine_48 : decode cX12_readLine 48 = .ok (.aload_n 0, 1) := by decide +kernel
theorem dX12_readLine_49 : decode cX12_readLine 49 = .ok (.invokevirtual 141, 3) := by decide +kernel
theorem dX12_readLine_52 : decode cX12_readLine 52 = .ok (.aload_n 0, 1) := by decide +kernel
theorem dX12_readLine_53 : decode cX12_readLine 53 = .ok (.getfield 31, 3) := by decide +kernel
theorem dX12_readLine_56 : decode cX12_readLine 56 = .ok (.bipush 8, 2) := by decide +kernel
theorem dX12_readLine_58 : decode cX12_readLine 58 = .ok (.dup2, 1) := by decide +kernel
theorem dX12_readLine_59 : decode cX12_readLine 59 = .ok (.iaload, 1) := by decide +kernel
theorem dX12_readLine_60 : decode cX12_readLine 60 = .ok (.iconst 1, 1) := by decide +kernel
theorem dX12_readLine_61 : decode cX12_readLine 61 = .ok (.iadd, 1) := by decide +kernel
theorem dX12_readLine_62 : decode cX12_readLine 62 = .ok (.iastore, 1) := by decide +kernel
theorem dX12_readLine_63 : decode cX12_readLine 63 = .ok (.return_, 1) := by decide +kernel
theorem dX12_night_0 : decode cX12_night 0 = .ok (.aload_n 0, 1) := by decide +kernel
theorem dX12_night_1 : decode cX12_night 1 = .ok (.aload_n 0, 1) := by decide +kernel
theorem dX12_night_2 : decode cX12_night 2 = .ok (.getfield 85, 3) := by decide +kernel
theorem dX12_night_5 : decode cX12_night 5 = .ok (.putfield 88, 3) := by decide +kernel
theorem dX12_night_8 : decode cX12_night 8 = .ok (.aload_n 0, 1) := by decide +kernel
theorem dX12_night_9 : decode cX12_night 9 = .ok (.iconst 0, 1) := by decide +kernel
theorem dX12_night_10 : decode cX12_night 10 = .ok (.putfield 85, 3) := by decide +kernel
theorem dX12_night_13 : decode cX12_night 13 = .ok (.aload_n 0, 1) := by decide +kernel
theorem dX12_night_14 : decode cX12_night 14 = .ok (.iconst 0, 1) := by decide +kernel
theorem dX12_night_15 : decode cX12_night 15 = .ok (.putfield 91, 3) := by decide +kernel
theorem dX12_night_18 : decode cX12_night 18 = .ok (.aload_n 0, 1) := by decide +kernel
theorem dX12_night_19 : decode cX12_night 19 = .ok (.iconst 0, 1) := by decide +kernel
theorem dX12_night_20 : decode cX12_night 20 = .ok (.putfield 122, 3) := by decide +kernel
theorem dX12_night_23 : decode cX12_night 23 = .ok (.aload_n 0, 1) := by decide +kernel
theorem dX12_night_24 : decode cX12_night 24 = .ok (.iconst (-1), 1) := by decide +kernel
theorem dX12_night_25 : decode cX12_night 25 = .ok (.putfield 27, 3) := by decide +kernel
theorem dX12_night_28 : decode cX12_night 28 = .ok (.iconst 0, 1) := by decide +kernel
theorem dX12_night_29 : decode cX12_night 29 = .ok (.istore_n 1, 1) := by decide +kernel
theorem dX12_night_30 : decode cX12_night 30 = .ok (.iload_n 1, 1) := by decide +kernel
theorem dX12_night_31 : decode cX12_night 31 = .ok (.bipush 104, 2) := by decide +kernel
theorem dX12_night_33 : decode cX12_night 33 = .ok (.if_icmp .ge 16, 3) := by decide +kernel
theorem dX12_night_36 : decode cX12_night 36 = .ok (.aload_n 0, 1) := by decide +kernel
theorem dX12_night_37 : decode cX12_night 37 = .ok (.getfield 31, 3) := by decide +kernel
theorem dX12_night_40 : decode cX12_night 40 = .ok (.iload_n 1, 1) := by decide +kernel
theorem dX12_night_41 : decode cX12_night 41 = .ok (.iconst 0, 1) := by decide +kernel
theorem dX12_night_42 : decode cX12_night 42 = .ok (.iastore, 1) := by decide +kernel
theorem dX12_night_43 : decode cX12_night 43 = .ok (.iinc 1 1, 3) := by decide +kernel
theorem dX12_night_46 : decode cX12_night 46 = .ok (.goto (-16), 3) := by decide +kernel
theorem dX12_night_49 : decode cX12_night 49 = .ok (.aload_n 0, 1) := by decide +kernel
theorem dX12_night_50 : decode cX12_night 50 = .ok (.invokevirtual 141, 3) := by decide +kernel
theorem dX12_night_53 : decode cX12_night 53 = .ok (.aload_n 0, 1) := by decide +kernel
theorem dX12_night_54 : decode cX12_night 54 = .ok (.invokevirtual 125, 3) := by decide +kernel
theorem dX12_night_57 : decode cX12_night 57 = .ok (.ifCond .eq 17, 3) := by decide +kernel
theorem dX12_night_60 : decode cX12_night 60 = .ok (.aload_n 0, 1) := by decide +kernel
theorem dX12_night_61 : decode cX12_night 61 = .ok (.getfield 101, 3) := by decide +kernel
theorem dX12_night_64 : decode cX12_night 64 = .ok (.ifCond .eq 10, 3) := by decide +kernel
theorem dX12_night_67 : decode cX12_night 67 = .ok (.aload_n 0, 1) := by decide +kernel
theorem dX12_night_68 : decode cX12_night 68 = .ok (.invokevirtual 215, 3) := by decide +kernel
theorem dX12_night_71 : decode cX12_night 71 = .ok (.goto (-18), 3) := by decide +kernel
theorem dX12_night_74 : decode cX12_night 74 = .ok (.aload_n 0, 1) := by decide +kernel
theorem dX12_night_75 : decode cX12_night 75 = .ok (.invokevirtual 125, 3) := by decide +kernel
theorem dX12_night_78 : decode cX12_night 78 = .ok (.ifCond .ne 6, 3) := by decide +kernel
theorem dX12_night_81 : decode cX12_night 81 = .ok (.bipush (-4), 2) := by decide +kernel
theorem dX12_night_83 : decode cX12_night 83 = .ok (.ireturn, 1) := by decide +kernel
theorem dX12_night_84 : decode cX12_night 84 = .ok (.iconst 0, 1) := by decide +kernel
theorem dX12_night_85 : decode cX12_night 85 = .ok (.istore_n 1, 1) := by decide +kernel
theorem dX12_night_86 : decode cX12_night 86 = .ok (.iload_n 1, 1) := by decide +kernel
theorem dX12_night_87 : decode cX12_night 87 = .ok (.bipush 104, 2) := by decide +kernel
theorem dX12_night_89 : decode cX12_night 89 = .ok (.if_icmp .ge 21, 3) := by decide +kernel
theorem dX12_night_92 : decode cX12_night 92 = .ok (.aload_n 0, 1) := by decide +kernel
theorem dX12_night_93 : decode cX12_night 93 = .ok (.getfield 9, 3) := by decide +kernel
theorem dX12_night_96 : decode cX12_night 96 = .ok (.iload_n 1, 1) := by decide +kernel
theorem dX12_night_97 : decode cX12_night 97 = .ok (.aload_n 0, 1) := by decide +kernel
theorem dX12_night_98 : decode cX12_night 98 = .ok (.getfield 31, 3) := by decide +kernel
theorem dX12_night_101 : decode cX12_night 101 = .ok (.iload_n 1, 1) := by decide +kernel
theorem dX12_night_102 : decode cX12_night 102 = .ok (.iaload, 1) := by decide +kernel
theorem dX12_night_103 : decode cX12_night 103 = .ok (.iastore, 1) := by decide +kernel
theorem dX12_night_104 : decode cX12_night 104 = .ok (.iinc 1 1, 3) := by decide +kernel
theorem dX12_night_107 : decode cX12_night 107 = .ok (.goto (-21), 3) := by decide +kernel
theorem dX12_night_110 : decode cX12_night 110 = .ok (.aload_n 0, 1) := by decide +kernel
theorem dX12_night_111 : decode cX12_night 111 = .ok (.getfield 9, 3) := by decide +kernel
theorem dX12_night_114 : decode cX12_night 114 = .ok (.bipush 8, 2) := by decide +kernel
theorem dX12_night_116 : decode cX12_night 116 = .ok (.iaload, 1) := by decide +kernel
theorem dX12_night_117 : decode cX12_night 117 = .ok (.ireturn, 1) := by decide +kernel
theorem dX12_pew_0 : decode cX12_pew 0 = .ok (.aload_n 0, 1) := by decide +kernel
theorem dX12_pew_1 : decode cX12_pew 1 = .ok (.iload_n 1, 1) := by decide +kernel
theorem dX12_pew_2 : decode cX12_pew 2 = .ok (.i2l, 1) := by decide +kernel
theorem dX12_pew_3 : decode cX12_pew 3 = .ok (.invokevirtual 218, 3) := by decide +kernel
theorem dX12_pew_6 : decode cX12_pew 6 = .ok (.ifCond .eq 24, 3) := by decide +kernel
theorem dX12_pew_9 : decode cX12_pew 9 = .ok (.iload_n 2, 1) := by decide +kernel
theorem dX12_pew_10 : decode cX12_pew 10 = .ok (.i2l, 1) := by decide +kernel
theorem dX12_pew_11 : decode cX12_pew 11 = .ok (.lconst 0, 1) := by decide +kernel
theorem dX12_pew_12 : decode cX12_pew 12 = .ok (.ldc2_w 68, 3) := by decide +kernel
theorem dX12_pew_15 : decode cX12_pew 15 = .ok (.invokestatic 70, 3) := by decide +kernel
theorem dX12_pew_18 : decode cX12_pew 18 = .ok (.ifCond .eq 12, 3) := by decide +kernel
theorem dX12_pew_21 : decode cX12_pew 21 = .ok (.aload_n 0, 1) := by decide +kernel
theorem dX12_pew_22 : decode cX12_pew 22 = .ok (.iload_n 1, 1) := by decide +kernel
theorem dX12_pew_23 : decode cX12_pew 23 = .ok (.iload_n 2, 1) := by decide +kernel
theorem dX12_pew_24 : decode cX12_pew 24 = .ok (.invokevirtual 222, 3) := by decide +kernel
theorem dX12_pew_27 : decode cX12_pew 27 = .ok (.goto 5, 3) := by decide +kernel
theorem dX12_pew_30 : decode cX12_pew 30 = .ok (.bipush (-2), 2) := by decide +kernel
theorem dX12_pew_32 : decode cX12_pew 32 = .ok (.ireturn, 1) := by decide +kernel
theorem dX12_longOf_0 : decode cX12_longOf 0 = .ok (.iconst 0, 1) := by decide +kernel
theorem dX12_longOf_1 : decode cX12_longOf 1 = .ok (.istore_n 1, 1) := by decide +kernel
theorem dX12_longOf_2 : decode cX12_longOf 2 = .ok (.iload_n 0, 1) := by decide +kernel
theorem dX12_longOf_3 : decode cX12_longOf 3 = .ok (.istore_n 2, 1) := by decide +kernel
theorem dX12_longOf_4 : decode cX12_longOf 4 = .ok (.iload_n 2, 1) := by decide +kernel
theorem dX12_longOf_5 : decode cX12_longOf 5 = .ok (.ifCond .le 13, 3) := by decide +kernel
theorem dX12_longOf_8 : decode cX12_longOf 8 = .ok (.iinc 1 1, 3) := by decide +kernel
theorem dX12_longOf_11 : decode cX12_longOf 11 = .ok (.iload_n 2, 1) := by decide +kernel
theorem dX12_longOf_12 : decode cX12_longOf 12 = .ok (.iconst 5, 1) := by decide +kernel
theorem dX12_longOf_13 : decode cX12_longOf 13 = .ok (.idiv, 1) := by decide +kernel
theorem dX12_longOf_14 : decode cX12_longOf 14 = .ok (.istore_n 2, 1) := by decide +kernel
theorem dX12_longOf_15 : decode cX12_longOf 15 = .ok (.goto (-11), 3) := by decide +kernel
theorem dX12_longOf_18 : decode cX12_longOf 18 = .ok (.iload_n 1, 1) := by decide +kernel
theorem dX12_longOf_19 : decode cX12_longOf 19 = .ok (.ireturn, 1) := by decide +kernel
theorem dX12_letterOf_0 : decode cX12_letterOf 0 = .ok (.iload_n 0, 1) := by decide +kernel
theorem dX12_letterOf_1 : decode cX12_letterOf 1 = .ok (.istore_n 2, 1) := by decide +kernel
theorem dX12_letterOf_2 : decode cX12_letterOf 2 = .ok (.iload_n 0, 1) := by decide +kernel
theorem dX12_letterOf_3 : decode cX12_letterOf 3 = .ok (.invokestatic 225, 3) := by decide +kernel
theorem dX12_letterOf_6 : decode cX12_letterOf 6 = .ok (.iconst 1, 1) := by decide +kernel
theorem dX12_letterOf_7 : decode cX12_letterOf 7 = .ok (.isub, 1) := by decide +kernel
theorem dX12_letterOf_8 : decode cX12_letterOf 8 = .ok (.istore_n 3, 1) := by decide +kernel
theorem dX12_letterOf_9 : decode cX12_letterOf 9 = .ok (.iload_n 3, 1) := by decide +kernel
theorem dX12_letterOf_10 : decode cX12_letterOf 10 = .ok (.iload_n 1, 1) := by decide +kernel
theorem dX12_letterOf_11 : decode cX12_letterOf 11 = .ok (.if_icmp .le 13, 3) := by decide +kernel
theorem dX12_letterOf_14 : decode cX12_letterOf 14 = .ok (.iload_n 2, 1) := by decide +kernel
theorem dX12_letterOf_15 : decode cX12_letterOf 15 = .ok (.iconst 5, 1) := by decide +kernel
theorem dX12_letterOf_16 : decode cX12_letterOf 16 = .ok (.idiv, 1) := by decide +kernel
theorem dX12_letterOf_17 : decode cX12_letterOf 17 = .ok (.istore_n 2, 1) := by decide +kernel
theorem dX12_letterOf_18 : decode cX12_letterOf 18 = .ok (.iinc 3 (-1), 3) := by decide +kernel
theorem dX12_letterOf_21 : decode cX12_letterOf 21 = .ok (.goto (-12), 3) := by decide +kernel
theorem dX12_letterOf_24 : decode cX12_letterOf 24 = .ok (.iload_n 2, 1) := by decide +kernel
theorem dX12_letterOf_25 : decode cX12_letterOf 25 = .ok (.iconst 5, 1) := by decide +kernel
theorem dX12_letterOf_26 : decode cX12_letterOf 26 = .ok (.irem, 1) := by decide +kernel
theorem dX12_letterOf_27 : decode cX12_letterOf 27 = .ok (.ireturn, 1) := by decide +kernel
theorem dX12_letterOrNone_0 : decode cX12_letterOrNone 0 = .ok (.iload_n 1, 1) := by decide +kernel
theorem dX12_letterOrNone_1 : decode cX12_letterOrNone 1 = .ok (.iload_n 0, 1) := by decide +kernel
theorem dX12_letterOrNone_2 : decode cX12_letterOrNone 2 = .ok (.invokestatic 225, 3) := by decide +kernel
theorem dX12_letterOrNone_5 : decode cX12_letterOrNone 5 = .ok (.if_icmp .ge 11, 3) := by decide +kernel
theorem dX12_letterOrNone_8 : decode cX12_letterOrNone 8 = .ok (.iload_n 0, 1) := by decide +kernel
theorem dX12_letterOrNone_9 : decode cX12_letterOrNone 9 = .ok (.iload_n 1, 1) := by decide +kernel
theorem dX12_letterOrNone_10 : decode cX12_letterOrNone 10 = .ok (.invokestatic 228, 3) := by decide +kernel
theorem dX12_letterOrNone_13 : decode cX12_letterOrNone 13 = .ok (.goto 4, 3) := by decide +kernel
theorem dX12_letterOrNone_16 : decode cX12_letterOrNone 16 = .ok (.iconst (-1), 1) := by decide +kernel
theorem dX12_letterOrNone_17 : decode cX12_letterOrNone 17 = .ok (.ireturn, 1) := by decide +kernel
theorem dX12_changed_0 : decode cX12_changed 0 = .ok (.aload_n 0, 1) := by decide +kernel
theorem dX12_changed_1 : decode cX12_changed 1 = .ok (.iload_n 1, 1) := by decide +kernel
theorem dX12_changed_2 : decode cX12_changed 2 = .ok (.iconst 0, 1) := by decide +kernel
theorem dX12_changed_3 : decode cX12_changed 3 = .ok (.invokevirtual 222, 3) := by decide +kernel
theorem dX12_changed_6 : decode cX12_changed 6 = .ok (.istore_n 3, 1) := by decide +kernel
theorem dX12_changed_7 : decode cX12_changed 7 = .ok (.iload_n 2, 1) := by decide +kernel
theorem dX12_changed_8 : decode cX12_changed 8 = .ok (.invokestatic 225, 3) := by decide +kernel
theorem dX12_changed_11 : decode cX12_changed 11 = .ok (.istore 4, 2) := by decide +kernel
theorem dX12_changed_13 : decode cX12_changed 13 = .ok (.iload_n 3, 1) := by decide +kernel
theorem dX12_changed_14 : decode cX12_changed 14 = .ok (.ifCond .ne 5, 3) := by decide +kernel
theorem dX12_changed_17 : decode cX12_changed 17 = .ok (.iload_n 2, 1) := by decide +kernel
theorem dX12_changed_18 : decode cX12_changed 18 = .ok (.ireturn, 1) := by decide +kernel
theorem dX12_changed_19 : decode cX12_changed 19 = .ok (.iload_n 3, 1) := by decide +kernel
theorem dX12_changed_20 : decode cX12_changed 20 = .ok (.iconst 2, 1) := by decide +kernel
theorem dX12_changed_21 : decode cX12_changed 21 = .ok (.if_icmp .ne 7, 3) := by decide +kernel
theorem dX12_changed_24 : decode cX12_changed 24 = .ok (.iload_n 2, 1) := by decide +kernel
theorem dX12_changed_25 : decode cX12_changed 25 = .ok (.iconst 5, 1) := by decide +kernel
theorem dX12_changed_26 : decode cX12_changed 26 = .ok (.idiv, 1) := by decide +kernel
theorem dX12_changed_27 : decode cX12_changed 27 = .ok (.ireturn, 1) := by decide +kernel
theorem dX12_changed_28 : decode cX12_changed 28 = .ok (.iload_n 3, 1) := by decide +kernel
theorem dX12_changed_29 : decode cX12_changed 29 = .ok (.iconst 3, 1) := by decide +kernel
theorem dX12_changed_30 : decode cX12_changed 30 = .ok (.if_icmp .ne 25, 3) := by decide +kernel
theorem dX12_changed_33 : decode cX12_changed 33 = .ok (.iload 4, 2) := by decide +kernel
theorem dX12_changed_35 : decode cX12_changed 35 = .ok (.bipush 6, 2) := by decide +kernel
theorem dX12_changed_37 : decode cX12_changed 37 = .ok (.if_icmp .ne 7, 3) := by decide +kernel
theorem dX12_changed_40 : decode cX12_changed 40 = .ok (.iload_n 2, 1) := by decide +kernel
theorem dX12_changed_41 : decode cX12_changed 41 = .ok (.goto 13, 3) := by decide +kernel
theorem dX12_changed_44 : decode cX12_changed 44 = .ok (.iconst 5, 1) := by decide +kernel
theorem dX12_changed_45 : decode cX12_changed 45 = .ok (.iload_n 2, 1) := by decide +kernel
theorem dX12_changed_46 : decode cX12_changed 46 = .ok (.imul, 1) := by decide +kernel
theorem dX12_changed_47 : decode cX12_changed 47 = .ok (.aload_n 0, 1) := by decide +kernel
theorem dX12_changed_48 : decode cX12_changed 48 = .ok (.iload_n 1, 1) := by decide +kernel
theorem dX12_changed_49 : decode cX12_changed 49 = .ok (.iconst 1, 1) := by decide +kernel
theorem dX12_changed_50 : decode cX12_changed 50 = .ok (.invokevirtual 222, 3) := by decide +kernel
theorem dX12_changed_53 : decode cX12_changed 53 = .ok (.iadd, 1) := by decide +kernel
theorem dX12_changed_54 : decode cX12_changed 54 = .ok (.ireturn, 1) := by decide +kernel
theorem dX12_changed_55 : decode cX12_changed 55 = .ok (.iconst 0, 1) := by decide +kernel
theorem dX12_changed_56 : decode cX12_changed 56 = .ok (.istore 5, 2) := by decide +kernel
theorem dX12_changed_58 : decode cX12_changed 58 = .ok (.iconst 0, 1) := by decide +kernel
theorem dX12_changed_59 : decode cX12_changed 59 = .ok (.istore 6, 2) := by decide +kernel
theorem dX12_changed_61 : decode cX12_changed 61 = .ok (.iload 6, 2) := by decide +kernel
theorem dX12_changed_63 : decode cX12_changed 63 = .ok (.iload 4, 2) := by decide +kernel
theorem dX12_changed_65 : decode cX12_changed 65 = .ok (.if_icmp .ge 66, 3) := by decide +kernel
theorem dX12_changed_68 : decode cX12_changed 68 = .ok (.iload_n 2, 1) := by decide +kernel
theorem dX12_changed_69 : decode cX12_changed 69 = .ok (.iload_n 3, 1) := by decide +kernel
theorem dX12_changed_70 : decode cX12_changed 70 = .ok (.iconst 1, 1) := by decide +kernel
theorem dX12_changed_71 : decode cX12_changed 71 = .ok (.if_icmp .ne 13, 3) := by decide +kernel
theorem dX12_changed_74 : decode cX12_changed 74 = .ok (.iload 4, 2) := by decide +kernel
theorem dX12_changed_76 : decode cX12_changed 76 = .ok (.iconst 1, 1) := by decide +kernel
theorem dX12_changed_77 : decode cX12_changed 77 = .ok (.isub, 1) := by decide +kernel
theorem dX12_changed_78 : decode cX12_changed 78 = .ok (.iload 6, 2) := by decide +kernel
theorem dX12_changed_80 : decode cX12_changed 80 = .ok (.isub, 1) := by decide +kernel
theorem dX12_changed_81 : decode cX12_changed 81 = .ok (.goto 5, 3) := by decide +kernel
theorem dX12_changed_84 : decode cX12_changed 84 = .ok (.iload 6, 2) := by decide +kernel
theorem dX12_changed_86 : decode cX12_changed 86 = .ok (.invokestatic 228, 3) := by decide +kernel
theorem dX12_changed_89 : decode cX12_changed 89 = .ok (.istore 7, 2) := by decide +kernel
theorem dX12_changed_91 : decode cX12_changed 91 = .ok (.iconst 5, 1) := by decide +kernel
theorem dX12_changed_92 : decode cX12_changed 92 = .ok (.iload 5, 2) := by decide +kernel
theorem dX12_changed_94 : decode cX12_changed 94 = .ok (.imul, 1) := by decide +kernel
theorem dX12_changed_95 : decode cX12_changed 95 = .ok (.iload_n 3, 1) := by decide +kernel
theorem dX12_changed_96 : decode cX12_changed 96 = .ok (.iconst 4, 1) := by decide +kernel
theorem dX12_changed_97 : decode cX12_changed 97 = .ok (.if_icmp .ne 23, 3) := by decide +kernel
theorem dX12_changed_100 : decode cX12_changed 100 = .ok (.iload 7, 2) := by decide +kernel
theorem dX12_changed_102 : decode cX12_changed 102 = .ok (.aload_n 0, 1) := by decide +kernel
theorem dX12_changed_103 : decode cX12_changed 103 = .ok (.iload_n 1, 1) := by decide +kernel
theorem dX12_changed_104 : decode cX12_changed 104 = .ok (.iconst 1, 1) := by decide +kernel
theorem dX12_changed_105 : decode cX12_changed 105 = .ok (.invokevirtual 222, 3) := by decide +kernel
theorem dX12_changed_108 : decode cX12_changed 108 = .ok (.if_icmp .ne 12, 3) := by decide +kernel
theorem dX12_changed_111 : decode cX12_changed 111 = .ok (.aload_n 0, 1) := by decide +kernel
theorem dX12_changed_112 : decode cX12_changed 112 = .ok (.iload_n 1, 1) := by decide +kernel
theorem dX12_changed_113 : decode cX12_changed 113 = .ok (.iconst 2, 1) := by decide +kernel
theorem dX12_changed_114 : decode cX12_changed 114 = .ok (.invokevirtual 222, 3) := by decide +kernel
theorem dX12_changed_117 : decode cX12_changed 117 = .ok (.goto 5, 3) := by decide +kernel
theorem dX12_changed_120 : decode cX12_changed 120 = .ok (.iload 7, 2) := by decide +kernel
theorem dX12_changed_122 : decode cX12_changed 122 = .ok (.iadd, 1) := by decide +kernel
theorem dX12_changed_123 : decode cX12_changed 123 = .ok (.istore 5, 2) := by decide +kernel
theorem dX12_changed_125 : decode cX12_changed 125 = .ok (.iinc 6 1, 3) := by decide +kernel
theorem dX12_changed_128 : decode cX12_changed 128 = .ok (.goto (-67), 3) := by decide +kernel
theorem dX12_changed_131 : decode cX12_changed 131 = .ok (.iload 5, 2) := by decide +kernel
theorem dX12_changed_133 : decode cX12_changed 133 = .ok (.ireturn, 1) := by decide +kernel
theorem dX12_told_0 : decode cX12_told 0 = .ok (.iload_n 1, 1) := by decide +kernel
theorem dX12_told_1 : decode cX12_told 1 = .ok (.i2l, 1) := by decide +kernel
theorem dX12_told_2 : decode cX12_told 2 = .ok (.lconst 0, 1) := by decide +kernel
theorem dX12_told_3 : decode cX12_told 3 = .ok (.aload_n 0, 1) := by decide +kernel
theorem dX12_told_4 : decode cX12_told 4 = .ok (.getfield 9, 3) := by decide +kernel
theorem dX12_told_7 : decode cX12_told 7 = .ok (.iconst 5, 1) := by decide +kernel
theorem dX12_told_8 : decode cX12_told 8 = .ok (.iaload, 1) := by decide +kernel
theorem dX12_told_9 : decode cX12_told 9 = .ok (.iconst 1, 1) := by decide +kernel
theorem dX12_told_10 : decode cX12_told 10 = .ok (.isub, 1) := by decide +kernel
theorem dX12_told_11 : decode cX12_told 11 = .ok (.i2l, 1) := by decide +kernel
theorem dX12_told_12 : decode cX12_told 12 = .ok (.invokestatic 70, 3) := by decide +kernel
theorem dX12_told_15 : decode cX12_told 15 = .ok (.ifCond .ne 6, 3) := by decide +kernel
theorem dX12_told_18 : decode cX12_told 18 = .ok (.bipush (-2), 2) := by decide +kernel
theorem dX12_told_20 : decode cX12_told 20 = .ok (.ireturn, 1) := by decide +kernel
theorem dX12_told_21 : decode cX12_told 21 = .ok (.iload_n 2, 1) := by decide +kernel
theorem dX12_told_22 : decode cX12_told 22 = .ok (.ifCond .ge 7, 3) := by decide +kernel
theorem dX12_told_25 : decode cX12_told 25 = .ok (.iconst (-1), 1) := by decide +kernel
theorem dX12_told_26 : decode cX12_told 26 = .ok (.goto 20, 3) := by decide +kernel
theorem dX12_told_29 : decode cX12_told 29 = .ok (.aload_n 0, 1) := by decide +kernel
theorem dX12_told_30 : decode cX12_told 30 = .ok (.getfield 9, 3) := by decide +kernel
theorem dX12_told_33 : decode cX12_told 33 = .ok (.bipush 54, 2) := by decide +kernel
theorem dX12_told_35 : decode cX12_told 35 = .ok (.iconst 2, 1) := by decide +kernel
theorem dX12_told_36 : decode cX12_told 36 = .ok (.iload_n 1, 1) := by decide +kernel
theorem dX12_told_37 : decode cX12_told 37 = .ok (.imul, 1) := by decide +kernel
theorem dX12_told_38 : decode cX12_told 38 = .ok (.iadd, 1) := by decide +kernel
theorem dX12_told_39 : decode cX12_told 39 = .ok (.iconst 1, 1) := by decide +kernel
theorem dX12_told_40 : decode cX12_told 40 = .ok (.iadd, 1) := by decide +kernel
theorem dX12_told_41 : decode cX12_told 41 = .ok (.iaload, 1) := by decide +kernel
theorem dX12_told_42 : decode cX12_told 42 = .ok (.iload_n 2, 1) := by decide +kernel
theorem dX12_told_43 : decode cX12_told 43 = .ok (.invokestatic 231, 3) := by decide +kernel
theorem dX12_told_46 : decode cX12_told 46 = .ok (.ireturn, 1) := by decide +kernel
theorem dX12_nearOf_0 : decode cX12_nearOf 0 = .ok (.iconst 0, 1) := by decide +kernel
theorem dX12_nearOf_1 : decode cX12_nearOf 1 = .ok (.istore_n 2, 1) := by decide +kernel
theorem dX12_nearOf_2 : decode cX12_nearOf 2 = .ok (.iconst 0, 1) := by decide +kernel
theorem dX12_nearOf_3 : decode cX12_nearOf 3 = .ok (.istore_n 3, 1) := by decide +kernel
theorem dX12_nearOf_4 : decode cX12_nearOf 4 = .ok (.iload_n 3, 1) := by decide +kernel
theorem dX12_nearOf_5 : decode cX12_nearOf 5 = .ok (.aload_n 0, 1) := by decide +kernel
theorem dX12_nearOf_6 : decode cX12_nearOf 6 = .ok (.getfield 9, 3) := by decide +kernel
theorem dX12_nearOf_9 : decode cX12_nearOf 9 = .ok (.iconst 4, 1) := by decide +kernel
theorem dX12_nearOf_10 : decode cX12_nearOf 10 = .ok (.iaload, 1) := by decide +kernel
theorem dX12_nearOf_11 : decode cX12_nearOf 11 = .ok (.if_icmp .ge 67, 3) := by decide +kernel
theorem dX12_nearOf_14 : decode cX12_nearOf 14 = .ok (.aload_n 0, 1) := by decide +kernel
theorem dX12_nearOf_15 : decode cX12_nearOf 15 = .ok (.getfield 9, 3) := by decide +kernel
theorem dX12_nearOf_18 : decode cX12_nearOf 18 = .ok (.bipush 30, 2) := by decide +kernel
theorem dX12_nearOf_20 : decode cX12_nearOf 20 = .ok (.iconst 2, 1) := by decide +kernel
theorem dX12_nearOf_21 : decode cX12_nearOf 21 = .ok (.iload_n 3, 1) := by decide +kernel
theorem dX12_nearOf_22 : decode cX12_nearOf 22 = .ok (.imul, 1) := by decide +kernel
theorem dX12_nearOf_23 : decode cX12_nearOf 23 = .ok (.iadd, 1) := by decide +kernel
theorem dX12_nearOf_24 : decode cX12_nearOf 24 = .ok (.iaload, 1) := by decide +kernel
theorem dX12_nearOf_25 : decode cX12_nearOf 25 = .ok (.istore 4, 2) := by decide +kernel
theorem dX12_nearOf_27 : decode cX12_nearOf 27 = .ok (.aload_n 0, 1) := by decide +kernel
theorem dX12_nearOf_28 : decode cX12_nearOf 28 = .ok (.getfield 9, 3) := by decide +kernel
theorem dX12_nearOf_31 : decode cX12_nearOf 31 = .ok (.bipush 30, 2) := by decide +kernel
theorem dX12_nearOf_33 : decode cX12_nearOf 33 = .ok (.iconst 2, 1) := by decide +kernel
theorem dX12_nearOf_34 : decode cX12_nearOf 34 = .ok (.iload_n 3, 1) := by decide +kernel
theorem dX12_nearOf_35 : decode cX12_nearOf 35 = .ok (.imul, 1) := by decide +kernel
theorem dX12_nearOf_36 : decode cX12_nearOf 36 = .ok (.iadd, 1) := by decide +kernel
theorem dX12_nearOf_37 : decode cX12_nearOf 37 = .ok (.iconst 1, 1) := by decide +kernel
theorem dX12_nearOf_38 : decode cX12_nearOf 38 = .ok (.iadd, 1) := by decide +kernel
theorem dX12_nearOf_39 : decode cX12_nearOf 39 = .ok (.iaload, 1) := by decide +kernel
theorem dX12_nearOf_40 : decode cX12_nearOf 40 = .ok (.istore 5, 2) := by decide +kernel
theorem dX12_nearOf_42 : decode cX12_nearOf 42 = .ok (.iload_n 2, 1) := by decide +kernel
theorem dX12_nearOf_43 : decode cX12_nearOf 43 = .ok (.iload 4, 2) := by decide +kernel
theorem dX12_nearOf_45 : decode cX12_nearOf 45 = .ok (.iload_n 1, 1) := by decide +kernel
theorem dX12_nearOf_46 : decode cX12_nearOf 46 = .ok (.if_icmp .ne 10, 3) := by decide +kernel
theorem dX12_nearOf_49 : decode cX12_nearOf 49 = .ok (.iconst 1, 1) := by decide +kernel
theorem dX12_nearOf_50 : decode cX12_nearOf 50 = .ok (.iload 5, 2) := by decide +kernel
theorem dX12_nearOf_52 : decode cX12_nearOf 52 = .ok (.ishl, 1) := by decide +kernel
theorem dX12_nearOf_53 : decode cX12_nearOf 53 = .ok (.goto 17, 3) := by decide +kernel
theorem dX12_nearOf_56 : decode cX12_nearOf 56 = .ok (.iload 5, 2) := by decide +kernel
theorem dX12_nearOf_58 : decode cX12_nearOf 58 = .ok (.iload_n 1, 1) := by decide +kernel
theorem dX12_nearOf_59 : decode cX12_nearOf 59 = .ok (.if_icmp .ne 10, 3) := by decide +kernel
theorem dX12_nearOf_62 : decode cX12_nearOf 62 = .ok (.iconst 1, 1) := by decide +kernel
theorem dX12_nearOf_63 : decode cX12_nearOf 63 = .ok (.iload 4, 2) := by decide +kernel
theorem dX12_nearOf_65 : decode cX12_nearOf 65 = .ok (.ishl, 1) := by decide +kernel
theorem dX12_nearOf_66 : decode cX12_nearOf 66 = .ok (.goto 4, 3) := by decide +kernel
theorem dX12_nearOf_69 : decode cX12_nearOf 69 = .ok (.iconst 0, 1) := by decide +kernel
theorem dX12_nearOf_70 : decode cX12_nearOf 70 = .ok (.ior, 1) := by decide +kernel
theorem dX12_nearOf_71 : decode cX12_nearOf 71 = .ok (.istore_n 2, 1) := by decide +kernel
theorem dX12_nearOf_72 : decode cX12_nearOf 72 = .ok (.iinc 3 1, 3) := by decide +kernel
theorem dX12_nearOf_75 : decode cX12_nearOf 75 = .ok (.goto (-71), 3) := by decide +kernel
theorem dX12_nearOf_78 : decode cX12_nearOf 78 = .ok (.aload_n 0, 1) := by decide +kernel
theorem dX12_nearOf_79 : decode cX12_nearOf 79 = .ok (.getfield 234, 3) := by decide +kernel
theorem dX12_nearOf_82 : decode cX12_nearOf 82 = .ok (.iload_n 1, 1) := by decide +kernel
theorem dX12_nearOf_83 : decode cX12_nearOf 83 = .ok (.invokestatic 237, 3) := by decide +kernel
theorem dX12_nearOf_86 : decode cX12_nearOf 86 = .ok (.iconst 1, 1) := by decide +kernel
theorem dX12_nearOf_87 : decode cX12_nearOf 87 = .ok (.if_icmp .ne 7, 3) := by decide +kernel
theorem dX12_nearOf_90 : decode cX12_nearOf 90 = .ok (.iconst 0, 1) := by decide +kernel
theorem dX12_nearOf_91 : decode cX12_nearOf 91 = .ok (.goto 11, 3) := by decide +kernel
theorem dX12_nearOf_94 : decode cX12_nearOf 94 = .ok (.iload_n 2, 1) := by decide +kernel
theorem dX12_nearOf_95 : decode cX12_nearOf 95 = .ok (.aload_n 0, 1) := by decide +kernel
theorem dX12_nearOf_96 : decode cX12_nearOf 96 = .ok (.getfield 234, 3) := by decide +kernel
theorem dX12_nearOf_99 : decode cX12_nearOf 99 = .ok (.iconst (-1), 1) := by decide +kernel
theorem dX12_nearOf_100 : decode cX12_nearOf 100 = .ok (.ixor, 1) := by decide +kernel
theorem dX12_nearOf_101 : decode cX12_nearOf 101 = .ok (.iand, 1) := by decide +kernel
theorem dX12_nearOf_102 : decode cX12_nearOf 102 = .ok (.ireturn, 1) := by decide +kernel
theorem dX12_near_0 : decode cX12_near 0 = .ok (.aload_n 0, 1) := by decide +kernel
theorem dX12_near_1 : decode cX12_near 1 = .ok (.iconst 0, 1) := by decide +kernel
theorem dX12_near_2 : decode cX12_near 2 = .ok (.putfield 234, 3) := by decide +kernel
theorem dX12_near_5 : decode cX12_near 5 = .ok (.aload_n 0, 1) := by decide +kernel
theorem dX12_near_6 : decode cX12_near 6 = .ok (.iload_n 1, 1) := by decide +kernel
theorem dX12_near_7 : decode cX12_near 7 = .ok (.i2l, 1) := by decide +kernel
theorem dX12_near_8 : decode cX12_near 8 = .ok (.invokevirtual 218, 3) := by decide +kernel
theorem dX12_near_11 : decode cX12_near 11 = .ok (.ifCond .eq 11, 3) := by decide +kernel
theorem dX12_near_14 : decode cX12_near 14 = .ok (.aload_n 0, 1) := by decide +kernel
theorem dX12_near_15 : decode cX12_near 15 = .ok (.iload_n 1, 1) := by decide +kernel
theorem dX12_near_16 : decode cX12_near 16 = .ok (.invokevirtual 240, 3) := by decide +kernel
theorem dX12_near_19 : decode cX12_near 19 = .ok (.goto 5, 3) := by decide +kernel
theorem dX12_near_22 : decode cX12_near 22 = .ok (.bipush (-2), 2) := by decide +kernel
theorem dX12_near_24 : decode cX12_near 24 = .ok (.ireturn, 1) := by decide +kernel
theorem dX12_far_0 : decode cX12_far 0 = .ok (.aload_n 0, 1) := by decide +kernel
theorem dX12_far_1 : decode cX12_far 1 = .ok (.iload_n 1, 1) := by decide +kernel
theorem dX12_far_2 : decode cX12_far 2 = .ok (.i2l, 1) := by decide +kernel
theorem dX12_far_3 : decode cX12_far 3 = .ok (.invokevirtual 218, 3) := by decide +kernel
theorem dX12_far_6 : decode cX12_far 6 = .ok (.ifCond .eq 12, 3) := by decide +kernel
theorem dX12_far_9 : decode cX12_far 9 = .ok (.aload_n 0, 1) := by decide +kernel
theorem dX12_far_10 : decode cX12_far 10 = .ok (.iload_n 2, 1) := by decide +kernel
theorem dX12_far_11 : decode cX12_far 11 = .ok (.i2l, 1) := by decide +kernel
theorem dX12_far_12 : decode cX12_far 12 = .ok (.invokevirtual 218, 3) := by decide +kernel
theorem dX12_far_15 : decode cX12_far 15 = .ok (.ifCond .ne 6, 3) := by decide +kernel
theorem dX12_far_18 : decode cX12_far 18 = .ok (.bipush (-2), 2) := by decide +kernel
theorem dX12_far_20 : decode cX12_far 20 = .ok (.ireturn, 1) := by decide +kernel
theorem dX12_far_21 : decode cX12_far 21 = .ok (.aload_n 0, 1) := by decide +kernel
theorem dX12_far_22 : decode cX12_far 22 = .ok (.iconst 0, 1) := by decide +kernel
theorem dX12_far_23 : decode cX12_far 23 = .ok (.putfield 234, 3) := by decide +kernel
theorem dX12_far_26 : decode cX12_far 26 = .ok (.iconst 1, 1) := by decide +kernel
theorem dX12_far_27 : decode cX12_far 27 = .ok (.iload_n 1, 1) := by decide +kernel
theorem dX12_far_28 : decode cX12_far 28 = .ok (.ishl, 1) := by decide +kernel
theorem dX12_far_29 : decode cX12_far 29 = .ok (.istore_n 3, 1) := by decide +kernel
theorem dX12_far_30 : decode cX12_far 30 = .ok (.iconst 0, 1) := by decide +kernel
theorem dX12_far_31 : decode cX12_far 31 = .ok (.istore 4, 2) := by decide +kernel
theorem dX12_far_33 : decode cX12_far 33 = .ok (.iload 4, 2) := by decide +kernel
theorem dX12_far_35 : decode cX12_far 35 = .ok (.bipush 7, 2) := by decide +kernel
theorem dX12_far_37 : decode cX12_far 37 = .ok (.if_icmp .ge 70, 3) := by decide +kernel
theorem dX12_far_40 : decode cX12_far 40 = .ok (.iload_n 3, 1) := by decide +kernel
theorem dX12_far_41 : decode cX12_far 41 = .ok (.iload_n 2, 1) := by decide +kernel
theorem dX12_far_42 : decode cX12_far 42 = .ok (.invokestatic 237, 3) := by decide +kernel
theorem dX12_far_45 : decode cX12_far 45 = .ok (.iconst 1, 1) := by decide +kernel
theorem dX12_far_46 : decode cX12_far 46 = .ok (.if_icmp .ne 6, 3) := by decide +kernel
theorem dX12_far_49 : decode cX12_far 49 = .ok (.iload 4, 2) := by decide +kernel
theorem dX12_far_51 : decode cX12_far 51 = .ok (.ireturn, 1) := by decide +kernel
theorem dX12_far_52 : decode cX12_far 52 = .ok (.iload_n 3, 1) := by decide +kernel
theorem dX12_far_53 : decode cX12_far 53 = .ok (.istore 5, 2) := by decide +kernel
