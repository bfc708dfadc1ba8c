theorem ok_X0_init : q_okI kX0_init 0 := ⟨q_ap q_s1 170 (by decide +kernel) rfl, q_ap q_s1 169 (by decide +kernel) rfl, q_ap q_s1 4 (by decide +kernel) rfl, rfl, rfl, ⟨by decide, by decide, by decide +kernel⟩⟩
theorem ok_X10_init : q_okI kX10_init 2 := ⟨q_ap q_s2 55 (by decide +kernel) rfl, q_ap q_s2 54 (by decide +kernel) rfl, q_ap q_s1 7 (by decide +kernel) rfl, rfl, rfl, ⟨by decide, by decide, by decide +kernel⟩⟩
theorem ok_X11_init : q_okI kX11_init 0 := ⟨q_ap q_s1 25 (by decide +kernel) rfl, q_ap q_s1 24 (by decide +kernel) rfl, q_ap q_s1 1 (by decide +kernel) rfl, rfl, rfl, ⟨by decide, by decide, by decide +kernel⟩⟩
theorem ok_X12_init : q_okI kX12_init 0 := ⟨q_ap q_s6 64 (by decide +kernel) rfl, q_ap q_s6 63 (by decide +kernel) rfl, q_ap q_s1 12 (by decide +kernel) rfl, rfl, rfl, ⟨by decide, by decide, by decide +kernel⟩⟩
theorem ok_X1_init : q_okI kX1_init 2 := ⟨q_ap q_s2 157 (by decide +kernel) rfl, q_ap q_s2 156 (by decide +kernel) rfl, q_ap q_s1 11 (by decide +kernel) rfl, rfl, rfl, ⟨by decide, by decide, by decide +kernel⟩⟩
theorem ok_X2_init : q_okI kX2_init 3 := ⟨q_ap q_s2 127 (by decide +kernel) rfl, q_ap q_s2 126 (by decide +kernel) rfl, q_ap q_s1 10 (by decide +kernel) rfl, rfl, rfl, ⟨by decide, by decide, by decide +kernel⟩⟩
theorem ok_X3_init : q_okI kX3_init 2 := ⟨q_ap q_s1 219 (by decide +kernel) rfl, q_ap q_s1 218 (by decide +kernel) rfl, q_ap q_s1 6 (by decide +kernel) rfl, rfl, rfl, ⟨by decide, by decide, by decide +kernel⟩⟩
theorem ok_X4_init : q_okI kX4_init 2 := ⟨q_ap q_s2 100 (by decide +kernel) rfl, q_ap q_s2 99 (by decide +kernel) rfl, q_ap q_s1 9 (by decide +kernel) rfl, rfl, rfl, ⟨by decide, by decide, by decide +kernel⟩⟩
theorem ok_X5_init : q_okI kX5_init 0 := ⟨q_ap q_s1 39 (by decide +kernel) rfl, q_ap q_s1 38 (by decide +kernel) rfl, q_ap q_s1 3 (by decide +kernel) rfl, rfl, rfl, ⟨by decide, by decide, by decide +kernel⟩⟩
theorem ok_X6_init : q_okI kX6_init 1 := ⟨q_ap q_s1 33 (by decide +kernel) rfl, q_ap q_s1 32 (by decide +kernel) rfl, q_ap q_s1 2 (by decide +kernel) rfl, rfl, rfl, ⟨by decide, by decide, by decide +kernel⟩⟩
theorem ok_X8_init : q_okI kX8_init 2 := ⟨q_ap q_s2 80 (by decide +kernel) rfl, q_ap q_s2 79 (by decide +kernel) rfl, q_ap q_s1 8 (by decide +kernel) rfl, rfl, rfl, ⟨by decide, by decide, by decide +kernel⟩⟩
theorem ok_X9_init : q_okI kX9_init 0 := ⟨q_ap q_s1 194 (by decide +kernel) rfl, q_ap q_s1 193 (by decide +kernel) rfl, q_ap q_s1 5 (by decide +kernel) rfl, rfl, rfl, ⟨by decide, by decide, by decide +kernel⟩⟩
theorem oi_inst : Cond.instanceMethod Lib.objectInit ∈ q_tb := q_ap q_s1 27 (by decide +kernel) rfl
theorem oi_code : Cond.code Lib.objectInit ⟨#[0xb1]⟩ 1 none ∈ q_tb := q_ap q_s1 28 (by decide +kernel) rfl
theorem kl_X11_23 : Cond.classLink RX11 23 "TaperTalk$Reader" ∈ q_tb := q_ap q_s1 29 (by decide +kernel) rfl
theorem kl_X11_32 : Cond.classLink RX11 32 "TaperTalk$Night" ∈ q_tb := q_ap q_s1 164 (by decide +kernel) rfl
theorem kl_X11_39 : Cond.classLink RX11 39 "TaperTalk$Acts" ∈ q_tb := q_ap q_s1 166 (by decide +kernel) rfl
theorem kl_X11_46 : Cond.classLink RX11 46 "TaperTalk$Slots" ∈ q_tb := q_ap q_s1 190 (by decide +kernel) rfl
theorem kl_X11_65 : Cond.classLink RX11 65 "TaperTalk$Course" ∈ q_tb := q_ap q_s1 215 (by decide +kernel) rfl
theorem kl_X11_77 : Cond.classLink RX11 77 "TaperTalk$Trials" ∈ q_tb := q_ap q_s2 51 (by decide +kernel) rfl
theorem kl_X11_86 : Cond.classLink RX11 86 "TaperTalk$Sets" ∈ q_tb := q_ap q_s2 76 (by decide +kernel) rfl
theorem kl_X11_93 : Cond.classLink RX11 93 "TaperTalk$Finder" ∈ q_tb := q_ap q_s2 96 (by decide +kernel) rfl
theorem kl_X11_100 : Cond.classLink RX11 100 "TaperTalk$Clues" ∈ q_tb := q_ap q_s2 123 (by decide +kernel) rfl
theorem kl_X11_109 : Cond.classLink RX11 109 "TaperTalk$Chances" ∈ q_tb := q_ap q_s2 153 (by decide +kernel) rfl
theorem kl_X6_9 : Cond.classLink RX6 9 "TaperTalk$Night" ∈ q_tb := q_ap q_s1 35 (by decide +kernel) rfl
theorem kl_X9_18 : Cond.classLink RX9 18 "[[J" ∈ q_tb := q_ap q_s1 196 (by decide +kernel) rfl
theorem kl_L_7 : Cond.classLink RL 7 "TaperTalk" ∈ q_tb := q_ap q_s1 21 (by decide +kernel) rfl
theorem kl_L_10 : Cond.classLink RL 10 "TaperTalkModel" ∈ q_tb := q_ap q_s6 60 (by decide +kernel) rfl
theorem in_X11 : Cond.instantiable RX11 19 ∈ q_tb := q_ap q_s1 22 (by decide +kernel) rfl
theorem it_X11 : Cond.initialized RX11 ∈ q_tb := q_ap q_s1 1 (by decide +kernel) rfl
theorem in_X6 : Cond.instantiable RX6 9 ∈ q_tb := q_ap q_s1 30 (by decide +kernel) rfl
theorem it_X6 : Cond.initialized RX6 ∈ q_tb := q_ap q_s1 2 (by decide +kernel) rfl
theorem in_X5 : Cond.instantiable RX5 16 ∈ q_tb := q_ap q_s1 36 (by decide +kernel) rfl
theorem it_X5 : Cond.initialized RX5 ∈ q_tb := q_ap q_s1 3 (by decide +kernel) rfl
theorem in_X0 : Cond.instantiable RX0 4 ∈ q_tb := q_ap q_s1 167 (by decide +kernel) rfl
theorem it_X0 : Cond.initialized RX0 ∈ q_tb := q_ap q_s1 4 (by decide +kernel) rfl
theorem in_X9 : Cond.instantiable RX9 3 ∈ q_tb := q_ap q_s1 191 (by decide +kernel) rfl
theorem it_X9 : Cond.initialized RX9 ∈ q_tb := q_ap q_s1 5 (by decide +kernel) rfl
theorem in_X3 : Cond.instantiable RX3 17 ∈ q_tb := q_ap q_s1 216 (by decide +kernel) rfl
theorem it_X3 : Cond.initialized RX3 ∈ q_tb := q_ap q_s1 6 (by decide +kernel) rfl
theorem in_X10 : Cond.instantiable RX10 5 ∈ q_tb := q_ap q_s2 52 (by decide +kernel) rfl
theorem it_X10 : Cond.initialized RX10 ∈ q_tb := q_ap q_s1 7 (by decide +kernel) rfl
theorem in_X8 : Cond.instantiable RX8 3 ∈ q_tb := q_ap q_s2 77 (by decide +kernel) rfl
theorem it_X8 : Cond.initialized RX8 ∈ q_tb := q_ap q_s1 8 (by decide +kernel) rfl
theorem in_X4 : Cond.instantiable RX4 6 ∈ q_tb := q_ap q_s2 97 (by decide +kernel) rfl
theorem it_X4 : Cond.initialized RX4 ∈ q_tb := q_ap q_s1 9 (by decide +kernel) rfl
theorem in_X2 : Cond.instantiable RX2 7 ∈ q_tb := q_ap q_s2 124 (by decide +kernel) rfl
theorem it_X2 : Cond.initialized RX2 ∈ q_tb := q_ap q_s1 10 (by decide +kernel) rfl
theorem in_X1 : Cond.instantiable RX1 2 ∈ q_tb := q_ap q_s2 154 (by decide +kernel) rfl
theorem it_X1 : Cond.initialized RX1 ∈ q_tb := q_ap q_s1 11 (by decide +kernel) rfl
theorem in_X12 : Cond.instantiable RX12 41 ∈ q_tb := q_ap q_s6 61 (by decide +kernel) rfl
theorem it_X12 : Cond.initialized RX12 ∈ q_tb := q_ap q_s1 12 (by decide +kernel) rfl
theorem ar_byte : Cond.arrayClass .byte ∈ q_tb := q_ap q_s1 132 (by decide +kernel) rfl
theorem ar_int : Cond.arrayClass .int ∈ q_tb := q_ap q_s1 133 (by decide +kernel) rfl
theorem ar_long : Cond.arrayClass .long ∈ q_tb := q_ap q_s1 212 (by decide +kernel) rfl
theorem ar_boolean : Cond.arrayClass .boolean ∈ q_tb := q_ap q_s2 50 (by decide +kernel) rfl
theorem df_X0 : ∀ j, j < 4 → ((q_FK.getD 0 [])[j]?).map q_dv = some (defaultValue (tyX0 j)) := by decide +kernel
theorem df_X1 : ∀ j, j < 2 → ((q_FK.getD 1 [])[j]?).map q_dv = some (defaultValue (tyX1 j)) := by decide +kernel
theorem df_X2 : ∀ j, j < 7 → ((q_FK.getD 2 [])[j]?).map q_dv = some (defaultValue (tyX2 j)) := by decide +kernel
theorem df_X3 : ∀ j, j < 17 → ((q_FK.getD 3 [])[j]?).map q_dv = some (defaultValue (tyX3 j)) := by decide +kernel
theorem df_X4 : ∀ j, j < 6 → ((q_FK.getD 4 [])[j]?).map q_dv = some (defaultValue (tyX4 j)) := by decide +kernel
theorem df_X5 : ∀ j, j < 16 → ((q_FK.getD 5 [])[j]?).map q_dv = some (defaultValue (tyX5 j)) := by decide +kernel
theorem df_X6 : ∀ j, j < 9 → ((q_FK.getD 6 [])[j]?).map q_dv = some (defaultValue (tyX6 j)) := by decide +kernel
theorem df_X8 : ∀ j, j < 3 → ((q_FK.getD 7 [])[j]?).map q_dv = some (defaultValue (tyX8 j)) := by decide +kernel
theorem df_X9 : ∀ j, j < 3 → ((q_FK.getD 8 [])[j]?).map q_dv = some (defaultValue (tyX9 j)) := by decide +kernel
theorem df_X10 : ∀ j, j < 5 → ((q_FK.getD 9 [])[j]?).map q_dv = some (defaultValue (tyX10 j)) := by decide +kernel
theorem df_X11 : ∀ j, j < 19 → ((q_FK.getD 10 [])[j]?).map q_dv = some (defaultValue (tyX11 j)) := by decide +kernel
theorem df_X12 : ∀ j, j < 41 → ((q_FK.getD 11 [])[j]?).map q_dv = some (defaultValue (tyX12 j)) := by decide +kernel
theorem szp_0 : q_sz (0 + 1) = q_sz 0 + 19 := by decide +kernel
theorem szp_1 : q_sz (1 + 1) = q_sz 1 + 600 := by decide +kernel
theorem szp_2 : q_sz (2 + 1) = q_sz 2 + 9 := by decide +kernel
theorem szp_3 : q_sz (3 + 1) = q_sz 3 + 16 := by decide +kernel
theorem szp_4 : q_sz (4 + 1) = q_sz 4 + 7 := by decide +kernel
theorem szp_5 : q_sz (5 + 1) = q_sz 5 + 7 := by decide +kernel
theorem szp_6 : q_sz (6 + 1) = q_sz 6 + 7 := by decide +kernel
theorem szp_7 : q_sz (7 + 1) = q_sz 7 + 7 := by decide +kernel
theorem szp_8 : q_sz (8 + 1) = q_sz 8 + 4 := by decide +kernel
theorem szp_9 : q_sz (9 + 1) = q_sz 9 + 4 := by decide +kernel
theorem szp_10 : q_sz (10 + 1) = q_sz 10 + 6 := by decide +kernel
theorem szp_11 : q_sz (11 + 1) = q_sz 11 + 6 := by decide +kernel
theorem szp_12 : q_sz (12 + 1) = q_sz 12 + 16 := by decide +kernel
theorem szp_13 : q_sz (13 + 1) = q_sz 13 + 7 := by decide +kernel
theorem szp_14 : q_sz (14 + 1) = q_sz 14 + 7 := by decide +kernel
theorem szp_15 : q_sz (15 + 1) = q_sz 15 + 7 := by decide +kernel
theorem szp_16 : q_sz (16 + 1) = q_sz 16 + 7 := by decide +kernel
theorem szp_17 : q_sz (17 + 1) = q_sz 17 + 4 := by decide +kernel
theorem szp_18 : q_sz (18 + 1) = q_sz 18 + 4 := by decide +kernel
theorem szp_19 : q_sz (19 + 1) = q_sz 19 + 6 := by decide +kernel
theorem szp_20 : q_sz (20 + 1) = q_sz 20 + 6 := by decide +kernel
theorem szp_21 : q_sz (21 + 1) = q_sz 21 + 4 := by decide +kernel
theorem szp_22 : q_sz (22 + 1) = q_sz 22 + 30 := by decide +kernel
theorem szp_23 : q_sz (23 + 1) = q_sz 23 + 30 := by decide +kernel
theorem szp_24 : q_sz (24 + 1) = q_sz 24 + 30 := by decide +kernel
theorem szp_25 : q_sz (25 + 1) = q_sz 25 + 3 := by decide +kernel
theorem szp_26 : q_sz (26 + 1) = q_sz 26 + 4 := by decide +kernel
theorem szp_27 : q_sz (27 + 1) = q_sz 27 + 4 := by decide +kernel
theorem szp_28 : q_sz (28 + 1) = q_sz 28 + 4 := by decide +kernel
theorem szp_29 : q_sz (29 + 1) = q_sz 29 + 60 := by decide +kernel
theorem szp_30 : q_sz (30 + 1) = q_sz 30 + 60 := by decide +kernel
theorem szp_31 : q_sz (31 + 1) = q_sz 31 + 60 := by decide +kernel
theorem szp_32 : q_sz (32 + 1) = q_sz 32 + 60 := by decide +kernel
theorem szp_33 : q_sz (33 + 1) = q_sz 33 + 3 := by decide +kernel
theorem szp_34 : q_sz (34 + 1) = q_sz 34 + 3 := by decide +kernel
theorem szp_35 : q_sz (35 + 1) = q_sz 35 + 3 := by decide +kernel
theorem szp_36 : q_sz (36 + 1) = q_sz 36 + 16 := by decide +kernel
theorem szp_37 : q_sz (37 + 1) = q_sz 37 + 7 := by decide +kernel
theorem szp_38 : q_sz (38 + 1) = q_sz 38 + 7 := by decide +kernel
theorem szp_39 : q_sz (39 + 1) = q_sz 39 + 7 := by decide +kernel
theorem szp_40 : q_sz (40 + 1) = q_sz 40 + 7 := by decide +kernel
theorem szp_41 : q_sz (41 + 1) = q_sz 41 + 4 := by decide +kernel
theorem szp_42 : q_sz (42 + 1) = q_sz 42 + 4 := by decide +kernel
theorem szp_43 : q_sz (43 + 1) = q_sz 43 + 6 := by decide +kernel
theorem szp_44 : q_sz (44 + 1) = q_sz 44 + 6 := by decide +kernel
theorem szp_45 : q_sz (45 + 1) = q_sz 45 + 4 := by decide +kernel
theorem szp_46 : q_sz (46 + 1) = q_sz 46 + 30 := by decide +kernel
theorem szp_47 : q_sz (47 + 1) = q_sz 47 + 30 := by decide +kernel
theorem szp_48 : q_sz (48 + 1) = q_sz 48 + 30 := by decide +kernel
theorem szp_49 : q_sz (49 + 1) = q_sz 49 + 16 := by decide +kernel
theorem szp_50 : q_sz (50 + 1) = q_sz 50 + 7 := by decide +kernel
theorem szp_51 : q_sz (51 + 1) = q_sz 51 + 7 := by decide +kernel
theorem szp_52 : q_sz (52 + 1) = q_sz 52 + 7 := by decide +kernel
theorem szp_53 : q_sz (53 + 1) = q_sz 53 + 7 := by decide +kernel
theorem szp_54 : q_sz (54 + 1) = q_sz 54 + 4 := by decide +kernel
theorem szp_55 : q_sz (55 + 1) = q_sz 55 + 4 := by decide +kernel
theorem szp_56 : q_sz (56 + 1) = q_sz 56 + 6 := by decide +kernel
theorem szp_57 : q_sz (57 + 1) = q_sz 57 + 6 := by decide +kernel
theorem szp_58 : q_sz (58 + 1) = q_sz 58 + 4 := by decide +kernel
theorem szp_59 : q_sz (59 + 1) = q_sz 59 + 30 := by decide +kernel
theorem szp_60 : q_sz (60 + 1) = q_sz 60 + 30 := by decide +kernel
theorem szp_61 : q_sz (61 + 1) = q_sz 61 + 30 := by decide +kernel
theorem szp_62 : q_sz (62 + 1) = q_sz 62 + 16 := by decide +kernel
theorem szp_63 : q_sz (63 + 1) = q_sz 63 + 7 := by decide +kernel
theorem szp_64 : q_sz (64 + 1) = q_sz 64 + 7 := by decide +kernel
theorem szp_65 : q_sz (65 + 1) = q_sz 65 + 7 := by decide +kernel
theorem szp_66 : q_sz (66 + 1) = q_sz 66 + 7 := by decide +kernel
theorem szp_67 : q_sz (67 + 1) = q_sz 67 + 4 := by decide +kernel
theorem szp_68 : q_sz (68 + 1) = q_sz 68 + 4 := by decide +kernel
theorem szp_69 : q_sz (69 + 1) = q_sz 69 + 6 := by decide +kernel
theorem szp_70 : q_sz (70 + 1) = q_sz 70 + 6 := by decide +kernel
theorem szp_71 : q_sz (71 + 1) = q_sz 71 + 4 := by decide +kernel
theorem szp_72 : q_sz (72 + 1) = q_sz 72 + 30 := by decide +kernel
theorem szp_73 : q_sz (73 + 1) = q_sz 73 + 30 := by decide +kernel
theorem szp_74 : q_sz (74 + 1) = q_sz 74 + 30 := by decide +kernel
theorem szp_75 : q_sz (75 + 1) = q_sz 75 + 17 := by decide +kernel
theorem szp_76 : q_sz (76 + 1) = q_sz 76 + 13 := by decide +kernel
theorem szp_77 : q_sz (77 + 1) = q_sz 77 + 91 := by decide +kernel
theorem szp_78 : q_sz (78 + 1) = q_sz 78 + 91 := by decide +kernel
theorem szp_79 : q_sz (79 + 1) = q_sz 79 + 91 := by decide +kernel
theorem szp_80 : q_sz (80 + 1) = q_sz 80 + 91 := by decide +kernel
theorem szp_81 : q_sz (81 + 1) = q_sz 81 + 17 := by decide +kernel
theorem szp_82 : q_sz (82 + 1) = q_sz 82 + 13 := by decide +kernel
theorem szp_83 : q_sz (83 + 1) = q_sz 83 + 91 := by decide +kernel
theorem szp_84 : q_sz (84 + 1) = q_sz 84 + 91 := by decide +kernel
theorem szp_85 : q_sz (85 + 1) = q_sz 85 + 91 := by decide +kernel
theorem szp_86 : q_sz (86 + 1) = q_sz 86 + 91 := by decide +kernel
theorem szp_87 : q_sz (87 + 1) = q_sz 87 + 5 := by decide +kernel
theorem szp_88 : q_sz (88 + 1) = q_sz 88 + 3 := by decide +kernel
theorem szp_89 : q_sz (89 + 1) = q_sz 89 + 128 := by decide +kernel
theorem szp_90 : q_sz (90 + 1) = q_sz 90 + 6 := by decide +kernel
theorem szp_91 : q_sz (91 + 1) = q_sz 91 + 13 := by decide +kernel
theorem szp_92 : q_sz (92 + 1) = q_sz 92 + 7 := by decide +kernel
theorem szp_93 : q_sz (93 + 1) = q_sz 93 + 637 := by decide +kernel
theorem szp_94 : q_sz (94 + 1) = q_sz 94 + 7 := by decide +kernel
theorem szp_95 : q_sz (95 + 1) = q_sz 95 + 2 := by decide +kernel
theorem szp_96 : q_sz (96 + 1) = q_sz 96 + 41 := by decide +kernel
theorem szp_97 : q_sz (97 + 1) = q_sz 97 + 104 := by decide +kernel
theorem szp_98 : q_sz (98 + 1) = q_sz 98 + 312 := by decide +kernel
theorem szp_99 : q_sz (99 + 1) = q_sz 99 + 3 := by decide +kernel
theorem szp_100 : q_sz (100 + 1) = q_sz 100 + 600 := by decide +kernel
theorem szp_101 : q_sz (101 + 1) = q_sz 101 + 5 := by decide +kernel
theorem szp_102 : q_sz (102 + 1) = q_sz 102 + 104 := by decide +kernel
theorem szp_103 : q_sz (103 + 1) = q_sz 103 + 91 := by decide +kernel
theorem szp_104 : q_sz (104 + 1) = q_sz 104 + 91 := by decide +kernel
theorem szp_105 : q_sz (105 + 1) = q_sz 105 + 91 := by decide +kernel
theorem szp_106 : q_sz (106 + 1) = q_sz 106 + 91 := by decide +kernel
theorem szp_107 : q_sz (107 + 1) = q_sz 107 + 128 := by decide +kernel
theorem szp_108 : q_sz (108 + 1) = q_sz 108 + 637 := by decide +kernel
theorem szp_109 : q_sz (109 + 1) = q_sz 109 + 4 := by decide +kernel
theorem szp_110 : q_sz (110 + 1) = q_sz 110 + 4 := by decide +kernel
theorem szp_111 : q_sz (111 + 1) = q_sz 111 + 240 := by decide +kernel
theorem szp_112 : q_sz (112 + 1) = q_sz 112 + 60 := by decide +kernel
