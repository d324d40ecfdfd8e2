theorem dX9_missing_240 : decode cX9_missing 240 = .ok (.iload_n 2, 1) := xdt tbX9_missing_120_ok 10 rfl
theorem dX9_missing_241 : decode cX9_missing 241 = .ok (.iconst 1, 1) := xdt tbX9_missing_120_ok 11 rfl
theorem dX9_missing_242 : decode cX9_missing 242 = .ok (.invokestatic 244, 3) := xdt tbX9_missing_120_ok 12 rfl
theorem dX9_missing_245 : decode cX9_missing 245 = .ok (.invokestatic 215, 3) := xdt tbX9_missing_120_ok 13 rfl
theorem dX9_missing_248 : decode cX9_missing 248 = .ok (.istore 5, 2) := xdt tbX9_missing_120_ok 14 rfl
theorem dX9_missing_250 : decode cX9_missing 250 = .ok (.iload 5, 2) := xdt tbX9_missing_120_ok 15 rfl
theorem dX9_missing_252 : decode cX9_missing 252 = .ok (.iconst (-1), 1) := xdt tbX9_missing_120_ok 16 rfl
theorem dX9_missing_253 : decode cX9_missing 253 = .ok (.if_icmp .eq 17, 3) := xdt tbX9_missing_120_ok 17 rfl
theorem dX9_missing_256 : decode cX9_missing 256 = .ok (.aload_n 0, 1) := xdt tbX9_missing_120_ok 18 rfl
theorem dX9_missing_257 : decode cX9_missing 257 = .ok (.getfield 23, 3) := xdt tbX9_missing_120_ok 19 rfl
theorem dX9_missing_260 : decode cX9_missing 260 = .ok (.iload 5, 2) := xdt tbX9_missing_120_ok 20 rfl
theorem dX9_missing_262 : decode cX9_missing 262 = .ok (.iconst 0, 1) := xdt tbX9_missing_120_ok 21 rfl
theorem dX9_missing_263 : decode cX9_missing 263 = .ok (.invokestatic 104, 3) := xdt tbX9_missing_120_ok 22 rfl
theorem dX9_missing_266 : decode cX9_missing 266 = .ok (.iconst 1, 1) := xdt tbX9_missing_120_ok 23 rfl
theorem dX9_missing_267 : decode cX9_missing 267 = .ok (.if_icmp .eq 5, 3) := xdt tbX9_missing_120_ok 24 rfl
theorem dX9_missing_270 : decode cX9_missing 270 = .ok (.iload_n 3, 1) := xdt tbX9_missing_120_ok 25 rfl
theorem dX9_missing_271 : decode cX9_missing 271 = .ok (.istore_n 1, 1) := xdt tbX9_missing_120_ok 26 rfl
theorem dX9_missing_272 : decode cX9_missing 272 = .ok (.iinc 2 1, 3) := xdt tbX9_missing_120_ok 27 rfl
theorem dX9_missing_275 : decode cX9_missing 275 = .ok (.goto (-119), 3) := xdt tbX9_missing_120_ok 28 rfl
theorem dX9_missing_278 : decode cX9_missing 278 = .ok (.iload_n 1, 1) := xdt tbX9_missing_120_ok 29 rfl
theorem dX9_missing_279 : decode cX9_missing 279 = .ok (.ireturn, 1) := xdt tbX9_missing_120_ok 30 rfl
def tbX9_binds_0 : List (Nat × Instr × Nat) := [(0, .iconst 0, 1), (1, .istore_n 1, 1), (2, .iload_n 1, 1), (3, .aload_n 0, 1), (4, .getfield 23, 3), (7, .iconst 3, 1), (8, .iaload, 1), (9, .if_icmp .ge 94, 3), (12, .sipush 1410, 3), (15, .bipush 6, 2), (17, .iload_n 1, 1), (18, .imul, 1), (19, .iadd, 1), (20, .istore_n 2, 1), (21, .aload_n 0, 1), (22, .getfield 23, 3), (25, .iload_n 2, 1), (26, .iconst 1, 1), (27, .iadd, 1), (28, .iaload, 1), (29, .istore_n 3, 1), (30, .iload_n 3, 1), (31, .iconst 1, 1), (32, .if_icmp .eq 11, 3), (35, .iload_n 3, 1), (36, .iconst 2, 1), (37, .if_icmp .eq 6, 3), (40, .goto 57, 3), (43, .aload_n 0, 1), (44, .getfield 23, 3), (47, .iload_n 2, 1), (48, .iconst 2, 1), (49, .iadd, 1), (50, .aload_n 0, 1), (51, .getfield 23, 3), (54, .aload_n 0, 1), (55, .getfield 23, 3), (58, .iload_n 2, 1), (59, .iconst 2, 1), (60, .iadd, 1), (61, .iaload, 1), (62, .invokestatic 247, 3), (65, .iastore, 1), (66, .aload_n 0, 1), (67, .getfield 23, 3), (70, .iload_n 2, 1), (71, .iconst 3, 1), (72, .iadd, 1), (73, .aload_n 0, 1), (74, .getfield 23, 3), (77, .aload_n 0, 1), (78, .getfield 23, 3), (81, .iload_n 2, 1), (82, .iconst 2, 1), (83, .iadd, 1), (84, .iaload, 1), (85, .aload_n 0, 1), (86, .getfield 23, 3), (89, .iload_n 2, 1), (90, .iconst 3, 1)]
theorem tbX9_binds_0_ok : tbX9_binds_0.all (fun q => decide (decode cX9_binds q.1 = .ok q.2)) = true := by decide +kernel
theorem dX9_binds_0 : decode cX9_binds 0 = .ok (.iconst 0, 1) := xdt tbX9_binds_0_ok 0 rfl
theorem dX9_binds_1 : decode cX9_binds 1 = .ok (.istore_n 1, 1) := xdt tbX9_binds_0_ok 1 rfl
theorem dX9_binds_2 : decode cX9_binds 2 = .ok (.iload_n 1, 1) := xdt tbX9_binds_0_ok 2 rfl
theorem dX9_binds_3 : decode cX9_binds 3 = .ok (.aload_n 0, 1) := xdt tbX9_binds_0_ok 3 rfl
theorem dX9_binds_4 : decode cX9_binds 4 = .ok (.getfield 23, 3) := xdt tbX9_binds_0_ok 4 rfl
theorem dX9_binds_7 : decode cX9_binds 7 = .ok (.iconst 3, 1) := xdt tbX9_binds_0_ok 5 rfl
theorem dX9_binds_8 : decode cX9_binds 8 = .ok (.iaload, 1) := xdt tbX9_binds_0_ok 6 rfl
theorem dX9_binds_9 : decode cX9_binds 9 = .ok (.if_icmp .ge 94, 3) := xdt tbX9_binds_0_ok 7 rfl
theorem dX9_binds_12 : decode cX9_binds 12 = .ok (.sipush 1410, 3) := xdt tbX9_binds_0_ok 8 rfl
theorem dX9_binds_15 : decode cX9_binds 15 = .ok (.bipush 6, 2) := xdt tbX9_binds_0_ok 9 rfl
theorem dX9_binds_17 : decode cX9_binds 17 = .ok (.iload_n 1, 1) := xdt tbX9_binds_0_ok 10 rfl
theorem dX9_binds_18 : decode cX9_binds 18 = .ok (.imul, 1) := xdt tbX9_binds_0_ok 11 rfl
theorem dX9_binds_19 : decode cX9_binds 19 = .ok (.iadd, 1) := xdt tbX9_binds_0_ok 12 rfl
theorem dX9_binds_20 : decode cX9_binds 20 = .ok (.istore_n 2, 1) := xdt tbX9_binds_0_ok 13 rfl
theorem dX9_binds_21 : decode cX9_binds 21 = .ok (.aload_n 0, 1) := xdt tbX9_binds_0_ok 14 rfl
theorem dX9_binds_22 : decode cX9_binds 22 = .ok (.getfield 23, 3) := xdt tbX9_binds_0_ok 15 rfl
theorem dX9_binds_25 : decode cX9_binds 25 = .ok (.iload_n 2, 1) := xdt tbX9_binds_0_ok 16 rfl
theorem dX9_binds_26 : decode cX9_binds 26 = .ok (.iconst 1, 1) := xdt tbX9_binds_0_ok 17 rfl
theorem dX9_binds_27 : decode cX9_binds 27 = .ok (.iadd, 1) := xdt tbX9_binds_0_ok 18 rfl
theorem dX9_binds_28 : decode cX9_binds 28 = .ok (.iaload, 1) := xdt tbX9_binds_0_ok 19 rfl
theorem dX9_binds_29 : decode cX9_binds 29 = .ok (.istore_n 3, 1) := xdt tbX9_binds_0_ok 20 rfl
theorem dX9_binds_30 : decode cX9_binds 30 = .ok (.iload_n 3, 1) := xdt tbX9_binds_0_ok 21 rfl
theorem dX9_binds_31 : decode cX9_binds 31 = .ok (.iconst 1, 1) := xdt tbX9_binds_0_ok 22 rfl
theorem dX9_binds_32 : decode cX9_binds 32 = .ok (.if_icmp .eq 11, 3) := xdt tbX9_binds_0_ok 23 rfl
theorem dX9_binds_35 : decode cX9_binds 35 = .ok (.iload_n 3, 1) := xdt tbX9_binds_0_ok 24 rfl
theorem dX9_binds_36 : decode cX9_binds 36 = .ok (.iconst 2, 1) := xdt tbX9_binds_0_ok 25 rfl
theorem dX9_binds_37 : decode cX9_binds 37 = .ok (.if_icmp .eq 6, 3) := xdt tbX9_binds_0_ok 26 rfl
theorem dX9_binds_40 : decode cX9_binds 40 = .ok (.goto 57, 3) := xdt tbX9_binds_0_ok 27 rfl
theorem dX9_binds_43 : decode cX9_binds 43 = .ok (.aload_n 0, 1) := xdt tbX9_binds_0_ok 28 rfl
theorem dX9_binds_44 : decode cX9_binds 44 = .ok (.getfield 23, 3) := xdt tbX9_binds_0_ok 29 rfl
theorem dX9_binds_47 : decode cX9_binds 47 = .ok (.iload_n 2, 1) := xdt tbX9_binds_0_ok 30 rfl
theorem dX9_binds_48 : decode cX9_binds 48 = .ok (.iconst 2, 1) := xdt tbX9_binds_0_ok 31 rfl
theorem dX9_binds_49 : decode cX9_binds 49 = .ok (.iadd, 1) := xdt tbX9_binds_0_ok 32 rfl
theorem dX9_binds_50 : decode cX9_binds 50 = .ok (.aload_n 0, 1) := xdt tbX9_binds_0_ok 33 rfl
theorem dX9_binds_51 : decode cX9_binds 51 = .ok (.getfield 23, 3) := xdt tbX9_binds_0_ok 34 rfl
theorem dX9_binds_54 : decode cX9_binds 54 = .ok (.aload_n 0, 1) := xdt tbX9_binds_0_ok 35 rfl
theorem dX9_binds_55 : decode cX9_binds 55 = .ok (.getfield 23, 3) := xdt tbX9_binds_0_ok 36 rfl
theorem dX9_binds_58 : decode cX9_binds 58 = .ok (.iload_n 2, 1) := xdt tbX9_binds_0_ok 37 rfl
theorem dX9_binds_59 : decode cX9_binds 59 = .ok (.iconst 2, 1) := xdt tbX9_binds_0_ok 38 rfl
theorem dX9_binds_60 : decode cX9_binds 60 = .ok (.iadd, 1) := xdt tbX9_binds_0_ok 39 rfl
theorem dX9_binds_61 : decode cX9_binds 61 = .ok (.iaload, 1) := xdt tbX9_binds_0_ok 40 rfl
theorem dX9_binds_62 : decode cX9_binds 62 = .ok (.invokestatic 247, 3) := xdt tbX9_binds_0_ok 41 rfl
theorem dX9_binds_65 : decode cX9_binds 65 = .ok (.iastore, 1) := xdt tbX9_binds_0_ok 42 rfl
theorem dX9_binds_66 : decode cX9_binds 66 = .ok (.aload_n 0, 1) := xdt tbX9_binds_0_ok 43 rfl
theorem dX9_binds_67 : decode cX9_binds 67 = .ok (.getfield 23, 3) := xdt tbX9_binds_0_ok 44 rfl
theorem dX9_binds_70 : decode cX9_binds 70 = .ok (.iload_n 2, 1) := xdt tbX9_binds_0_ok 45 rfl
theorem dX9_binds_71 : decode cX9_binds 71 = .ok (.iconst 3, 1) := xdt tbX9_binds_0_ok 46 rfl
theorem dX9_binds_72 : decode cX9_binds 72 = .ok (.iadd, 1) := xdt tbX9_binds_0_ok 47 rfl
theorem dX9_binds_73 : decode cX9_binds 73 = .ok (.aload_n 0, 1) := xdt tbX9_binds_0_ok 48 rfl
theorem dX9_binds_74 : decode cX9_binds 74 = .ok (.getfield 23, 3) := xdt tbX9_binds_0_ok 49 rfl
theorem dX9_binds_77 : decode cX9_binds 77 = .ok (.aload_n 0, 1) := xdt tbX9_binds_0_ok 50 rfl
theorem dX9_binds_78 : decode cX9_binds 78 = .ok (.getfield 23, 3) := xdt tbX9_binds_0_ok 51 rfl
theorem dX9_binds_81 : decode cX9_binds 81 = .ok (.iload_n 2, 1) := xdt tbX9_binds_0_ok 52 rfl
theorem dX9_binds_82 : decode cX9_binds 82 = .ok (.iconst 2, 1) := xdt tbX9_binds_0_ok 53 rfl
theorem dX9_binds_83 : decode cX9_binds 83 = .ok (.iadd, 1) := xdt tbX9_binds_0_ok 54 rfl
theorem dX9_binds_84 : decode cX9_binds 84 = .ok (.iaload, 1) := xdt tbX9_binds_0_ok 55 rfl
theorem dX9_binds_85 : decode cX9_binds 85 = .ok (.aload_n 0, 1) := xdt tbX9_binds_0_ok 56 rfl
theorem dX9_binds_86 : decode cX9_binds 86 = .ok (.getfield 23, 3) := xdt tbX9_binds_0_ok 57 rfl
theorem dX9_binds_89 : decode cX9_binds 89 = .ok (.iload_n 2, 1) := xdt tbX9_binds_0_ok 58 rfl
theorem dX9_binds_90 : decode cX9_binds 90 = .ok (.iconst 3, 1) := xdt tbX9_binds_0_ok 59 rfl
def tbX9_binds_60 : List (Nat × Instr × Nat) := [(91, .iadd, 1), (92, .iaload, 1), (93, .invokestatic 215, 3), (96, .iastore, 1), (97, .iinc 1 1, 3), (100, .goto (-98), 3), (103, .iconst 0, 1), (104, .istore_n 1, 1), (105, .iload_n 1, 1), (106, .aload_n 0, 1), (107, .getfield 23, 3), (110, .iconst 2, 1), (111, .iaload, 1), (112, .if_icmp .ge 78, 3), (115, .sipush 530, 3), (118, .iconst 4, 1), (119, .iload_n 1, 1), (120, .imul, 1), (121, .iadd, 1), (122, .istore_n 2, 1), (123, .aload_n 0, 1), (124, .getfield 23, 3), (127, .iload_n 2, 1), (128, .iaload, 1), (129, .iconst (-1), 1), (130, .if_icmp .ne 6, 3), (133, .goto 51, 3), (136, .aload_n 0, 1), (137, .getfield 23, 3), (140, .iload_n 2, 1), (141, .aload_n 0, 1), (142, .getfield 23, 3), (145, .aload_n 0, 1), (146, .getfield 23, 3), (149, .iload_n 2, 1), (150, .iaload, 1), (151, .invokestatic 247, 3), (154, .iastore, 1), (155, .aload_n 0, 1), (156, .getfield 23, 3), (159, .iload_n 2, 1), (160, .iconst 1, 1), (161, .iadd, 1), (162, .aload_n 0, 1), (163, .getfield 23, 3), (166, .aload_n 0, 1), (167, .getfield 23, 3), (170, .iload_n 2, 1), (171, .iaload, 1), (172, .aload_n 0, 1), (173, .getfield 23, 3), (176, .iload_n 2, 1), (177, .iconst 1, 1), (178, .iadd, 1), (179, .iaload, 1), (180, .invokestatic 215, 3), (183, .iastore, 1), (184, .iinc 1 1, 3), (187, .goto (-82), 3), (190, .return_, 1)]
theorem tbX9_binds_60_ok : tbX9_binds_60.all (fun q => decide (decode cX9_binds q.1 = .ok q.2)) = true := by decide +kernel
theorem dX9_binds_91 : decode cX9_binds 91 = .ok (.iadd, 1) := xdt tbX9_binds_60_ok 0 rfl
theorem dX9_binds_92 : decode cX9_binds 92 = .ok (.iaload, 1) := xdt tbX9_binds_60_ok 1 rfl
theorem dX9_binds_93 : decode cX9_binds 93 = .ok (.invokestatic 215, 3) := xdt tbX9_binds_60_ok 2 rfl
theorem dX9_binds_96 : decode cX9_binds 96 = .ok (.iastore, 1) := xdt tbX9_binds_60_ok 3 rfl
theorem dX9_binds_97 : decode cX9_binds 97 = .ok (.iinc 1 1, 3) := xdt tbX9_binds_60_ok 4 rfl
theorem dX9_binds_100 : decode cX9_binds 100 = .ok (.goto (-98), 3) := xdt tbX9_binds_60_ok 5 rfl
theorem dX9_binds_103 : decode cX9_binds 103 = .ok (.iconst 0, 1) := xdt tbX9_binds_60_ok 6 rfl
theorem dX9_binds_104 : decode cX9_binds 104 = .ok (.istore_n 1, 1) := xdt tbX9_binds_60_ok 7 rfl
theorem dX9_binds_105 : decode cX9_binds 105 = .ok (.iload_n 1, 1) := xdt tbX9_binds_60_ok 8 rfl
theorem dX9_binds_106 : decode cX9_binds 106 = .ok (.aload_n 0, 1) := xdt tbX9_binds_60_ok 9 rfl
theorem dX9_binds_107 : decode cX9_binds 107 = .ok (.getfield 23, 3) := xdt tbX9_binds_60_ok 10 rfl
theorem dX9_binds_110 : decode cX9_binds 110 = .ok (.iconst 2, 1) := xdt tbX9_binds_60_ok 11 rfl
theorem dX9_binds_111 : decode cX9_binds 111 = .ok (.iaload, 1) := xdt tbX9_binds_60_ok 12 rfl
theorem dX9_binds_112 : decode cX9_binds 112 = .ok (.if_icmp .ge 78, 3) := xdt tbX9_binds_60_ok 13 rfl
theorem dX9_binds_115 : decode cX9_binds 115 = .ok (.sipush 530, 3) := xdt tbX9_binds_60_ok 14 rfl
theorem dX9_binds_118 : decode cX9_binds 118 = .ok (.iconst 4, 1) := xdt tbX9_binds_60_ok 15 rfl
theorem dX9_binds_119 : decode cX9_binds 119 = .ok (.iload_n 1, 1) := xdt tbX9_binds_60_ok 16 rfl
theorem dX9_binds_120 : decode cX9_binds 120 = .ok (.imul, 1) := xdt tbX9_binds_60_ok 17 rfl
theorem dX9_binds_121 : decode cX9_binds 121 = .ok (.iadd, 1) := xdt tbX9_binds_60_ok 18 rfl
theorem dX9_binds_122 : decode cX9_binds 122 = .ok (.istore_n 2, 1) := xdt tbX9_binds_60_ok 19 rfl
theorem dX9_binds_123 : decode cX9_binds 123 = .ok (.aload_n 0, 1) := xdt tbX9_binds_60_ok 20 rfl
theorem dX9_binds_124 : decode cX9_binds 124 = .ok (.getfield 23, 3) := xdt tbX9_binds_60_ok 21 rfl
theorem dX9_binds_127 : decode cX9_binds 127 = .ok (.iload_n 2, 1) := xdt tbX9_binds_60_ok 22 rfl
theorem dX9_binds_128 : decode cX9_binds 128 = .ok (.iaload, 1) := xdt tbX9_binds_60_ok 23 rfl
theorem dX9_binds_129 : decode cX9_binds 129 = .ok (.iconst (-1), 1) := xdt tbX9_binds_60_ok 24 rfl
theorem dX9_binds_130 : decode cX9_binds 130 = .ok (.if_icmp .ne 6, 3) := xdt tbX9_binds_60_ok 25 rfl
theorem dX9_binds_133 : decode cX9_binds 133 = .ok (.goto 51, 3) := xdt tbX9_binds_60_ok 26 rfl
theorem dX9_binds_136 : decode cX9_binds 136 = .ok (.aload_n 0, 1) := xdt tbX9_binds_60_ok 27 rfl
theorem dX9_binds_137 : decode cX9_binds 137 = .ok (.getfield 23, 3) := xdt tbX9_binds_60_ok 28 rfl
theorem dX9_binds_140 : decode cX9_binds 140 = .ok (.iload_n 2, 1) := xdt tbX9_binds_60_ok 29 rfl
theorem dX9_binds_141 : decode cX9_binds 141 = .ok (.aload_n 0, 1) := xdt tbX9_binds_60_ok 30 rfl
theorem dX9_binds_142 : decode cX9_binds 142 = .ok (.getfield 23, 3) := xdt tbX9_binds_60_ok 31 rfl
theorem dX9_binds_145 : decode cX9_binds 145 = .ok (.aload_n 0, 1) := xdt tbX9_binds_60_ok 32 rfl
theorem dX9_binds_146 : decode cX9_binds 146 = .ok (.getfield 23, 3) := xdt tbX9_binds_60_ok 33 rfl
theorem dX9_binds_149 : decode cX9_binds 149 = .ok (.iload_n 2, 1) := xdt tbX9_binds_60_ok 34 rfl
theorem dX9_binds_150 : decode cX9_binds 150 = .ok (.iaload, 1) := xdt tbX9_binds_60_ok 35 rfl
theorem dX9_binds_151 : decode cX9_binds 151 = .ok (.invokestatic 247, 3) := xdt tbX9_binds_60_ok 36 rfl
theorem dX9_binds_154 : decode cX9_binds 154 = .ok (.iastore, 1) := xdt tbX9_binds_60_ok 37 rfl
theorem dX9_binds_155 : decode cX9_binds 155 = .ok (.aload_n 0, 1) := xdt tbX9_binds_60_ok 38 rfl
theorem dX9_binds_156 : decode cX9_binds 156 = .ok (.getfield 23, 3) := xdt tbX9_binds_60_ok 39 rfl
theorem dX9_binds_159 : decode cX9_binds 159 = .ok (.iload_n 2, 1) := xdt tbX9_binds_60_ok 40 rfl
theorem dX9_binds_160 : decode cX9_binds 160 = .ok (.iconst 1, 1) := xdt tbX9_binds_60_ok 41 rfl
theorem dX9_binds_161 : decode cX9_binds 161 = .ok (.iadd, 1) := xdt tbX9_binds_60_ok 42 rfl
theorem dX9_binds_162 : decode cX9_binds 162 = .ok (.aload_n 0, 1) := xdt tbX9_binds_60_ok 43 rfl
theorem dX9_binds_163 : decode cX9_binds 163 = .ok (.getfield 23, 3) := xdt tbX9_binds_60_ok 44 rfl
theorem dX9_binds_166 : decode cX9_binds 166 = .ok (.aload_n 0, 1) := xdt tbX9_binds_60_ok 45 rfl
theorem dX9_binds_167 : decode cX9_binds 167 = .ok (.getfield 23, 3) := xdt tbX9_binds_60_ok 46 rfl
theorem dX9_binds_170 : decode cX9_binds 170 = .ok (.iload_n 2, 1) := xdt tbX9_binds_60_ok 47 rfl
theorem dX9_binds_171 : decode cX9_binds 171 = .ok (.iaload, 1) := xdt tbX9_binds_60_ok 48 rfl
theorem dX9_binds_172 : decode cX9_binds 172 = .ok (.aload_n 0, 1) := xdt tbX9_binds_60_ok 49 rfl
theorem dX9_binds_173 : decode cX9_binds 173 = .ok (.getfield 23, 3) := xdt tbX9_binds_60_ok 50 rfl
theorem dX9_binds_176 : decode cX9_binds 176 = .ok (.iload_n 2, 1) := xdt tbX9_binds_60_ok 51 rfl
theorem dX9_binds_177 : decode cX9_binds 177 = .ok (.iconst 1, 1) := xdt tbX9_binds_60_ok 52 rfl
theorem dX9_binds_178 : decode cX9_binds 178 = .ok (.iadd, 1) := xdt tbX9_binds_60_ok 53 rfl
theorem dX9_binds_179 : decode cX9_binds 179 = .ok (.iaload, 1) := xdt tbX9_binds_60_ok 54 rfl
theorem dX9_binds_180 : decode cX9_binds 180 = .ok (.invokestatic 215, 3) := xdt tbX9_binds_60_ok 55 rfl
theorem dX9_binds_183 : decode cX9_binds 183 = .ok (.iastore, 1) := xdt tbX9_binds_60_ok 56 rfl
theorem dX9_binds_184 : decode cX9_binds 184 = .ok (.iinc 1 1, 3) := xdt tbX9_binds_60_ok 57 rfl
theorem dX9_binds_187 : decode cX9_binds 187 = .ok (.goto (-82), 3) := xdt tbX9_binds_60_ok 58 rfl
theorem dX9_binds_190 : decode cX9_binds 190 = .ok (.return_, 1) := xdt tbX9_binds_60_ok 59 rfl
def tbX9_text_0 : List (Nat × Instr × Nat) := [(0, .aload_n 0, 1), (1, .iconst 0, 1), (2, .putfield 91, 3), (5, .aload_n 0, 1), (6, .iload_n 1, 1), (7, .iconst 0, 1), (8, .aload_n 0, 1), (9, .getfield 94, 3), (12, .invokestatic 155, 3), (15, .ifCond .ne 7, 3), (18, .iconst 1, 1), (19, .goto 4, 3), (22, .iconst 0, 1), (23, .iconst 1, 1), (24, .iconst 1, 1), (25, .invokevirtual 257, 3), (28, .ifCond .eq 5, 3), (31, .iconst 0, 1), (32, .ireturn, 1), (33, .aload_n 0, 1), (34, .iconst 0, 1), (35, .putfield 94, 3), (38, .aload_n 0, 1), (39, .iload_n 1, 1), (40, .putfield 107, 3), (43, .aload_n 0, 1), (44, .iconst 0, 1), (45, .putfield 110, 3), (48, .aload_n 0, 1), (49, .iconst 0, 1), (50, .putfield 117, 3), (53, .aload_n 0, 1), (54, .iconst (-1), 1), (55, .putfield 120, 3), (58, .iconst 0, 1), (59, .istore_n 2, 1), (60, .iload_n 2, 1), (61, .sipush 3820, 3), (64, .if_icmp .ge 16, 3), (67, .aload_n 0, 1), (68, .getfield 23, 3), (71, .iload_n 2, 1), (72, .iconst 0, 1), (73, .iastore, 1), (74, .iinc 2 1, 3), (77, .goto (-17), 3), (80, .aload_n 0, 1), (81, .invokevirtual 140, 3), (84, .ifCond .eq 20, 3), (87, .aload_n 0, 1), (88, .ldc_w 261, 3), (91, .invokevirtual 144, 3), (94, .ifCond .eq 10, 3), (97, .aload_n 0, 1), (98, .invokevirtual 263, 3), (101, .goto (-21), 3), (104, .aload_n 0, 1), (105, .ldc_w 266, 3), (108, .invokevirtual 189, 3), (111, .ifCond .eq 7, 3)]
theorem tbX9_text_0_ok : tbX9_text_0.all (fun q => decide (decode cX9_text q.1 = .ok q.2)) = true := by decide +kernel
theorem dX9_text_0 : decode cX9_text 0 = .ok (.aload_n 0, 1) := xdt tbX9_text_0_ok 0 rfl
theorem dX9_text_1 : decode cX9_text 1 = .ok (.iconst 0, 1) := xdt tbX9_text_0_ok 1 rfl
theorem dX9_text_2 : decode cX9_text 2 = .ok (.putfield 91, 3) := xdt tbX9_text_0_ok 2 rfl
theorem dX9_text_5 : decode cX9_text 5 = .ok (.aload_n 0, 1) := xdt tbX9_text_0_ok 3 rfl
theorem dX9_text_6 : decode cX9_text 6 = .ok (.iload_n 1, 1) := xdt tbX9_text_0_ok 4 rfl
theorem dX9_text_7 : decode cX9_text 7 = .ok (.iconst 0, 1) := xdt tbX9_text_0_ok 5 rfl
theorem dX9_text_8 : decode cX9_text 8 = .ok (.aload_n 0, 1) := xdt tbX9_text_0_ok 6 rfl
theorem dX9_text_9 : decode cX9_text 9 = .ok (.getfield 94, 3) := xdt tbX9_text_0_ok 7 rfl
theorem dX9_text_12 : decode cX9_text 12 = .ok (.invokestatic 155, 3) := xdt tbX9_text_0_ok 8 rfl
theorem dX9_text_15 : decode cX9_text 15 = .ok (.ifCond .ne 7, 3) := xdt tbX9_text_0_ok 9 rfl
theorem dX9_text_18 : decode cX9_text 18 = .ok (.iconst 1, 1) := xdt tbX9_text_0_ok 10 rfl
theorem dX9_text_19 : decode cX9_text 19 = .ok (.goto 4, 3) := xdt tbX9_text_0_ok 11 rfl
theorem dX9_text_22 : decode cX9_text 22 = .ok (.iconst 0, 1) := xdt tbX9_text_0_ok 12 rfl
theorem dX9_text_23 : decode cX9_text 23 = .ok (.iconst 1, 1) := xdt tbX9_text_0_ok 13 rfl
theorem dX9_text_24 : decode cX9_text 24 = .ok (.iconst 1, 1) := xdt tbX9_text_0_ok 14 rfl
theorem dX9_text_25 : decode cX9_text 25 = .ok (.invokevirtual 257, 3) := xdt tbX9_text_0_ok 15 rfl
theorem dX9_text_28 : decode cX9_text 28 = .ok (.ifCond .eq 5, 3) := xdt tbX9_text_0_ok 16 rfl
theorem dX9_text_31 : decode cX9_text 31 = .ok (.iconst 0, 1) := xdt tbX9_text_0_ok 17 rfl
theorem dX9_text_32 : decode cX9_text 32 = .ok (.ireturn, 1) := xdt tbX9_text_0_ok 18 rfl
theorem dX9_text_33 : decode cX9_text 33 = .ok (.aload_n 0, 1) := xdt tbX9_text_0_ok 19 rfl
theorem dX9_text_34 : decode cX9_text 34 = .ok (.iconst 0, 1) := xdt tbX9_text_0_ok 20 rfl
theorem dX9_text_35 : decode cX9_text 35 = .ok (.putfield 94, 3) := xdt tbX9_text_0_ok 21 rfl
theorem dX9_text_38 : decode cX9_text 38 = .ok (.aload_n 0, 1) := xdt tbX9_text_0_ok 22 rfl
theorem dX9_text_39 : decode cX9_text 39 = .ok (.iload_n 1, 1) := xdt tbX9_text_0_ok 23 rfl
theorem dX9_text_40 : decode cX9_text 40 = .ok (.putfield 107, 3) := xdt tbX9_text_0_ok 24 rfl
theorem dX9_text_43 : decode cX9_text 43 = .ok (.aload_n 0, 1) := xdt tbX9_text_0_ok 25 rfl
theorem dX9_text_44 : decode cX9_text 44 = .ok (.iconst 0, 1) := xdt tbX9_text_0_ok 26 rfl
theorem dX9_text_45 : decode cX9_text 45 = .ok (.putfield 110, 3) := xdt tbX9_text_0_ok 27 rfl
theorem dX9_text_48 : decode cX9_text 48 = .ok (.aload_n 0, 1) := xdt tbX9_text_0_ok 28 rfl
theorem dX9_text_49 : decode cX9_text 49 = .ok (.iconst 0, 1) := xdt tbX9_text_0_ok 29 rfl
theorem dX9_text_50 : decode cX9_text 50 = .ok (.putfield 117, 3) := xdt tbX9_text_0_ok 30 rfl
theorem dX9_text_53 : decode cX9_text 53 = .ok (.aload_n 0, 1) := xdt tbX9_text_0_ok 31 rfl
theorem dX9_text_54 : decode cX9_text 54 = .ok (.iconst (-1), 1) := xdt tbX9_text_0_ok 32 rfl
theorem dX9_text_55 : decode cX9_text 55 = .ok (.putfield 120, 3) := xdt tbX9_text_0_ok 33 rfl
theorem dX9_text_58 : decode cX9_text 58 = .ok (.iconst 0, 1) := xdt tbX9_text_0_ok 34 rfl
theorem dX9_text_59 : decode cX9_text 59 = .ok (.istore_n 2, 1) := xdt tbX9_text_0_ok 35 rfl
theorem dX9_text_60 : decode cX9_text 60 = .ok (.iload_n 2, 1) := xdt tbX9_text_0_ok 36 rfl
theorem dX9_text_61 : decode cX9_text 61 = .ok (.sipush 3820, 3) := xdt tbX9_text_0_ok 37 rfl
theorem dX9_text_64 : decode cX9_text 64 = .ok (.if_icmp .ge 16, 3) := xdt tbX9_text_0_ok 38 rfl
theorem dX9_text_67 : decode cX9_text 67 = .ok (.aload_n 0, 1) := xdt tbX9_text_0_ok 39 rfl
theorem dX9_text_68 : decode cX9_text 68 = .ok (.getfield 23, 3) := xdt tbX9_text_0_ok 40 rfl
theorem dX9_text_71 : decode cX9_text 71 = .ok (.iload_n 2, 1) := xdt tbX9_text_0_ok 41 rfl
theorem dX9_text_72 : decode cX9_text 72 = .ok (.iconst 0, 1) := xdt tbX9_text_0_ok 42 rfl
theorem dX9_text_73 : decode cX9_text 73 = .ok (.iastore, 1) := xdt tbX9_text_0_ok 43 rfl
theorem dX9_text_74 : decode cX9_text 74 = .ok (.iinc 2 1, 3) := xdt tbX9_text_0_ok 44 rfl
theorem dX9_text_77 : decode cX9_text 77 = .ok (.goto (-17), 3) := xdt tbX9_text_0_ok 45 rfl
theorem dX9_text_80 : decode cX9_text 80 = .ok (.aload_n 0, 1) := xdt tbX9_text_0_ok 46 rfl
theorem dX9_text_81 : decode cX9_text 81 = .ok (.invokevirtual 140, 3) := xdt tbX9_text_0_ok 47 rfl
theorem dX9_text_84 : decode cX9_text 84 = .ok (.ifCond .eq 20, 3) := xdt tbX9_text_0_ok 48 rfl
theorem dX9_text_87 : decode cX9_text 87 = .ok (.aload_n 0, 1) := xdt tbX9_text_0_ok 49 rfl
theorem dX9_text_88 : decode cX9_text 88 = .ok (.ldc_w 261, 3) := xdt tbX9_text_0_ok 50 rfl
theorem dX9_text_91 : decode cX9_text 91 = .ok (.invokevirtual 144, 3) := xdt tbX9_text_0_ok 51 rfl
theorem dX9_text_94 : decode cX9_text 94 = .ok (.ifCond .eq 10, 3) := xdt tbX9_text_0_ok 52 rfl
theorem dX9_text_97 : decode cX9_text 97 = .ok (.aload_n 0, 1) := xdt tbX9_text_0_ok 53 rfl
theorem dX9_text_98 : decode cX9_text 98 = .ok (.invokevirtual 263, 3) := xdt tbX9_text_0_ok 54 rfl
theorem dX9_text_101 : decode cX9_text 101 = .ok (.goto (-21), 3) := xdt tbX9_text_0_ok 55 rfl
theorem dX9_text_104 : decode cX9_text 104 = .ok (.aload_n 0, 1) := xdt tbX9_text_0_ok 56 rfl
theorem dX9_text_105 : decode cX9_text 105 = .ok (.ldc_w 266, 3) := xdt tbX9_text_0_ok 57 rfl
theorem dX9_text_108 : decode cX9_text 108 = .ok (.invokevirtual 189, 3) := xdt tbX9_text_0_ok 58 rfl
theorem dX9_text_111 : decode cX9_text 111 = .ok (.ifCond .eq 7, 3) := xdt tbX9_text_0_ok 59 rfl
def tbX9_text_60 : List (Nat × Instr × Nat) := [(114, .aload_n 0, 1), (115, .invokevirtual 268, 3), (118, .aload_n 0, 1), (119, .invokevirtual 140, 3), (122, .ifCond .eq 21, 3), (125, .aload_n 0, 1), (126, .invokevirtual 123, 3), (129, .iconst (-1), 1), (130, .if_icmp .eq 13, 3), (133, .aload_n 0, 1), (134, .iconst 1, 1), (135, .aload_n 0, 1), (136, .getfield 110, 3), (139, .invokevirtual 151, 3), (142, .pop, 1), (143, .aload_n 0, 1), (144, .invokevirtual 140, 3), (147, .ifCond .eq 10, 3), (150, .aload_n 0, 1), (151, .invokevirtual 270, 3), (154, .goto 4, 3), (157, .iconst (-1), 1), (158, .istore_n 2, 1), (159, .iload_n 2, 1), (160, .iconst (-1), 1), (161, .if_icmp .eq 10, 3), (164, .aload_n 0, 1), (165, .iconst 5, 1), (166, .iload_n 2, 1), (167, .invokevirtual 151, 3), (170, .pop, 1), (171, .aload_n 0, 1), (172, .aload_n 0, 1), (173, .getfield 120, 3), (176, .putfield 13, 3), (179, .aload_n 0, 1), (180, .invokevirtual 140, 3), (183, .ifCond .ne 11, 3), (186, .aload_n 0, 1), (187, .getfield 117, 3), (190, .bipush 10, 2), (192, .isub, 1), (193, .ireturn, 1), (194, .aload_n 0, 1), (195, .invokevirtual 273, 3), (198, .iconst 0, 1), (199, .istore_n 3, 1), (200, .iload_n 3, 1), (201, .sipush 3820, 3), (204, .if_icmp .ge 21, 3), (207, .aload_n 0, 1), (208, .getfield 20, 3), (211, .iload_n 3, 1), (212, .aload_n 0, 1), (213, .getfield 23, 3), (216, .iload_n 3, 1), (217, .iaload, 1), (218, .iastore, 1), (219, .iinc 3 1, 3), (222, .goto (-22), 3)]
theorem tbX9_text_60_ok : tbX9_text_60.all (fun q => decide (decode cX9_text q.1 = .ok q.2)) = true := by decide +kernel
theorem dX9_text_114 : decode cX9_text 114 = .ok (.aload_n 0, 1) := xdt tbX9_text_60_ok 0 rfl
theorem dX9_text_115 : decode cX9_text 115 = .ok (.invokevirtual 268, 3) := xdt tbX9_text_60_ok 1 rfl
theorem dX9_text_118 : decode cX9_text 118 = .ok (.aload_n 0, 1) := xdt tbX9_text_60_ok 2 rfl
theorem dX9_text_119 : decode cX9_text 119 = .ok (.invokevirtual 140, 3) := xdt tbX9_text_60_ok 3 rfl
theorem dX9_text_122 : decode cX9_text 122 = .ok (.ifCond .eq 21, 3) := xdt tbX9_text_60_ok 4 rfl
theorem dX9_text_125 : decode cX9_text 125 = .ok (.aload_n 0, 1) := xdt tbX9_text_60_ok 5 rfl
theorem dX9_text_126 : decode cX9_text 126 = .ok (.invokevirtual 123, 3) := xdt tbX9_text_60_ok 6 rfl
theorem dX9_text_129 : decode cX9_text 129 = .ok (.iconst (-1), 1) := xdt tbX9_text_60_ok 7 rfl
theorem dX9_text_130 : decode cX9_text 130 = .ok (.if_icmp .eq 13, 3) := xdt tbX9_text_60_ok 8 rfl
theorem dX9_text_133 : decode cX9_text 133 = .ok (.aload_n 0, 1) := xdt tbX9_text_60_ok 9 rfl
theorem dX9_text_134 : decode cX9_text 134 = .ok (.iconst 1, 1) := xdt tbX9_text_60_ok 10 rfl
theorem dX9_text_135 : decode cX9_text 135 = .ok (.aload_n 0, 1) := xdt tbX9_text_60_ok 11 rfl
theorem dX9_text_136 : decode cX9_text 136 = .ok (.getfield 110, 3) := xdt tbX9_text_60_ok 12 rfl
theorem dX9_text_139 : decode cX9_text 139 = .ok (.invokevirtual 151, 3) := xdt tbX9_text_60_ok 13 rfl
theorem dX9_text_142 : decode cX9_text 142 = .ok (.pop, 1) := xdt tbX9_text_60_ok 14 rfl
theorem dX9_text_143 : decode cX9_text 143 = .ok (.aload_n 0, 1) := xdt tbX9_text_60_ok 15 rfl
theorem dX9_text_144 : decode cX9_text 144 = .ok (.invokevirtual 140, 3) := xdt tbX9_text_60_ok 16 rfl
theorem dX9_text_147 : decode cX9_text 147 = .ok (.ifCond .eq 10, 3) := xdt tbX9_text_60_ok 17 rfl
theorem dX9_text_150 : decode cX9_text 150 = .ok (.aload_n 0, 1) := xdt tbX9_text_60_ok 18 rfl
theorem dX9_text_151 : decode cX9_text 151 = .ok (.invokevirtual 270, 3) := xdt tbX9_text_60_ok 19 rfl
theorem dX9_text_154 : decode cX9_text 154 = .ok (.goto 4, 3) := xdt tbX9_text_60_ok 20 rfl
theorem dX9_text_157 : decode cX9_text 157 = .ok (.iconst (-1), 1) := xdt tbX9_text_60_ok 21 rfl
theorem dX9_text_158 : decode cX9_text 158 = .ok (.istore_n 2, 1) := xdt tbX9_text_60_ok 22 rfl
theorem dX9_text_159 : decode cX9_text 159 = .ok (.iload_n 2, 1) := xdt tbX9_text_60_ok 23 rfl
theorem dX9_text_160 : decode cX9_text 160 = .ok (.iconst (-1), 1) := xdt tbX9_text_60_ok 24 rfl
theorem dX9_text_161 : decode cX9_text 161 = .ok (.if_icmp .eq 10, 3) := xdt tbX9_text_60_ok 25 rfl
theorem dX9_text_164 : decode cX9_text 164 = .ok (.aload_n 0, 1) := xdt tbX9_text_60_ok 26 rfl
theorem dX9_text_165 : decode cX9_text 165 = .ok (.iconst 5, 1) := xdt tbX9_text_60_ok 27 rfl
theorem dX9_text_166 : decode cX9_text 166 = .ok (.iload_n 2, 1) := xdt tbX9_text_60_ok 28 rfl
theorem dX9_text_167 : decode cX9_text 167 = .ok (.invokevirtual 151, 3) := xdt tbX9_text_60_ok 29 rfl
theorem dX9_text_170 : decode cX9_text 170 = .ok (.pop, 1) := xdt tbX9_text_60_ok 30 rfl
theorem dX9_text_171 : decode cX9_text 171 = .ok (.aload_n 0, 1) := xdt tbX9_text_60_ok 31 rfl
theorem dX9_text_172 : decode cX9_text 172 = .ok (.aload_n 0, 1) := xdt tbX9_text_60_ok 32 rfl
theorem dX9_text_173 : decode cX9_text 173 = .ok (.getfield 120, 3) := xdt tbX9_text_60_ok 33 rfl
theorem dX9_text_176 : decode cX9_text 176 = .ok (.putfield 13, 3) := xdt tbX9_text_60_ok 34 rfl
theorem dX9_text_179 : decode cX9_text 179 = .ok (.aload_n 0, 1) := xdt tbX9_text_60_ok 35 rfl
theorem dX9_text_180 : decode cX9_text 180 = .ok (.invokevirtual 140, 3) := xdt tbX9_text_60_ok 36 rfl
theorem dX9_text_183 : decode cX9_text 183 = .ok (.ifCond .ne 11, 3) := xdt tbX9_text_60_ok 37 rfl
theorem dX9_text_186 : decode cX9_text 186 = .ok (.aload_n 0, 1) := xdt tbX9_text_60_ok 38 rfl
theorem dX9_text_187 : decode cX9_text 187 = .ok (.getfield 117, 3) := xdt tbX9_text_60_ok 39 rfl
theorem dX9_text_190 : decode cX9_text 190 = .ok (.bipush 10, 2) := xdt tbX9_text_60_ok 40 rfl
theorem dX9_text_192 : decode cX9_text 192 = .ok (.isub, 1) := xdt tbX9_text_60_ok 41 rfl
theorem dX9_text_193 : decode cX9_text 193 = .ok (.ireturn, 1) := xdt tbX9_text_60_ok 42 rfl
theorem dX9_text_194 : decode cX9_text 194 = .ok (.aload_n 0, 1) := xdt tbX9_text_60_ok 43 rfl
theorem dX9_text_195 : decode cX9_text 195 = .ok (.invokevirtual 273, 3) := xdt tbX9_text_60_ok 44 rfl
theorem dX9_text_198 : decode cX9_text 198 = .ok (.iconst 0, 1) := xdt tbX9_text_60_ok 45 rfl
theorem dX9_text_199 : decode cX9_text 199 = .ok (.istore_n 3, 1) := xdt tbX9_text_60_ok 46 rfl
theorem dX9_text_200 : decode cX9_text 200 = .ok (.iload_n 3, 1) := xdt tbX9_text_60_ok 47 rfl
theorem dX9_text_201 : decode cX9_text 201 = .ok (.sipush 3820, 3) := xdt tbX9_text_60_ok 48 rfl
theorem dX9_text_204 : decode cX9_text 204 = .ok (.if_icmp .ge 21, 3) := xdt tbX9_text_60_ok 49 rfl
theorem dX9_text_207 : decode cX9_text 207 = .ok (.aload_n 0, 1) := xdt tbX9_text_60_ok 50 rfl
theorem dX9_text_208 : decode cX9_text 208 = .ok (.getfield 20, 3) := xdt tbX9_text_60_ok 51 rfl
theorem dX9_text_211 : decode cX9_text 211 = .ok (.iload_n 3, 1) := xdt tbX9_text_60_ok 52 rfl
theorem dX9_text_212 : decode cX9_text 212 = .ok (.aload_n 0, 1) := xdt tbX9_text_60_ok 53 rfl
theorem dX9_text_213 : decode cX9_text 213 = .ok (.getfield 23, 3) := xdt tbX9_text_60_ok 54 rfl
theorem dX9_text_216 : decode cX9_text 216 = .ok (.iload_n 3, 1) := xdt tbX9_text_60_ok 55 rfl
theorem dX9_text_217 : decode cX9_text 217 = .ok (.iaload, 1) := xdt tbX9_text_60_ok 56 rfl
theorem dX9_text_218 : decode cX9_text 218 = .ok (.iastore, 1) := xdt tbX9_text_60_ok 57 rfl
theorem dX9_text_219 : decode cX9_text 219 = .ok (.iinc 3 1, 3) := xdt tbX9_text_60_ok 58 rfl
theorem dX9_text_222 : decode cX9_text 222 = .ok (.goto (-22), 3) := xdt tbX9_text_60_ok 59 rfl
def tbX9_text_120 : List (Nat × Instr × Nat) := [(225, .iconst 0, 1), (226, .istore_n 3, 1), (227, .iload_n 3, 1), (228, .bipush 84, 2), (230, .if_icmp .ge 16, 3), (233, .aload_n 0, 1), (234, .getfield 26, 3), (237, .iload_n 3, 1), (238, .iconst 0, 1), (239, .bastore, 1), (240, .iinc 3 1, 3), (243, .goto (-16), 3), (246, .aload_n 0, 1), (247, .iconst 0, 1), (248, .putfield 276, 3), (251, .aload_n 0, 1), (252, .iconst 0, 1), (253, .putfield 279, 3), (256, .aload_n 0, 1), (257, .getfield 20, 3), (260, .iconst 0, 1), (261, .iaload, 1), (262, .ireturn, 1)]
theorem tbX9_text_120_ok : tbX9_text_120.all (fun q => decide (decode cX9_text q.1 = .ok q.2)) = true := by decide +kernel
theorem dX9_text_225 : decode cX9_text 225 = .ok (.iconst 0, 1) := xdt tbX9_text_120_ok 0 rfl
theorem dX9_text_226 : decode cX9_text 226 = .ok (.istore_n 3, 1) := xdt tbX9_text_120_ok 1 rfl
theorem dX9_text_227 : decode cX9_text 227 = .ok (.iload_n 3, 1) := xdt tbX9_text_120_ok 2 rfl
theorem dX9_text_228 : decode cX9_text 228 = .ok (.bipush 84, 2) := xdt tbX9_text_120_ok 3 rfl
theorem dX9_text_230 : decode cX9_text 230 = .ok (.if_icmp .ge 16, 3) := xdt tbX9_text_120_ok 4 rfl
theorem dX9_text_233 : decode cX9_text 233 = .ok (.aload_n 0, 1) := xdt tbX9_text_120_ok 5 rfl
theorem dX9_text_234 : decode cX9_text 234 = .ok (.getfield 26, 3) := xdt tbX9_text_120_ok 6 rfl
theorem dX9_text_237 : decode cX9_text 237 = .ok (.iload_n 3, 1) := xdt tbX9_text_120_ok 7 rfl
theorem dX9_text_238 : decode cX9_text 238 = .ok (.iconst 0, 1) := xdt tbX9_text_120_ok 8 rfl
theorem dX9_text_239 : decode cX9_text 239 = .ok (.bastore, 1) := xdt tbX9_text_120_ok 9 rfl
theorem dX9_text_240 : decode cX9_text 240 = .ok (.iinc 3 1, 3) := xdt tbX9_text_120_ok 10 rfl
theorem dX9_text_243 : decode cX9_text 243 = .ok (.goto (-16), 3) := xdt tbX9_text_120_ok 11 rfl
theorem dX9_text_246 : decode cX9_text 246 = .ok (.aload_n 0, 1) := xdt tbX9_text_120_ok 12 rfl
theorem dX9_text_247 : decode cX9_text 247 = .ok (.iconst 0, 1) := xdt tbX9_text_120_ok 13 rfl
theorem dX9_text_248 : decode cX9_text 248 = .ok (.putfield 276, 3) := xdt tbX9_text_120_ok 14 rfl
theorem dX9_text_251 : decode cX9_text 251 = .ok (.aload_n 0, 1) := xdt tbX9_text_120_ok 15 rfl
theorem dX9_text_252 : decode cX9_text 252 = .ok (.iconst 0, 1) := xdt tbX9_text_120_ok 16 rfl
theorem dX9_text_253 : decode cX9_text 253 = .ok (.putfield 279, 3) := xdt tbX9_text_120_ok 17 rfl
theorem dX9_text_256 : decode cX9_text 256 = .ok (.aload_n 0, 1) := xdt tbX9_text_120_ok 18 rfl
theorem dX9_text_257 : decode cX9_text 257 = .ok (.getfield 20, 3) := xdt tbX9_text_120_ok 19 rfl
theorem dX9_text_260 : decode cX9_text 260 = .ok (.iconst 0, 1) := xdt tbX9_text_120_ok 20 rfl
theorem dX9_text_261 : decode cX9_text 261 = .ok (.iaload, 1) := xdt tbX9_text_120_ok 21 rfl
theorem dX9_text_262 : decode cX9_text 262 = .ok (.ireturn, 1) := xdt tbX9_text_120_ok 22 rfl
def tbX9_fault_0 : List (Nat × Instr × Nat) := [(0, .aload_n 0, 1), (1, .iconst 0, 1), (2, .putfield 91, 3), (5, .aload_n 0, 1), (6, .getfield 13, 3), (9, .ireturn, 1)]
theorem tbX9_fault_0_ok : tbX9_fault_0.all (fun q => decide (decode cX9_fault q.1 = .ok q.2)) = true := by decide +kernel
theorem dX9_fault_0 : decode cX9_fault 0 = .ok (.aload_n 0, 1) := xdt tbX9_fault_0_ok 0 rfl
theorem dX9_fault_1 : decode cX9_fault 1 = .ok (.iconst 0, 1) := xdt tbX9_fault_0_ok 1 rfl
theorem dX9_fault_2 : decode cX9_fault 2 = .ok (.putfield 91, 3) := xdt tbX9_fault_0_ok 2 rfl
theorem dX9_fault_5 : decode cX9_fault 5 = .ok (.aload_n 0, 1) := xdt tbX9_fault_0_ok 3 rfl
theorem dX9_fault_6 : decode cX9_fault 6 = .ok (.getfield 13, 3) := xdt tbX9_fault_0_ok 4 rfl
theorem dX9_fault_9 : decode cX9_fault 9 = .ok (.ireturn, 1) := xdt tbX9_fault_0_ok 5 rfl
def tbX9_isUnit_0 : List (Nat × Instr × Nat) := [(0, .iload_n 1, 1), (1, .iconst 0, 1), (2, .aload_n 0, 1), (3, .getfield 20, 3), (6, .iconst 0, 1), (7, .iaload, 1), (8, .iconst 1, 1), (9, .isub, 1), (10, .invokestatic 155, 3), (13, .ireturn, 1)]
theorem tbX9_isUnit_0_ok : tbX9_isUnit_0.all (fun q => decide (decode cX9_isUnit q.1 = .ok q.2)) = true := by decide +kernel
theorem dX9_isUnit_0 : decode cX9_isUnit 0 = .ok (.iload_n 1, 1) := xdt tbX9_isUnit_0_ok 0 rfl
theorem dX9_isUnit_1 : decode cX9_isUnit 1 = .ok (.iconst 0, 1) := xdt tbX9_isUnit_0_ok 1 rfl
theorem dX9_isUnit_2 : decode cX9_isUnit 2 = .ok (.aload_n 0, 1) := xdt tbX9_isUnit_0_ok 2 rfl
theorem dX9_isUnit_3 : decode cX9_isUnit 3 = .ok (.getfield 20, 3) := xdt tbX9_isUnit_0_ok 3 rfl
theorem dX9_isUnit_6 : decode cX9_isUnit 6 = .ok (.iconst 0, 1) := xdt tbX9_isUnit_0_ok 4 rfl
theorem dX9_isUnit_7 : decode cX9_isUnit 7 = .ok (.iaload, 1) := xdt tbX9_isUnit_0_ok 5 rfl
theorem dX9_isUnit_8 : decode cX9_isUnit 8 = .ok (.iconst 1, 1) := xdt tbX9_isUnit_0_ok 6 rfl
theorem dX9_isUnit_9 : decode cX9_isUnit 9 = .ok (.isub, 1) := xdt tbX9_isUnit_0_ok 7 rfl
theorem dX9_isUnit_10 : decode cX9_isUnit 10 = .ok (.invokestatic 155, 3) := xdt tbX9_isUnit_0_ok 8 rfl
theorem dX9_isUnit_13 : decode cX9_isUnit 13 = .ok (.ireturn, 1) := xdt tbX9_isUnit_0_ok 9 rfl
def tbX9_isMember_0 : List (Nat × Instr × Nat) := [(0, .aload_n 0, 1), (1, .iload_n 1, 1), (2, .invokevirtual 283, 3), (5, .ifCond .eq 26, 3), (8, .iload_n 2, 1), (9, .iconst 0, 1), (10, .aload_n 0, 1), (11, .getfield 20, 3), (14, .iload_n 1, 1), (15, .iconst 2, 1), (16, .invokestatic 97, 3), (19, .iconst 1, 1), (20, .isub, 1), (21, .invokestatic 155, 3), (24, .ifCond .eq 7, 3), (27, .iconst 1, 1), (28, .goto 4, 3), (31, .iconst 0, 1), (32, .ireturn, 1)]
theorem tbX9_isMember_0_ok : tbX9_isMember_0.all (fun q => decide (decode cX9_isMember q.1 = .ok q.2)) = true := by decide +kernel
theorem dX9_isMember_0 : decode cX9_isMember 0 = .ok (.aload_n 0, 1) := xdt tbX9_isMember_0_ok 0 rfl
theorem dX9_isMember_1 : decode cX9_isMember 1 = .ok (.iload_n 1, 1) := xdt tbX9_isMember_0_ok 1 rfl
theorem dX9_isMember_2 : decode cX9_isMember 2 = .ok (.invokevirtual 283, 3) := xdt tbX9_isMember_0_ok 2 rfl
theorem dX9_isMember_5 : decode cX9_isMember 5 = .ok (.ifCond .eq 26, 3) := xdt tbX9_isMember_0_ok 3 rfl
theorem dX9_isMember_8 : decode cX9_isMember 8 = .ok (.iload_n 2, 1) := xdt tbX9_isMember_0_ok 4 rfl
theorem dX9_isMember_9 : decode cX9_isMember 9 = .ok (.iconst 0, 1) := xdt tbX9_isMember_0_ok 5 rfl
theorem dX9_isMember_10 : decode cX9_isMember 10 = .ok (.aload_n 0, 1) := xdt tbX9_isMember_0_ok 6 rfl
theorem dX9_isMember_11 : decode cX9_isMember 11 = .ok (.getfield 20, 3) := xdt tbX9_isMember_0_ok 7 rfl
theorem dX9_isMember_14 : decode cX9_isMember 14 = .ok (.iload_n 1, 1) := xdt tbX9_isMember_0_ok 8 rfl
theorem dX9_isMember_15 : decode cX9_isMember 15 = .ok (.iconst 2, 1) := xdt tbX9_isMember_0_ok 9 rfl
theorem dX9_isMember_16 : decode cX9_isMember 16 = .ok (.invokestatic 97, 3) := xdt tbX9_isMember_0_ok 10 rfl
theorem dX9_isMember_19 : decode cX9_isMember 19 = .ok (.iconst 1, 1) := xdt tbX9_isMember_0_ok 11 rfl
theorem dX9_isMember_20 : decode cX9_isMember 20 = .ok (.isub, 1) := xdt tbX9_isMember_0_ok 12 rfl
theorem dX9_isMember_21 : decode cX9_isMember 21 = .ok (.invokestatic 155, 3) := xdt tbX9_isMember_0_ok 13 rfl
theorem dX9_isMember_24 : decode cX9_isMember 24 = .ok (.ifCond .eq 7, 3) := xdt tbX9_isMember_0_ok 14 rfl
theorem dX9_isMember_27 : decode cX9_isMember 27 = .ok (.iconst 1, 1) := xdt tbX9_isMember_0_ok 15 rfl
theorem dX9_isMember_28 : decode cX9_isMember 28 = .ok (.goto 4, 3) := xdt tbX9_isMember_0_ok 16 rfl
theorem dX9_isMember_31 : decode cX9_isMember 31 = .ok (.iconst 0, 1) := xdt tbX9_isMember_0_ok 17 rfl
theorem dX9_isMember_32 : decode cX9_isMember 32 = .ok (.ireturn, 1) := xdt tbX9_isMember_0_ok 18 rfl
def tbX9_shifts_0 : List (Nat × Instr × Nat) := [(0, .iconst 5, 1), (1, .bipush 15, 2), (3, .iload_n 1, 1), (4, .imul, 1), (5, .iadd, 1), (6, .iconst 3, 1), (7, .iadd, 1), (8, .istore 4, 2), (10, .aload_n 0, 1), (11, .getfield 20, 3), (14, .iload 4, 2), (16, .iload_n 2, 1), (17, .iadd, 1), (18, .iaload, 1), (19, .istore 5, 2), (21, .iload_n 2, 1), (22, .istore 6, 2), (24, .iload 6, 2), (26, .iload_n 3, 1), (27, .if_icmp .ge 31, 3), (30, .aload_n 0, 1), (31, .getfield 20, 3), (34, .iload 4, 2), (36, .iload 6, 2), (38, .iadd, 1), (39, .aload_n 0, 1), (40, .getfield 20, 3), (43, .iload 4, 2), (45, .iload 6, 2), (47, .iadd, 1), (48, .iconst 1, 1), (49, .iadd, 1), (50, .iaload, 1), (51, .iastore, 1), (52, .iinc 6 1, 3), (55, .goto (-31), 3), (58, .iload_n 2, 1), (59, .istore 6, 2), (61, .iload 6, 2), (63, .iload_n 3, 1), (64, .if_icmp .le 31, 3), (67, .aload_n 0, 1), (68, .getfield 20, 3), (71, .iload 4, 2), (73, .iload 6, 2), (75, .iadd, 1), (76, .aload_n 0, 1), (77, .getfield 20, 3), (80, .iload 4, 2), (82, .iload 6, 2), (84, .iadd, 1), (85, .iconst 1, 1), (86, .isub, 1), (87, .iaload, 1), (88, .iastore, 1), (89, .iinc 6 (-1), 3), (92, .goto (-31), 3), (95, .aload_n 0, 1), (96, .getfield 20, 3), (99, .iload 4, 2)]
theorem tbX9_shifts_0_ok : tbX9_shifts_0.all (fun q => decide (decode cX9_shifts q.1 = .ok q.2)) = true := by decide +kernel
theorem dX9_shifts_0 : decode cX9_shifts 0 = .ok (.iconst 5, 1) := xdt tbX9_shifts_0_ok 0 rfl
theorem dX9_shifts_1 : decode cX9_shifts 1 = .ok (.bipush 15, 2) := xdt tbX9_shifts_0_ok 1 rfl
theorem dX9_shifts_3 : decode cX9_shifts 3 = .ok (.iload_n 1, 1) := xdt tbX9_shifts_0_ok 2 rfl
theorem dX9_shifts_4 : decode cX9_shifts 4 = .ok (.imul, 1) := xdt tbX9_shifts_0_ok 3 rfl
theorem dX9_shifts_5 : decode cX9_shifts 5 = .ok (.iadd, 1) := xdt tbX9_shifts_0_ok 4 rfl
theorem dX9_shifts_6 : decode cX9_shifts 6 = .ok (.iconst 3, 1) := xdt tbX9_shifts_0_ok 5 rfl
theorem dX9_shifts_7 : decode cX9_shifts 7 = .ok (.iadd, 1) := xdt tbX9_shifts_0_ok 6 rfl
theorem dX9_shifts_8 : decode cX9_shifts 8 = .ok (.istore 4, 2) := xdt tbX9_shifts_0_ok 7 rfl
theorem dX9_shifts_10 : decode cX9_shifts 10 = .ok (.aload_n 0, 1) := xdt tbX9_shifts_0_ok 8 rfl
theorem dX9_shifts_11 : decode cX9_shifts 11 = .ok (.getfield 20, 3) := xdt tbX9_shifts_0_ok 9 rfl
theorem dX9_shifts_14 : decode cX9_shifts 14 = .ok (.iload 4, 2) := xdt tbX9_shifts_0_ok 10 rfl
theorem dX9_shifts_16 : decode cX9_shifts 16 = .ok (.iload_n 2, 1) := xdt tbX9_shifts_0_ok 11 rfl
theorem dX9_shifts_17 : decode cX9_shifts 17 = .ok (.iadd, 1) := xdt tbX9_shifts_0_ok 12 rfl
theorem dX9_shifts_18 : decode cX9_shifts 18 = .ok (.iaload, 1) := xdt tbX9_shifts_0_ok 13 rfl
theorem dX9_shifts_19 : decode cX9_shifts 19 = .ok (.istore 5, 2) := xdt tbX9_shifts_0_ok 14 rfl
theorem dX9_shifts_21 : decode cX9_shifts 21 = .ok (.iload_n 2, 1) := xdt tbX9_shifts_0_ok 15 rfl
theorem dX9_shifts_22 : decode cX9_shifts 22 = .ok (.istore 6, 2) := xdt tbX9_shifts_0_ok 16 rfl
theorem dX9_shifts_24 : decode cX9_shifts 24 = .ok (.iload 6, 2) := xdt tbX9_shifts_0_ok 17 rfl
theorem dX9_shifts_26 : decode cX9_shifts 26 = .ok (.iload_n 3, 1) := xdt tbX9_shifts_0_ok 18 rfl
theorem dX9_shifts_27 : decode cX9_shifts 27 = .ok (.if_icmp .ge 31, 3) := xdt tbX9_shifts_0_ok 19 rfl
theorem dX9_shifts_30 : decode cX9_shifts 30 = .ok (.aload_n 0, 1) := xdt tbX9_shifts_0_ok 20 rfl
theorem dX9_shifts_31 : decode cX9_shifts 31 = .ok (.getfield 20, 3) := xdt tbX9_shifts_0_ok 21 rfl
theorem dX9_shifts_34 : decode cX9_shifts 34 = .ok (.iload 4, 2) := xdt tbX9_shifts_0_ok 22 rfl
theorem dX9_shifts_36 : decode cX9_shifts 36 = .ok (.iload 6, 2) := xdt tbX9_shifts_0_ok 23 rfl
theorem dX9_shifts_38 : decode cX9_shifts 38 = .ok (.iadd, 1) := xdt tbX9_shifts_0_ok 24 rfl
theorem dX9_shifts_39 : decode cX9_shifts 39 = .ok (.aload_n 0, 1) := xdt tbX9_shifts_0_ok 25 rfl
theorem dX9_shifts_40 : decode cX9_shifts 40 = .ok (.getfield 20, 3) := xdt tbX9_shifts_0_ok 26 rfl
theorem dX9_shifts_43 : decode cX9_shifts 43 = .ok (.iload 4, 2) := xdt tbX9_shifts_0_ok 27 rfl
theorem dX9_shifts_45 : decode cX9_shifts 45 = .ok (.iload 6, 2) := xdt tbX9_shifts_0_ok 28 rfl
theorem dX9_shifts_47 : decode cX9_shifts 47 = .ok (.iadd, 1) := xdt tbX9_shifts_0_ok 29 rfl
theorem dX9_shifts_48 : decode cX9_shifts 48 = .ok (.iconst 1, 1) := xdt tbX9_shifts_0_ok 30 rfl
theorem dX9_shifts_49 : decode cX9_shifts 49 = .ok (.iadd, 1) := xdt tbX9_shifts_0_ok 31 rfl
theorem dX9_shifts_50 : decode cX9_shifts 50 = .ok (.iaload, 1) := xdt tbX9_shifts_0_ok 32 rfl
theorem dX9_shifts_51 : decode cX9_shifts 51 = .ok (.iastore, 1) := xdt tbX9_shifts_0_ok 33 rfl
theorem dX9_shifts_52 : decode cX9_shifts 52 = .ok (.iinc 6 1, 3) := xdt tbX9_shifts_0_ok 34 rfl
theorem dX9_shifts_55 : decode cX9_shifts 55 = .ok (.goto (-31), 3) := xdt tbX9_shifts_0_ok 35 rfl
theorem dX9_shifts_58 : decode cX9_shifts 58 = .ok (.iload_n 2, 1) := xdt tbX9_shifts_0_ok 36 rfl
theorem dX9_shifts_59 : decode cX9_shifts 59 = .ok (.istore 6, 2) := xdt tbX9_shifts_0_ok 37 rfl
theorem dX9_shifts_61 : decode cX9_shifts 61 = .ok (.iload 6, 2) := xdt tbX9_shifts_0_ok 38 rfl
theorem dX9_shifts_63 : decode cX9_shifts 63 = .ok (.iload_n 3, 1) := xdt tbX9_shifts_0_ok 39 rfl
theorem dX9_shifts_64 : decode cX9_shifts 64 = .ok (.if_icmp .le 31, 3) := xdt tbX9_shifts_0_ok 40 rfl
theorem dX9_shifts_67 : decode cX9_shifts 67 = .ok (.aload_n 0, 1) := xdt tbX9_shifts_0_ok 41 rfl
theorem dX9_shifts_68 : decode cX9_shifts 68 = .ok (.getfield 20, 3) := xdt tbX9_shifts_0_ok 42 rfl
theorem dX9_shifts_71 : decode cX9_shifts 71 = .ok (.iload 4, 2) := xdt tbX9_shifts_0_ok 43 rfl
theorem dX9_shifts_73 : decode cX9_shifts 73 = .ok (.iload 6, 2) := xdt tbX9_shifts_0_ok 44 rfl
theorem dX9_shifts_75 : decode cX9_shifts 75 = .ok (.iadd, 1) := xdt tbX9_shifts_0_ok 45 rfl
theorem dX9_shifts_76 : decode cX9_shifts 76 = .ok (.aload_n 0, 1) := xdt tbX9_shifts_0_ok 46 rfl
theorem dX9_shifts_77 : decode cX9_shifts 77 = .ok (.getfield 20, 3) := xdt tbX9_shifts_0_ok 47 rfl
theorem dX9_shifts_80 : decode cX9_shifts 80 = .ok (.iload 4, 2) := xdt tbX9_shifts_0_ok 48 rfl
theorem dX9_shifts_82 : decode cX9_shifts 82 = .ok (.iload 6, 2) := xdt tbX9_shifts_0_ok 49 rfl
theorem dX9_shifts_84 : decode cX9_shifts 84 = .ok (.iadd, 1) := xdt tbX9_shifts_0_ok 50 rfl
theorem dX9_shifts_85 : decode cX9_shifts 85 = .ok (.iconst 1, 1) := xdt tbX9_shifts_0_ok 51 rfl
theorem dX9_shifts_86 : decode cX9_shifts 86 = .ok (.isub, 1) := xdt tbX9_shifts_0_ok 52 rfl
theorem dX9_shifts_87 : decode cX9_shifts 87 = .ok (.iaload, 1) := xdt tbX9_shifts_0_ok 53 rfl
theorem dX9_shifts_88 : decode cX9_shifts 88 = .ok (.iastore, 1) := xdt tbX9_shifts_0_ok 54 rfl
theorem dX9_shifts_89 : decode cX9_shifts 89 = .ok (.iinc 6 (-1), 3) := xdt tbX9_shifts_0_ok 55 rfl
theorem dX9_shifts_92 : decode cX9_shifts 92 = .ok (.goto (-31), 3) := xdt tbX9_shifts_0_ok 56 rfl
theorem dX9_shifts_95 : decode cX9_shifts 95 = .ok (.aload_n 0, 1) := xdt tbX9_shifts_0_ok 57 rfl
theorem dX9_shifts_96 : decode cX9_shifts 96 = .ok (.getfield 20, 3) := xdt tbX9_shifts_0_ok 58 rfl
theorem dX9_shifts_99 : decode cX9_shifts 99 = .ok (.iload 4, 2) := xdt tbX9_shifts_0_ok 59 rfl
def tbX9_shifts_60 : List (Nat × Instr × Nat) := [(101, .iload_n 3, 1), (102, .iadd, 1), (103, .iload 5, 2), (105, .iastore, 1), (106, .return_, 1)]
theorem tbX9_shifts_60_ok : tbX9_shifts_60.all (fun q => decide (decode cX9_shifts q.1 = .ok q.2)) = true := by decide +kernel
theorem dX9_shifts_101 : decode cX9_shifts 101 = .ok (.iload_n 3, 1) := xdt tbX9_shifts_60_ok 0 rfl
theorem dX9_shifts_102 : decode cX9_shifts 102 = .ok (.iadd, 1) := xdt tbX9_shifts_60_ok 1 rfl
theorem dX9_shifts_103 : decode cX9_shifts 103 = .ok (.iload 5, 2) := xdt tbX9_shifts_60_ok 2 rfl
theorem dX9_shifts_105 : decode cX9_shifts 105 = .ok (.iastore, 1) := xdt tbX9_shifts_60_ok 3 rfl
theorem dX9_shifts_106 : decode cX9_shifts 106 = .ok (.return_, 1) := xdt tbX9_shifts_60_ok 4 rfl
def tbX9_remembers_0 : List (Nat × Instr × Nat) := [(0, .aload_n 0, 1), (1, .getfield 276, 3), (4, .bipush 16, 2), (6, .if_icmp .ne 77, 3), (9, .iconst 1, 1), (10, .istore 4, 2), (12, .iload 4, 2), (14, .bipush 16, 2), (16, .if_icmp .ge 57, 3), (19, .aload_n 0, 1), (20, .getfield 30, 3), (23, .iload 4, 2), (25, .iconst 1, 1), (26, .isub, 1), (27, .aload_n 0, 1), (28, .getfield 30, 3), (31, .iload 4, 2), (33, .iaload, 1), (34, .iastore, 1), (35, .aload_n 0, 1), (36, .getfield 33, 3), (39, .iload 4, 2), (41, .iconst 1, 1), (42, .isub, 1), (43, .aload_n 0, 1), (44, .getfield 33, 3), (47, .iload 4, 2), (49, .iaload, 1), (50, .iastore, 1), (51, .aload_n 0, 1), (52, .getfield 36, 3), (55, .iload 4, 2), (57, .iconst 1, 1), (58, .isub, 1), (59, .aload_n 0, 1), (60, .getfield 36, 3), (63, .iload 4, 2), (65, .iaload, 1), (66, .iastore, 1), (67, .iinc 4 1, 3), (70, .goto (-58), 3), (73, .aload_n 0, 1), (74, .dup, 1), (75, .getfield 276, 3), (78, .iconst 1, 1), (79, .isub, 1), (80, .putfield 276, 3), (83, .aload_n 0, 1), (84, .getfield 30, 3), (87, .aload_n 0, 1), (88, .getfield 276, 3), (91, .iload_n 1, 1), (92, .iastore, 1), (93, .aload_n 0, 1), (94, .getfield 33, 3), (97, .aload_n 0, 1), (98, .getfield 276, 3), (101, .iload_n 2, 1), (102, .iastore, 1), (103, .aload_n 0, 1)]
theorem tbX9_remembers_0_ok : tbX9_remembers_0.all (fun q => decide (decode cX9_remembers q.1 = .ok q.2)) = true := by decide +kernel
theorem dX9_remembers_0 : decode cX9_remembers 0 = .ok (.aload_n 0, 1) := xdt tbX9_remembers_0_ok 0 rfl
theorem dX9_remembers_1 : decode cX9_remembers 1 = .ok (.getfield 276, 3) := xdt tbX9_remembers_0_ok 1 rfl
theorem dX9_remembers_4 : decode cX9_remembers 4 = .ok (.bipush 16, 2) := xdt tbX9_remembers_0_ok 2 rfl
theorem dX9_remembers_6 : decode cX9_remembers 6 = .ok (.if_icmp .ne 77, 3) := xdt tbX9_remembers_0_ok 3 rfl
theorem dX9_remembers_9 : decode cX9_remembers 9 = .ok (.iconst 1, 1) := xdt tbX9_remembers_0_ok 4 rfl
theorem dX9_remembers_10 : decode cX9_remembers 10 = .ok (.istore 4, 2) := xdt tbX9_remembers_0_ok 5 rfl
theorem dX9_remembers_12 : decode cX9_remembers 12 = .ok (.iload 4, 2) := xdt tbX9_remembers_0_ok 6 rfl
theorem dX9_remembers_14 : decode cX9_remembers 14 = .ok (.bipush 16, 2) := xdt tbX9_remembers_0_ok 7 rfl
theorem dX9_remembers_16 : decode cX9_remembers 16 = .ok (.if_icmp .ge 57, 3) := xdt tbX9_remembers_0_ok 8 rfl
theorem dX9_remembers_19 : decode cX9_remembers 19 = .ok (.aload_n 0, 1) := xdt tbX9_remembers_0_ok 9 rfl
theorem dX9_remembers_20 : decode cX9_remembers 20 = .ok (.getfield 30, 3) := xdt tbX9_remembers_0_ok 10 rfl
theorem dX9_remembers_23 : decode cX9_remembers 23 = .ok (.iload 4, 2) := xdt tbX9_remembers_0_ok 11 rfl
theorem dX9_remembers_25 : decode cX9_remembers 25 = .ok (.iconst 1, 1) := xdt tbX9_remembers_0_ok 12 rfl
theorem dX9_remembers_26 : decode cX9_remembers 26 = .ok (.isub, 1) := xdt tbX9_remembers_0_ok 13 rfl
theorem dX9_remembers_27 : decode cX9_remembers 27 = .ok (.aload_n 0, 1) := xdt tbX9_remembers_0_ok 14 rfl
theorem dX9_remembers_28 : decode cX9_remembers 28 = .ok (.getfield 30, 3) := xdt tbX9_remembers_0_ok 15 rfl
theorem dX9_remembers_31 : decode cX9_remembers 31 = .ok (.iload 4, 2) := xdt tbX9_remembers_0_ok 16 rfl
theorem dX9_remembers_33 : decode cX9_remembers 33 = .ok (.iaload, 1) := xdt tbX9_remembers_0_ok 17 rfl
theorem dX9_remembers_34 : decode cX9_remembers 34 = .ok (.iastore, 1) := xdt tbX9_remembers_0_ok 18 rfl
theorem dX9_remembers_35 : decode cX9_remembers 35 = .ok (.aload_n 0, 1) := xdt tbX9_remembers_0_ok 19 rfl
theorem dX9_remembers_36 : decode cX9_remembers 36 = .ok (.getfield 33, 3) := xdt tbX9_remembers_0_ok 20 rfl
theorem dX9_remembers_39 : decode cX9_remembers 39 = .ok (.iload 4, 2) := xdt tbX9_remembers_0_ok 21 rfl
theorem dX9_remembers_41 : decode cX9_remembers 41 = .ok (.iconst 1, 1) := xdt tbX9_remembers_0_ok 22 rfl
theorem dX9_remembers_42 : decode cX9_remembers 42 = .ok (.isub, 1) := xdt tbX9_remembers_0_ok 23 rfl
theorem dX9_remembers_43 : decode cX9_remembers 43 = .ok (.aload_n 0, 1) := xdt tbX9_remembers_0_ok 24 rfl
theorem dX9_remembers_44 : decode cX9_remembers 44 = .ok (.getfield 33, 3) := xdt tbX9_remembers_0_ok 25 rfl
theorem dX9_remembers_47 : decode cX9_remembers 47 = .ok (.iload 4, 2) := xdt tbX9_remembers_0_ok 26 rfl
theorem dX9_remembers_49 : decode cX9_remembers 49 = .ok (.iaload, 1) := xdt tbX9_remembers_0_ok 27 rfl
theorem dX9_remembers_50 : decode cX9_remembers 50 = .ok (.iastore, 1) := xdt tbX9_remembers_0_ok 28 rfl
theorem dX9_remembers_51 : decode cX9_remembers 51 = .ok (.aload_n 0, 1) := xdt tbX9_remembers_0_ok 29 rfl
theorem dX9_remembers_52 : decode cX9_remembers 52 = .ok (.getfield 36, 3) := xdt tbX9_remembers_0_ok 30 rfl
theorem dX9_remembers_55 : decode cX9_remembers 55 = .ok (.iload 4, 2) := xdt tbX9_remembers_0_ok 31 rfl
theorem dX9_remembers_57 : decode cX9_remembers 57 = .ok (.iconst 1, 1) := xdt tbX9_remembers_0_ok 32 rfl
theorem dX9_remembers_58 : decode cX9_remembers 58 = .ok (.isub, 1) := xdt tbX9_remembers_0_ok 33 rfl
theorem dX9_remembers_59 : decode cX9_remembers 59 = .ok (.aload_n 0, 1) := xdt tbX9_remembers_0_ok 34 rfl
theorem dX9_remembers_60 : decode cX9_remembers 60 = .ok (.getfield 36, 3) := xdt tbX9_remembers_0_ok 35 rfl
theorem dX9_remembers_63 : decode cX9_remembers 63 = .ok (.iload 4, 2) := xdt tbX9_remembers_0_ok 36 rfl
theorem dX9_remembers_65 : decode cX9_remembers 65 = .ok (.iaload, 1) := xdt tbX9_remembers_0_ok 37 rfl
theorem dX9_remembers_66 : decode cX9_remembers 66 = .ok (.iastore, 1) := xdt tbX9_remembers_0_ok 38 rfl
theorem dX9_remembers_67 : decode cX9_remembers 67 = .ok (.iinc 4 1, 3) := xdt tbX9_remembers_0_ok 39 rfl
theorem dX9_remembers_70 : decode cX9_remembers 70 = .ok (.goto (-58), 3) := xdt tbX9_remembers_0_ok 40 rfl
theorem dX9_remembers_73 : decode cX9_remembers 73 = .ok (.aload_n 0, 1) := xdt tbX9_remembers_0_ok 41 rfl
theorem dX9_remembers_74 : decode cX9_remembers 74 = .ok (.dup, 1) := xdt tbX9_remembers_0_ok 42 rfl
theorem dX9_remembers_75 : decode cX9_remembers 75 = .ok (.getfield 276, 3) := xdt tbX9_remembers_0_ok 43 rfl
theorem dX9_remembers_78 : decode cX9_remembers 78 = .ok (.iconst 1, 1) := xdt tbX9_remembers_0_ok 44 rfl
theorem dX9_remembers_79 : decode cX9_remembers 79 = .ok (.isub, 1) := xdt tbX9_remembers_0_ok 45 rfl
theorem dX9_remembers_80 : decode cX9_remembers 80 = .ok (.putfield 276, 3) := xdt tbX9_remembers_0_ok 46 rfl
theorem dX9_remembers_83 : decode cX9_remembers 83 = .ok (.aload_n 0, 1) := xdt tbX9_remembers_0_ok 47 rfl
theorem dX9_remembers_84 : decode cX9_remembers 84 = .ok (.getfield 30, 3) := xdt tbX9_remembers_0_ok 48 rfl
theorem dX9_remembers_87 : decode cX9_remembers 87 = .ok (.aload_n 0, 1) := xdt tbX9_remembers_0_ok 49 rfl
theorem dX9_remembers_88 : decode cX9_remembers 88 = .ok (.getfield 276, 3) := xdt tbX9_remembers_0_ok 50 rfl
theorem dX9_remembers_91 : decode cX9_remembers 91 = .ok (.iload_n 1, 1) := xdt tbX9_remembers_0_ok 51 rfl
theorem dX9_remembers_92 : decode cX9_remembers 92 = .ok (.iastore, 1) := xdt tbX9_remembers_0_ok 52 rfl
theorem dX9_remembers_93 : decode cX9_remembers 93 = .ok (.aload_n 0, 1) := xdt tbX9_remembers_0_ok 53 rfl
theorem dX9_remembers_94 : decode cX9_remembers 94 = .ok (.getfield 33, 3) := xdt tbX9_remembers_0_ok 54 rfl
theorem dX9_remembers_97 : decode cX9_remembers 97 = .ok (.aload_n 0, 1) := xdt tbX9_remembers_0_ok 55 rfl
theorem dX9_remembers_98 : decode cX9_remembers 98 = .ok (.getfield 276, 3) := xdt tbX9_remembers_0_ok 56 rfl
theorem dX9_remembers_101 : decode cX9_remembers 101 = .ok (.iload_n 2, 1) := xdt tbX9_remembers_0_ok 57 rfl
theorem dX9_remembers_102 : decode cX9_remembers 102 = .ok (.iastore, 1) := xdt tbX9_remembers_0_ok 58 rfl
theorem dX9_remembers_103 : decode cX9_remembers 103 = .ok (.aload_n 0, 1) := xdt tbX9_remembers_0_ok 59 rfl
def tbX9_remembers_60 : List (Nat × Instr × Nat) := [(104, .getfield 36, 3), (107, .aload_n 0, 1), (108, .getfield 276, 3), (111, .iload_n 3, 1), (112, .iastore, 1), (113, .aload_n 0, 1), (114, .dup, 1), (115, .getfield 276, 3), (118, .iconst 1, 1), (119, .iadd, 1), (120, .putfield 276, 3), (123, .aload_n 0, 1), (124, .iconst 0, 1), (125, .putfield 279, 3), (128, .return_, 1)]
theorem tbX9_remembers_60_ok : tbX9_remembers_60.all (fun q => decide (decode cX9_remembers q.1 = .ok q.2)) = true := by decide +kernel
theorem dX9_remembers_104 : decode cX9_remembers 104 = .ok (.getfield 36, 3) := xdt tbX9_remembers_60_ok 0 rfl
theorem dX9_remembers_107 : decode cX9_remembers 107 = .ok (.aload_n 0, 1) := xdt tbX9_remembers_60_ok 1 rfl
theorem dX9_remembers_108 : decode cX9_remembers 108 = .ok (.getfield 276, 3) := xdt tbX9_remembers_60_ok 2 rfl
theorem dX9_remembers_111 : decode cX9_remembers 111 = .ok (.iload_n 3, 1) := xdt tbX9_remembers_60_ok 3 rfl
theorem dX9_remembers_112 : decode cX9_remembers 112 = .ok (.iastore, 1) := xdt tbX9_remembers_60_ok 4 rfl
theorem dX9_remembers_113 : decode cX9_remembers 113 = .ok (.aload_n 0, 1) := xdt tbX9_remembers_60_ok 5 rfl
theorem dX9_remembers_114 : decode cX9_remembers 114 = .ok (.dup, 1) := xdt tbX9_remembers_60_ok 6 rfl
theorem dX9_remembers_115 : decode cX9_remembers 115 = .ok (.getfield 276, 3) := xdt tbX9_remembers_60_ok 7 rfl
theorem dX9_remembers_118 : decode cX9_remembers 118 = .ok (.iconst 1, 1) := xdt tbX9_remembers_60_ok 8 rfl
theorem dX9_remembers_119 : decode cX9_remembers 119 = .ok (.iadd, 1) := xdt tbX9_remembers_60_ok 9 rfl
theorem dX9_remembers_120 : decode cX9_remembers 120 = .ok (.putfield 276, 3) := xdt tbX9_remembers_60_ok 10 rfl
theorem dX9_remembers_123 : decode cX9_remembers 123 = .ok (.aload_n 0, 1) := xdt tbX9_remembers_60_ok 11 rfl
theorem dX9_remembers_124 : decode cX9_remembers 124 = .ok (.iconst 0, 1) := xdt tbX9_remembers_60_ok 12 rfl
theorem dX9_remembers_125 : decode cX9_remembers 125 = .ok (.putfield 279, 3) := xdt tbX9_remembers_60_ok 13 rfl
theorem dX9_remembers_128 : decode cX9_remembers 128 = .ok (.return_, 1) := xdt tbX9_remembers_60_ok 14 rfl
def tbX9_move_0 : List (Nat × Instr × Nat) := [(0, .aload_n 0, 1), (1, .iconst 0, 1), (2, .putfield 91, 3), (5, .aload_n 0, 1), (6, .aload_n 0, 1), (7, .iload_n 1, 1), (8, .iload_n 2, 1), (9, .invokevirtual 286, 3), (12, .ifCond .eq 12, 3), (15, .aload_n 0, 1), (16, .iload_n 1, 1), (17, .iload_n 3, 1), (18, .invokevirtual 286, 3), (21, .ifCond .ne 7, 3), (24, .iconst 1, 1), (25, .goto 4, 3), (28, .iconst 0, 1), (29, .iconst 1, 1), (30, .iconst 0, 1), (31, .invokevirtual 257, 3), (34, .ifCond .eq 5, 3), (37, .iconst 0, 1), (38, .ireturn, 1), (39, .iload_n 2, 1), (40, .iload_n 3, 1), (41, .if_icmp .ne 5, 3), (44, .iconst 0, 1), (45, .ireturn, 1), (46, .aload_n 0, 1), (47, .iload_n 1, 1), (48, .iload_n 2, 1), (49, .iload_n 3, 1), (50, .invokevirtual 290, 3), (53, .aload_n 0, 1), (54, .iload_n 1, 1), (55, .iload_n 2, 1), (56, .iload_n 3, 1), (57, .invokevirtual 294, 3), (60, .iconst 1, 1), (61, .ireturn, 1)]
theorem tbX9_move_0_ok : tbX9_move_0.all (fun q => decide (decode cX9_move q.1 = .ok q.2)) = true := by decide +kernel
theorem dX9_move_0 : decode cX9_move 0 = .ok (.aload_n 0, 1) := xdt tbX9_move_0_ok 0 rfl
theorem dX9_move_1 : decode cX9_move 1 = .ok (.iconst 0, 1) := xdt tbX9_move_0_ok 1 rfl
theorem dX9_move_2 : decode cX9_move 2 = .ok (.putfield 91, 3) := xdt tbX9_move_0_ok 2 rfl
theorem dX9_move_5 : decode cX9_move 5 = .ok (.aload_n 0, 1) := xdt tbX9_move_0_ok 3 rfl
theorem dX9_move_6 : decode cX9_move 6 = .ok (.aload_n 0, 1) := xdt tbX9_move_0_ok 4 rfl
theorem dX9_move_7 : decode cX9_move 7 = .ok (.iload_n 1, 1) := xdt tbX9_move_0_ok 5 rfl
theorem dX9_move_8 : decode cX9_move 8 = .ok (.iload_n 2, 1) := xdt tbX9_move_0_ok 6 rfl
theorem dX9_move_9 : decode cX9_move 9 = .ok (.invokevirtual 286, 3) := xdt tbX9_move_0_ok 7 rfl
theorem dX9_move_12 : decode cX9_move 12 = .ok (.ifCond .eq 12, 3) := xdt tbX9_move_0_ok 8 rfl
theorem dX9_move_15 : decode cX9_move 15 = .ok (.aload_n 0, 1) := xdt tbX9_move_0_ok 9 rfl
theorem dX9_move_16 : decode cX9_move 16 = .ok (.iload_n 1, 1) := xdt tbX9_move_0_ok 10 rfl
theorem dX9_move_17 : decode cX9_move 17 = .ok (.iload_n 3, 1) := xdt tbX9_move_0_ok 11 rfl
theorem dX9_move_18 : decode cX9_move 18 = .ok (.invokevirtual 286, 3) := xdt tbX9_move_0_ok 12 rfl
theorem dX9_move_21 : decode cX9_move 21 = .ok (.ifCond .ne 7, 3) := xdt tbX9_move_0_ok 13 rfl
theorem dX9_move_24 : decode cX9_move 24 = .ok (.iconst 1, 1) := xdt tbX9_move_0_ok 14 rfl
theorem dX9_move_25 : decode cX9_move 25 = .ok (.goto 4, 3) := xdt tbX9_move_0_ok 15 rfl
theorem dX9_move_28 : decode cX9_move 28 = .ok (.iconst 0, 1) := xdt tbX9_move_0_ok 16 rfl
theorem dX9_move_29 : decode cX9_move 29 = .ok (.iconst 1, 1) := xdt tbX9_move_0_ok 17 rfl
theorem dX9_move_30 : decode cX9_move 30 = .ok (.iconst 0, 1) := xdt tbX9_move_0_ok 18 rfl
theorem dX9_move_31 : decode cX9_move 31 = .ok (.invokevirtual 257, 3) := xdt tbX9_move_0_ok 19 rfl
theorem dX9_move_34 : decode cX9_move 34 = .ok (.ifCond .eq 5, 3) := xdt tbX9_move_0_ok 20 rfl
theorem dX9_move_37 : decode cX9_move 37 = .ok (.iconst 0, 1) := xdt tbX9_move_0_ok 21 rfl
theorem dX9_move_38 : decode cX9_move 38 = .ok (.ireturn, 1) := xdt tbX9_move_0_ok 22 rfl
theorem dX9_move_39 : decode cX9_move 39 = .ok (.iload_n 2, 1) := xdt tbX9_move_0_ok 23 rfl
theorem dX9_move_40 : decode cX9_move 40 = .ok (.iload_n 3, 1) := xdt tbX9_move_0_ok 24 rfl
theorem dX9_move_41 : decode cX9_move 41 = .ok (.if_icmp .ne 5, 3) := xdt tbX9_move_0_ok 25 rfl
theorem dX9_move_44 : decode cX9_move 44 = .ok (.iconst 0, 1) := xdt tbX9_move_0_ok 26 rfl
theorem dX9_move_45 : decode cX9_move 45 = .ok (.ireturn, 1) := xdt tbX9_move_0_ok 27 rfl
theorem dX9_move_46 : decode cX9_move 46 = .ok (.aload_n 0, 1) := xdt tbX9_move_0_ok 28 rfl
theorem dX9_move_47 : decode cX9_move 47 = .ok (.iload_n 1, 1) := xdt tbX9_move_0_ok 29 rfl
theorem dX9_move_48 : decode cX9_move 48 = .ok (.iload_n 2, 1) := xdt tbX9_move_0_ok 30 rfl
theorem dX9_move_49 : decode cX9_move 49 = .ok (.iload_n 3, 1) := xdt tbX9_move_0_ok 31 rfl
theorem dX9_move_50 : decode cX9_move 50 = .ok (.invokevirtual 290, 3) := xdt tbX9_move_0_ok 32 rfl
theorem dX9_move_53 : decode cX9_move 53 = .ok (.aload_n 0, 1) := xdt tbX9_move_0_ok 33 rfl
theorem dX9_move_54 : decode cX9_move 54 = .ok (.iload_n 1, 1) := xdt tbX9_move_0_ok 34 rfl
theorem dX9_move_55 : decode cX9_move 55 = .ok (.iload_n 2, 1) := xdt tbX9_move_0_ok 35 rfl
theorem dX9_move_56 : decode cX9_move 56 = .ok (.iload_n 3, 1) := xdt tbX9_move_0_ok 36 rfl
theorem dX9_move_57 : decode cX9_move 57 = .ok (.invokevirtual 294, 3) := xdt tbX9_move_0_ok 37 rfl
theorem dX9_move_60 : decode cX9_move 60 = .ok (.iconst 1, 1) := xdt tbX9_move_0_ok 38 rfl
theorem dX9_move_61 : decode cX9_move 61 = .ok (.ireturn, 1) := xdt tbX9_move_0_ok 39 rfl
def tbX9_turn_0 : List (Nat × Instr × Nat) := [(0, .aload_n 0, 1), (1, .iconst 0, 1), (2, .putfield 91, 3), (5, .aload_n 0, 1), (6, .aload_n 0, 1), (7, .iload_n 1, 1), (8, .iload_n 2, 1), (9, .invokevirtual 286, 3), (12, .ifCond .ne 7, 3), (15, .iconst 1, 1), (16, .goto 4, 3), (19, .iconst 0, 1), (20, .iconst 1, 1), (21, .iconst 0, 1), (22, .invokevirtual 257, 3), (25, .ifCond .eq 5, 3), (28, .iconst 0, 1), (29, .ireturn, 1), (30, .aload_n 0, 1), (31, .getfield 20, 3), (34, .iload_n 1, 1), (35, .iload_n 2, 1), (36, .invokestatic 101, 3), (39, .istore_n 3, 1), (40, .aload_n 0, 1), (41, .iload_n 1, 1), (42, .iload_n 3, 1), (43, .iconst (-1), 1), (44, .invokevirtual 290, 3), (47, .aload_n 0, 1), (48, .getfield 26, 3), (51, .iload_n 3, 1), (52, .aload_n 0, 1), (53, .getfield 26, 3), (56, .iload_n 3, 1), (57, .baload, 1), (58, .ifCond .ne 7, 3), (61, .iconst 1, 1), (62, .goto 4, 3), (65, .iconst 0, 1), (66, .bastore, 1), (67, .aload_n 0, 1), (68, .getfield 26, 3), (71, .iload_n 3, 1), (72, .baload, 1), (73, .ifCond .eq 7, 3), (76, .iconst 0, 1), (77, .goto 4, 3), (80, .iconst 1, 1), (81, .ireturn, 1)]
theorem tbX9_turn_0_ok : tbX9_turn_0.all (fun q => decide (decode cX9_turn q.1 = .ok q.2)) = true := by decide +kernel
theorem dX9_turn_0 : decode cX9_turn 0 = .ok (.aload_n 0, 1) := xdt tbX9_turn_0_ok 0 rfl
theorem dX9_turn_1 : decode cX9_turn 1 = .ok (.iconst 0, 1) := xdt tbX9_turn_0_ok 1 rfl
theorem dX9_turn_2 : decode cX9_turn 2 = .ok (.putfield 91, 3) := xdt tbX9_turn_0_ok 2 rfl
theorem dX9_turn_5 : decode cX9_turn 5 = .ok (.aload_n 0, 1) := xdt tbX9_turn_0_ok 3 rfl
theorem dX9_turn_6 : decode cX9_turn 6 = .ok (.aload_n 0, 1) := xdt tbX9_turn_0_ok 4 rfl
theorem dX9_turn_7 : decode cX9_turn 7 = .ok (.iload_n 1, 1) := xdt tbX9_turn_0_ok 5 rfl
theorem dX9_turn_8 : decode cX9_turn 8 = .ok (.iload_n 2, 1) := xdt tbX9_turn_0_ok 6 rfl
theorem dX9_turn_9 : decode cX9_turn 9 = .ok (.invokevirtual 286, 3) := xdt tbX9_turn_0_ok 7 rfl
theorem dX9_turn_12 : decode cX9_turn 12 = .ok (.ifCond .ne 7, 3) := xdt tbX9_turn_0_ok 8 rfl
theorem dX9_turn_15 : decode cX9_turn 15 = .ok (.iconst 1, 1) := xdt tbX9_turn_0_ok 9 rfl
theorem dX9_turn_16 : decode cX9_turn 16 = .ok (.goto 4, 3) := xdt tbX9_turn_0_ok 10 rfl
theorem dX9_turn_19 : decode cX9_turn 19 = .ok (.iconst 0, 1) := xdt tbX9_turn_0_ok 11 rfl
theorem dX9_turn_20 : decode cX9_turn 20 = .ok (.iconst 1, 1) := xdt tbX9_turn_0_ok 12 rfl
theorem dX9_turn_21 : decode cX9_turn 21 = .ok (.iconst 0, 1) := xdt tbX9_turn_0_ok 13 rfl
theorem dX9_turn_22 : decode cX9_turn 22 = .ok (.invokevirtual 257, 3) := xdt tbX9_turn_0_ok 14 rfl
theorem dX9_turn_25 : decode cX9_turn 25 = .ok (.ifCond .eq 5, 3) := xdt tbX9_turn_0_ok 15 rfl
theorem dX9_turn_28 : decode cX9_turn 28 = .ok (.iconst 0, 1) := xdt tbX9_turn_0_ok 16 rfl
theorem dX9_turn_29 : decode cX9_turn 29 = .ok (.ireturn, 1) := xdt tbX9_turn_0_ok 17 rfl
theorem dX9_turn_30 : decode cX9_turn 30 = .ok (.aload_n 0, 1) := xdt tbX9_turn_0_ok 18 rfl
theorem dX9_turn_31 : decode cX9_turn 31 = .ok (.getfield 20, 3) := xdt tbX9_turn_0_ok 19 rfl
theorem dX9_turn_34 : decode cX9_turn 34 = .ok (.iload_n 1, 1) := xdt tbX9_turn_0_ok 20 rfl
theorem dX9_turn_35 : decode cX9_turn 35 = .ok (.iload_n 2, 1) := xdt tbX9_turn_0_ok 21 rfl
theorem dX9_turn_36 : decode cX9_turn 36 = .ok (.invokestatic 101, 3) := xdt tbX9_turn_0_ok 22 rfl
theorem dX9_turn_39 : decode cX9_turn 39 = .ok (.istore_n 3, 1) := xdt tbX9_turn_0_ok 23 rfl
theorem dX9_turn_40 : decode cX9_turn 40 = .ok (.aload_n 0, 1) := xdt tbX9_turn_0_ok 24 rfl
theorem dX9_turn_41 : decode cX9_turn 41 = .ok (.iload_n 1, 1) := xdt tbX9_turn_0_ok 25 rfl
theorem dX9_turn_42 : decode cX9_turn 42 = .ok (.iload_n 3, 1) := xdt tbX9_turn_0_ok 26 rfl
theorem dX9_turn_43 : decode cX9_turn 43 = .ok (.iconst (-1), 1) := xdt tbX9_turn_0_ok 27 rfl
theorem dX9_turn_44 : decode cX9_turn 44 = .ok (.invokevirtual 290, 3) := xdt tbX9_turn_0_ok 28 rfl
theorem dX9_turn_47 : decode cX9_turn 47 = .ok (.aload_n 0, 1) := xdt tbX9_turn_0_ok 29 rfl
theorem dX9_turn_48 : decode cX9_turn 48 = .ok (.getfield 26, 3) := xdt tbX9_turn_0_ok 30 rfl
theorem dX9_turn_51 : decode cX9_turn 51 = .ok (.iload_n 3, 1) := xdt tbX9_turn_0_ok 31 rfl
theorem dX9_turn_52 : decode cX9_turn 52 = .ok (.aload_n 0, 1) := xdt tbX9_turn_0_ok 32 rfl
theorem dX9_turn_53 : decode cX9_turn 53 = .ok (.getfield 26, 3) := xdt tbX9_turn_0_ok 33 rfl
theorem dX9_turn_56 : decode cX9_turn 56 = .ok (.iload_n 3, 1) := xdt tbX9_turn_0_ok 34 rfl
theorem dX9_turn_57 : decode cX9_turn 57 = .ok (.baload, 1) := xdt tbX9_turn_0_ok 35 rfl
theorem dX9_turn_58 : decode cX9_turn 58 = .ok (.ifCond .ne 7, 3) := xdt tbX9_turn_0_ok 36 rfl
theorem dX9_turn_61 : decode cX9_turn 61 = .ok (.iconst 1, 1) := xdt tbX9_turn_0_ok 37 rfl
theorem dX9_turn_62 : decode cX9_turn 62 = .ok (.goto 4, 3) := xdt tbX9_turn_0_ok 38 rfl
theorem dX9_turn_65 : decode cX9_turn 65 = .ok (.iconst 0, 1) := xdt tbX9_turn_0_ok 39 rfl
theorem dX9_turn_66 : decode cX9_turn 66 = .ok (.bastore, 1) := xdt tbX9_turn_0_ok 40 rfl
theorem dX9_turn_67 : decode cX9_turn 67 = .ok (.aload_n 0, 1) := xdt tbX9_turn_0_ok 41 rfl
theorem dX9_turn_68 : decode cX9_turn 68 = .ok (.getfield 26, 3) := xdt tbX9_turn_0_ok 42 rfl
theorem dX9_turn_71 : decode cX9_turn 71 = .ok (.iload_n 3, 1) := xdt tbX9_turn_0_ok 43 rfl
theorem dX9_turn_72 : decode cX9_turn 72 = .ok (.baload, 1) := xdt tbX9_turn_0_ok 44 rfl
theorem dX9_turn_73 : decode cX9_turn 73 = .ok (.ifCond .eq 7, 3) := xdt tbX9_turn_0_ok 45 rfl
theorem dX9_turn_76 : decode cX9_turn 76 = .ok (.iconst 0, 1) := xdt tbX9_turn_0_ok 46 rfl
theorem dX9_turn_77 : decode cX9_turn 77 = .ok (.goto 4, 3) := xdt tbX9_turn_0_ok 47 rfl
theorem dX9_turn_80 : decode cX9_turn 80 = .ok (.iconst 1, 1) := xdt tbX9_turn_0_ok 48 rfl
theorem dX9_turn_81 : decode cX9_turn 81 = .ok (.ireturn, 1) := xdt tbX9_turn_0_ok 49 rfl
def tbX9_undo_0 : List (Nat × Instr × Nat) := [(0, .aload_n 0, 1), (1, .iconst 0, 1), (2, .putfield 91, 3), (5, .aload_n 0, 1), (6, .getfield 276, 3), (9, .ifCond .ne 5, 3), (12, .iconst (-1), 1), (13, .ireturn, 1), (14, .aload_n 0, 1), (15, .dup, 1), (16, .getfield 276, 3), (19, .iconst 1, 1), (20, .isub, 1), (21, .putfield 276, 3), (24, .aload_n 0, 1), (25, .iconst 0, 1), (26, .putfield 279, 3), (29, .aload_n 0, 1), (30, .getfield 36, 3), (33, .aload_n 0, 1), (34, .getfield 276, 3), (37, .iaload, 1), (38, .iconst (-1), 1), (39, .if_icmp .ne 42, 3), (42, .aload_n 0, 1), (43, .getfield 26, 3), (46, .aload_n 0, 1), (47, .getfield 33, 3), (50, .aload_n 0, 1), (51, .getfield 276, 3), (54, .iaload, 1), (55, .aload_n 0, 1), (56, .getfield 26, 3), (59, .aload_n 0, 1), (60, .getfield 33, 3), (63, .aload_n 0, 1), (64, .getfield 276, 3), (67, .iaload, 1), (68, .baload, 1), (69, .ifCond .ne 7, 3), (72, .iconst 1, 1), (73, .goto 4, 3), (76, .iconst 0, 1), (77, .bastore, 1), (78, .goto 34, 3), (81, .aload_n 0, 1), (82, .aload_n 0, 1), (83, .getfield 30, 3), (86, .aload_n 0, 1), (87, .getfield 276, 3), (90, .iaload, 1), (91, .aload_n 0, 1), (92, .getfield 36, 3), (95, .aload_n 0, 1), (96, .getfield 276, 3), (99, .iaload, 1), (100, .aload_n 0, 1), (101, .getfield 33, 3), (104, .aload_n 0, 1), (105, .getfield 276, 3)]
theorem tbX9_undo_0_ok : tbX9_undo_0.all (fun q => decide (decode cX9_undo q.1 = .ok q.2)) = true := by decide +kernel
theorem dX9_undo_0 : decode cX9_undo 0 = .ok (.aload_n 0, 1) := xdt tbX9_undo_0_ok 0 rfl
theorem dX9_undo_1 : decode cX9_undo 1 = .ok (.iconst 0, 1) := xdt tbX9_undo_0_ok 1 rfl
theorem dX9_undo_2 : decode cX9_undo 2 = .ok (.putfield 91, 3) := xdt tbX9_undo_0_ok 2 rfl
theorem dX9_undo_5 : decode cX9_undo 5 = .ok (.aload_n 0, 1) := xdt tbX9_undo_0_ok 3 rfl
theorem dX9_undo_6 : decode cX9_undo 6 = .ok (.getfield 276, 3) := xdt tbX9_undo_0_ok 4 rfl
theorem dX9_undo_9 : decode cX9_undo 9 = .ok (.ifCond .ne 5, 3) := xdt tbX9_undo_0_ok 5 rfl
theorem dX9_undo_12 : decode cX9_undo 12 = .ok (.iconst (-1), 1) := xdt tbX9_undo_0_ok 6 rfl
theorem dX9_undo_13 : decode cX9_undo 13 = .ok (.ireturn, 1) := xdt tbX9_undo_0_ok 7 rfl
theorem dX9_undo_14 : decode cX9_undo 14 = .ok (.aload_n 0, 1) := xdt tbX9_undo_0_ok 8 rfl
theorem dX9_undo_15 : decode cX9_undo 15 = .ok (.dup, 1) := xdt tbX9_undo_0_ok 9 rfl
theorem dX9_undo_16 : decode cX9_undo 16 = .ok (.getfield 276, 3) := xdt tbX9_undo_0_ok 10 rfl
theorem dX9_undo_19 : decode cX9_undo 19 = .ok (.iconst 1, 1) := xdt tbX9_undo_0_ok 11 rfl
theorem dX9_undo_20 : decode cX9_undo 20 = .ok (.isub, 1) := xdt tbX9_undo_0_ok 12 rfl
theorem dX9_undo_21 : decode cX9_undo 21 = .ok (.putfield 276, 3) := xdt tbX9_undo_0_ok 13 rfl
theorem dX9_undo_24 : decode cX9_undo 24 = .ok (.aload_n 0, 1) := xdt tbX9_undo_0_ok 14 rfl
theorem dX9_undo_25 : decode cX9_undo 25 = .ok (.iconst 0, 1) := xdt tbX9_undo_0_ok 15 rfl
theorem dX9_undo_26 : decode cX9_undo 26 = .ok (.putfield 279, 3) := xdt tbX9_undo_0_ok 16 rfl
theorem dX9_undo_29 : decode cX9_undo 29 = .ok (.aload_n 0, 1) := xdt tbX9_undo_0_ok 17 rfl
theorem dX9_undo_30 : decode cX9_undo 30 = .ok (.getfield 36, 3) := xdt tbX9_undo_0_ok 18 rfl
theorem dX9_undo_33 : decode cX9_undo 33 = .ok (.aload_n 0, 1) := xdt tbX9_undo_0_ok 19 rfl
theorem dX9_undo_34 : decode cX9_undo 34 = .ok (.getfield 276, 3) := xdt tbX9_undo_0_ok 20 rfl
theorem dX9_undo_37 : decode cX9_undo 37 = .ok (.iaload, 1) := xdt tbX9_undo_0_ok 21 rfl
theorem dX9_undo_38 : decode cX9_undo 38 = .ok (.iconst (-1), 1) := xdt tbX9_undo_0_ok 22 rfl
theorem dX9_undo_39 : decode cX9_undo 39 = .ok (.if_icmp .ne 42, 3) := xdt tbX9_undo_0_ok 23 rfl
theorem dX9_undo_42 : decode cX9_undo 42 = .ok (.aload_n 0, 1) := xdt tbX9_undo_0_ok 24 rfl
theorem dX9_undo_43 : decode cX9_undo 43 = .ok (.getfield 26, 3) := xdt tbX9_undo_0_ok 25 rfl
theorem dX9_undo_46 : decode cX9_undo 46 = .ok (.aload_n 0, 1) := xdt tbX9_undo_0_ok 26 rfl
theorem dX9_undo_47 : decode cX9_undo 47 = .ok (.getfield 33, 3) := xdt tbX9_undo_0_ok 27 rfl
theorem dX9_undo_50 : decode cX9_undo 50 = .ok (.aload_n 0, 1) := xdt tbX9_undo_0_ok 28 rfl
theorem dX9_undo_51 : decode cX9_undo 51 = .ok (.getfield 276, 3) := xdt tbX9_undo_0_ok 29 rfl
theorem dX9_undo_54 : decode cX9_undo 54 = .ok (.iaload, 1) := xdt tbX9_undo_0_ok 30 rfl
theorem dX9_undo_55 : decode cX9_undo 55 = .ok (.aload_n 0, 1) := xdt tbX9_undo_0_ok 31 rfl
theorem dX9_undo_56 : decode cX9_undo 56 = .ok (.getfield 26, 3) := xdt tbX9_undo_0_ok 32 rfl
theorem dX9_undo_59 : decode cX9_undo 59 = .ok (.aload_n 0, 1) := xdt tbX9_undo_0_ok 33 rfl
theorem dX9_undo_60 : decode cX9_undo 60 = .ok (.getfield 33, 3) := xdt tbX9_undo_0_ok 34 rfl
theorem dX9_undo_63 : decode cX9_undo 63 = .ok (.aload_n 0, 1) := xdt tbX9_undo_0_ok 35 rfl
theorem dX9_undo_64 : decode cX9_undo 64 = .ok (.getfield 276, 3) := xdt tbX9_undo_0_ok 36 rfl
theorem dX9_undo_67 : decode cX9_undo 67 = .ok (.iaload, 1) := xdt tbX9_undo_0_ok 37 rfl
theorem dX9_undo_68 : decode cX9_undo 68 = .ok (.baload, 1) := xdt tbX9_undo_0_ok 38 rfl
theorem dX9_undo_69 : decode cX9_undo 69 = .ok (.ifCond .ne 7, 3) := xdt tbX9_undo_0_ok 39 rfl
theorem dX9_undo_72 : decode cX9_undo 72 = .ok (.iconst 1, 1) := xdt tbX9_undo_0_ok 40 rfl
theorem dX9_undo_73 : decode cX9_undo 73 = .ok (.goto 4, 3) := xdt tbX9_undo_0_ok 41 rfl
theorem dX9_undo_76 : decode cX9_undo 76 = .ok (.iconst 0, 1) := xdt tbX9_undo_0_ok 42 rfl
theorem dX9_undo_77 : decode cX9_undo 77 = .ok (.bastore, 1) := xdt tbX9_undo_0_ok 43 rfl
theorem dX9_undo_78 : decode cX9_undo 78 = .ok (.goto 34, 3) := xdt tbX9_undo_0_ok 44 rfl
theorem dX9_undo_81 : decode cX9_undo 81 = .ok (.aload_n 0, 1) := xdt tbX9_undo_0_ok 45 rfl
theorem dX9_undo_82 : decode cX9_undo 82 = .ok (.aload_n 0, 1) := xdt tbX9_undo_0_ok 46 rfl
theorem dX9_undo_83 : decode cX9_undo 83 = .ok (.getfield 30, 3) := xdt tbX9_undo_0_ok 47 rfl
theorem dX9_undo_86 : decode cX9_undo 86 = .ok (.aload_n 0, 1) := xdt tbX9_undo_0_ok 48 rfl
theorem dX9_undo_87 : decode cX9_undo 87 = .ok (.getfield 276, 3) := xdt tbX9_undo_0_ok 49 rfl
theorem dX9_undo_90 : decode cX9_undo 90 = .ok (.iaload, 1) := xdt tbX9_undo_0_ok 50 rfl
theorem dX9_undo_91 : decode cX9_undo 91 = .ok (.aload_n 0, 1) := xdt tbX9_undo_0_ok 51 rfl
theorem dX9_undo_92 : decode cX9_undo 92 = .ok (.getfield 36, 3) := xdt tbX9_undo_0_ok 52 rfl
theorem dX9_undo_95 : decode cX9_undo 95 = .ok (.aload_n 0, 1) := xdt tbX9_undo_0_ok 53 rfl
theorem dX9_undo_96 : decode cX9_undo 96 = .ok (.getfield 276, 3) := xdt tbX9_undo_0_ok 54 rfl
theorem dX9_undo_99 : decode cX9_undo 99 = .ok (.iaload, 1) := xdt tbX9_undo_0_ok 55 rfl
theorem dX9_undo_100 : decode cX9_undo 100 = .ok (.aload_n 0, 1) := xdt tbX9_undo_0_ok 56 rfl
theorem dX9_undo_101 : decode cX9_undo 101 = .ok (.getfield 33, 3) := xdt tbX9_undo_0_ok 57 rfl
theorem dX9_undo_104 : decode cX9_undo 104 = .ok (.aload_n 0, 1) := xdt tbX9_undo_0_ok 58 rfl
theorem dX9_undo_105 : decode cX9_undo 105 = .ok (.getfield 276, 3) := xdt tbX9_undo_0_ok 59 rfl
def tbX9_undo_60 : List (Nat × Instr × Nat) := [(108, .iaload, 1), (109, .invokevirtual 294, 3), (112, .aload_n 0, 1), (113, .getfield 276, 3), (116, .ireturn, 1)]
theorem tbX9_undo_60_ok : tbX9_undo_60.all (fun q => decide (decode cX9_undo q.1 = .ok q.2)) = true := by decide +kernel
theorem dX9_undo_108 : decode cX9_undo 108 = .ok (.iaload, 1) := xdt tbX9_undo_60_ok 0 rfl
theorem dX9_undo_109 : decode cX9_undo 109 = .ok (.invokevirtual 294, 3) := xdt tbX9_undo_60_ok 1 rfl
theorem dX9_undo_112 : decode cX9_undo 112 = .ok (.aload_n 0, 1) := xdt tbX9_undo_60_ok 2 rfl
theorem dX9_undo_113 : decode cX9_undo 113 = .ok (.getfield 276, 3) := xdt tbX9_undo_60_ok 3 rfl
theorem dX9_undo_116 : decode cX9_undo 116 = .ok (.ireturn, 1) := xdt tbX9_undo_60_ok 4 rfl
def tbX9_works_0 : List (Nat × Instr × Nat) := [(0, .aload_n 0, 1), (1, .getfield 297, 3), (4, .sipush 3000, 3), (7, .if_icmp .ne 11, 3), (10, .aload_n 0, 1), (11, .iconst 2, 1), (12, .putfield 300, 3), (15, .goto 13, 3), (18, .aload_n 0, 1), (19, .dup, 1), (20, .getfield 297, 3), (23, .iconst 1, 1), (24, .iadd, 1), (25, .putfield 297, 3), (28, .aload_n 0, 1), (29, .getfield 300, 3), (32, .ifCond .ne 7, 3), (35, .iconst 1, 1), (36, .goto 4, 3), (39, .iconst 0, 1), (40, .ireturn, 1)]
theorem tbX9_works_0_ok : tbX9_works_0.all (fun q => decide (decode cX9_works q.1 = .ok q.2)) = true := by decide +kernel
theorem dX9_works_0 : decode cX9_works 0 = .ok (.aload_n 0, 1) := xdt tbX9_works_0_ok 0 rfl
theorem dX9_works_1 : decode cX9_works 1 = .ok (.getfield 297, 3) := xdt tbX9_works_0_ok 1 rfl
theorem dX9_works_4 : decode cX9_works 4 = .ok (.sipush 3000, 3) := xdt tbX9_works_0_ok 2 rfl
theorem dX9_works_7 : decode cX9_works 7 = .ok (.if_icmp .ne 11, 3) := xdt tbX9_works_0_ok 3 rfl
theorem dX9_works_10 : decode cX9_works 10 = .ok (.aload_n 0, 1) := xdt tbX9_works_0_ok 4 rfl
theorem dX9_works_11 : decode cX9_works 11 = .ok (.iconst 2, 1) := xdt tbX9_works_0_ok 5 rfl
theorem dX9_works_12 : decode cX9_works 12 = .ok (.putfield 300, 3) := xdt tbX9_works_0_ok 6 rfl
theorem dX9_works_15 : decode cX9_works 15 = .ok (.goto 13, 3) := xdt tbX9_works_0_ok 7 rfl
theorem dX9_works_18 : decode cX9_works 18 = .ok (.aload_n 0, 1) := xdt tbX9_works_0_ok 8 rfl
theorem dX9_works_19 : decode cX9_works 19 = .ok (.dup, 1) := xdt tbX9_works_0_ok 9 rfl
theorem dX9_works_20 : decode cX9_works 20 = .ok (.getfield 297, 3) := xdt tbX9_works_0_ok 10 rfl
theorem dX9_works_23 : decode cX9_works 23 = .ok (.iconst 1, 1) := xdt tbX9_works_0_ok 11 rfl
theorem dX9_works_24 : decode cX9_works 24 = .ok (.iadd, 1) := xdt tbX9_works_0_ok 12 rfl
theorem dX9_works_25 : decode cX9_works 25 = .ok (.putfield 297, 3) := xdt tbX9_works_0_ok 13 rfl
theorem dX9_works_28 : decode cX9_works 28 = .ok (.aload_n 0, 1) := xdt tbX9_works_0_ok 14 rfl
theorem dX9_works_29 : decode cX9_works 29 = .ok (.getfield 300, 3) := xdt tbX9_works_0_ok 15 rfl
theorem dX9_works_32 : decode cX9_works 32 = .ok (.ifCond .ne 7, 3) := xdt tbX9_works_0_ok 16 rfl
theorem dX9_works_35 : decode cX9_works 35 = .ok (.iconst 1, 1) := xdt tbX9_works_0_ok 17 rfl
theorem dX9_works_36 : decode cX9_works 36 = .ok (.goto 4, 3) := xdt tbX9_works_0_ok 18 rfl
theorem dX9_works_39 : decode cX9_works 39 = .ok (.iconst 0, 1) := xdt tbX9_works_0_ok 19 rfl
theorem dX9_works_40 : decode cX9_works 40 = .ok (.ireturn, 1) := xdt tbX9_works_0_ok 20 rfl
def tbX9_opens_0 : List (Nat × Instr × Nat) := [(0, .aload_n 0, 1), (1, .getfield 303, 3), (4, .bipush 20, 2), (6, .if_icmp .ne 10, 3), (9, .aload_n 0, 1), (10, .iconst 2, 1), (11, .putfield 300, 3), (14, .iconst 0, 1), (15, .ireturn, 1), (16, .aload_n 0, 1), (17, .getfield 57, 3), (20, .aload_n 0, 1), (21, .getfield 303, 3), (24, .iload_n 1, 1), (25, .iastore, 1), (26, .aload_n 0, 1), (27, .getfield 60, 3), (30, .aload_n 0, 1), (31, .getfield 303, 3), (34, .iload_n 2, 1), (35, .iastore, 1), (36, .aload_n 0, 1), (37, .dup, 1), (38, .getfield 303, 3), (41, .iconst 1, 1), (42, .iadd, 1), (43, .putfield 303, 3), (46, .iconst 1, 1), (47, .ireturn, 1)]
theorem tbX9_opens_0_ok : tbX9_opens_0.all (fun q => decide (decode cX9_opens q.1 = .ok q.2)) = true := by decide +kernel
theorem dX9_opens_0 : decode cX9_opens 0 = .ok (.aload_n 0, 1) := xdt tbX9_opens_0_ok 0 rfl
theorem dX9_opens_1 : decode cX9_opens 1 = .ok (.getfield 303, 3) := xdt tbX9_opens_0_ok 1 rfl
theorem dX9_opens_4 : decode cX9_opens 4 = .ok (.bipush 20, 2) := xdt tbX9_opens_0_ok 2 rfl
theorem dX9_opens_6 : decode cX9_opens 6 = .ok (.if_icmp .ne 10, 3) := xdt tbX9_opens_0_ok 3 rfl
theorem dX9_opens_9 : decode cX9_opens 9 = .ok (.aload_n 0, 1) := xdt tbX9_opens_0_ok 4 rfl
theorem dX9_opens_10 : decode cX9_opens 10 = .ok (.iconst 2, 1) := xdt tbX9_opens_0_ok 5 rfl
theorem dX9_opens_11 : decode cX9_opens 11 = .ok (.putfield 300, 3) := xdt tbX9_opens_0_ok 6 rfl
theorem dX9_opens_14 : decode cX9_opens 14 = .ok (.iconst 0, 1) := xdt tbX9_opens_0_ok 7 rfl
theorem dX9_opens_15 : decode cX9_opens 15 = .ok (.ireturn, 1) := xdt tbX9_opens_0_ok 8 rfl
theorem dX9_opens_16 : decode cX9_opens 16 = .ok (.aload_n 0, 1) := xdt tbX9_opens_0_ok 9 rfl
theorem dX9_opens_17 : decode cX9_opens 17 = .ok (.getfield 57, 3) := xdt tbX9_opens_0_ok 10 rfl
theorem dX9_opens_20 : decode cX9_opens 20 = .ok (.aload_n 0, 1) := xdt tbX9_opens_0_ok 11 rfl
theorem dX9_opens_21 : decode cX9_opens 21 = .ok (.getfield 303, 3) := xdt tbX9_opens_0_ok 12 rfl
theorem dX9_opens_24 : decode cX9_opens 24 = .ok (.iload_n 1, 1) := xdt tbX9_opens_0_ok 13 rfl
theorem dX9_opens_25 : decode cX9_opens 25 = .ok (.iastore, 1) := xdt tbX9_opens_0_ok 14 rfl
theorem dX9_opens_26 : decode cX9_opens 26 = .ok (.aload_n 0, 1) := xdt tbX9_opens_0_ok 15 rfl
theorem dX9_opens_27 : decode cX9_opens 27 = .ok (.getfield 60, 3) := xdt tbX9_opens_0_ok 16 rfl
theorem dX9_opens_30 : decode cX9_opens 30 = .ok (.aload_n 0, 1) := xdt tbX9_opens_0_ok 17 rfl
theorem dX9_opens_31 : decode cX9_opens 31 = .ok (.getfield 303, 3) := xdt tbX9_opens_0_ok 18 rfl
theorem dX9_opens_34 : decode cX9_opens 34 = .ok (.iload_n 2, 1) := xdt tbX9_opens_0_ok 19 rfl
theorem dX9_opens_35 : decode cX9_opens 35 = .ok (.iastore, 1) := xdt tbX9_opens_0_ok 20 rfl
theorem dX9_opens_36 : decode cX9_opens 36 = .ok (.aload_n 0, 1) := xdt tbX9_opens_0_ok 21 rfl
theorem dX9_opens_37 : decode cX9_opens 37 = .ok (.dup, 1) := xdt tbX9_opens_0_ok 22 rfl
theorem dX9_opens_38 : decode cX9_opens 38 = .ok (.getfield 303, 3) := xdt tbX9_opens_0_ok 23 rfl
theorem dX9_opens_41 : decode cX9_opens 41 = .ok (.iconst 1, 1) := xdt tbX9_opens_0_ok 24 rfl
theorem dX9_opens_42 : decode cX9_opens 42 = .ok (.iadd, 1) := xdt tbX9_opens_0_ok 25 rfl
theorem dX9_opens_43 : decode cX9_opens 43 = .ok (.putfield 303, 3) := xdt tbX9_opens_0_ok 26 rfl
theorem dX9_opens_46 : decode cX9_opens 46 = .ok (.iconst 1, 1) := xdt tbX9_opens_0_ok 27 rfl
theorem dX9_opens_47 : decode cX9_opens 47 = .ok (.ireturn, 1) := xdt tbX9_opens_0_ok 28 rfl
def tbX9_fails_0 : List (Nat × Instr × Nat) := [(0, .aload_n 0, 1), (1, .iconst 1, 1), (2, .putfield 300, 3), (5, .aload_n 0, 1), (6, .iload_n 1, 1), (7, .putfield 306, 3), (10, .aload_n 0, 1), (11, .iload_n 2, 1), (12, .putfield 309, 3), (15, .aload_n 0, 1), (16, .iconst 0, 1), (17, .putfield 312, 3), (20, .return_, 1)]
theorem tbX9_fails_0_ok : tbX9_fails_0.all (fun q => decide (decode cX9_fails q.1 = .ok q.2)) = true := by decide +kernel
theorem dX9_fails_0 : decode cX9_fails 0 = .ok (.aload_n 0, 1) := xdt tbX9_fails_0_ok 0 rfl
theorem dX9_fails_1 : decode cX9_fails 1 = .ok (.iconst 1, 1) := xdt tbX9_fails_0_ok 1 rfl
theorem dX9_fails_2 : decode cX9_fails 2 = .ok (.putfield 300, 3) := xdt tbX9_fails_0_ok 2 rfl
theorem dX9_fails_5 : decode cX9_fails 5 = .ok (.aload_n 0, 1) := xdt tbX9_fails_0_ok 3 rfl
theorem dX9_fails_6 : decode cX9_fails 6 = .ok (.iload_n 1, 1) := xdt tbX9_fails_0_ok 4 rfl
theorem dX9_fails_7 : decode cX9_fails 7 = .ok (.putfield 306, 3) := xdt tbX9_fails_0_ok 5 rfl
theorem dX9_fails_10 : decode cX9_fails 10 = .ok (.aload_n 0, 1) := xdt tbX9_fails_0_ok 6 rfl
theorem dX9_fails_11 : decode cX9_fails 11 = .ok (.iload_n 2, 1) := xdt tbX9_fails_0_ok 7 rfl
theorem dX9_fails_12 : decode cX9_fails 12 = .ok (.putfield 309, 3) := xdt tbX9_fails_0_ok 8 rfl
theorem dX9_fails_15 : decode cX9_fails 15 = .ok (.aload_n 0, 1) := xdt tbX9_fails_0_ok 9 rfl
theorem dX9_fails_16 : decode cX9_fails 16 = .ok (.iconst 0, 1) := xdt tbX9_fails_0_ok 10 rfl
theorem dX9_fails_17 : decode cX9_fails 17 = .ok (.putfield 312, 3) := xdt tbX9_fails_0_ok 11 rfl
theorem dX9_fails_20 : decode cX9_fails 20 = .ok (.return_, 1) := xdt tbX9_fails_0_ok 12 rfl
def tbX9_isEarly_0 : List (Nat × Instr × Nat) := [(0, .aload_n 0, 1), (1, .getfield 20, 3), (4, .iload_n 2, 1), (5, .iconst 2, 1), (6, .invokestatic 104, 3), (9, .iconst (-1), 1), (10, .if_icmp .eq 26, 3), (13, .aload_n 0, 1), (14, .getfield 63, 3), (17, .iload_n 2, 1), (18, .baload, 1), (19, .ifCond .ne 17, 3), (22, .aload_n 0, 1), (23, .getfield 39, 3), (26, .iload_n 1, 1), (27, .iaload, 1), (28, .iconst 1, 1), (29, .if_icmp .ne 7, 3), (32, .iconst 1, 1), (33, .goto 4, 3), (36, .iconst 0, 1), (37, .ireturn, 1)]
theorem tbX9_isEarly_0_ok : tbX9_isEarly_0.all (fun q => decide (decode cX9_isEarly q.1 = .ok q.2)) = true := by decide +kernel
theorem dX9_isEarly_0 : decode cX9_isEarly 0 = .ok (.aload_n 0, 1) := xdt tbX9_isEarly_0_ok 0 rfl
theorem dX9_isEarly_1 : decode cX9_isEarly 1 = .ok (.getfield 20, 3) := xdt tbX9_isEarly_0_ok 1 rfl
theorem dX9_isEarly_4 : decode cX9_isEarly 4 = .ok (.iload_n 2, 1) := xdt tbX9_isEarly_0_ok 2 rfl
theorem dX9_isEarly_5 : decode cX9_isEarly 5 = .ok (.iconst 2, 1) := xdt tbX9_isEarly_0_ok 3 rfl
theorem dX9_isEarly_6 : decode cX9_isEarly 6 = .ok (.invokestatic 104, 3) := xdt tbX9_isEarly_0_ok 4 rfl
theorem dX9_isEarly_9 : decode cX9_isEarly 9 = .ok (.iconst (-1), 1) := xdt tbX9_isEarly_0_ok 5 rfl
theorem dX9_isEarly_10 : decode cX9_isEarly 10 = .ok (.if_icmp .eq 26, 3) := xdt tbX9_isEarly_0_ok 6 rfl
theorem dX9_isEarly_13 : decode cX9_isEarly 13 = .ok (.aload_n 0, 1) := xdt tbX9_isEarly_0_ok 7 rfl
theorem dX9_isEarly_14 : decode cX9_isEarly 14 = .ok (.getfield 63, 3) := xdt tbX9_isEarly_0_ok 8 rfl
theorem dX9_isEarly_17 : decode cX9_isEarly 17 = .ok (.iload_n 2, 1) := xdt tbX9_isEarly_0_ok 9 rfl
theorem dX9_isEarly_18 : decode cX9_isEarly 18 = .ok (.baload, 1) := xdt tbX9_isEarly_0_ok 10 rfl
theorem dX9_isEarly_19 : decode cX9_isEarly 19 = .ok (.ifCond .ne 17, 3) := xdt tbX9_isEarly_0_ok 11 rfl
theorem dX9_isEarly_22 : decode cX9_isEarly 22 = .ok (.aload_n 0, 1) := xdt tbX9_isEarly_0_ok 12 rfl
theorem dX9_isEarly_23 : decode cX9_isEarly 23 = .ok (.getfield 39, 3) := xdt tbX9_isEarly_0_ok 13 rfl
theorem dX9_isEarly_26 : decode cX9_isEarly 26 = .ok (.iload_n 1, 1) := xdt tbX9_isEarly_0_ok 14 rfl
theorem dX9_isEarly_27 : decode cX9_isEarly 27 = .ok (.iaload, 1) := xdt tbX9_isEarly_0_ok 15 rfl
theorem dX9_isEarly_28 : decode cX9_isEarly 28 = .ok (.iconst 1, 1) := xdt tbX9_isEarly_0_ok 16 rfl
theorem dX9_isEarly_29 : decode cX9_isEarly 29 = .ok (.if_icmp .ne 7, 3) := xdt tbX9_isEarly_0_ok 17 rfl
theorem dX9_isEarly_32 : decode cX9_isEarly 32 = .ok (.iconst 1, 1) := xdt tbX9_isEarly_0_ok 18 rfl
theorem dX9_isEarly_33 : decode cX9_isEarly 33 = .ok (.goto 4, 3) := xdt tbX9_isEarly_0_ok 19 rfl
theorem dX9_isEarly_36 : decode cX9_isEarly 36 = .ok (.iconst 0, 1) := xdt tbX9_isEarly_0_ok 20 rfl
theorem dX9_isEarly_37 : decode cX9_isEarly 37 = .ok (.ireturn, 1) := xdt tbX9_isEarly_0_ok 21 rfl
def tbX9_notes_0 : List (Nat × Instr × Nat) := [(0, .aload_n 0, 1), (1, .getfield 355, 3), (4, .ifCond .eq 147, 3), (7, .bipush 6, 2), (9, .aload_n 0, 1), (10, .getfield 358, 3), (13, .imul, 1), (14, .istore_n 3, 1), (15, .aload_n 0, 1), (16, .getfield 66, 3), (19, .iload_n 3, 1), (20, .iload_n 1, 1), (21, .iastore, 1), (22, .aload_n 0, 1), (23, .getfield 66, 3), (26, .iload_n 3, 1), (27, .iconst 1, 1), (28, .iadd, 1), (29, .aload_n 0, 1), (30, .getfield 20, 3), (33, .iload_n 2, 1), (34, .iconst 1, 1), (35, .invokestatic 104, 3), (38, .iastore, 1), (39, .aload_n 0, 1), (40, .getfield 66, 3), (43, .iload_n 3, 1), (44, .iconst 2, 1), (45, .iadd, 1), (46, .aload_n 0, 1), (47, .getfield 45, 3), (50, .iload_n 2, 1), (51, .iaload, 1), (52, .iastore, 1), (53, .aload_n 0, 1), (54, .getfield 66, 3), (57, .iload_n 3, 1), (58, .iconst 3, 1), (59, .iadd, 1), (60, .aload_n 0, 1), (61, .getfield 297, 3), (64, .iastore, 1), (65, .aload_n 0, 1), (66, .getfield 66, 3), (69, .iload_n 3, 1), (70, .iconst 4, 1), (71, .iadd, 1), (72, .aload_n 0, 1), (73, .getfield 303, 3), (76, .iastore, 1), (77, .aload_n 0, 1), (78, .getfield 66, 3), (81, .iload_n 3, 1), (82, .iconst 5, 1), (83, .iadd, 1), (84, .aload_n 0, 1), (85, .getfield 361, 3), (88, .iastore, 1), (89, .iconst 0, 1), (90, .istore 4, 2)]
theorem tbX9_notes_0_ok : tbX9_notes_0.all (fun q => decide (decode cX9_notes q.1 = .ok q.2)) = true := by decide +kernel
theorem dX9_notes_0 : decode cX9_notes 0 = .ok (.aload_n 0, 1) := xdt tbX9_notes_0_ok 0 rfl
theorem dX9_notes_1 : decode cX9_notes 1 = .ok (.getfield 355, 3) := xdt tbX9_notes_0_ok 1 rfl
theorem dX9_notes_4 : decode cX9_notes 4 = .ok (.ifCond .eq 147, 3) := xdt tbX9_notes_0_ok 2 rfl
theorem dX9_notes_7 : decode cX9_notes 7 = .ok (.bipush 6, 2) := xdt tbX9_notes_0_ok 3 rfl
theorem dX9_notes_9 : decode cX9_notes 9 = .ok (.aload_n 0, 1) := xdt tbX9_notes_0_ok 4 rfl
theorem dX9_notes_10 : decode cX9_notes 10 = .ok (.getfield 358, 3) := xdt tbX9_notes_0_ok 5 rfl
theorem dX9_notes_13 : decode cX9_notes 13 = .ok (.imul, 1) := xdt tbX9_notes_0_ok 6 rfl
theorem dX9_notes_14 : decode cX9_notes 14 = .ok (.istore_n 3, 1) := xdt tbX9_notes_0_ok 7 rfl
theorem dX9_notes_15 : decode cX9_notes 15 = .ok (.aload_n 0, 1) := xdt tbX9_notes_0_ok 8 rfl
theorem dX9_notes_16 : decode cX9_notes 16 = .ok (.getfield 66, 3) := xdt tbX9_notes_0_ok 9 rfl
theorem dX9_notes_19 : decode cX9_notes 19 = .ok (.iload_n 3, 1) := xdt tbX9_notes_0_ok 10 rfl
theorem dX9_notes_20 : decode cX9_notes 20 = .ok (.iload_n 1, 1) := xdt tbX9_notes_0_ok 11 rfl
theorem dX9_notes_21 : decode cX9_notes 21 = .ok (.iastore, 1) := xdt tbX9_notes_0_ok 12 rfl
theorem dX9_notes_22 : decode cX9_notes 22 = .ok (.aload_n 0, 1) := xdt tbX9_notes_0_ok 13 rfl
theorem dX9_notes_23 : decode cX9_notes 23 = .ok (.getfield 66, 3) := xdt tbX9_notes_0_ok 14 rfl
theorem dX9_notes_26 : decode cX9_notes 26 = .ok (.iload_n 3, 1) := xdt tbX9_notes_0_ok 15 rfl
theorem dX9_notes_27 : decode cX9_notes 27 = .ok (.iconst 1, 1) := xdt tbX9_notes_0_ok 16 rfl
theorem dX9_notes_28 : decode cX9_notes 28 = .ok (.iadd, 1) := xdt tbX9_notes_0_ok 17 rfl
theorem dX9_notes_29 : decode cX9_notes 29 = .ok (.aload_n 0, 1) := xdt tbX9_notes_0_ok 18 rfl
theorem dX9_notes_30 : decode cX9_notes 30 = .ok (.getfield 20, 3) := xdt tbX9_notes_0_ok 19 rfl
theorem dX9_notes_33 : decode cX9_notes 33 = .ok (.iload_n 2, 1) := xdt tbX9_notes_0_ok 20 rfl
theorem dX9_notes_34 : decode cX9_notes 34 = .ok (.iconst 1, 1) := xdt tbX9_notes_0_ok 21 rfl
theorem dX9_notes_35 : decode cX9_notes 35 = .ok (.invokestatic 104, 3) := xdt tbX9_notes_0_ok 22 rfl
theorem dX9_notes_38 : decode cX9_notes 38 = .ok (.iastore, 1) := xdt tbX9_notes_0_ok 23 rfl
theorem dX9_notes_39 : decode cX9_notes 39 = .ok (.aload_n 0, 1) := xdt tbX9_notes_0_ok 24 rfl
theorem dX9_notes_40 : decode cX9_notes 40 = .ok (.getfield 66, 3) := xdt tbX9_notes_0_ok 25 rfl
theorem dX9_notes_43 : decode cX9_notes 43 = .ok (.iload_n 3, 1) := xdt tbX9_notes_0_ok 26 rfl
theorem dX9_notes_44 : decode cX9_notes 44 = .ok (.iconst 2, 1) := xdt tbX9_notes_0_ok 27 rfl
theorem dX9_notes_45 : decode cX9_notes 45 = .ok (.iadd, 1) := xdt tbX9_notes_0_ok 28 rfl
theorem dX9_notes_46 : decode cX9_notes 46 = .ok (.aload_n 0, 1) := xdt tbX9_notes_0_ok 29 rfl
theorem dX9_notes_47 : decode cX9_notes 47 = .ok (.getfield 45, 3) := xdt tbX9_notes_0_ok 30 rfl
theorem dX9_notes_50 : decode cX9_notes 50 = .ok (.iload_n 2, 1) := xdt tbX9_notes_0_ok 31 rfl
theorem dX9_notes_51 : decode cX9_notes 51 = .ok (.iaload, 1) := xdt tbX9_notes_0_ok 32 rfl
theorem dX9_notes_52 : decode cX9_notes 52 = .ok (.iastore, 1) := xdt tbX9_notes_0_ok 33 rfl
theorem dX9_notes_53 : decode cX9_notes 53 = .ok (.aload_n 0, 1) := xdt tbX9_notes_0_ok 34 rfl
theorem dX9_notes_54 : decode cX9_notes 54 = .ok (.getfield 66, 3) := xdt tbX9_notes_0_ok 35 rfl
theorem dX9_notes_57 : decode cX9_notes 57 = .ok (.iload_n 3, 1) := xdt tbX9_notes_0_ok 36 rfl
theorem dX9_notes_58 : decode cX9_notes 58 = .ok (.iconst 3, 1) := xdt tbX9_notes_0_ok 37 rfl
theorem dX9_notes_59 : decode cX9_notes 59 = .ok (.iadd, 1) := xdt tbX9_notes_0_ok 38 rfl
theorem dX9_notes_60 : decode cX9_notes 60 = .ok (.aload_n 0, 1) := xdt tbX9_notes_0_ok 39 rfl
theorem dX9_notes_61 : decode cX9_notes 61 = .ok (.getfield 297, 3) := xdt tbX9_notes_0_ok 40 rfl
theorem dX9_notes_64 : decode cX9_notes 64 = .ok (.iastore, 1) := xdt tbX9_notes_0_ok 41 rfl
theorem dX9_notes_65 : decode cX9_notes 65 = .ok (.aload_n 0, 1) := xdt tbX9_notes_0_ok 42 rfl
theorem dX9_notes_66 : decode cX9_notes 66 = .ok (.getfield 66, 3) := xdt tbX9_notes_0_ok 43 rfl
theorem dX9_notes_69 : decode cX9_notes 69 = .ok (.iload_n 3, 1) := xdt tbX9_notes_0_ok 44 rfl
theorem dX9_notes_70 : decode cX9_notes 70 = .ok (.iconst 4, 1) := xdt tbX9_notes_0_ok 45 rfl
theorem dX9_notes_71 : decode cX9_notes 71 = .ok (.iadd, 1) := xdt tbX9_notes_0_ok 46 rfl
theorem dX9_notes_72 : decode cX9_notes 72 = .ok (.aload_n 0, 1) := xdt tbX9_notes_0_ok 47 rfl
theorem dX9_notes_73 : decode cX9_notes 73 = .ok (.getfield 303, 3) := xdt tbX9_notes_0_ok 48 rfl
theorem dX9_notes_76 : decode cX9_notes 76 = .ok (.iastore, 1) := xdt tbX9_notes_0_ok 49 rfl
theorem dX9_notes_77 : decode cX9_notes 77 = .ok (.aload_n 0, 1) := xdt tbX9_notes_0_ok 50 rfl
theorem dX9_notes_78 : decode cX9_notes 78 = .ok (.getfield 66, 3) := xdt tbX9_notes_0_ok 51 rfl
theorem dX9_notes_81 : decode cX9_notes 81 = .ok (.iload_n 3, 1) := xdt tbX9_notes_0_ok 52 rfl
theorem dX9_notes_82 : decode cX9_notes 82 = .ok (.iconst 5, 1) := xdt tbX9_notes_0_ok 53 rfl
theorem dX9_notes_83 : decode cX9_notes 83 = .ok (.iadd, 1) := xdt tbX9_notes_0_ok 54 rfl
theorem dX9_notes_84 : decode cX9_notes 84 = .ok (.aload_n 0, 1) := xdt tbX9_notes_0_ok 55 rfl
theorem dX9_notes_85 : decode cX9_notes 85 = .ok (.getfield 361, 3) := xdt tbX9_notes_0_ok 56 rfl
theorem dX9_notes_88 : decode cX9_notes 88 = .ok (.iastore, 1) := xdt tbX9_notes_0_ok 57 rfl
theorem dX9_notes_89 : decode cX9_notes 89 = .ok (.iconst 0, 1) := xdt tbX9_notes_0_ok 58 rfl
theorem dX9_notes_90 : decode cX9_notes 90 = .ok (.istore 4, 2) := xdt tbX9_notes_0_ok 59 rfl
def tbX9_notes_60 : List (Nat × Instr × Nat) := [(92, .iload 4, 2), (94, .aload_n 0, 1), (95, .getfield 303, 3), (98, .if_icmp .ge 53, 3), (101, .aload_n 0, 1), (102, .getfield 70, 3), (105, .bipush 20, 2), (107, .aload_n 0, 1), (108, .getfield 358, 3), (111, .imul, 1), (112, .iload 4, 2), (114, .iadd, 1), (115, .aload_n 0, 1), (116, .getfield 57, 3), (119, .iload 4, 2), (121, .iaload, 1), (122, .iastore, 1), (123, .aload_n 0, 1), (124, .getfield 73, 3), (127, .bipush 20, 2), (129, .aload_n 0, 1), (130, .getfield 358, 3), (133, .imul, 1), (134, .iload 4, 2), (136, .iadd, 1), (137, .aload_n 0, 1), (138, .getfield 60, 3), (141, .iload 4, 2), (143, .iaload, 1), (144, .iastore, 1), (145, .iinc 4 1, 3), (148, .goto (-56), 3), (151, .aload_n 0, 1), (152, .dup, 1), (153, .getfield 358, 3), (156, .iconst 1, 1), (157, .iadd, 1), (158, .putfield 358, 3), (161, .return_, 1)]
theorem tbX9_notes_60_ok : tbX9_notes_60.all (fun q => decide (decode cX9_notes q.1 = .ok q.2)) = true := by decide +kernel
theorem dX9_notes_92 : decode cX9_notes 92 = .ok (.iload 4, 2) := xdt tbX9_notes_60_ok 0 rfl
theorem dX9_notes_94 : decode cX9_notes 94 = .ok (.aload_n 0, 1) := xdt tbX9_notes_60_ok 1 rfl
theorem dX9_notes_95 : decode cX9_notes 95 = .ok (.getfield 303, 3) := xdt tbX9_notes_60_ok 2 rfl
theorem dX9_notes_98 : decode cX9_notes 98 = .ok (.if_icmp .ge 53, 3) := xdt tbX9_notes_60_ok 3 rfl
theorem dX9_notes_101 : decode cX9_notes 101 = .ok (.aload_n 0, 1) := xdt tbX9_notes_60_ok 4 rfl
theorem dX9_notes_102 : decode cX9_notes 102 = .ok (.getfield 70, 3) := xdt tbX9_notes_60_ok 5 rfl
theorem dX9_notes_105 : decode cX9_notes 105 = .ok (.bipush 20, 2) := xdt tbX9_notes_60_ok 6 rfl
theorem dX9_notes_107 : decode cX9_notes 107 = .ok (.aload_n 0, 1) := xdt tbX9_notes_60_ok 7 rfl
theorem dX9_notes_108 : decode cX9_notes 108 = .ok (.getfield 358, 3) := xdt tbX9_notes_60_ok 8 rfl
theorem dX9_notes_111 : decode cX9_notes 111 = .ok (.imul, 1) := xdt tbX9_notes_60_ok 9 rfl
theorem dX9_notes_112 : decode cX9_notes 112 = .ok (.iload 4, 2) := xdt tbX9_notes_60_ok 10 rfl
theorem dX9_notes_114 : decode cX9_notes 114 = .ok (.iadd, 1) := xdt tbX9_notes_60_ok 11 rfl
theorem dX9_notes_115 : decode cX9_notes 115 = .ok (.aload_n 0, 1) := xdt tbX9_notes_60_ok 12 rfl
theorem dX9_notes_116 : decode cX9_notes 116 = .ok (.getfield 57, 3) := xdt tbX9_notes_60_ok 13 rfl
theorem dX9_notes_119 : decode cX9_notes 119 = .ok (.iload 4, 2) := xdt tbX9_notes_60_ok 14 rfl
theorem dX9_notes_121 : decode cX9_notes 121 = .ok (.iaload, 1) := xdt tbX9_notes_60_ok 15 rfl
theorem dX9_notes_122 : decode cX9_notes 122 = .ok (.iastore, 1) := xdt tbX9_notes_60_ok 16 rfl
theorem dX9_notes_123 : decode cX9_notes 123 = .ok (.aload_n 0, 1) := xdt tbX9_notes_60_ok 17 rfl
theorem dX9_notes_124 : decode cX9_notes 124 = .ok (.getfield 73, 3) := xdt tbX9_notes_60_ok 18 rfl
theorem dX9_notes_127 : decode cX9_notes 127 = .ok (.bipush 20, 2) := xdt tbX9_notes_60_ok 19 rfl
theorem dX9_notes_129 : decode cX9_notes 129 = .ok (.aload_n 0, 1) := xdt tbX9_notes_60_ok 20 rfl
theorem dX9_notes_130 : decode cX9_notes 130 = .ok (.getfield 358, 3) := xdt tbX9_notes_60_ok 21 rfl
theorem dX9_notes_133 : decode cX9_notes 133 = .ok (.imul, 1) := xdt tbX9_notes_60_ok 22 rfl
theorem dX9_notes_134 : decode cX9_notes 134 = .ok (.iload 4, 2) := xdt tbX9_notes_60_ok 23 rfl
theorem dX9_notes_136 : decode cX9_notes 136 = .ok (.iadd, 1) := xdt tbX9_notes_60_ok 24 rfl
theorem dX9_notes_137 : decode cX9_notes 137 = .ok (.aload_n 0, 1) := xdt tbX9_notes_60_ok 25 rfl
theorem dX9_notes_138 : decode cX9_notes 138 = .ok (.getfield 60, 3) := xdt tbX9_notes_60_ok 26 rfl
theorem dX9_notes_141 : decode cX9_notes 141 = .ok (.iload 4, 2) := xdt tbX9_notes_60_ok 27 rfl
theorem dX9_notes_143 : decode cX9_notes 143 = .ok (.iaload, 1) := xdt tbX9_notes_60_ok 28 rfl
theorem dX9_notes_144 : decode cX9_notes 144 = .ok (.iastore, 1) := xdt tbX9_notes_60_ok 29 rfl
theorem dX9_notes_145 : decode cX9_notes 145 = .ok (.iinc 4 1, 3) := xdt tbX9_notes_60_ok 30 rfl
theorem dX9_notes_148 : decode cX9_notes 148 = .ok (.goto (-56), 3) := xdt tbX9_notes_60_ok 31 rfl
theorem dX9_notes_151 : decode cX9_notes 151 = .ok (.aload_n 0, 1) := xdt tbX9_notes_60_ok 32 rfl
theorem dX9_notes_152 : decode cX9_notes 152 = .ok (.dup, 1) := xdt tbX9_notes_60_ok 33 rfl
theorem dX9_notes_153 : decode cX9_notes 153 = .ok (.getfield 358, 3) := xdt tbX9_notes_60_ok 34 rfl
theorem dX9_notes_156 : decode cX9_notes 156 = .ok (.iconst 1, 1) := xdt tbX9_notes_60_ok 35 rfl
theorem dX9_notes_157 : decode cX9_notes 157 = .ok (.iadd, 1) := xdt tbX9_notes_60_ok 36 rfl
theorem dX9_notes_158 : decode cX9_notes 158 = .ok (.putfield 358, 3) := xdt tbX9_notes_60_ok 37 rfl
theorem dX9_notes_161 : decode cX9_notes 161 = .ok (.return_, 1) := xdt tbX9_notes_60_ok 38 rfl
def tbX9_comesTo_0 : List (Nat × Instr × Nat) := [(0, .aload_n 0, 1), (1, .getfield 39, 3), (4, .iload_n 1, 1), (5, .iaload, 1), (6, .iconst 3, 1), (7, .if_icmp .ne 10, 3), (10, .aload_n 0, 1), (11, .iconst 2, 1), (12, .iload_n 1, 1), (13, .invokevirtual 315, 3), (16, .return_, 1), (17, .aload_n 0, 1), (18, .getfield 39, 3), (21, .iload_n 1, 1), (22, .iaload, 1), (23, .ifCond .ne 13, 3), (26, .aload_n 0, 1), (27, .iload_n 1, 1), (28, .bipush 99, 2), (30, .invokevirtual 319, 3), (33, .ifCond .ne 4, 3), (36, .return_, 1), (37, .aload_n 0, 1), (38, .invokevirtual 322, 3), (41, .ifCond .ne 4, 3), (44, .return_, 1), (45, .aload_n 0, 1), (46, .getfield 39, 3), (49, .iload_n 1, 1), (50, .iconst 1, 1), (51, .iastore, 1), (52, .aload_n 0, 1), (53, .getfield 42, 3), (56, .aload_n 0, 1), (57, .getfield 325, 3), (60, .iload_n 1, 1), (61, .iastore, 1), (62, .aload_n 0, 1), (63, .dup, 1), (64, .getfield 325, 3), (67, .iconst 1, 1), (68, .iadd, 1), (69, .putfield 325, 3), (72, .aload_n 0, 1), (73, .getfield 20, 3), (76, .iload_n 1, 1), (77, .iconst 1, 1), (78, .invokestatic 97, 3), (81, .iconst (-1), 1), (82, .if_icmp .eq 16, 3), (85, .aload_n 0, 1), (86, .aload_n 0, 1), (87, .getfield 20, 3), (90, .iload_n 1, 1), (91, .iconst 1, 1), (92, .invokestatic 97, 3), (95, .invokevirtual 328, 3), (98, .iconst 0, 1), (99, .istore_n 2, 1), (100, .iload_n 2, 1)]
theorem tbX9_comesTo_0_ok : tbX9_comesTo_0.all (fun q => decide (decode cX9_comesTo q.1 = .ok q.2)) = true := by decide +kernel
theorem dX9_comesTo_0 : decode cX9_comesTo 0 = .ok (.aload_n 0, 1) := xdt tbX9_comesTo_0_ok 0 rfl
theorem dX9_comesTo_1 : decode cX9_comesTo 1 = .ok (.getfield 39, 3) := xdt tbX9_comesTo_0_ok 1 rfl
theorem dX9_comesTo_4 : decode cX9_comesTo 4 = .ok (.iload_n 1, 1) := xdt tbX9_comesTo_0_ok 2 rfl
theorem dX9_comesTo_5 : decode cX9_comesTo 5 = .ok (.iaload, 1) := xdt tbX9_comesTo_0_ok 3 rfl
theorem dX9_comesTo_6 : decode cX9_comesTo 6 = .ok (.iconst 3, 1) := xdt tbX9_comesTo_0_ok 4 rfl
theorem dX9_comesTo_7 : decode cX9_comesTo 7 = .ok (.if_icmp .ne 10, 3) := xdt tbX9_comesTo_0_ok 5 rfl
theorem dX9_comesTo_10 : decode cX9_comesTo 10 = .ok (.aload_n 0, 1) := xdt tbX9_comesTo_0_ok 6 rfl
theorem dX9_comesTo_11 : decode cX9_comesTo 11 = .ok (.iconst 2, 1) := xdt tbX9_comesTo_0_ok 7 rfl
theorem dX9_comesTo_12 : decode cX9_comesTo 12 = .ok (.iload_n 1, 1) := xdt tbX9_comesTo_0_ok 8 rfl
theorem dX9_comesTo_13 : decode cX9_comesTo 13 = .ok (.invokevirtual 315, 3) := xdt tbX9_comesTo_0_ok 9 rfl
theorem dX9_comesTo_16 : decode cX9_comesTo 16 = .ok (.return_, 1) := xdt tbX9_comesTo_0_ok 10 rfl
theorem dX9_comesTo_17 : decode cX9_comesTo 17 = .ok (.aload_n 0, 1) := xdt tbX9_comesTo_0_ok 11 rfl
theorem dX9_comesTo_18 : decode cX9_comesTo 18 = .ok (.getfield 39, 3) := xdt tbX9_comesTo_0_ok 12 rfl
theorem dX9_comesTo_21 : decode cX9_comesTo 21 = .ok (.iload_n 1, 1) := xdt tbX9_comesTo_0_ok 13 rfl
theorem dX9_comesTo_22 : decode cX9_comesTo 22 = .ok (.iaload, 1) := xdt tbX9_comesTo_0_ok 14 rfl
theorem dX9_comesTo_23 : decode cX9_comesTo 23 = .ok (.ifCond .ne 13, 3) := xdt tbX9_comesTo_0_ok 15 rfl
theorem dX9_comesTo_26 : decode cX9_comesTo 26 = .ok (.aload_n 0, 1) := xdt tbX9_comesTo_0_ok 16 rfl
theorem dX9_comesTo_27 : decode cX9_comesTo 27 = .ok (.iload_n 1, 1) := xdt tbX9_comesTo_0_ok 17 rfl
theorem dX9_comesTo_28 : decode cX9_comesTo 28 = .ok (.bipush 99, 2) := xdt tbX9_comesTo_0_ok 18 rfl
theorem dX9_comesTo_30 : decode cX9_comesTo 30 = .ok (.invokevirtual 319, 3) := xdt tbX9_comesTo_0_ok 19 rfl
theorem dX9_comesTo_33 : decode cX9_comesTo 33 = .ok (.ifCond .ne 4, 3) := xdt tbX9_comesTo_0_ok 20 rfl
theorem dX9_comesTo_36 : decode cX9_comesTo 36 = .ok (.return_, 1) := xdt tbX9_comesTo_0_ok 21 rfl
theorem dX9_comesTo_37 : decode cX9_comesTo 37 = .ok (.aload_n 0, 1) := xdt tbX9_comesTo_0_ok 22 rfl
theorem dX9_comesTo_38 : decode cX9_comesTo 38 = .ok (.invokevirtual 322, 3) := xdt tbX9_comesTo_0_ok 23 rfl
theorem dX9_comesTo_41 : decode cX9_comesTo 41 = .ok (.ifCond .ne 4, 3) := xdt tbX9_comesTo_0_ok 24 rfl
theorem dX9_comesTo_44 : decode cX9_comesTo 44 = .ok (.return_, 1) := xdt tbX9_comesTo_0_ok 25 rfl
theorem dX9_comesTo_45 : decode cX9_comesTo 45 = .ok (.aload_n 0, 1) := xdt tbX9_comesTo_0_ok 26 rfl
theorem dX9_comesTo_46 : decode cX9_comesTo 46 = .ok (.getfield 39, 3) := xdt tbX9_comesTo_0_ok 27 rfl
theorem dX9_comesTo_49 : decode cX9_comesTo 49 = .ok (.iload_n 1, 1) := xdt tbX9_comesTo_0_ok 28 rfl
theorem dX9_comesTo_50 : decode cX9_comesTo 50 = .ok (.iconst 1, 1) := xdt tbX9_comesTo_0_ok 29 rfl
theorem dX9_comesTo_51 : decode cX9_comesTo 51 = .ok (.iastore, 1) := xdt tbX9_comesTo_0_ok 30 rfl
theorem dX9_comesTo_52 : decode cX9_comesTo 52 = .ok (.aload_n 0, 1) := xdt tbX9_comesTo_0_ok 31 rfl
theorem dX9_comesTo_53 : decode cX9_comesTo 53 = .ok (.getfield 42, 3) := xdt tbX9_comesTo_0_ok 32 rfl
theorem dX9_comesTo_56 : decode cX9_comesTo 56 = .ok (.aload_n 0, 1) := xdt tbX9_comesTo_0_ok 33 rfl
theorem dX9_comesTo_57 : decode cX9_comesTo 57 = .ok (.getfield 325, 3) := xdt tbX9_comesTo_0_ok 34 rfl
theorem dX9_comesTo_60 : decode cX9_comesTo 60 = .ok (.iload_n 1, 1) := xdt tbX9_comesTo_0_ok 35 rfl
theorem dX9_comesTo_61 : decode cX9_comesTo 61 = .ok (.iastore, 1) := xdt tbX9_comesTo_0_ok 36 rfl
theorem dX9_comesTo_62 : decode cX9_comesTo 62 = .ok (.aload_n 0, 1) := xdt tbX9_comesTo_0_ok 37 rfl
theorem dX9_comesTo_63 : decode cX9_comesTo 63 = .ok (.dup, 1) := xdt tbX9_comesTo_0_ok 38 rfl
theorem dX9_comesTo_64 : decode cX9_comesTo 64 = .ok (.getfield 325, 3) := xdt tbX9_comesTo_0_ok 39 rfl
theorem dX9_comesTo_67 : decode cX9_comesTo 67 = .ok (.iconst 1, 1) := xdt tbX9_comesTo_0_ok 40 rfl
theorem dX9_comesTo_68 : decode cX9_comesTo 68 = .ok (.iadd, 1) := xdt tbX9_comesTo_0_ok 41 rfl
theorem dX9_comesTo_69 : decode cX9_comesTo 69 = .ok (.putfield 325, 3) := xdt tbX9_comesTo_0_ok 42 rfl
theorem dX9_comesTo_72 : decode cX9_comesTo 72 = .ok (.aload_n 0, 1) := xdt tbX9_comesTo_0_ok 43 rfl
theorem dX9_comesTo_73 : decode cX9_comesTo 73 = .ok (.getfield 20, 3) := xdt tbX9_comesTo_0_ok 44 rfl
theorem dX9_comesTo_76 : decode cX9_comesTo 76 = .ok (.iload_n 1, 1) := xdt tbX9_comesTo_0_ok 45 rfl
theorem dX9_comesTo_77 : decode cX9_comesTo 77 = .ok (.iconst 1, 1) := xdt tbX9_comesTo_0_ok 46 rfl
theorem dX9_comesTo_78 : decode cX9_comesTo 78 = .ok (.invokestatic 97, 3) := xdt tbX9_comesTo_0_ok 47 rfl
theorem dX9_comesTo_81 : decode cX9_comesTo 81 = .ok (.iconst (-1), 1) := xdt tbX9_comesTo_0_ok 48 rfl
theorem dX9_comesTo_82 : decode cX9_comesTo 82 = .ok (.if_icmp .eq 16, 3) := xdt tbX9_comesTo_0_ok 49 rfl
theorem dX9_comesTo_85 : decode cX9_comesTo 85 = .ok (.aload_n 0, 1) := xdt tbX9_comesTo_0_ok 50 rfl
theorem dX9_comesTo_86 : decode cX9_comesTo 86 = .ok (.aload_n 0, 1) := xdt tbX9_comesTo_0_ok 51 rfl
theorem dX9_comesTo_87 : decode cX9_comesTo 87 = .ok (.getfield 20, 3) := xdt tbX9_comesTo_0_ok 52 rfl
theorem dX9_comesTo_90 : decode cX9_comesTo 90 = .ok (.iload_n 1, 1) := xdt tbX9_comesTo_0_ok 53 rfl
theorem dX9_comesTo_91 : decode cX9_comesTo 91 = .ok (.iconst 1, 1) := xdt tbX9_comesTo_0_ok 54 rfl
theorem dX9_comesTo_92 : decode cX9_comesTo 92 = .ok (.invokestatic 97, 3) := xdt tbX9_comesTo_0_ok 55 rfl
theorem dX9_comesTo_95 : decode cX9_comesTo 95 = .ok (.invokevirtual 328, 3) := xdt tbX9_comesTo_0_ok 56 rfl
theorem dX9_comesTo_98 : decode cX9_comesTo 98 = .ok (.iconst 0, 1) := xdt tbX9_comesTo_0_ok 57 rfl
theorem dX9_comesTo_99 : decode cX9_comesTo 99 = .ok (.istore_n 2, 1) := xdt tbX9_comesTo_0_ok 58 rfl
theorem dX9_comesTo_100 : decode cX9_comesTo 100 = .ok (.iload_n 2, 1) := xdt tbX9_comesTo_0_ok 59 rfl
def tbX9_comesTo_60 : List (Nat × Instr × Nat) := [(101, .aload_n 0, 1), (102, .getfield 20, 3), (105, .iload_n 1, 1), (106, .iconst 2, 1), (107, .invokestatic 97, 3), (110, .if_icmp .ge 30, 3), (113, .aload_n 0, 1), (114, .getfield 300, 3), (117, .ifCond .ne 23, 3), (120, .aload_n 0, 1), (121, .iload_n 1, 1), (122, .aload_n 0, 1), (123, .getfield 20, 3), (126, .iload_n 1, 1), (127, .iload_n 2, 1), (128, .invokestatic 101, 3), (131, .invokevirtual 331, 3), (134, .iinc 2 1, 3), (137, .goto (-37), 3), (140, .aload_n 0, 1), (141, .getfield 300, 3), (144, .iconst 2, 1), (145, .if_icmp .ne 4, 3), (148, .return_, 1), (149, .aload_n 0, 1), (150, .dup, 1), (151, .getfield 303, 3), (154, .iconst 1, 1), (155, .isub, 1), (156, .putfield 303, 3), (159, .aload_n 0, 1), (160, .getfield 300, 3), (163, .ifCond .ne 11, 3), (166, .aload_n 0, 1), (167, .getfield 39, 3), (170, .iload_n 1, 1), (171, .iconst 2, 1), (172, .iastore, 1), (173, .return_, 1), (174, .aload_n 0, 1), (175, .getfield 39, 3), (178, .iload_n 1, 1), (179, .iconst 3, 1), (180, .iastore, 1), (181, .aload_n 0, 1), (182, .getfield 48, 3), (185, .iload_n 1, 1), (186, .aload_n 0, 1), (187, .getfield 306, 3), (190, .iastore, 1), (191, .aload_n 0, 1), (192, .getfield 51, 3), (195, .iload_n 1, 1), (196, .aload_n 0, 1), (197, .getfield 306, 3), (200, .iconst 2, 1), (201, .if_icmp .ne 10, 3), (204, .aload_n 0, 1), (205, .getfield 309, 3), (208, .goto 4, 3)]
theorem tbX9_comesTo_60_ok : tbX9_comesTo_60.all (fun q => decide (decode cX9_comesTo q.1 = .ok q.2)) = true := by decide +kernel
theorem dX9_comesTo_101 : decode cX9_comesTo 101 = .ok (.aload_n 0, 1) := xdt tbX9_comesTo_60_ok 0 rfl
theorem dX9_comesTo_102 : decode cX9_comesTo 102 = .ok (.getfield 20, 3) := xdt tbX9_comesTo_60_ok 1 rfl
theorem dX9_comesTo_105 : decode cX9_comesTo 105 = .ok (.iload_n 1, 1) := xdt tbX9_comesTo_60_ok 2 rfl
theorem dX9_comesTo_106 : decode cX9_comesTo 106 = .ok (.iconst 2, 1) := xdt tbX9_comesTo_60_ok 3 rfl
theorem dX9_comesTo_107 : decode cX9_comesTo 107 = .ok (.invokestatic 97, 3) := xdt tbX9_comesTo_60_ok 4 rfl
theorem dX9_comesTo_110 : decode cX9_comesTo 110 = .ok (.if_icmp .ge 30, 3) := xdt tbX9_comesTo_60_ok 5 rfl
theorem dX9_comesTo_113 : decode cX9_comesTo 113 = .ok (.aload_n 0, 1) := xdt tbX9_comesTo_60_ok 6 rfl
theorem dX9_comesTo_114 : decode cX9_comesTo 114 = .ok (.getfield 300, 3) := xdt tbX9_comesTo_60_ok 7 rfl
theorem dX9_comesTo_117 : decode cX9_comesTo 117 = .ok (.ifCond .ne 23, 3) := xdt tbX9_comesTo_60_ok 8 rfl
theorem dX9_comesTo_120 : decode cX9_comesTo 120 = .ok (.aload_n 0, 1) := xdt tbX9_comesTo_60_ok 9 rfl
theorem dX9_comesTo_121 : decode cX9_comesTo 121 = .ok (.iload_n 1, 1) := xdt tbX9_comesTo_60_ok 10 rfl
theorem dX9_comesTo_122 : decode cX9_comesTo 122 = .ok (.aload_n 0, 1) := xdt tbX9_comesTo_60_ok 11 rfl
theorem dX9_comesTo_123 : decode cX9_comesTo 123 = .ok (.getfield 20, 3) := xdt tbX9_comesTo_60_ok 12 rfl
theorem dX9_comesTo_126 : decode cX9_comesTo 126 = .ok (.iload_n 1, 1) := xdt tbX9_comesTo_60_ok 13 rfl
theorem dX9_comesTo_127 : decode cX9_comesTo 127 = .ok (.iload_n 2, 1) := xdt tbX9_comesTo_60_ok 14 rfl
theorem dX9_comesTo_128 : decode cX9_comesTo 128 = .ok (.invokestatic 101, 3) := xdt tbX9_comesTo_60_ok 15 rfl
theorem dX9_comesTo_131 : decode cX9_comesTo 131 = .ok (.invokevirtual 331, 3) := xdt tbX9_comesTo_60_ok 16 rfl
theorem dX9_comesTo_134 : decode cX9_comesTo 134 = .ok (.iinc 2 1, 3) := xdt tbX9_comesTo_60_ok 17 rfl
theorem dX9_comesTo_137 : decode cX9_comesTo 137 = .ok (.goto (-37), 3) := xdt tbX9_comesTo_60_ok 18 rfl
theorem dX9_comesTo_140 : decode cX9_comesTo 140 = .ok (.aload_n 0, 1) := xdt tbX9_comesTo_60_ok 19 rfl
theorem dX9_comesTo_141 : decode cX9_comesTo 141 = .ok (.getfield 300, 3) := xdt tbX9_comesTo_60_ok 20 rfl
theorem dX9_comesTo_144 : decode cX9_comesTo 144 = .ok (.iconst 2, 1) := xdt tbX9_comesTo_60_ok 21 rfl
theorem dX9_comesTo_145 : decode cX9_comesTo 145 = .ok (.if_icmp .ne 4, 3) := xdt tbX9_comesTo_60_ok 22 rfl
theorem dX9_comesTo_148 : decode cX9_comesTo 148 = .ok (.return_, 1) := xdt tbX9_comesTo_60_ok 23 rfl
theorem dX9_comesTo_149 : decode cX9_comesTo 149 = .ok (.aload_n 0, 1) := xdt tbX9_comesTo_60_ok 24 rfl
theorem dX9_comesTo_150 : decode cX9_comesTo 150 = .ok (.dup, 1) := xdt tbX9_comesTo_60_ok 25 rfl
theorem dX9_comesTo_151 : decode cX9_comesTo 151 = .ok (.getfield 303, 3) := xdt tbX9_comesTo_60_ok 26 rfl
theorem dX9_comesTo_154 : decode cX9_comesTo 154 = .ok (.iconst 1, 1) := xdt tbX9_comesTo_60_ok 27 rfl
theorem dX9_comesTo_155 : decode cX9_comesTo 155 = .ok (.isub, 1) := xdt tbX9_comesTo_60_ok 28 rfl
theorem dX9_comesTo_156 : decode cX9_comesTo 156 = .ok (.putfield 303, 3) := xdt tbX9_comesTo_60_ok 29 rfl
theorem dX9_comesTo_159 : decode cX9_comesTo 159 = .ok (.aload_n 0, 1) := xdt tbX9_comesTo_60_ok 30 rfl
theorem dX9_comesTo_160 : decode cX9_comesTo 160 = .ok (.getfield 300, 3) := xdt tbX9_comesTo_60_ok 31 rfl
theorem dX9_comesTo_163 : decode cX9_comesTo 163 = .ok (.ifCond .ne 11, 3) := xdt tbX9_comesTo_60_ok 32 rfl
theorem dX9_comesTo_166 : decode cX9_comesTo 166 = .ok (.aload_n 0, 1) := xdt tbX9_comesTo_60_ok 33 rfl
theorem dX9_comesTo_167 : decode cX9_comesTo 167 = .ok (.getfield 39, 3) := xdt tbX9_comesTo_60_ok 34 rfl
theorem dX9_comesTo_170 : decode cX9_comesTo 170 = .ok (.iload_n 1, 1) := xdt tbX9_comesTo_60_ok 35 rfl
theorem dX9_comesTo_171 : decode cX9_comesTo 171 = .ok (.iconst 2, 1) := xdt tbX9_comesTo_60_ok 36 rfl
theorem dX9_comesTo_172 : decode cX9_comesTo 172 = .ok (.iastore, 1) := xdt tbX9_comesTo_60_ok 37 rfl
theorem dX9_comesTo_173 : decode cX9_comesTo 173 = .ok (.return_, 1) := xdt tbX9_comesTo_60_ok 38 rfl
theorem dX9_comesTo_174 : decode cX9_comesTo 174 = .ok (.aload_n 0, 1) := xdt tbX9_comesTo_60_ok 39 rfl
theorem dX9_comesTo_175 : decode cX9_comesTo 175 = .ok (.getfield 39, 3) := xdt tbX9_comesTo_60_ok 40 rfl
theorem dX9_comesTo_178 : decode cX9_comesTo 178 = .ok (.iload_n 1, 1) := xdt tbX9_comesTo_60_ok 41 rfl
theorem dX9_comesTo_179 : decode cX9_comesTo 179 = .ok (.iconst 3, 1) := xdt tbX9_comesTo_60_ok 42 rfl
theorem dX9_comesTo_180 : decode cX9_comesTo 180 = .ok (.iastore, 1) := xdt tbX9_comesTo_60_ok 43 rfl
theorem dX9_comesTo_181 : decode cX9_comesTo 181 = .ok (.aload_n 0, 1) := xdt tbX9_comesTo_60_ok 44 rfl
theorem dX9_comesTo_182 : decode cX9_comesTo 182 = .ok (.getfield 48, 3) := xdt tbX9_comesTo_60_ok 45 rfl
theorem dX9_comesTo_185 : decode cX9_comesTo 185 = .ok (.iload_n 1, 1) := xdt tbX9_comesTo_60_ok 46 rfl
theorem dX9_comesTo_186 : decode cX9_comesTo 186 = .ok (.aload_n 0, 1) := xdt tbX9_comesTo_60_ok 47 rfl
theorem dX9_comesTo_187 : decode cX9_comesTo 187 = .ok (.getfield 306, 3) := xdt tbX9_comesTo_60_ok 48 rfl
theorem dX9_comesTo_190 : decode cX9_comesTo 190 = .ok (.iastore, 1) := xdt tbX9_comesTo_60_ok 49 rfl
theorem dX9_comesTo_191 : decode cX9_comesTo 191 = .ok (.aload_n 0, 1) := xdt tbX9_comesTo_60_ok 50 rfl
theorem dX9_comesTo_192 : decode cX9_comesTo 192 = .ok (.getfield 51, 3) := xdt tbX9_comesTo_60_ok 51 rfl
theorem dX9_comesTo_195 : decode cX9_comesTo 195 = .ok (.iload_n 1, 1) := xdt tbX9_comesTo_60_ok 52 rfl
theorem dX9_comesTo_196 : decode cX9_comesTo 196 = .ok (.aload_n 0, 1) := xdt tbX9_comesTo_60_ok 53 rfl
theorem dX9_comesTo_197 : decode cX9_comesTo 197 = .ok (.getfield 306, 3) := xdt tbX9_comesTo_60_ok 54 rfl
theorem dX9_comesTo_200 : decode cX9_comesTo 200 = .ok (.iconst 2, 1) := xdt tbX9_comesTo_60_ok 55 rfl
theorem dX9_comesTo_201 : decode cX9_comesTo 201 = .ok (.if_icmp .ne 10, 3) := xdt tbX9_comesTo_60_ok 56 rfl
theorem dX9_comesTo_204 : decode cX9_comesTo 204 = .ok (.aload_n 0, 1) := xdt tbX9_comesTo_60_ok 57 rfl
theorem dX9_comesTo_205 : decode cX9_comesTo 205 = .ok (.getfield 309, 3) := xdt tbX9_comesTo_60_ok 58 rfl
theorem dX9_comesTo_208 : decode cX9_comesTo 208 = .ok (.goto 4, 3) := xdt tbX9_comesTo_60_ok 59 rfl
def tbX9_comesTo_120 : List (Nat × Instr × Nat) := [(211, .iconst (-1), 1), (212, .iastore, 1), (213, .aload_n 0, 1), (214, .getfield 54, 3), (217, .iload_n 1, 1), (218, .aload_n 0, 1), (219, .getfield 312, 3), (222, .iastore, 1), (223, .aload_n 0, 1), (224, .dup, 1), (225, .getfield 312, 3), (228, .iconst 1, 1), (229, .iadd, 1), (230, .putfield 312, 3), (233, .return_, 1)]
theorem tbX9_comesTo_120_ok : tbX9_comesTo_120.all (fun q => decide (decode cX9_comesTo q.1 = .ok q.2)) = true := by decide +kernel
theorem dX9_comesTo_211 : decode cX9_comesTo 211 = .ok (.iconst (-1), 1) := xdt tbX9_comesTo_120_ok 0 rfl
theorem dX9_comesTo_212 : decode cX9_comesTo 212 = .ok (.iastore, 1) := xdt tbX9_comesTo_120_ok 1 rfl
theorem dX9_comesTo_213 : decode cX9_comesTo 213 = .ok (.aload_n 0, 1) := xdt tbX9_comesTo_120_ok 2 rfl
theorem dX9_comesTo_214 : decode cX9_comesTo 214 = .ok (.getfield 54, 3) := xdt tbX9_comesTo_120_ok 3 rfl
theorem dX9_comesTo_217 : decode cX9_comesTo 217 = .ok (.iload_n 1, 1) := xdt tbX9_comesTo_120_ok 4 rfl
theorem dX9_comesTo_218 : decode cX9_comesTo 218 = .ok (.aload_n 0, 1) := xdt tbX9_comesTo_120_ok 5 rfl
theorem dX9_comesTo_219 : decode cX9_comesTo 219 = .ok (.getfield 312, 3) := xdt tbX9_comesTo_120_ok 6 rfl
theorem dX9_comesTo_222 : decode cX9_comesTo 222 = .ok (.iastore, 1) := xdt tbX9_comesTo_120_ok 7 rfl
theorem dX9_comesTo_223 : decode cX9_comesTo 223 = .ok (.aload_n 0, 1) := xdt tbX9_comesTo_120_ok 8 rfl
theorem dX9_comesTo_224 : decode cX9_comesTo 224 = .ok (.dup, 1) := xdt tbX9_comesTo_120_ok 9 rfl
theorem dX9_comesTo_225 : decode cX9_comesTo 225 = .ok (.getfield 312, 3) := xdt tbX9_comesTo_120_ok 10 rfl
theorem dX9_comesTo_228 : decode cX9_comesTo 228 = .ok (.iconst 1, 1) := xdt tbX9_comesTo_120_ok 11 rfl
theorem dX9_comesTo_229 : decode cX9_comesTo 229 = .ok (.iadd, 1) := xdt tbX9_comesTo_120_ok 12 rfl
theorem dX9_comesTo_230 : decode cX9_comesTo 230 = .ok (.putfield 312, 3) := xdt tbX9_comesTo_120_ok 13 rfl
theorem dX9_comesTo_233 : decode cX9_comesTo 233 = .ok (.return_, 1) := xdt tbX9_comesTo_120_ok 14 rfl
def tbX9_does_0 : List (Nat × Instr × Nat) := [(0, .aload_n 0, 1), (1, .getfield 26, 3), (4, .iload_n 2, 1), (5, .baload, 1), (6, .ifCond .eq 4, 3), (9, .return_, 1), (10, .aload_n 0, 1), (11, .getfield 20, 3), (14, .iload_n 2, 1), (15, .iconst 0, 1), (16, .invokestatic 104, 3), (19, .istore_n 3, 1), (20, .iload_n 3, 1), (21, .iconst 1, 1), (22, .if_icmp .ne 57, 3), (25, .aload_n 0, 1), (26, .getfield 20, 3), (29, .iload_n 2, 1), (30, .iconst 2, 1), (31, .invokestatic 104, 3), (34, .iconst (-1), 1), (35, .if_icmp .eq 44, 3), (38, .aload_n 0, 1), (39, .aload_n 0, 1), (40, .getfield 20, 3), (43, .iload_n 2, 1), (44, .iconst 2, 1), (45, .invokestatic 104, 3), (48, .invokevirtual 334, 3), (51, .istore 4, 2), (53, .aload_n 0, 1), (54, .getfield 300, 3), (57, .ifCond .eq 4, 3), (60, .return_, 1), (61, .aload_n 0, 1), (62, .getfield 45, 3), (65, .iload_n 2, 1), (66, .iload 4, 2), (68, .iastore, 1), (69, .aload_n 0, 1), (70, .getfield 63, 3), (73, .iload_n 2, 1), (74, .iconst 1, 1), (75, .bastore, 1), (76, .goto 26, 3), (79, .iload_n 3, 1), (80, .iconst 2, 1), (81, .if_icmp .eq 8, 3), (84, .iload_n 3, 1), (85, .iconst 3, 1), (86, .if_icmp .ne 16, 3), (89, .aload_n 0, 1), (90, .aload_n 0, 1), (91, .getfield 20, 3), (94, .iload_n 2, 1), (95, .iconst 2, 1), (96, .invokestatic 104, 3), (99, .invokevirtual 337, 3), (102, .return_, 1)]
theorem tbX9_does_0_ok : tbX9_does_0.all (fun q => decide (decode cX9_does q.1 = .ok q.2)) = true := by decide +kernel
theorem dX9_does_0 : decode cX9_does 0 = .ok (.aload_n 0, 1) := xdt tbX9_does_0_ok 0 rfl
theorem dX9_does_1 : decode cX9_does 1 = .ok (.getfield 26, 3) := xdt tbX9_does_0_ok 1 rfl
theorem dX9_does_4 : decode cX9_does 4 = .ok (.iload_n 2, 1) := xdt tbX9_does_0_ok 2 rfl
theorem dX9_does_5 : decode cX9_does 5 = .ok (.baload, 1) := xdt tbX9_does_0_ok 3 rfl
theorem dX9_does_6 : decode cX9_does 6 = .ok (.ifCond .eq 4, 3) := xdt tbX9_does_0_ok 4 rfl
theorem dX9_does_9 : decode cX9_does 9 = .ok (.return_, 1) := xdt tbX9_does_0_ok 5 rfl
theorem dX9_does_10 : decode cX9_does 10 = .ok (.aload_n 0, 1) := xdt tbX9_does_0_ok 6 rfl
theorem dX9_does_11 : decode cX9_does 11 = .ok (.getfield 20, 3) := xdt tbX9_does_0_ok 7 rfl
theorem dX9_does_14 : decode cX9_does 14 = .ok (.iload_n 2, 1) := xdt tbX9_does_0_ok 8 rfl
theorem dX9_does_15 : decode cX9_does 15 = .ok (.iconst 0, 1) := xdt tbX9_does_0_ok 9 rfl
theorem dX9_does_16 : decode cX9_does 16 = .ok (.invokestatic 104, 3) := xdt tbX9_does_0_ok 10 rfl
theorem dX9_does_19 : decode cX9_does 19 = .ok (.istore_n 3, 1) := xdt tbX9_does_0_ok 11 rfl
theorem dX9_does_20 : decode cX9_does 20 = .ok (.iload_n 3, 1) := xdt tbX9_does_0_ok 12 rfl
theorem dX9_does_21 : decode cX9_does 21 = .ok (.iconst 1, 1) := xdt tbX9_does_0_ok 13 rfl
theorem dX9_does_22 : decode cX9_does 22 = .ok (.if_icmp .ne 57, 3) := xdt tbX9_does_0_ok 14 rfl
theorem dX9_does_25 : decode cX9_does 25 = .ok (.aload_n 0, 1) := xdt tbX9_does_0_ok 15 rfl
theorem dX9_does_26 : decode cX9_does 26 = .ok (.getfield 20, 3) := xdt tbX9_does_0_ok 16 rfl
theorem dX9_does_29 : decode cX9_does 29 = .ok (.iload_n 2, 1) := xdt tbX9_does_0_ok 17 rfl
theorem dX9_does_30 : decode cX9_does 30 = .ok (.iconst 2, 1) := xdt tbX9_does_0_ok 18 rfl
theorem dX9_does_31 : decode cX9_does 31 = .ok (.invokestatic 104, 3) := xdt tbX9_does_0_ok 19 rfl
theorem dX9_does_34 : decode cX9_does 34 = .ok (.iconst (-1), 1) := xdt tbX9_does_0_ok 20 rfl
theorem dX9_does_35 : decode cX9_does 35 = .ok (.if_icmp .eq 44, 3) := xdt tbX9_does_0_ok 21 rfl
theorem dX9_does_38 : decode cX9_does 38 = .ok (.aload_n 0, 1) := xdt tbX9_does_0_ok 22 rfl
theorem dX9_does_39 : decode cX9_does 39 = .ok (.aload_n 0, 1) := xdt tbX9_does_0_ok 23 rfl
theorem dX9_does_40 : decode cX9_does 40 = .ok (.getfield 20, 3) := xdt tbX9_does_0_ok 24 rfl
theorem dX9_does_43 : decode cX9_does 43 = .ok (.iload_n 2, 1) := xdt tbX9_does_0_ok 25 rfl
theorem dX9_does_44 : decode cX9_does 44 = .ok (.iconst 2, 1) := xdt tbX9_does_0_ok 26 rfl
theorem dX9_does_45 : decode cX9_does 45 = .ok (.invokestatic 104, 3) := xdt tbX9_does_0_ok 27 rfl
theorem dX9_does_48 : decode cX9_does 48 = .ok (.invokevirtual 334, 3) := xdt tbX9_does_0_ok 28 rfl
theorem dX9_does_51 : decode cX9_does 51 = .ok (.istore 4, 2) := xdt tbX9_does_0_ok 29 rfl
theorem dX9_does_53 : decode cX9_does 53 = .ok (.aload_n 0, 1) := xdt tbX9_does_0_ok 30 rfl
theorem dX9_does_54 : decode cX9_does 54 = .ok (.getfield 300, 3) := xdt tbX9_does_0_ok 31 rfl
theorem dX9_does_57 : decode cX9_does 57 = .ok (.ifCond .eq 4, 3) := xdt tbX9_does_0_ok 32 rfl
theorem dX9_does_60 : decode cX9_does 60 = .ok (.return_, 1) := xdt tbX9_does_0_ok 33 rfl
theorem dX9_does_61 : decode cX9_does 61 = .ok (.aload_n 0, 1) := xdt tbX9_does_0_ok 34 rfl
theorem dX9_does_62 : decode cX9_does 62 = .ok (.getfield 45, 3) := xdt tbX9_does_0_ok 35 rfl
theorem dX9_does_65 : decode cX9_does 65 = .ok (.iload_n 2, 1) := xdt tbX9_does_0_ok 36 rfl
theorem dX9_does_66 : decode cX9_does 66 = .ok (.iload 4, 2) := xdt tbX9_does_0_ok 37 rfl
theorem dX9_does_68 : decode cX9_does 68 = .ok (.iastore, 1) := xdt tbX9_does_0_ok 38 rfl
theorem dX9_does_69 : decode cX9_does 69 = .ok (.aload_n 0, 1) := xdt tbX9_does_0_ok 39 rfl
theorem dX9_does_70 : decode cX9_does 70 = .ok (.getfield 63, 3) := xdt tbX9_does_0_ok 40 rfl
theorem dX9_does_73 : decode cX9_does 73 = .ok (.iload_n 2, 1) := xdt tbX9_does_0_ok 41 rfl
theorem dX9_does_74 : decode cX9_does 74 = .ok (.iconst 1, 1) := xdt tbX9_does_0_ok 42 rfl
theorem dX9_does_75 : decode cX9_does 75 = .ok (.bastore, 1) := xdt tbX9_does_0_ok 43 rfl
theorem dX9_does_76 : decode cX9_does 76 = .ok (.goto 26, 3) := xdt tbX9_does_0_ok 44 rfl
theorem dX9_does_79 : decode cX9_does 79 = .ok (.iload_n 3, 1) := xdt tbX9_does_0_ok 45 rfl
theorem dX9_does_80 : decode cX9_does 80 = .ok (.iconst 2, 1) := xdt tbX9_does_0_ok 46 rfl
theorem dX9_does_81 : decode cX9_does 81 = .ok (.if_icmp .eq 8, 3) := xdt tbX9_does_0_ok 47 rfl
theorem dX9_does_84 : decode cX9_does 84 = .ok (.iload_n 3, 1) := xdt tbX9_does_0_ok 48 rfl
theorem dX9_does_85 : decode cX9_does 85 = .ok (.iconst 3, 1) := xdt tbX9_does_0_ok 49 rfl
theorem dX9_does_86 : decode cX9_does 86 = .ok (.if_icmp .ne 16, 3) := xdt tbX9_does_0_ok 50 rfl
theorem dX9_does_89 : decode cX9_does 89 = .ok (.aload_n 0, 1) := xdt tbX9_does_0_ok 51 rfl
theorem dX9_does_90 : decode cX9_does 90 = .ok (.aload_n 0, 1) := xdt tbX9_does_0_ok 52 rfl
theorem dX9_does_91 : decode cX9_does 91 = .ok (.getfield 20, 3) := xdt tbX9_does_0_ok 53 rfl
theorem dX9_does_94 : decode cX9_does 94 = .ok (.iload_n 2, 1) := xdt tbX9_does_0_ok 54 rfl
theorem dX9_does_95 : decode cX9_does 95 = .ok (.iconst 2, 1) := xdt tbX9_does_0_ok 55 rfl
theorem dX9_does_96 : decode cX9_does 96 = .ok (.invokestatic 104, 3) := xdt tbX9_does_0_ok 56 rfl
theorem dX9_does_99 : decode cX9_does 99 = .ok (.invokevirtual 337, 3) := xdt tbX9_does_0_ok 57 rfl
theorem dX9_does_102 : decode cX9_does 102 = .ok (.return_, 1) := xdt tbX9_does_0_ok 58 rfl
def tbX9_acts_0 : List (Nat × Instr × Nat) := [(0, .aload_n 0, 1), (1, .aload_n 0, 1), (2, .getfield 20, 3), (5, .iload_n 1, 1), (6, .iconst 2, 1), (7, .invokestatic 244, 3), (10, .invokevirtual 334, 3), (13, .istore_n 2, 1), (14, .aload_n 0, 1), (15, .getfield 20, 3), (18, .iload_n 1, 1), (19, .iconst 0, 1), (20, .invokestatic 244, 3), (23, .istore_n 3, 1), (24, .aload_n 0, 1), (25, .getfield 20, 3), (28, .iload_n 1, 1), (29, .iconst 1, 1), (30, .invokestatic 244, 3), (33, .istore 4, 2), (35, .aload_n 0, 1), (36, .getfield 300, 3), (39, .ifCond .ne 8, 3), (42, .iload_n 3, 1), (43, .iconst (-1), 1), (44, .if_icmp .ne 4, 3), (47, .return_, 1), (48, .aload_n 0, 1), (49, .iload_n 3, 1), (50, .invokevirtual 328, 3), (53, .aload_n 0, 1), (54, .getfield 300, 3), (57, .ifCond .ne 10, 3), (60, .aload_n 0, 1), (61, .invokevirtual 322, 3), (64, .ifCond .ne 4, 3), (67, .return_, 1), (68, .aload_n 0, 1), (69, .iload_n 3, 1), (70, .iload 4, 2), (72, .invokevirtual 340, 3), (75, .ifCond .eq 13, 3), (78, .aload_n 0, 1), (79, .dup, 1), (80, .getfield 343, 3), (83, .iconst 1, 1), (84, .iadd, 1), (85, .putfield 343, 3), (88, .aload_n 0, 1), (89, .getfield 45, 3), (92, .iload 4, 2), (94, .iload_n 2, 1), (95, .iastore, 1), (96, .return_, 1)]
theorem tbX9_acts_0_ok : tbX9_acts_0.all (fun q => decide (decode cX9_acts q.1 = .ok q.2)) = true := by decide +kernel
theorem dX9_acts_0 : decode cX9_acts 0 = .ok (.aload_n 0, 1) := xdt tbX9_acts_0_ok 0 rfl
theorem dX9_acts_1 : decode cX9_acts 1 = .ok (.aload_n 0, 1) := xdt tbX9_acts_0_ok 1 rfl
theorem dX9_acts_2 : decode cX9_acts 2 = .ok (.getfield 20, 3) := xdt tbX9_acts_0_ok 2 rfl
theorem dX9_acts_5 : decode cX9_acts 5 = .ok (.iload_n 1, 1) := xdt tbX9_acts_0_ok 3 rfl
theorem dX9_acts_6 : decode cX9_acts 6 = .ok (.iconst 2, 1) := xdt tbX9_acts_0_ok 4 rfl
theorem dX9_acts_7 : decode cX9_acts 7 = .ok (.invokestatic 244, 3) := xdt tbX9_acts_0_ok 5 rfl
theorem dX9_acts_10 : decode cX9_acts 10 = .ok (.invokevirtual 334, 3) := xdt tbX9_acts_0_ok 6 rfl
theorem dX9_acts_13 : decode cX9_acts 13 = .ok (.istore_n 2, 1) := xdt tbX9_acts_0_ok 7 rfl
theorem dX9_acts_14 : decode cX9_acts 14 = .ok (.aload_n 0, 1) := xdt tbX9_acts_0_ok 8 rfl
theorem dX9_acts_15 : decode cX9_acts 15 = .ok (.getfield 20, 3) := xdt tbX9_acts_0_ok 9 rfl
theorem dX9_acts_18 : decode cX9_acts 18 = .ok (.iload_n 1, 1) := xdt tbX9_acts_0_ok 10 rfl
theorem dX9_acts_19 : decode cX9_acts 19 = .ok (.iconst 0, 1) := xdt tbX9_acts_0_ok 11 rfl
theorem dX9_acts_20 : decode cX9_acts 20 = .ok (.invokestatic 244, 3) := xdt tbX9_acts_0_ok 12 rfl
theorem dX9_acts_23 : decode cX9_acts 23 = .ok (.istore_n 3, 1) := xdt tbX9_acts_0_ok 13 rfl
theorem dX9_acts_24 : decode cX9_acts 24 = .ok (.aload_n 0, 1) := xdt tbX9_acts_0_ok 14 rfl
theorem dX9_acts_25 : decode cX9_acts 25 = .ok (.getfield 20, 3) := xdt tbX9_acts_0_ok 15 rfl
theorem dX9_acts_28 : decode cX9_acts 28 = .ok (.iload_n 1, 1) := xdt tbX9_acts_0_ok 16 rfl
theorem dX9_acts_29 : decode cX9_acts 29 = .ok (.iconst 1, 1) := xdt tbX9_acts_0_ok 17 rfl
theorem dX9_acts_30 : decode cX9_acts 30 = .ok (.invokestatic 244, 3) := xdt tbX9_acts_0_ok 18 rfl
theorem dX9_acts_33 : decode cX9_acts 33 = .ok (.istore 4, 2) := xdt tbX9_acts_0_ok 19 rfl
theorem dX9_acts_35 : decode cX9_acts 35 = .ok (.aload_n 0, 1) := xdt tbX9_acts_0_ok 20 rfl
theorem dX9_acts_36 : decode cX9_acts 36 = .ok (.getfield 300, 3) := xdt tbX9_acts_0_ok 21 rfl
theorem dX9_acts_39 : decode cX9_acts 39 = .ok (.ifCond .ne 8, 3) := xdt tbX9_acts_0_ok 22 rfl
theorem dX9_acts_42 : decode cX9_acts 42 = .ok (.iload_n 3, 1) := xdt tbX9_acts_0_ok 23 rfl
theorem dX9_acts_43 : decode cX9_acts 43 = .ok (.iconst (-1), 1) := xdt tbX9_acts_0_ok 24 rfl
theorem dX9_acts_44 : decode cX9_acts 44 = .ok (.if_icmp .ne 4, 3) := xdt tbX9_acts_0_ok 25 rfl
theorem dX9_acts_47 : decode cX9_acts 47 = .ok (.return_, 1) := xdt tbX9_acts_0_ok 26 rfl
theorem dX9_acts_48 : decode cX9_acts 48 = .ok (.aload_n 0, 1) := xdt tbX9_acts_0_ok 27 rfl
theorem dX9_acts_49 : decode cX9_acts 49 = .ok (.iload_n 3, 1) := xdt tbX9_acts_0_ok 28 rfl
theorem dX9_acts_50 : decode cX9_acts 50 = .ok (.invokevirtual 328, 3) := xdt tbX9_acts_0_ok 29 rfl
theorem dX9_acts_53 : decode cX9_acts 53 = .ok (.aload_n 0, 1) := xdt tbX9_acts_0_ok 30 rfl
theorem dX9_acts_54 : decode cX9_acts 54 = .ok (.getfield 300, 3) := xdt tbX9_acts_0_ok 31 rfl
theorem dX9_acts_57 : decode cX9_acts 57 = .ok (.ifCond .ne 10, 3) := xdt tbX9_acts_0_ok 32 rfl
theorem dX9_acts_60 : decode cX9_acts 60 = .ok (.aload_n 0, 1) := xdt tbX9_acts_0_ok 33 rfl
theorem dX9_acts_61 : decode cX9_acts 61 = .ok (.invokevirtual 322, 3) := xdt tbX9_acts_0_ok 34 rfl
theorem dX9_acts_64 : decode cX9_acts 64 = .ok (.ifCond .ne 4, 3) := xdt tbX9_acts_0_ok 35 rfl
theorem dX9_acts_67 : decode cX9_acts 67 = .ok (.return_, 1) := xdt tbX9_acts_0_ok 36 rfl
theorem dX9_acts_68 : decode cX9_acts 68 = .ok (.aload_n 0, 1) := xdt tbX9_acts_0_ok 37 rfl
theorem dX9_acts_69 : decode cX9_acts 69 = .ok (.iload_n 3, 1) := xdt tbX9_acts_0_ok 38 rfl
theorem dX9_acts_70 : decode cX9_acts 70 = .ok (.iload 4, 2) := xdt tbX9_acts_0_ok 39 rfl
theorem dX9_acts_72 : decode cX9_acts 72 = .ok (.invokevirtual 340, 3) := xdt tbX9_acts_0_ok 40 rfl
theorem dX9_acts_75 : decode cX9_acts 75 = .ok (.ifCond .eq 13, 3) := xdt tbX9_acts_0_ok 41 rfl
theorem dX9_acts_78 : decode cX9_acts 78 = .ok (.aload_n 0, 1) := xdt tbX9_acts_0_ok 42 rfl
theorem dX9_acts_79 : decode cX9_acts 79 = .ok (.dup, 1) := xdt tbX9_acts_0_ok 43 rfl
theorem dX9_acts_80 : decode cX9_acts 80 = .ok (.getfield 343, 3) := xdt tbX9_acts_0_ok 44 rfl
theorem dX9_acts_83 : decode cX9_acts 83 = .ok (.iconst 1, 1) := xdt tbX9_acts_0_ok 45 rfl
theorem dX9_acts_84 : decode cX9_acts 84 = .ok (.iadd, 1) := xdt tbX9_acts_0_ok 46 rfl
theorem dX9_acts_85 : decode cX9_acts 85 = .ok (.putfield 343, 3) := xdt tbX9_acts_0_ok 47 rfl
theorem dX9_acts_88 : decode cX9_acts 88 = .ok (.aload_n 0, 1) := xdt tbX9_acts_0_ok 48 rfl
theorem dX9_acts_89 : decode cX9_acts 89 = .ok (.getfield 45, 3) := xdt tbX9_acts_0_ok 49 rfl
theorem dX9_acts_92 : decode cX9_acts 92 = .ok (.iload 4, 2) := xdt tbX9_acts_0_ok 50 rfl
theorem dX9_acts_94 : decode cX9_acts 94 = .ok (.iload_n 2, 1) := xdt tbX9_acts_0_ok 51 rfl
theorem dX9_acts_95 : decode cX9_acts 95 = .ok (.iastore, 1) := xdt tbX9_acts_0_ok 52 rfl
theorem dX9_acts_96 : decode cX9_acts 96 = .ok (.return_, 1) := xdt tbX9_acts_0_ok 53 rfl
def tbX9_sumOf_0 : List (Nat × Instr × Nat) := [(0, .iconst 0, 1), (1, .istore_n 2, 1), (2, .iload_n 1, 1), (3, .istore_n 3, 1), (4, .iload_n 3, 1), (5, .iconst (-1), 1), (6, .if_icmp .eq 84, 3), (9, .aload_n 0, 1), (10, .getfield 300, 3), (13, .ifCond .ne 77, 3), (16, .aload_n 0, 1), (17, .getfield 20, 3), (20, .iload_n 3, 1), (21, .iconst 0, 1), (22, .invokestatic 254, 3), (25, .istore 4, 2), (27, .aload_n 0, 1), (28, .iload_n 3, 1), (29, .invokevirtual 346, 3), (32, .istore 5, 2), (34, .iload_n 3, 1), (35, .iload_n 1, 1), (36, .if_icmp .ne 8, 3), (39, .iload 5, 2), (41, .goto 35, 3), (44, .iload 4, 2), (46, .bipush 43, 2), (48, .if_icmp .ne 10, 3), (51, .iload_n 2, 1), (52, .iload 5, 2), (54, .iadd, 1), (55, .goto 21, 3), (58, .iload 4, 2), (60, .bipush 45, 2), (62, .if_icmp .ne 10, 3), (65, .iload_n 2, 1), (66, .iload 5, 2), (68, .isub, 1), (69, .goto 7, 3), (72, .iload_n 2, 1), (73, .iload 5, 2), (75, .imul, 1), (76, .istore_n 2, 1), (77, .aload_n 0, 1), (78, .getfield 20, 3), (81, .iload_n 3, 1), (82, .iconst 4, 1), (83, .invokestatic 254, 3), (86, .istore_n 3, 1), (87, .goto (-83), 3), (90, .iload_n 2, 1), (91, .ireturn, 1)]
theorem tbX9_sumOf_0_ok : tbX9_sumOf_0.all (fun q => decide (decode cX9_sumOf q.1 = .ok q.2)) = true := by decide +kernel
theorem dX9_sumOf_0 : decode cX9_sumOf 0 = .ok (.iconst 0, 1) := xdt tbX9_sumOf_0_ok 0 rfl
theorem dX9_sumOf_1 : decode cX9_sumOf 1 = .ok (.istore_n 2, 1) := xdt tbX9_sumOf_0_ok 1 rfl
theorem dX9_sumOf_2 : decode cX9_sumOf 2 = .ok (.iload_n 1, 1) := xdt tbX9_sumOf_0_ok 2 rfl
theorem dX9_sumOf_3 : decode cX9_sumOf 3 = .ok (.istore_n 3, 1) := xdt tbX9_sumOf_0_ok 3 rfl
theorem dX9_sumOf_4 : decode cX9_sumOf 4 = .ok (.iload_n 3, 1) := xdt tbX9_sumOf_0_ok 4 rfl
theorem dX9_sumOf_5 : decode cX9_sumOf 5 = .ok (.iconst (-1), 1) := xdt tbX9_sumOf_0_ok 5 rfl
theorem dX9_sumOf_6 : decode cX9_sumOf 6 = .ok (.if_icmp .eq 84, 3) := xdt tbX9_sumOf_0_ok 6 rfl
theorem dX9_sumOf_9 : decode cX9_sumOf 9 = .ok (.aload_n 0, 1) := xdt tbX9_sumOf_0_ok 7 rfl
theorem dX9_sumOf_10 : decode cX9_sumOf 10 = .ok (.getfield 300, 3) := xdt tbX9_sumOf_0_ok 8 rfl
theorem dX9_sumOf_13 : decode cX9_sumOf 13 = .ok (.ifCond .ne 77, 3) := xdt tbX9_sumOf_0_ok 9 rfl
theorem dX9_sumOf_16 : decode cX9_sumOf 16 = .ok (.aload_n 0, 1) := xdt tbX9_sumOf_0_ok 10 rfl
theorem dX9_sumOf_17 : decode cX9_sumOf 17 = .ok (.getfield 20, 3) := xdt tbX9_sumOf_0_ok 11 rfl
theorem dX9_sumOf_20 : decode cX9_sumOf 20 = .ok (.iload_n 3, 1) := xdt tbX9_sumOf_0_ok 12 rfl
theorem dX9_sumOf_21 : decode cX9_sumOf 21 = .ok (.iconst 0, 1) := xdt tbX9_sumOf_0_ok 13 rfl
theorem dX9_sumOf_22 : decode cX9_sumOf 22 = .ok (.invokestatic 254, 3) := xdt tbX9_sumOf_0_ok 14 rfl
theorem dX9_sumOf_25 : decode cX9_sumOf 25 = .ok (.istore 4, 2) := xdt tbX9_sumOf_0_ok 15 rfl
theorem dX9_sumOf_27 : decode cX9_sumOf 27 = .ok (.aload_n 0, 1) := xdt tbX9_sumOf_0_ok 16 rfl
theorem dX9_sumOf_28 : decode cX9_sumOf 28 = .ok (.iload_n 3, 1) := xdt tbX9_sumOf_0_ok 17 rfl
theorem dX9_sumOf_29 : decode cX9_sumOf 29 = .ok (.invokevirtual 346, 3) := xdt tbX9_sumOf_0_ok 18 rfl
theorem dX9_sumOf_32 : decode cX9_sumOf 32 = .ok (.istore 5, 2) := xdt tbX9_sumOf_0_ok 19 rfl
theorem dX9_sumOf_34 : decode cX9_sumOf 34 = .ok (.iload_n 3, 1) := xdt tbX9_sumOf_0_ok 20 rfl
theorem dX9_sumOf_35 : decode cX9_sumOf 35 = .ok (.iload_n 1, 1) := xdt tbX9_sumOf_0_ok 21 rfl
theorem dX9_sumOf_36 : decode cX9_sumOf 36 = .ok (.if_icmp .ne 8, 3) := xdt tbX9_sumOf_0_ok 22 rfl
theorem dX9_sumOf_39 : decode cX9_sumOf 39 = .ok (.iload 5, 2) := xdt tbX9_sumOf_0_ok 23 rfl
theorem dX9_sumOf_41 : decode cX9_sumOf 41 = .ok (.goto 35, 3) := xdt tbX9_sumOf_0_ok 24 rfl
theorem dX9_sumOf_44 : decode cX9_sumOf 44 = .ok (.iload 4, 2) := xdt tbX9_sumOf_0_ok 25 rfl
theorem dX9_sumOf_46 : decode cX9_sumOf 46 = .ok (.bipush 43, 2) := xdt tbX9_sumOf_0_ok 26 rfl
theorem dX9_sumOf_48 : decode cX9_sumOf 48 = .ok (.if_icmp .ne 10, 3) := xdt tbX9_sumOf_0_ok 27 rfl
theorem dX9_sumOf_51 : decode cX9_sumOf 51 = .ok (.iload_n 2, 1) := xdt tbX9_sumOf_0_ok 28 rfl
theorem dX9_sumOf_52 : decode cX9_sumOf 52 = .ok (.iload 5, 2) := xdt tbX9_sumOf_0_ok 29 rfl
theorem dX9_sumOf_54 : decode cX9_sumOf 54 = .ok (.iadd, 1) := xdt tbX9_sumOf_0_ok 30 rfl
theorem dX9_sumOf_55 : decode cX9_sumOf 55 = .ok (.goto 21, 3) := xdt tbX9_sumOf_0_ok 31 rfl
theorem dX9_sumOf_58 : decode cX9_sumOf 58 = .ok (.iload 4, 2) := xdt tbX9_sumOf_0_ok 32 rfl
theorem dX9_sumOf_60 : decode cX9_sumOf 60 = .ok (.bipush 45, 2) := xdt tbX9_sumOf_0_ok 33 rfl
theorem dX9_sumOf_62 : decode cX9_sumOf 62 = .ok (.if_icmp .ne 10, 3) := xdt tbX9_sumOf_0_ok 34 rfl
theorem dX9_sumOf_65 : decode cX9_sumOf 65 = .ok (.iload_n 2, 1) := xdt tbX9_sumOf_0_ok 35 rfl
theorem dX9_sumOf_66 : decode cX9_sumOf 66 = .ok (.iload 5, 2) := xdt tbX9_sumOf_0_ok 36 rfl
theorem dX9_sumOf_68 : decode cX9_sumOf 68 = .ok (.isub, 1) := xdt tbX9_sumOf_0_ok 37 rfl
theorem dX9_sumOf_69 : decode cX9_sumOf 69 = .ok (.goto 7, 3) := xdt tbX9_sumOf_0_ok 38 rfl
theorem dX9_sumOf_72 : decode cX9_sumOf 72 = .ok (.iload_n 2, 1) := xdt tbX9_sumOf_0_ok 39 rfl
theorem dX9_sumOf_73 : decode cX9_sumOf 73 = .ok (.iload 5, 2) := xdt tbX9_sumOf_0_ok 40 rfl
theorem dX9_sumOf_75 : decode cX9_sumOf 75 = .ok (.imul, 1) := xdt tbX9_sumOf_0_ok 41 rfl
theorem dX9_sumOf_76 : decode cX9_sumOf 76 = .ok (.istore_n 2, 1) := xdt tbX9_sumOf_0_ok 42 rfl
theorem dX9_sumOf_77 : decode cX9_sumOf 77 = .ok (.aload_n 0, 1) := xdt tbX9_sumOf_0_ok 43 rfl
theorem dX9_sumOf_78 : decode cX9_sumOf 78 = .ok (.getfield 20, 3) := xdt tbX9_sumOf_0_ok 44 rfl
theorem dX9_sumOf_81 : decode cX9_sumOf 81 = .ok (.iload_n 3, 1) := xdt tbX9_sumOf_0_ok 45 rfl
theorem dX9_sumOf_82 : decode cX9_sumOf 82 = .ok (.iconst 4, 1) := xdt tbX9_sumOf_0_ok 46 rfl
theorem dX9_sumOf_83 : decode cX9_sumOf 83 = .ok (.invokestatic 254, 3) := xdt tbX9_sumOf_0_ok 47 rfl
theorem dX9_sumOf_86 : decode cX9_sumOf 86 = .ok (.istore_n 3, 1) := xdt tbX9_sumOf_0_ok 48 rfl
theorem dX9_sumOf_87 : decode cX9_sumOf 87 = .ok (.goto (-83), 3) := xdt tbX9_sumOf_0_ok 49 rfl
theorem dX9_sumOf_90 : decode cX9_sumOf 90 = .ok (.iload_n 2, 1) := xdt tbX9_sumOf_0_ok 50 rfl
theorem dX9_sumOf_91 : decode cX9_sumOf 91 = .ok (.ireturn, 1) := xdt tbX9_sumOf_0_ok 51 rfl
def tbX9_termOf_0 : List (Nat × Instr × Nat) := [(0, .aload_n 0, 1), (1, .getfield 20, 3), (4, .iload_n 1, 1), (5, .iconst 1, 1), (6, .invokestatic 254, 3), (9, .istore_n 2, 1), (10, .aload_n 0, 1), (11, .getfield 20, 3), (14, .iload_n 1, 1), (15, .iconst 2, 1), (16, .invokestatic 254, 3), (19, .istore_n 3, 1), (20, .aload_n 0, 1), (21, .getfield 20, 3), (24, .iload_n 1, 1), (25, .iconst 3, 1), (26, .invokestatic 254, 3), (29, .istore 4, 2), (31, .iload_n 2, 1), (32, .iconst 4, 1), (33, .if_icmp .ne 9, 3), (36, .aload_n 0, 1), (37, .iload_n 3, 1), (38, .invokevirtual 334, 3), (41, .ireturn, 1), (42, .aload_n 0, 1), (43, .invokevirtual 322, 3), (46, .ifCond .ne 5, 3), (49, .iconst 0, 1), (50, .ireturn, 1), (51, .iload_n 2, 1), (52, .ifCond .ne 5, 3), (55, .iload_n 3, 1), (56, .ireturn, 1), (57, .iload_n 2, 1), (58, .iconst 3, 1), (59, .if_icmp .ne 11, 3), (62, .aload_n 0, 1), (63, .iconst 1, 1), (64, .iconst (-1), 1), (65, .invokevirtual 315, 3), (68, .iconst 0, 1), (69, .ireturn, 1), (70, .aload_n 0, 1), (71, .getfield 20, 3), (74, .iload 4, 2), (76, .iconst 0, 1), (77, .invokestatic 104, 3), (80, .ifCond .ne 14, 3), (83, .aload_n 0, 1), (84, .getfield 20, 3), (87, .iload 4, 2), (89, .iconst 2, 1), (90, .invokestatic 104, 3), (93, .ireturn, 1), (94, .aload_n 0, 1), (95, .iload_n 3, 1), (96, .invokevirtual 328, 3), (99, .aload_n 0, 1), (100, .getfield 300, 3)]
theorem tbX9_termOf_0_ok : tbX9_termOf_0.all (fun q => decide (decode cX9_termOf q.1 = .ok q.2)) = true := by decide +kernel
theorem dX9_termOf_0 : decode cX9_termOf 0 = .ok (.aload_n 0, 1) := xdt tbX9_termOf_0_ok 0 rfl
theorem dX9_termOf_1 : decode cX9_termOf 1 = .ok (.getfield 20, 3) := xdt tbX9_termOf_0_ok 1 rfl
theorem dX9_termOf_4 : decode cX9_termOf 4 = .ok (.iload_n 1, 1) := xdt tbX9_termOf_0_ok 2 rfl
theorem dX9_termOf_5 : decode cX9_termOf 5 = .ok (.iconst 1, 1) := xdt tbX9_termOf_0_ok 3 rfl
theorem dX9_termOf_6 : decode cX9_termOf 6 = .ok (.invokestatic 254, 3) := xdt tbX9_termOf_0_ok 4 rfl
theorem dX9_termOf_9 : decode cX9_termOf 9 = .ok (.istore_n 2, 1) := xdt tbX9_termOf_0_ok 5 rfl
theorem dX9_termOf_10 : decode cX9_termOf 10 = .ok (.aload_n 0, 1) := xdt tbX9_termOf_0_ok 6 rfl
theorem dX9_termOf_11 : decode cX9_termOf 11 = .ok (.getfield 20, 3) := xdt tbX9_termOf_0_ok 7 rfl
theorem dX9_termOf_14 : decode cX9_termOf 14 = .ok (.iload_n 1, 1) := xdt tbX9_termOf_0_ok 8 rfl
theorem dX9_termOf_15 : decode cX9_termOf 15 = .ok (.iconst 2, 1) := xdt tbX9_termOf_0_ok 9 rfl
theorem dX9_termOf_16 : decode cX9_termOf 16 = .ok (.invokestatic 254, 3) := xdt tbX9_termOf_0_ok 10 rfl
theorem dX9_termOf_19 : decode cX9_termOf 19 = .ok (.istore_n 3, 1) := xdt tbX9_termOf_0_ok 11 rfl
theorem dX9_termOf_20 : decode cX9_termOf 20 = .ok (.aload_n 0, 1) := xdt tbX9_termOf_0_ok 12 rfl
theorem dX9_termOf_21 : decode cX9_termOf 21 = .ok (.getfield 20, 3) := xdt tbX9_termOf_0_ok 13 rfl
theorem dX9_termOf_24 : decode cX9_termOf 24 = .ok (.iload_n 1, 1) := xdt tbX9_termOf_0_ok 14 rfl
theorem dX9_termOf_25 : decode cX9_termOf 25 = .ok (.iconst 3, 1) := xdt tbX9_termOf_0_ok 15 rfl
theorem dX9_termOf_26 : decode cX9_termOf 26 = .ok (.invokestatic 254, 3) := xdt tbX9_termOf_0_ok 16 rfl
theorem dX9_termOf_29 : decode cX9_termOf 29 = .ok (.istore 4, 2) := xdt tbX9_termOf_0_ok 17 rfl
theorem dX9_termOf_31 : decode cX9_termOf 31 = .ok (.iload_n 2, 1) := xdt tbX9_termOf_0_ok 18 rfl
theorem dX9_termOf_32 : decode cX9_termOf 32 = .ok (.iconst 4, 1) := xdt tbX9_termOf_0_ok 19 rfl
theorem dX9_termOf_33 : decode cX9_termOf 33 = .ok (.if_icmp .ne 9, 3) := xdt tbX9_termOf_0_ok 20 rfl
theorem dX9_termOf_36 : decode cX9_termOf 36 = .ok (.aload_n 0, 1) := xdt tbX9_termOf_0_ok 21 rfl
theorem dX9_termOf_37 : decode cX9_termOf 37 = .ok (.iload_n 3, 1) := xdt tbX9_termOf_0_ok 22 rfl
theorem dX9_termOf_38 : decode cX9_termOf 38 = .ok (.invokevirtual 334, 3) := xdt tbX9_termOf_0_ok 23 rfl
theorem dX9_termOf_41 : decode cX9_termOf 41 = .ok (.ireturn, 1) := xdt tbX9_termOf_0_ok 24 rfl
theorem dX9_termOf_42 : decode cX9_termOf 42 = .ok (.aload_n 0, 1) := xdt tbX9_termOf_0_ok 25 rfl
theorem dX9_termOf_43 : decode cX9_termOf 43 = .ok (.invokevirtual 322, 3) := xdt tbX9_termOf_0_ok 26 rfl
theorem dX9_termOf_46 : decode cX9_termOf 46 = .ok (.ifCond .ne 5, 3) := xdt tbX9_termOf_0_ok 27 rfl
theorem dX9_termOf_49 : decode cX9_termOf 49 = .ok (.iconst 0, 1) := xdt tbX9_termOf_0_ok 28 rfl
theorem dX9_termOf_50 : decode cX9_termOf 50 = .ok (.ireturn, 1) := xdt tbX9_termOf_0_ok 29 rfl
theorem dX9_termOf_51 : decode cX9_termOf 51 = .ok (.iload_n 2, 1) := xdt tbX9_termOf_0_ok 30 rfl
theorem dX9_termOf_52 : decode cX9_termOf 52 = .ok (.ifCond .ne 5, 3) := xdt tbX9_termOf_0_ok 31 rfl
theorem dX9_termOf_55 : decode cX9_termOf 55 = .ok (.iload_n 3, 1) := xdt tbX9_termOf_0_ok 32 rfl
theorem dX9_termOf_56 : decode cX9_termOf 56 = .ok (.ireturn, 1) := xdt tbX9_termOf_0_ok 33 rfl
theorem dX9_termOf_57 : decode cX9_termOf 57 = .ok (.iload_n 2, 1) := xdt tbX9_termOf_0_ok 34 rfl
theorem dX9_termOf_58 : decode cX9_termOf 58 = .ok (.iconst 3, 1) := xdt tbX9_termOf_0_ok 35 rfl
theorem dX9_termOf_59 : decode cX9_termOf 59 = .ok (.if_icmp .ne 11, 3) := xdt tbX9_termOf_0_ok 36 rfl
theorem dX9_termOf_62 : decode cX9_termOf 62 = .ok (.aload_n 0, 1) := xdt tbX9_termOf_0_ok 37 rfl
theorem dX9_termOf_63 : decode cX9_termOf 63 = .ok (.iconst 1, 1) := xdt tbX9_termOf_0_ok 38 rfl
theorem dX9_termOf_64 : decode cX9_termOf 64 = .ok (.iconst (-1), 1) := xdt tbX9_termOf_0_ok 39 rfl
theorem dX9_termOf_65 : decode cX9_termOf 65 = .ok (.invokevirtual 315, 3) := xdt tbX9_termOf_0_ok 40 rfl
theorem dX9_termOf_68 : decode cX9_termOf 68 = .ok (.iconst 0, 1) := xdt tbX9_termOf_0_ok 41 rfl
theorem dX9_termOf_69 : decode cX9_termOf 69 = .ok (.ireturn, 1) := xdt tbX9_termOf_0_ok 42 rfl
theorem dX9_termOf_70 : decode cX9_termOf 70 = .ok (.aload_n 0, 1) := xdt tbX9_termOf_0_ok 43 rfl
theorem dX9_termOf_71 : decode cX9_termOf 71 = .ok (.getfield 20, 3) := xdt tbX9_termOf_0_ok 44 rfl
theorem dX9_termOf_74 : decode cX9_termOf 74 = .ok (.iload 4, 2) := xdt tbX9_termOf_0_ok 45 rfl
theorem dX9_termOf_76 : decode cX9_termOf 76 = .ok (.iconst 0, 1) := xdt tbX9_termOf_0_ok 46 rfl
theorem dX9_termOf_77 : decode cX9_termOf 77 = .ok (.invokestatic 104, 3) := xdt tbX9_termOf_0_ok 47 rfl
theorem dX9_termOf_80 : decode cX9_termOf 80 = .ok (.ifCond .ne 14, 3) := xdt tbX9_termOf_0_ok 48 rfl
theorem dX9_termOf_83 : decode cX9_termOf 83 = .ok (.aload_n 0, 1) := xdt tbX9_termOf_0_ok 49 rfl
theorem dX9_termOf_84 : decode cX9_termOf 84 = .ok (.getfield 20, 3) := xdt tbX9_termOf_0_ok 50 rfl
theorem dX9_termOf_87 : decode cX9_termOf 87 = .ok (.iload 4, 2) := xdt tbX9_termOf_0_ok 51 rfl
theorem dX9_termOf_89 : decode cX9_termOf 89 = .ok (.iconst 2, 1) := xdt tbX9_termOf_0_ok 52 rfl
theorem dX9_termOf_90 : decode cX9_termOf 90 = .ok (.invokestatic 104, 3) := xdt tbX9_termOf_0_ok 53 rfl
theorem dX9_termOf_93 : decode cX9_termOf 93 = .ok (.ireturn, 1) := xdt tbX9_termOf_0_ok 54 rfl
theorem dX9_termOf_94 : decode cX9_termOf 94 = .ok (.aload_n 0, 1) := xdt tbX9_termOf_0_ok 55 rfl
theorem dX9_termOf_95 : decode cX9_termOf 95 = .ok (.iload_n 3, 1) := xdt tbX9_termOf_0_ok 56 rfl
theorem dX9_termOf_96 : decode cX9_termOf 96 = .ok (.invokevirtual 328, 3) := xdt tbX9_termOf_0_ok 57 rfl
theorem dX9_termOf_99 : decode cX9_termOf 99 = .ok (.aload_n 0, 1) := xdt tbX9_termOf_0_ok 58 rfl
theorem dX9_termOf_100 : decode cX9_termOf 100 = .ok (.getfield 300, 3) := xdt tbX9_termOf_0_ok 59 rfl
def tbX9_termOf_60 : List (Nat × Instr × Nat) := [(103, .ifCond .eq 5, 3), (106, .iconst 0, 1), (107, .ireturn, 1), (108, .iload_n 2, 1), (109, .iconst 2, 1), (110, .if_icmp .ne 11, 3), (113, .aload_n 0, 1), (114, .iload_n 3, 1), (115, .iload 4, 2), (117, .invokevirtual 349, 3), (120, .ireturn, 1), (121, .aload_n 0, 1), (122, .iload_n 3, 1), (123, .iload 4, 2), (125, .invokevirtual 340, 3), (128, .ifCond .eq 10, 3), (131, .aload_n 0, 1), (132, .iload_n 3, 1), (133, .iload 4, 2), (135, .invokevirtual 352, 3), (138, .aload_n 0, 1), (139, .getfield 45, 3), (142, .iload 4, 2), (144, .iaload, 1), (145, .ireturn, 1)]
theorem tbX9_termOf_60_ok : tbX9_termOf_60.all (fun q => decide (decode cX9_termOf q.1 = .ok q.2)) = true := by decide +kernel
theorem dX9_termOf_103 : decode cX9_termOf 103 = .ok (.ifCond .eq 5, 3) := xdt tbX9_termOf_60_ok 0 rfl
theorem dX9_termOf_106 : decode cX9_termOf 106 = .ok (.iconst 0, 1) := xdt tbX9_termOf_60_ok 1 rfl
theorem dX9_termOf_107 : decode cX9_termOf 107 = .ok (.ireturn, 1) := xdt tbX9_termOf_60_ok 2 rfl
theorem dX9_termOf_108 : decode cX9_termOf 108 = .ok (.iload_n 2, 1) := xdt tbX9_termOf_60_ok 3 rfl
theorem dX9_termOf_109 : decode cX9_termOf 109 = .ok (.iconst 2, 1) := xdt tbX9_termOf_60_ok 4 rfl
theorem dX9_termOf_110 : decode cX9_termOf 110 = .ok (.if_icmp .ne 11, 3) := xdt tbX9_termOf_60_ok 5 rfl
theorem dX9_termOf_113 : decode cX9_termOf 113 = .ok (.aload_n 0, 1) := xdt tbX9_termOf_60_ok 6 rfl
theorem dX9_termOf_114 : decode cX9_termOf 114 = .ok (.iload_n 3, 1) := xdt tbX9_termOf_60_ok 7 rfl
theorem dX9_termOf_115 : decode cX9_termOf 115 = .ok (.iload 4, 2) := xdt tbX9_termOf_60_ok 8 rfl
theorem dX9_termOf_117 : decode cX9_termOf 117 = .ok (.invokevirtual 349, 3) := xdt tbX9_termOf_60_ok 9 rfl
theorem dX9_termOf_120 : decode cX9_termOf 120 = .ok (.ireturn, 1) := xdt tbX9_termOf_60_ok 10 rfl
theorem dX9_termOf_121 : decode cX9_termOf 121 = .ok (.aload_n 0, 1) := xdt tbX9_termOf_60_ok 11 rfl
theorem dX9_termOf_122 : decode cX9_termOf 122 = .ok (.iload_n 3, 1) := xdt tbX9_termOf_60_ok 12 rfl
theorem dX9_termOf_123 : decode cX9_termOf 123 = .ok (.iload 4, 2) := xdt tbX9_termOf_60_ok 13 rfl
theorem dX9_termOf_125 : decode cX9_termOf 125 = .ok (.invokevirtual 340, 3) := xdt tbX9_termOf_60_ok 14 rfl
theorem dX9_termOf_128 : decode cX9_termOf 128 = .ok (.ifCond .eq 10, 3) := xdt tbX9_termOf_60_ok 15 rfl
theorem dX9_termOf_131 : decode cX9_termOf 131 = .ok (.aload_n 0, 1) := xdt tbX9_termOf_60_ok 16 rfl
theorem dX9_termOf_132 : decode cX9_termOf 132 = .ok (.iload_n 3, 1) := xdt tbX9_termOf_60_ok 17 rfl
theorem dX9_termOf_133 : decode cX9_termOf 133 = .ok (.iload 4, 2) := xdt tbX9_termOf_60_ok 18 rfl
theorem dX9_termOf_135 : decode cX9_termOf 135 = .ok (.invokevirtual 352, 3) := xdt tbX9_termOf_60_ok 19 rfl
theorem dX9_termOf_138 : decode cX9_termOf 138 = .ok (.aload_n 0, 1) := xdt tbX9_termOf_60_ok 20 rfl
theorem dX9_termOf_139 : decode cX9_termOf 139 = .ok (.getfield 45, 3) := xdt tbX9_termOf_60_ok 21 rfl
theorem dX9_termOf_142 : decode cX9_termOf 142 = .ok (.iload 4, 2) := xdt tbX9_termOf_60_ok 22 rfl
theorem dX9_termOf_144 : decode cX9_termOf 144 = .ok (.iaload, 1) := xdt tbX9_termOf_60_ok 23 rfl
theorem dX9_termOf_145 : decode cX9_termOf 145 = .ok (.ireturn, 1) := xdt tbX9_termOf_60_ok 24 rfl
def tbX9_calls_0 : List (Nat × Instr × Nat) := [(0, .aload_n 0, 1), (1, .iload_n 1, 1), (2, .aload_n 0, 1), (3, .getfield 20, 3), (6, .iload_n 2, 1), (7, .iconst 1, 1), (8, .invokestatic 104, 3), (11, .invokevirtual 319, 3), (14, .ifCond .ne 5, 3), (17, .iconst 0, 1), (18, .ireturn, 1), (19, .iconst 0, 1), (20, .istore_n 3, 1), (21, .iload_n 3, 1), (22, .aload_n 0, 1), (23, .getfield 20, 3), (26, .iload_n 2, 1), (27, .iconst 3, 1), (28, .invokestatic 104, 3), (31, .if_icmp .ge 31, 3), (34, .aload_n 0, 1), (35, .getfield 300, 3), (38, .ifCond .ne 24, 3), (41, .aload_n 0, 1), (42, .aload_n 0, 1), (43, .getfield 20, 3), (46, .iload_n 2, 1), (47, .iconst 4, 1), (48, .invokestatic 104, 3), (51, .iload_n 3, 1), (52, .iadd, 1), (53, .invokevirtual 337, 3), (56, .iinc 3 1, 3), (59, .goto (-38), 3), (62, .aload_n 0, 1), (63, .getfield 300, 3), (66, .ifCond .ne 19, 3), (69, .aload_n 0, 1), (70, .aload_n 0, 1), (71, .getfield 20, 3), (74, .iload_n 2, 1), (75, .iconst 2, 1), (76, .invokestatic 104, 3), (79, .invokevirtual 334, 3), (82, .goto 4, 3), (85, .iconst 0, 1), (86, .istore_n 3, 1), (87, .aload_n 0, 1), (88, .getfield 300, 3), (91, .iconst 2, 1), (92, .if_icmp .eq 13, 3), (95, .aload_n 0, 1), (96, .dup, 1), (97, .getfield 303, 3), (100, .iconst 1, 1), (101, .isub, 1), (102, .putfield 303, 3), (105, .iload_n 3, 1), (106, .ireturn, 1)]
theorem tbX9_calls_0_ok : tbX9_calls_0.all (fun q => decide (decode cX9_calls q.1 = .ok q.2)) = true := by decide +kernel
theorem dX9_calls_0 : decode cX9_calls 0 = .ok (.aload_n 0, 1) := xdt tbX9_calls_0_ok 0 rfl
theorem dX9_calls_1 : decode cX9_calls 1 = .ok (.iload_n 1, 1) := xdt tbX9_calls_0_ok 1 rfl
theorem dX9_calls_2 : decode cX9_calls 2 = .ok (.aload_n 0, 1) := xdt tbX9_calls_0_ok 2 rfl
theorem dX9_calls_3 : decode cX9_calls 3 = .ok (.getfield 20, 3) := xdt tbX9_calls_0_ok 3 rfl
theorem dX9_calls_6 : decode cX9_calls 6 = .ok (.iload_n 2, 1) := xdt tbX9_calls_0_ok 4 rfl
theorem dX9_calls_7 : decode cX9_calls 7 = .ok (.iconst 1, 1) := xdt tbX9_calls_0_ok 5 rfl
theorem dX9_calls_8 : decode cX9_calls 8 = .ok (.invokestatic 104, 3) := xdt tbX9_calls_0_ok 6 rfl
theorem dX9_calls_11 : decode cX9_calls 11 = .ok (.invokevirtual 319, 3) := xdt tbX9_calls_0_ok 7 rfl
theorem dX9_calls_14 : decode cX9_calls 14 = .ok (.ifCond .ne 5, 3) := xdt tbX9_calls_0_ok 8 rfl
theorem dX9_calls_17 : decode cX9_calls 17 = .ok (.iconst 0, 1) := xdt tbX9_calls_0_ok 9 rfl
theorem dX9_calls_18 : decode cX9_calls 18 = .ok (.ireturn, 1) := xdt tbX9_calls_0_ok 10 rfl
theorem dX9_calls_19 : decode cX9_calls 19 = .ok (.iconst 0, 1) := xdt tbX9_calls_0_ok 11 rfl
theorem dX9_calls_20 : decode cX9_calls 20 = .ok (.istore_n 3, 1) := xdt tbX9_calls_0_ok 12 rfl
theorem dX9_calls_21 : decode cX9_calls 21 = .ok (.iload_n 3, 1) := xdt tbX9_calls_0_ok 13 rfl
theorem dX9_calls_22 : decode cX9_calls 22 = .ok (.aload_n 0, 1) := xdt tbX9_calls_0_ok 14 rfl
theorem dX9_calls_23 : decode cX9_calls 23 = .ok (.getfield 20, 3) := xdt tbX9_calls_0_ok 15 rfl
theorem dX9_calls_26 : decode cX9_calls 26 = .ok (.iload_n 2, 1) := xdt tbX9_calls_0_ok 16 rfl
theorem dX9_calls_27 : decode cX9_calls 27 = .ok (.iconst 3, 1) := xdt tbX9_calls_0_ok 17 rfl
theorem dX9_calls_28 : decode cX9_calls 28 = .ok (.invokestatic 104, 3) := xdt tbX9_calls_0_ok 18 rfl
theorem dX9_calls_31 : decode cX9_calls 31 = .ok (.if_icmp .ge 31, 3) := xdt tbX9_calls_0_ok 19 rfl
theorem dX9_calls_34 : decode cX9_calls 34 = .ok (.aload_n 0, 1) := xdt tbX9_calls_0_ok 20 rfl
theorem dX9_calls_35 : decode cX9_calls 35 = .ok (.getfield 300, 3) := xdt tbX9_calls_0_ok 21 rfl
theorem dX9_calls_38 : decode cX9_calls 38 = .ok (.ifCond .ne 24, 3) := xdt tbX9_calls_0_ok 22 rfl
theorem dX9_calls_41 : decode cX9_calls 41 = .ok (.aload_n 0, 1) := xdt tbX9_calls_0_ok 23 rfl
theorem dX9_calls_42 : decode cX9_calls 42 = .ok (.aload_n 0, 1) := xdt tbX9_calls_0_ok 24 rfl
theorem dX9_calls_43 : decode cX9_calls 43 = .ok (.getfield 20, 3) := xdt tbX9_calls_0_ok 25 rfl
theorem dX9_calls_46 : decode cX9_calls 46 = .ok (.iload_n 2, 1) := xdt tbX9_calls_0_ok 26 rfl
theorem dX9_calls_47 : decode cX9_calls 47 = .ok (.iconst 4, 1) := xdt tbX9_calls_0_ok 27 rfl
theorem dX9_calls_48 : decode cX9_calls 48 = .ok (.invokestatic 104, 3) := xdt tbX9_calls_0_ok 28 rfl
theorem dX9_calls_51 : decode cX9_calls 51 = .ok (.iload_n 3, 1) := xdt tbX9_calls_0_ok 29 rfl
theorem dX9_calls_52 : decode cX9_calls 52 = .ok (.iadd, 1) := xdt tbX9_calls_0_ok 30 rfl
theorem dX9_calls_53 : decode cX9_calls 53 = .ok (.invokevirtual 337, 3) := xdt tbX9_calls_0_ok 31 rfl
theorem dX9_calls_56 : decode cX9_calls 56 = .ok (.iinc 3 1, 3) := xdt tbX9_calls_0_ok 32 rfl
theorem dX9_calls_59 : decode cX9_calls 59 = .ok (.goto (-38), 3) := xdt tbX9_calls_0_ok 33 rfl
theorem dX9_calls_62 : decode cX9_calls 62 = .ok (.aload_n 0, 1) := xdt tbX9_calls_0_ok 34 rfl
theorem dX9_calls_63 : decode cX9_calls 63 = .ok (.getfield 300, 3) := xdt tbX9_calls_0_ok 35 rfl
theorem dX9_calls_66 : decode cX9_calls 66 = .ok (.ifCond .ne 19, 3) := xdt tbX9_calls_0_ok 36 rfl
theorem dX9_calls_69 : decode cX9_calls 69 = .ok (.aload_n 0, 1) := xdt tbX9_calls_0_ok 37 rfl
theorem dX9_calls_70 : decode cX9_calls 70 = .ok (.aload_n 0, 1) := xdt tbX9_calls_0_ok 38 rfl
theorem dX9_calls_71 : decode cX9_calls 71 = .ok (.getfield 20, 3) := xdt tbX9_calls_0_ok 39 rfl
theorem dX9_calls_74 : decode cX9_calls 74 = .ok (.iload_n 2, 1) := xdt tbX9_calls_0_ok 40 rfl
theorem dX9_calls_75 : decode cX9_calls 75 = .ok (.iconst 2, 1) := xdt tbX9_calls_0_ok 41 rfl
theorem dX9_calls_76 : decode cX9_calls 76 = .ok (.invokestatic 104, 3) := xdt tbX9_calls_0_ok 42 rfl
theorem dX9_calls_79 : decode cX9_calls 79 = .ok (.invokevirtual 334, 3) := xdt tbX9_calls_0_ok 43 rfl
theorem dX9_calls_82 : decode cX9_calls 82 = .ok (.goto 4, 3) := xdt tbX9_calls_0_ok 44 rfl
theorem dX9_calls_85 : decode cX9_calls 85 = .ok (.iconst 0, 1) := xdt tbX9_calls_0_ok 45 rfl
theorem dX9_calls_86 : decode cX9_calls 86 = .ok (.istore_n 3, 1) := xdt tbX9_calls_0_ok 46 rfl
theorem dX9_calls_87 : decode cX9_calls 87 = .ok (.aload_n 0, 1) := xdt tbX9_calls_0_ok 47 rfl
theorem dX9_calls_88 : decode cX9_calls 88 = .ok (.getfield 300, 3) := xdt tbX9_calls_0_ok 48 rfl
theorem dX9_calls_91 : decode cX9_calls 91 = .ok (.iconst 2, 1) := xdt tbX9_calls_0_ok 49 rfl
theorem dX9_calls_92 : decode cX9_calls 92 = .ok (.if_icmp .eq 13, 3) := xdt tbX9_calls_0_ok 50 rfl
theorem dX9_calls_95 : decode cX9_calls 95 = .ok (.aload_n 0, 1) := xdt tbX9_calls_0_ok 51 rfl
theorem dX9_calls_96 : decode cX9_calls 96 = .ok (.dup, 1) := xdt tbX9_calls_0_ok 52 rfl
theorem dX9_calls_97 : decode cX9_calls 97 = .ok (.getfield 303, 3) := xdt tbX9_calls_0_ok 53 rfl
theorem dX9_calls_100 : decode cX9_calls 100 = .ok (.iconst 1, 1) := xdt tbX9_calls_0_ok 54 rfl
theorem dX9_calls_101 : decode cX9_calls 101 = .ok (.isub, 1) := xdt tbX9_calls_0_ok 55 rfl
theorem dX9_calls_102 : decode cX9_calls 102 = .ok (.putfield 303, 3) := xdt tbX9_calls_0_ok 56 rfl
theorem dX9_calls_105 : decode cX9_calls 105 = .ok (.iload_n 3, 1) := xdt tbX9_calls_0_ok 57 rfl
theorem dX9_calls_106 : decode cX9_calls 106 = .ok (.ireturn, 1) := xdt tbX9_calls_0_ok 58 rfl
def tbX9_begins_0 : List (Nat × Instr × Nat) := [(0, .iconst 0, 1), (1, .istore_n 1, 1), (2, .iload_n 1, 1), (3, .bipush 7, 2), (5, .if_icmp .ge 37, 3), (8, .aload_n 0, 1), (9, .getfield 39, 3), (12, .iload_n 1, 1), (13, .iconst 0, 1), (14, .iastore, 1), (15, .aload_n 0, 1), (16, .getfield 48, 3), (19, .iload_n 1, 1), (20, .iconst (-1), 1), (21, .iastore, 1), (22, .aload_n 0, 1), (23, .getfield 51, 3), (26, .iload_n 1, 1), (27, .iconst (-1), 1), (28, .iastore, 1), (29, .aload_n 0, 1), (30, .getfield 54, 3), (33, .iload_n 1, 1), (34, .iconst (-1), 1), (35, .iastore, 1), (36, .iinc 1 1, 3), (39, .goto (-37), 3), (42, .iconst 0, 1), (43, .istore_n 1, 1), (44, .iload_n 1, 1), (45, .bipush 84, 2), (47, .if_icmp .ge 23, 3), (50, .aload_n 0, 1), (51, .getfield 45, 3), (54, .iload_n 1, 1), (55, .iconst 0, 1), (56, .iastore, 1), (57, .aload_n 0, 1), (58, .getfield 63, 3), (61, .iload_n 1, 1), (62, .iconst 0, 1), (63, .bastore, 1), (64, .iinc 1 1, 3), (67, .goto (-23), 3), (70, .aload_n 0, 1), (71, .iconst 0, 1), (72, .putfield 325, 3), (75, .aload_n 0, 1), (76, .iconst 0, 1), (77, .putfield 303, 3), (80, .aload_n 0, 1), (81, .iconst 0, 1), (82, .putfield 297, 3), (85, .aload_n 0, 1), (86, .iconst 0, 1), (87, .putfield 300, 3), (90, .aload_n 0, 1), (91, .iconst 0, 1), (92, .putfield 358, 3), (95, .aload_n 0, 1)]
theorem tbX9_begins_0_ok : tbX9_begins_0.all (fun q => decide (decode cX9_begins q.1 = .ok q.2)) = true := by decide +kernel
theorem dX9_begins_0 : decode cX9_begins 0 = .ok (.iconst 0, 1) := xdt tbX9_begins_0_ok 0 rfl
theorem dX9_begins_1 : decode cX9_begins 1 = .ok (.istore_n 1, 1) := xdt tbX9_begins_0_ok 1 rfl
theorem dX9_begins_2 : decode cX9_begins 2 = .ok (.iload_n 1, 1) := xdt tbX9_begins_0_ok 2 rfl
theorem dX9_begins_3 : decode cX9_begins 3 = .ok (.bipush 7, 2) := xdt tbX9_begins_0_ok 3 rfl
theorem dX9_begins_5 : decode cX9_begins 5 = .ok (.if_icmp .ge 37, 3) := xdt tbX9_begins_0_ok 4 rfl
theorem dX9_begins_8 : decode cX9_begins 8 = .ok (.aload_n 0, 1) := xdt tbX9_begins_0_ok 5 rfl
theorem dX9_begins_9 : decode cX9_begins 9 = .ok (.getfield 39, 3) := xdt tbX9_begins_0_ok 6 rfl
theorem dX9_begins_12 : decode cX9_begins 12 = .ok (.iload_n 1, 1) := xdt tbX9_begins_0_ok 7 rfl
theorem dX9_begins_13 : decode cX9_begins 13 = .ok (.iconst 0, 1) := xdt tbX9_begins_0_ok 8 rfl
theorem dX9_begins_14 : decode cX9_begins 14 = .ok (.iastore, 1) := xdt tbX9_begins_0_ok 9 rfl
theorem dX9_begins_15 : decode cX9_begins 15 = .ok (.aload_n 0, 1) := xdt tbX9_begins_0_ok 10 rfl
theorem dX9_begins_16 : decode cX9_begins 16 = .ok (.getfield 48, 3) := xdt tbX9_begins_0_ok 11 rfl
theorem dX9_begins_19 : decode cX9_begins 19 = .ok (.iload_n 1, 1) := xdt tbX9_begins_0_ok 12 rfl
theorem dX9_begins_20 : decode cX9_begins 20 = .ok (.iconst (-1), 1) := xdt tbX9_begins_0_ok 13 rfl
theorem dX9_begins_21 : decode cX9_begins 21 = .ok (.iastore, 1) := xdt tbX9_begins_0_ok 14 rfl
theorem dX9_begins_22 : decode cX9_begins 22 = .ok (.aload_n 0, 1) := xdt tbX9_begins_0_ok 15 rfl
theorem dX9_begins_23 : decode cX9_begins 23 = .ok (.getfield 51, 3) := xdt tbX9_begins_0_ok 16 rfl
theorem dX9_begins_26 : decode cX9_begins 26 = .ok (.iload_n 1, 1) := xdt tbX9_begins_0_ok 17 rfl
theorem dX9_begins_27 : decode cX9_begins 27 = .ok (.iconst (-1), 1) := xdt tbX9_begins_0_ok 18 rfl
theorem dX9_begins_28 : decode cX9_begins 28 = .ok (.iastore, 1) := xdt tbX9_begins_0_ok 19 rfl
theorem dX9_begins_29 : decode cX9_begins 29 = .ok (.aload_n 0, 1) := xdt tbX9_begins_0_ok 20 rfl
theorem dX9_begins_30 : decode cX9_begins 30 = .ok (.getfield 54, 3) := xdt tbX9_begins_0_ok 21 rfl
theorem dX9_begins_33 : decode cX9_begins 33 = .ok (.iload_n 1, 1) := xdt tbX9_begins_0_ok 22 rfl
theorem dX9_begins_34 : decode cX9_begins 34 = .ok (.iconst (-1), 1) := xdt tbX9_begins_0_ok 23 rfl
theorem dX9_begins_35 : decode cX9_begins 35 = .ok (.iastore, 1) := xdt tbX9_begins_0_ok 24 rfl
theorem dX9_begins_36 : decode cX9_begins 36 = .ok (.iinc 1 1, 3) := xdt tbX9_begins_0_ok 25 rfl
theorem dX9_begins_39 : decode cX9_begins 39 = .ok (.goto (-37), 3) := xdt tbX9_begins_0_ok 26 rfl
theorem dX9_begins_42 : decode cX9_begins 42 = .ok (.iconst 0, 1) := xdt tbX9_begins_0_ok 27 rfl
theorem dX9_begins_43 : decode cX9_begins 43 = .ok (.istore_n 1, 1) := xdt tbX9_begins_0_ok 28 rfl
theorem dX9_begins_44 : decode cX9_begins 44 = .ok (.iload_n 1, 1) := xdt tbX9_begins_0_ok 29 rfl
theorem dX9_begins_45 : decode cX9_begins 45 = .ok (.bipush 84, 2) := xdt tbX9_begins_0_ok 30 rfl
theorem dX9_begins_47 : decode cX9_begins 47 = .ok (.if_icmp .ge 23, 3) := xdt tbX9_begins_0_ok 31 rfl
theorem dX9_begins_50 : decode cX9_begins 50 = .ok (.aload_n 0, 1) := xdt tbX9_begins_0_ok 32 rfl
theorem dX9_begins_51 : decode cX9_begins 51 = .ok (.getfield 45, 3) := xdt tbX9_begins_0_ok 33 rfl
theorem dX9_begins_54 : decode cX9_begins 54 = .ok (.iload_n 1, 1) := xdt tbX9_begins_0_ok 34 rfl
theorem dX9_begins_55 : decode cX9_begins 55 = .ok (.iconst 0, 1) := xdt tbX9_begins_0_ok 35 rfl
theorem dX9_begins_56 : decode cX9_begins 56 = .ok (.iastore, 1) := xdt tbX9_begins_0_ok 36 rfl
theorem dX9_begins_57 : decode cX9_begins 57 = .ok (.aload_n 0, 1) := xdt tbX9_begins_0_ok 37 rfl
theorem dX9_begins_58 : decode cX9_begins 58 = .ok (.getfield 63, 3) := xdt tbX9_begins_0_ok 38 rfl
theorem dX9_begins_61 : decode cX9_begins 61 = .ok (.iload_n 1, 1) := xdt tbX9_begins_0_ok 39 rfl
theorem dX9_begins_62 : decode cX9_begins 62 = .ok (.iconst 0, 1) := xdt tbX9_begins_0_ok 40 rfl
theorem dX9_begins_63 : decode cX9_begins 63 = .ok (.bastore, 1) := xdt tbX9_begins_0_ok 41 rfl
theorem dX9_begins_64 : decode cX9_begins 64 = .ok (.iinc 1 1, 3) := xdt tbX9_begins_0_ok 42 rfl
theorem dX9_begins_67 : decode cX9_begins 67 = .ok (.goto (-23), 3) := xdt tbX9_begins_0_ok 43 rfl
theorem dX9_begins_70 : decode cX9_begins 70 = .ok (.aload_n 0, 1) := xdt tbX9_begins_0_ok 44 rfl
theorem dX9_begins_71 : decode cX9_begins 71 = .ok (.iconst 0, 1) := xdt tbX9_begins_0_ok 45 rfl
theorem dX9_begins_72 : decode cX9_begins 72 = .ok (.putfield 325, 3) := xdt tbX9_begins_0_ok 46 rfl
theorem dX9_begins_75 : decode cX9_begins 75 = .ok (.aload_n 0, 1) := xdt tbX9_begins_0_ok 47 rfl
theorem dX9_begins_76 : decode cX9_begins 76 = .ok (.iconst 0, 1) := xdt tbX9_begins_0_ok 48 rfl
theorem dX9_begins_77 : decode cX9_begins 77 = .ok (.putfield 303, 3) := xdt tbX9_begins_0_ok 49 rfl
theorem dX9_begins_80 : decode cX9_begins 80 = .ok (.aload_n 0, 1) := xdt tbX9_begins_0_ok 50 rfl
theorem dX9_begins_81 : decode cX9_begins 81 = .ok (.iconst 0, 1) := xdt tbX9_begins_0_ok 51 rfl
theorem dX9_begins_82 : decode cX9_begins 82 = .ok (.putfield 297, 3) := xdt tbX9_begins_0_ok 52 rfl
theorem dX9_begins_85 : decode cX9_begins 85 = .ok (.aload_n 0, 1) := xdt tbX9_begins_0_ok 53 rfl
theorem dX9_begins_86 : decode cX9_begins 86 = .ok (.iconst 0, 1) := xdt tbX9_begins_0_ok 54 rfl
theorem dX9_begins_87 : decode cX9_begins 87 = .ok (.putfield 300, 3) := xdt tbX9_begins_0_ok 55 rfl
theorem dX9_begins_90 : decode cX9_begins 90 = .ok (.aload_n 0, 1) := xdt tbX9_begins_0_ok 56 rfl
theorem dX9_begins_91 : decode cX9_begins 91 = .ok (.iconst 0, 1) := xdt tbX9_begins_0_ok 57 rfl
theorem dX9_begins_92 : decode cX9_begins 92 = .ok (.putfield 358, 3) := xdt tbX9_begins_0_ok 58 rfl
theorem dX9_begins_95 : decode cX9_begins 95 = .ok (.aload_n 0, 1) := xdt tbX9_begins_0_ok 59 rfl
def tbX9_begins_60 : List (Nat × Instr × Nat) := [(96, .iconst 0, 1), (97, .putfield 343, 3), (100, .aload_n 0, 1), (101, .iconst 0, 1), (102, .putfield 364, 3), (105, .return_, 1)]
theorem tbX9_begins_60_ok : tbX9_begins_60.all (fun q => decide (decode cX9_begins q.1 = .ok q.2)) = true := by decide +kernel
theorem dX9_begins_96 : decode cX9_begins 96 = .ok (.iconst 0, 1) := xdt tbX9_begins_60_ok 0 rfl
theorem dX9_begins_97 : decode cX9_begins 97 = .ok (.putfield 343, 3) := xdt tbX9_begins_60_ok 1 rfl
theorem dX9_begins_100 : decode cX9_begins 100 = .ok (.aload_n 0, 1) := xdt tbX9_begins_60_ok 2 rfl
theorem dX9_begins_101 : decode cX9_begins 101 = .ok (.iconst 0, 1) := xdt tbX9_begins_60_ok 3 rfl
theorem dX9_begins_102 : decode cX9_begins 102 = .ok (.putfield 364, 3) := xdt tbX9_begins_60_ok 4 rfl
theorem dX9_begins_105 : decode cX9_begins 105 = .ok (.return_, 1) := xdt tbX9_begins_60_ok 5 rfl
def tbX9_goesMain_0 : List (Nat × Instr × Nat) := [(0, .aload_n 0, 1), (1, .iconst 0, 1), (2, .putfield 361, 3), (5, .aload_n 0, 1), (6, .getfield 361, 3), (9, .aload_n 0, 1), (10, .getfield 20, 3), (13, .iconst 4, 1), (14, .iaload, 1), (15, .if_icmp .ge 72, 3), (18, .aload_n 0, 1), (19, .getfield 300, 3), (22, .iconst 2, 1), (23, .if_icmp .eq 64, 3), (26, .aload_n 0, 1), (27, .iconst 0, 1), (28, .putfield 300, 3), (31, .aload_n 0, 1), (32, .aload_n 0, 1), (33, .getfield 20, 3), (36, .sipush 3810, 3), (39, .aload_n 0, 1), (40, .getfield 361, 3), (43, .iadd, 1), (44, .iaload, 1), (45, .invokevirtual 337, 3), (48, .aload_n 0, 1), (49, .getfield 300, 3), (52, .iconst 1, 1), (53, .if_icmp .eq 6, 3), (56, .goto 18, 3), (59, .aload_n 0, 1), (60, .dup, 1), (61, .getfield 364, 3), (64, .iconst 1, 1), (65, .iadd, 1), (66, .putfield 364, 3), (69, .aload_n 0, 1), (70, .iconst 0, 1), (71, .putfield 300, 3), (74, .aload_n 0, 1), (75, .dup, 1), (76, .getfield 361, 3), (79, .iconst 1, 1), (80, .iadd, 1), (81, .putfield 361, 3), (84, .goto (-79), 3), (87, .return_, 1)]
theorem tbX9_goesMain_0_ok : tbX9_goesMain_0.all (fun q => decide (decode cX9_goesMain q.1 = .ok q.2)) = true := by decide +kernel
theorem dX9_goesMain_0 : decode cX9_goesMain 0 = .ok (.aload_n 0, 1) := xdt tbX9_goesMain_0_ok 0 rfl
theorem dX9_goesMain_1 : decode cX9_goesMain 1 = .ok (.iconst 0, 1) := xdt tbX9_goesMain_0_ok 1 rfl
theorem dX9_goesMain_2 : decode cX9_goesMain 2 = .ok (.putfield 361, 3) := xdt tbX9_goesMain_0_ok 2 rfl
theorem dX9_goesMain_5 : decode cX9_goesMain 5 = .ok (.aload_n 0, 1) := xdt tbX9_goesMain_0_ok 3 rfl
theorem dX9_goesMain_6 : decode cX9_goesMain 6 = .ok (.getfield 361, 3) := xdt tbX9_goesMain_0_ok 4 rfl
theorem dX9_goesMain_9 : decode cX9_goesMain 9 = .ok (.aload_n 0, 1) := xdt tbX9_goesMain_0_ok 5 rfl
theorem dX9_goesMain_10 : decode cX9_goesMain 10 = .ok (.getfield 20, 3) := xdt tbX9_goesMain_0_ok 6 rfl
theorem dX9_goesMain_13 : decode cX9_goesMain 13 = .ok (.iconst 4, 1) := xdt tbX9_goesMain_0_ok 7 rfl
theorem dX9_goesMain_14 : decode cX9_goesMain 14 = .ok (.iaload, 1) := xdt tbX9_goesMain_0_ok 8 rfl
theorem dX9_goesMain_15 : decode cX9_goesMain 15 = .ok (.if_icmp .ge 72, 3) := xdt tbX9_goesMain_0_ok 9 rfl
theorem dX9_goesMain_18 : decode cX9_goesMain 18 = .ok (.aload_n 0, 1) := xdt tbX9_goesMain_0_ok 10 rfl
theorem dX9_goesMain_19 : decode cX9_goesMain 19 = .ok (.getfield 300, 3) := xdt tbX9_goesMain_0_ok 11 rfl
theorem dX9_goesMain_22 : decode cX9_goesMain 22 = .ok (.iconst 2, 1) := xdt tbX9_goesMain_0_ok 12 rfl
theorem dX9_goesMain_23 : decode cX9_goesMain 23 = .ok (.if_icmp .eq 64, 3) := xdt tbX9_goesMain_0_ok 13 rfl
theorem dX9_goesMain_26 : decode cX9_goesMain 26 = .ok (.aload_n 0, 1) := xdt tbX9_goesMain_0_ok 14 rfl
theorem dX9_goesMain_27 : decode cX9_goesMain 27 = .ok (.iconst 0, 1) := xdt tbX9_goesMain_0_ok 15 rfl
theorem dX9_goesMain_28 : decode cX9_goesMain 28 = .ok (.putfield 300, 3) := xdt tbX9_goesMain_0_ok 16 rfl
theorem dX9_goesMain_31 : decode cX9_goesMain 31 = .ok (.aload_n 0, 1) := xdt tbX9_goesMain_0_ok 17 rfl
theorem dX9_goesMain_32 : decode cX9_goesMain 32 = .ok (.aload_n 0, 1) := xdt tbX9_goesMain_0_ok 18 rfl
theorem dX9_goesMain_33 : decode cX9_goesMain 33 = .ok (.getfield 20, 3) := xdt tbX9_goesMain_0_ok 19 rfl
theorem dX9_goesMain_36 : decode cX9_goesMain 36 = .ok (.sipush 3810, 3) := xdt tbX9_goesMain_0_ok 20 rfl
theorem dX9_goesMain_39 : decode cX9_goesMain 39 = .ok (.aload_n 0, 1) := xdt tbX9_goesMain_0_ok 21 rfl
theorem dX9_goesMain_40 : decode cX9_goesMain 40 = .ok (.getfield 361, 3) := xdt tbX9_goesMain_0_ok 22 rfl
theorem dX9_goesMain_43 : decode cX9_goesMain 43 = .ok (.iadd, 1) := xdt tbX9_goesMain_0_ok 23 rfl
theorem dX9_goesMain_44 : decode cX9_goesMain 44 = .ok (.iaload, 1) := xdt tbX9_goesMain_0_ok 24 rfl
theorem dX9_goesMain_45 : decode cX9_goesMain 45 = .ok (.invokevirtual 337, 3) := xdt tbX9_goesMain_0_ok 25 rfl
theorem dX9_goesMain_48 : decode cX9_goesMain 48 = .ok (.aload_n 0, 1) := xdt tbX9_goesMain_0_ok 26 rfl
theorem dX9_goesMain_49 : decode cX9_goesMain 49 = .ok (.getfield 300, 3) := xdt tbX9_goesMain_0_ok 27 rfl
theorem dX9_goesMain_52 : decode cX9_goesMain 52 = .ok (.iconst 1, 1) := xdt tbX9_goesMain_0_ok 28 rfl
theorem dX9_goesMain_53 : decode cX9_goesMain 53 = .ok (.if_icmp .eq 6, 3) := xdt tbX9_goesMain_0_ok 29 rfl
theorem dX9_goesMain_56 : decode cX9_goesMain 56 = .ok (.goto 18, 3) := xdt tbX9_goesMain_0_ok 30 rfl
theorem dX9_goesMain_59 : decode cX9_goesMain 59 = .ok (.aload_n 0, 1) := xdt tbX9_goesMain_0_ok 31 rfl
theorem dX9_goesMain_60 : decode cX9_goesMain 60 = .ok (.dup, 1) := xdt tbX9_goesMain_0_ok 32 rfl
theorem dX9_goesMain_61 : decode cX9_goesMain 61 = .ok (.getfield 364, 3) := xdt tbX9_goesMain_0_ok 33 rfl
theorem dX9_goesMain_64 : decode cX9_goesMain 64 = .ok (.iconst 1, 1) := xdt tbX9_goesMain_0_ok 34 rfl
theorem dX9_goesMain_65 : decode cX9_goesMain 65 = .ok (.iadd, 1) := xdt tbX9_goesMain_0_ok 35 rfl
theorem dX9_goesMain_66 : decode cX9_goesMain 66 = .ok (.putfield 364, 3) := xdt tbX9_goesMain_0_ok 36 rfl
theorem dX9_goesMain_69 : decode cX9_goesMain 69 = .ok (.aload_n 0, 1) := xdt tbX9_goesMain_0_ok 37 rfl
theorem dX9_goesMain_70 : decode cX9_goesMain 70 = .ok (.iconst 0, 1) := xdt tbX9_goesMain_0_ok 38 rfl
theorem dX9_goesMain_71 : decode cX9_goesMain 71 = .ok (.putfield 300, 3) := xdt tbX9_goesMain_0_ok 39 rfl
theorem dX9_goesMain_74 : decode cX9_goesMain 74 = .ok (.aload_n 0, 1) := xdt tbX9_goesMain_0_ok 40 rfl
theorem dX9_goesMain_75 : decode cX9_goesMain 75 = .ok (.dup, 1) := xdt tbX9_goesMain_0_ok 41 rfl
theorem dX9_goesMain_76 : decode cX9_goesMain 76 = .ok (.getfield 361, 3) := xdt tbX9_goesMain_0_ok 42 rfl
theorem dX9_goesMain_79 : decode cX9_goesMain 79 = .ok (.iconst 1, 1) := xdt tbX9_goesMain_0_ok 43 rfl
theorem dX9_goesMain_80 : decode cX9_goesMain 80 = .ok (.iadd, 1) := xdt tbX9_goesMain_0_ok 44 rfl
theorem dX9_goesMain_81 : decode cX9_goesMain 81 = .ok (.putfield 361, 3) := xdt tbX9_goesMain_0_ok 45 rfl
theorem dX9_goesMain_84 : decode cX9_goesMain 84 = .ok (.goto (-79), 3) := xdt tbX9_goesMain_0_ok 46 rfl
theorem dX9_goesMain_87 : decode cX9_goesMain 87 = .ok (.return_, 1) := xdt tbX9_goesMain_0_ok 47 rfl
def tbX9_lays_0 : List (Nat × Instr × Nat) := [(0, .aload_n 0, 1), (1, .getfield 279, 3), (4, .ifCond .eq 4, 3), (7, .return_, 1), (8, .aload_n 0, 1), (9, .invokevirtual 367, 3), (12, .aload_n 0, 1), (13, .iconst 1, 1), (14, .putfield 355, 3), (17, .aload_n 0, 1), (18, .invokevirtual 370, 3), (21, .aload_n 0, 1), (22, .iconst 0, 1), (23, .putfield 355, 3), (26, .aload_n 0, 1), (27, .iconst 1, 1), (28, .putfield 279, 3), (31, .return_, 1)]
theorem tbX9_lays_0_ok : tbX9_lays_0.all (fun q => decide (decode cX9_lays q.1 = .ok q.2)) = true := by decide +kernel
theorem dX9_lays_0 : decode cX9_lays 0 = .ok (.aload_n 0, 1) := xdt tbX9_lays_0_ok 0 rfl
theorem dX9_lays_1 : decode cX9_lays 1 = .ok (.getfield 279, 3) := xdt tbX9_lays_0_ok 1 rfl
theorem dX9_lays_4 : decode cX9_lays 4 = .ok (.ifCond .eq 4, 3) := xdt tbX9_lays_0_ok 2 rfl
theorem dX9_lays_7 : decode cX9_lays 7 = .ok (.return_, 1) := xdt tbX9_lays_0_ok 3 rfl
theorem dX9_lays_8 : decode cX9_lays 8 = .ok (.aload_n 0, 1) := xdt tbX9_lays_0_ok 4 rfl
theorem dX9_lays_9 : decode cX9_lays 9 = .ok (.invokevirtual 367, 3) := xdt tbX9_lays_0_ok 5 rfl
theorem dX9_lays_12 : decode cX9_lays 12 = .ok (.aload_n 0, 1) := xdt tbX9_lays_0_ok 6 rfl
theorem dX9_lays_13 : decode cX9_lays 13 = .ok (.iconst 1, 1) := xdt tbX9_lays_0_ok 7 rfl
theorem dX9_lays_14 : decode cX9_lays 14 = .ok (.putfield 355, 3) := xdt tbX9_lays_0_ok 8 rfl
theorem dX9_lays_17 : decode cX9_lays 17 = .ok (.aload_n 0, 1) := xdt tbX9_lays_0_ok 9 rfl
theorem dX9_lays_18 : decode cX9_lays 18 = .ok (.invokevirtual 370, 3) := xdt tbX9_lays_0_ok 10 rfl
theorem dX9_lays_21 : decode cX9_lays 21 = .ok (.aload_n 0, 1) := xdt tbX9_lays_0_ok 11 rfl
theorem dX9_lays_22 : decode cX9_lays 22 = .ok (.iconst 0, 1) := xdt tbX9_lays_0_ok 12 rfl
theorem dX9_lays_23 : decode cX9_lays 23 = .ok (.putfield 355, 3) := xdt tbX9_lays_0_ok 13 rfl
theorem dX9_lays_26 : decode cX9_lays 26 = .ok (.aload_n 0, 1) := xdt tbX9_lays_0_ok 14 rfl
theorem dX9_lays_27 : decode cX9_lays 27 = .ok (.iconst 1, 1) := xdt tbX9_lays_0_ok 15 rfl
theorem dX9_lays_28 : decode cX9_lays 28 = .ok (.putfield 279, 3) := xdt tbX9_lays_0_ok 16 rfl
theorem dX9_lays_31 : decode cX9_lays 31 = .ok (.return_, 1) := xdt tbX9_lays_0_ok 17 rfl
def tbX9_goesEager_0 : List (Nat × Instr × Nat) := [(0, .aload_n 0, 1), (1, .iconst 0, 1), (2, .putfield 279, 3), (5, .aload_n 0, 1), (6, .invokevirtual 367, 3), (9, .aload_n 0, 1), (10, .iconst 0, 1), (11, .putfield 355, 3), (14, .iconst 1, 1), (15, .istore_n 2, 1), (16, .iconst 1, 1), (17, .istore_n 3, 1), (18, .iload_n 3, 1), (19, .aload_n 0, 1), (20, .getfield 20, 3), (23, .iconst 0, 1), (24, .iaload, 1), (25, .if_icmp .ge 14, 3), (28, .iload_n 2, 1), (29, .bipush 10, 2), (31, .imul, 1), (32, .istore_n 2, 1), (33, .iinc 3 1, 3), (36, .goto (-18), 3), (39, .iload_n 2, 1), (40, .ifCond .le 43, 3), (43, .aload_n 0, 1), (44, .getfield 20, 3), (47, .iconst 0, 1), (48, .iaload, 1), (49, .ifCond .le 34, 3), (52, .aload_n 0, 1), (53, .getfield 300, 3), (56, .iconst 2, 1), (57, .if_icmp .eq 26, 3), (60, .aload_n 0, 1), (61, .iconst 0, 1), (62, .putfield 300, 3), (65, .aload_n 0, 1), (66, .iload_n 1, 1), (67, .iload_n 2, 1), (68, .idiv, 1), (69, .bipush 10, 2), (71, .irem, 1), (72, .invokevirtual 328, 3), (75, .iload_n 2, 1), (76, .bipush 10, 2), (78, .idiv, 1), (79, .istore_n 2, 1), (80, .goto (-41), 3), (83, .aload_n 0, 1), (84, .getfield 300, 3), (87, .iconst 2, 1), (88, .if_icmp .eq 12, 3), (91, .aload_n 0, 1), (92, .iconst 0, 1), (93, .putfield 300, 3), (96, .aload_n 0, 1), (97, .invokevirtual 370, 3), (100, .return_, 1)]
theorem tbX9_goesEager_0_ok : tbX9_goesEager_0.all (fun q => decide (decode cX9_goesEager q.1 = .ok q.2)) = true := by decide +kernel
theorem dX9_goesEager_0 : decode cX9_goesEager 0 = .ok (.aload_n 0, 1) := xdt tbX9_goesEager_0_ok 0 rfl
theorem dX9_goesEager_1 : decode cX9_goesEager 1 = .ok (.iconst 0, 1) := xdt tbX9_goesEager_0_ok 1 rfl
theorem dX9_goesEager_2 : decode cX9_goesEager 2 = .ok (.putfield 279, 3) := xdt tbX9_goesEager_0_ok 2 rfl
theorem dX9_goesEager_5 : decode cX9_goesEager 5 = .ok (.aload_n 0, 1) := xdt tbX9_goesEager_0_ok 3 rfl
theorem dX9_goesEager_6 : decode cX9_goesEager 6 = .ok (.invokevirtual 367, 3) := xdt tbX9_goesEager_0_ok 4 rfl
theorem dX9_goesEager_9 : decode cX9_goesEager 9 = .ok (.aload_n 0, 1) := xdt tbX9_goesEager_0_ok 5 rfl
theorem dX9_goesEager_10 : decode cX9_goesEager 10 = .ok (.iconst 0, 1) := xdt tbX9_goesEager_0_ok 6 rfl
theorem dX9_goesEager_11 : decode cX9_goesEager 11 = .ok (.putfield 355, 3) := xdt tbX9_goesEager_0_ok 7 rfl
theorem dX9_goesEager_14 : decode cX9_goesEager 14 = .ok (.iconst 1, 1) := xdt tbX9_goesEager_0_ok 8 rfl
theorem dX9_goesEager_15 : decode cX9_goesEager 15 = .ok (.istore_n 2, 1) := xdt tbX9_goesEager_0_ok 9 rfl
theorem dX9_goesEager_16 : decode cX9_goesEager 16 = .ok (.iconst 1, 1) := xdt tbX9_goesEager_0_ok 10 rfl
theorem dX9_goesEager_17 : decode cX9_goesEager 17 = .ok (.istore_n 3, 1) := xdt tbX9_goesEager_0_ok 11 rfl
theorem dX9_goesEager_18 : decode cX9_goesEager 18 = .ok (.iload_n 3, 1) := xdt tbX9_goesEager_0_ok 12 rfl
theorem dX9_goesEager_19 : decode cX9_goesEager 19 = .ok (.aload_n 0, 1) := xdt tbX9_goesEager_0_ok 13 rfl
theorem dX9_goesEager_20 : decode cX9_goesEager 20 = .ok (.getfield 20, 3) := xdt tbX9_goesEager_0_ok 14 rfl
theorem dX9_goesEager_23 : decode cX9_goesEager 23 = .ok (.iconst 0, 1) := xdt tbX9_goesEager_0_ok 15 rfl
theorem dX9_goesEager_24 : decode cX9_goesEager 24 = .ok (.iaload, 1) := xdt tbX9_goesEager_0_ok 16 rfl
theorem dX9_goesEager_25 : decode cX9_goesEager 25 = .ok (.if_icmp .ge 14, 3) := xdt tbX9_goesEager_0_ok 17 rfl
theorem dX9_goesEager_28 : decode cX9_goesEager 28 = .ok (.iload_n 2, 1) := xdt tbX9_goesEager_0_ok 18 rfl
theorem dX9_goesEager_29 : decode cX9_goesEager 29 = .ok (.bipush 10, 2) := xdt tbX9_goesEager_0_ok 19 rfl
theorem dX9_goesEager_31 : decode cX9_goesEager 31 = .ok (.imul, 1) := xdt tbX9_goesEager_0_ok 20 rfl
theorem dX9_goesEager_32 : decode cX9_goesEager 32 = .ok (.istore_n 2, 1) := xdt tbX9_goesEager_0_ok 21 rfl
theorem dX9_goesEager_33 : decode cX9_goesEager 33 = .ok (.iinc 3 1, 3) := xdt tbX9_goesEager_0_ok 22 rfl
theorem dX9_goesEager_36 : decode cX9_goesEager 36 = .ok (.goto (-18), 3) := xdt tbX9_goesEager_0_ok 23 rfl
theorem dX9_goesEager_39 : decode cX9_goesEager 39 = .ok (.iload_n 2, 1) := xdt tbX9_goesEager_0_ok 24 rfl
theorem dX9_goesEager_40 : decode cX9_goesEager 40 = .ok (.ifCond .le 43, 3) := xdt tbX9_goesEager_0_ok 25 rfl
theorem dX9_goesEager_43 : decode cX9_goesEager 43 = .ok (.aload_n 0, 1) := xdt tbX9_goesEager_0_ok 26 rfl
theorem dX9_goesEager_44 : decode cX9_goesEager 44 = .ok (.getfield 20, 3) := xdt tbX9_goesEager_0_ok 27 rfl
theorem dX9_goesEager_47 : decode cX9_goesEager 47 = .ok (.iconst 0, 1) := xdt tbX9_goesEager_0_ok 28 rfl
theorem dX9_goesEager_48 : decode cX9_goesEager 48 = .ok (.iaload, 1) := xdt tbX9_goesEager_0_ok 29 rfl
theorem dX9_goesEager_49 : decode cX9_goesEager 49 = .ok (.ifCond .le 34, 3) := xdt tbX9_goesEager_0_ok 30 rfl
theorem dX9_goesEager_52 : decode cX9_goesEager 52 = .ok (.aload_n 0, 1) := xdt tbX9_goesEager_0_ok 31 rfl
theorem dX9_goesEager_53 : decode cX9_goesEager 53 = .ok (.getfield 300, 3) := xdt tbX9_goesEager_0_ok 32 rfl
theorem dX9_goesEager_56 : decode cX9_goesEager 56 = .ok (.iconst 2, 1) := xdt tbX9_goesEager_0_ok 33 rfl
theorem dX9_goesEager_57 : decode cX9_goesEager 57 = .ok (.if_icmp .eq 26, 3) := xdt tbX9_goesEager_0_ok 34 rfl
theorem dX9_goesEager_60 : decode cX9_goesEager 60 = .ok (.aload_n 0, 1) := xdt tbX9_goesEager_0_ok 35 rfl
theorem dX9_goesEager_61 : decode cX9_goesEager 61 = .ok (.iconst 0, 1) := xdt tbX9_goesEager_0_ok 36 rfl
theorem dX9_goesEager_62 : decode cX9_goesEager 62 = .ok (.putfield 300, 3) := xdt tbX9_goesEager_0_ok 37 rfl
theorem dX9_goesEager_65 : decode cX9_goesEager 65 = .ok (.aload_n 0, 1) := xdt tbX9_goesEager_0_ok 38 rfl
theorem dX9_goesEager_66 : decode cX9_goesEager 66 = .ok (.iload_n 1, 1) := xdt tbX9_goesEager_0_ok 39 rfl
theorem dX9_goesEager_67 : decode cX9_goesEager 67 = .ok (.iload_n 2, 1) := xdt tbX9_goesEager_0_ok 40 rfl
theorem dX9_goesEager_68 : decode cX9_goesEager 68 = .ok (.idiv, 1) := xdt tbX9_goesEager_0_ok 41 rfl
theorem dX9_goesEager_69 : decode cX9_goesEager 69 = .ok (.bipush 10, 2) := xdt tbX9_goesEager_0_ok 42 rfl
theorem dX9_goesEager_71 : decode cX9_goesEager 71 = .ok (.irem, 1) := xdt tbX9_goesEager_0_ok 43 rfl
theorem dX9_goesEager_72 : decode cX9_goesEager 72 = .ok (.invokevirtual 328, 3) := xdt tbX9_goesEager_0_ok 44 rfl
theorem dX9_goesEager_75 : decode cX9_goesEager 75 = .ok (.iload_n 2, 1) := xdt tbX9_goesEager_0_ok 45 rfl
theorem dX9_goesEager_76 : decode cX9_goesEager 76 = .ok (.bipush 10, 2) := xdt tbX9_goesEager_0_ok 46 rfl
theorem dX9_goesEager_78 : decode cX9_goesEager 78 = .ok (.idiv, 1) := xdt tbX9_goesEager_0_ok 47 rfl
theorem dX9_goesEager_79 : decode cX9_goesEager 79 = .ok (.istore_n 2, 1) := xdt tbX9_goesEager_0_ok 48 rfl
theorem dX9_goesEager_80 : decode cX9_goesEager 80 = .ok (.goto (-41), 3) := xdt tbX9_goesEager_0_ok 49 rfl
theorem dX9_goesEager_83 : decode cX9_goesEager 83 = .ok (.aload_n 0, 1) := xdt tbX9_goesEager_0_ok 50 rfl
theorem dX9_goesEager_84 : decode cX9_goesEager 84 = .ok (.getfield 300, 3) := xdt tbX9_goesEager_0_ok 51 rfl
theorem dX9_goesEager_87 : decode cX9_goesEager 87 = .ok (.iconst 2, 1) := xdt tbX9_goesEager_0_ok 52 rfl
theorem dX9_goesEager_88 : decode cX9_goesEager 88 = .ok (.if_icmp .eq 12, 3) := xdt tbX9_goesEager_0_ok 53 rfl
theorem dX9_goesEager_91 : decode cX9_goesEager 91 = .ok (.aload_n 0, 1) := xdt tbX9_goesEager_0_ok 54 rfl
theorem dX9_goesEager_92 : decode cX9_goesEager 92 = .ok (.iconst 0, 1) := xdt tbX9_goesEager_0_ok 55 rfl
theorem dX9_goesEager_93 : decode cX9_goesEager 93 = .ok (.putfield 300, 3) := xdt tbX9_goesEager_0_ok 56 rfl
theorem dX9_goesEager_96 : decode cX9_goesEager 96 = .ok (.aload_n 0, 1) := xdt tbX9_goesEager_0_ok 57 rfl
theorem dX9_goesEager_97 : decode cX9_goesEager 97 = .ok (.invokevirtual 370, 3) := xdt tbX9_goesEager_0_ok 58 rfl
theorem dX9_goesEager_100 : decode cX9_goesEager 100 = .ok (.return_, 1) := xdt tbX9_goesEager_0_ok 59 rfl
def tbX9_isOrder_0 : List (Nat × Instr × Nat) := [(0, .iconst 0, 1), (1, .istore_n 2, 1), (2, .iload_n 1, 1), (3, .istore_n 3, 1), (4, .aload_n 0, 1), (5, .getfield 20, 3), (8, .iconst 0, 1), (9, .iaload, 1), (10, .istore 4, 2), (12, .iconst 0, 1), (13, .istore 5, 2), (15, .iload 5, 2), (17, .iload 4, 2), (19, .if_icmp .ge 31, 3), (22, .iload_n 2, 1), (23, .iload_n 3, 1), (24, .ifCond .ge 7, 3), (27, .iconst 0, 1), (28, .goto 9, 3), (31, .iconst 1, 1), (32, .iload_n 3, 1), (33, .bipush 10, 2), (35, .irem, 1), (36, .ishl, 1), (37, .ior, 1), (38, .istore_n 2, 1), (39, .iload_n 3, 1), (40, .bipush 10, 2), (42, .idiv, 1), (43, .istore_n 3, 1), (44, .iinc 5 1, 3), (47, .goto (-32), 3), (50, .iload_n 1, 1), (51, .ifCond .lt 21, 3), (54, .iload_n 3, 1), (55, .ifCond .ne 17, 3), (58, .iload_n 2, 1), (59, .iconst 1, 1), (60, .iload 4, 2), (62, .ishl, 1), (63, .iconst 1, 1), (64, .isub, 1), (65, .if_icmp .ne 7, 3), (68, .iconst 1, 1), (69, .goto 4, 3), (72, .iconst 0, 1), (73, .ireturn, 1)]
theorem tbX9_isOrder_0_ok : tbX9_isOrder_0.all (fun q => decide (decode cX9_isOrder q.1 = .ok q.2)) = true := by decide +kernel
theorem dX9_isOrder_0 : decode cX9_isOrder 0 = .ok (.iconst 0, 1) := xdt tbX9_isOrder_0_ok 0 rfl
theorem dX9_isOrder_1 : decode cX9_isOrder 1 = .ok (.istore_n 2, 1) := xdt tbX9_isOrder_0_ok 1 rfl
theorem dX9_isOrder_2 : decode cX9_isOrder 2 = .ok (.iload_n 1, 1) := xdt tbX9_isOrder_0_ok 2 rfl
theorem dX9_isOrder_3 : decode cX9_isOrder 3 = .ok (.istore_n 3, 1) := xdt tbX9_isOrder_0_ok 3 rfl
theorem dX9_isOrder_4 : decode cX9_isOrder 4 = .ok (.aload_n 0, 1) := xdt tbX9_isOrder_0_ok 4 rfl
theorem dX9_isOrder_5 : decode cX9_isOrder 5 = .ok (.getfield 20, 3) := xdt tbX9_isOrder_0_ok 5 rfl
theorem dX9_isOrder_8 : decode cX9_isOrder 8 = .ok (.iconst 0, 1) := xdt tbX9_isOrder_0_ok 6 rfl
theorem dX9_isOrder_9 : decode cX9_isOrder 9 = .ok (.iaload, 1) := xdt tbX9_isOrder_0_ok 7 rfl
theorem dX9_isOrder_10 : decode cX9_isOrder 10 = .ok (.istore 4, 2) := xdt tbX9_isOrder_0_ok 8 rfl
theorem dX9_isOrder_12 : decode cX9_isOrder 12 = .ok (.iconst 0, 1) := xdt tbX9_isOrder_0_ok 9 rfl
theorem dX9_isOrder_13 : decode cX9_isOrder 13 = .ok (.istore 5, 2) := xdt tbX9_isOrder_0_ok 10 rfl
theorem dX9_isOrder_15 : decode cX9_isOrder 15 = .ok (.iload 5, 2) := xdt tbX9_isOrder_0_ok 11 rfl
theorem dX9_isOrder_17 : decode cX9_isOrder 17 = .ok (.iload 4, 2) := xdt tbX9_isOrder_0_ok 12 rfl
theorem dX9_isOrder_19 : decode cX9_isOrder 19 = .ok (.if_icmp .ge 31, 3) := xdt tbX9_isOrder_0_ok 13 rfl
theorem dX9_isOrder_22 : decode cX9_isOrder 22 = .ok (.iload_n 2, 1) := xdt tbX9_isOrder_0_ok 14 rfl
theorem dX9_isOrder_23 : decode cX9_isOrder 23 = .ok (.iload_n 3, 1) := xdt tbX9_isOrder_0_ok 15 rfl
theorem dX9_isOrder_24 : decode cX9_isOrder 24 = .ok (.ifCond .ge 7, 3) := xdt tbX9_isOrder_0_ok 16 rfl
theorem dX9_isOrder_27 : decode cX9_isOrder 27 = .ok (.iconst 0, 1) := xdt tbX9_isOrder_0_ok 17 rfl
theorem dX9_isOrder_28 : decode cX9_isOrder 28 = .ok (.goto 9, 3) := xdt tbX9_isOrder_0_ok 18 rfl
theorem dX9_isOrder_31 : decode cX9_isOrder 31 = .ok (.iconst 1, 1) := xdt tbX9_isOrder_0_ok 19 rfl
theorem dX9_isOrder_32 : decode cX9_isOrder 32 = .ok (.iload_n 3, 1) := xdt tbX9_isOrder_0_ok 20 rfl
theorem dX9_isOrder_33 : decode cX9_isOrder 33 = .ok (.bipush 10, 2) := xdt tbX9_isOrder_0_ok 21 rfl
theorem dX9_isOrder_35 : decode cX9_isOrder 35 = .ok (.irem, 1) := xdt tbX9_isOrder_0_ok 22 rfl
theorem dX9_isOrder_36 : decode cX9_isOrder 36 = .ok (.ishl, 1) := xdt tbX9_isOrder_0_ok 23 rfl
theorem dX9_isOrder_37 : decode cX9_isOrder 37 = .ok (.ior, 1) := xdt tbX9_isOrder_0_ok 24 rfl
theorem dX9_isOrder_38 : decode cX9_isOrder 38 = .ok (.istore_n 2, 1) := xdt tbX9_isOrder_0_ok 25 rfl
theorem dX9_isOrder_39 : decode cX9_isOrder 39 = .ok (.iload_n 3, 1) := xdt tbX9_isOrder_0_ok 26 rfl
theorem dX9_isOrder_40 : decode cX9_isOrder 40 = .ok (.bipush 10, 2) := xdt tbX9_isOrder_0_ok 27 rfl
theorem dX9_isOrder_42 : decode cX9_isOrder 42 = .ok (.idiv, 1) := xdt tbX9_isOrder_0_ok 28 rfl
theorem dX9_isOrder_43 : decode cX9_isOrder 43 = .ok (.istore_n 3, 1) := xdt tbX9_isOrder_0_ok 29 rfl
theorem dX9_isOrder_44 : decode cX9_isOrder 44 = .ok (.iinc 5 1, 3) := xdt tbX9_isOrder_0_ok 30 rfl
theorem dX9_isOrder_47 : decode cX9_isOrder 47 = .ok (.goto (-32), 3) := xdt tbX9_isOrder_0_ok 31 rfl
theorem dX9_isOrder_50 : decode cX9_isOrder 50 = .ok (.iload_n 1, 1) := xdt tbX9_isOrder_0_ok 32 rfl
theorem dX9_isOrder_51 : decode cX9_isOrder 51 = .ok (.ifCond .lt 21, 3) := xdt tbX9_isOrder_0_ok 33 rfl
theorem dX9_isOrder_54 : decode cX9_isOrder 54 = .ok (.iload_n 3, 1) := xdt tbX9_isOrder_0_ok 34 rfl
theorem dX9_isOrder_55 : decode cX9_isOrder 55 = .ok (.ifCond .ne 17, 3) := xdt tbX9_isOrder_0_ok 35 rfl
theorem dX9_isOrder_58 : decode cX9_isOrder 58 = .ok (.iload_n 2, 1) := xdt tbX9_isOrder_0_ok 36 rfl
theorem dX9_isOrder_59 : decode cX9_isOrder 59 = .ok (.iconst 1, 1) := xdt tbX9_isOrder_0_ok 37 rfl
theorem dX9_isOrder_60 : decode cX9_isOrder 60 = .ok (.iload 4, 2) := xdt tbX9_isOrder_0_ok 38 rfl
theorem dX9_isOrder_62 : decode cX9_isOrder 62 = .ok (.ishl, 1) := xdt tbX9_isOrder_0_ok 39 rfl
theorem dX9_isOrder_63 : decode cX9_isOrder 63 = .ok (.iconst 1, 1) := xdt tbX9_isOrder_0_ok 40 rfl
theorem dX9_isOrder_64 : decode cX9_isOrder 64 = .ok (.isub, 1) := xdt tbX9_isOrder_0_ok 41 rfl
theorem dX9_isOrder_65 : decode cX9_isOrder 65 = .ok (.if_icmp .ne 7, 3) := xdt tbX9_isOrder_0_ok 42 rfl
theorem dX9_isOrder_68 : decode cX9_isOrder 68 = .ok (.iconst 1, 1) := xdt tbX9_isOrder_0_ok 43 rfl
theorem dX9_isOrder_69 : decode cX9_isOrder 69 = .ok (.goto 4, 3) := xdt tbX9_isOrder_0_ok 44 rfl
theorem dX9_isOrder_72 : decode cX9_isOrder 72 = .ok (.iconst 0, 1) := xdt tbX9_isOrder_0_ok 45 rfl
theorem dX9_isOrder_73 : decode cX9_isOrder 73 = .ok (.ireturn, 1) := xdt tbX9_isOrder_0_ok 46 rfl
def tbX9_told_0 : List (Nat × Instr × Nat) := [(0, .aload_n 0, 1), (1, .iconst 0, 1), (2, .putfield 91, 3), (5, .aload_n 0, 1), (6, .iload_n 1, 1), (7, .iconst 0, 1), (8, .iconst 5, 1), (9, .invokestatic 155, 3), (12, .ifCond .ne 7, 3), (15, .iconst 1, 1), (16, .goto 4, 3), (19, .iconst 0, 1), (20, .iconst 1, 1), (21, .iconst 1, 1), (22, .invokevirtual 257, 3), (25, .ifCond .eq 5, 3), (28, .iconst 0, 1), (29, .ireturn, 1), (30, .iconst 0, 1), (31, .istore_n 2, 1), (32, .iconst 0, 1), (33, .istore_n 3, 1), (34, .iload_n 3, 1), (35, .aload_n 0, 1), (36, .getfield 20, 3), (39, .iconst 1, 1), (40, .iaload, 1), (41, .if_icmp .ge 26, 3), (44, .iload_n 2, 1), (45, .aload_n 0, 1), (46, .getfield 26, 3), (49, .iload_n 3, 1), (50, .baload, 1), (51, .ifCond .eq 7, 3), (54, .iconst 0, 1), (55, .goto 4, 3), (58, .iconst 1, 1), (59, .iadd, 1), (60, .istore_n 2, 1), (61, .iinc 3 1, 3), (64, .goto (-30), 3), (67, .iload_n 1, 1), (68, .ifCond .ne 12, 3), (71, .aload_n 0, 1), (72, .getfield 20, 3), (75, .iconst 0, 1), (76, .iaload, 1), (77, .goto 56, 3), (80, .iload_n 1, 1), (81, .iconst 1, 1), (82, .if_icmp .ne 12, 3), (85, .aload_n 0, 1), (86, .getfield 20, 3), (89, .iconst 4, 1), (90, .iaload, 1), (91, .goto 42, 3), (94, .iload_n 1, 1), (95, .iconst 2, 1), (96, .if_icmp .ne 12, 3), (99, .aload_n 0, 1)]
theorem tbX9_told_0_ok : tbX9_told_0.all (fun q => decide (decode cX9_told q.1 = .ok q.2)) = true := by decide +kernel
theorem dX9_told_0 : decode cX9_told 0 = .ok (.aload_n 0, 1) := xdt tbX9_told_0_ok 0 rfl
theorem dX9_told_1 : decode cX9_told 1 = .ok (.iconst 0, 1) := xdt tbX9_told_0_ok 1 rfl
theorem dX9_told_2 : decode cX9_told 2 = .ok (.putfield 91, 3) := xdt tbX9_told_0_ok 2 rfl
theorem dX9_told_5 : decode cX9_told 5 = .ok (.aload_n 0, 1) := xdt tbX9_told_0_ok 3 rfl
theorem dX9_told_6 : decode cX9_told 6 = .ok (.iload_n 1, 1) := xdt tbX9_told_0_ok 4 rfl
theorem dX9_told_7 : decode cX9_told 7 = .ok (.iconst 0, 1) := xdt tbX9_told_0_ok 5 rfl
theorem dX9_told_8 : decode cX9_told 8 = .ok (.iconst 5, 1) := xdt tbX9_told_0_ok 6 rfl
theorem dX9_told_9 : decode cX9_told 9 = .ok (.invokestatic 155, 3) := xdt tbX9_told_0_ok 7 rfl
theorem dX9_told_12 : decode cX9_told 12 = .ok (.ifCond .ne 7, 3) := xdt tbX9_told_0_ok 8 rfl
theorem dX9_told_15 : decode cX9_told 15 = .ok (.iconst 1, 1) := xdt tbX9_told_0_ok 9 rfl
theorem dX9_told_16 : decode cX9_told 16 = .ok (.goto 4, 3) := xdt tbX9_told_0_ok 10 rfl
theorem dX9_told_19 : decode cX9_told 19 = .ok (.iconst 0, 1) := xdt tbX9_told_0_ok 11 rfl
theorem dX9_told_20 : decode cX9_told 20 = .ok (.iconst 1, 1) := xdt tbX9_told_0_ok 12 rfl
theorem dX9_told_21 : decode cX9_told 21 = .ok (.iconst 1, 1) := xdt tbX9_told_0_ok 13 rfl
theorem dX9_told_22 : decode cX9_told 22 = .ok (.invokevirtual 257, 3) := xdt tbX9_told_0_ok 14 rfl
theorem dX9_told_25 : decode cX9_told 25 = .ok (.ifCond .eq 5, 3) := xdt tbX9_told_0_ok 15 rfl
theorem dX9_told_28 : decode cX9_told 28 = .ok (.iconst 0, 1) := xdt tbX9_told_0_ok 16 rfl
theorem dX9_told_29 : decode cX9_told 29 = .ok (.ireturn, 1) := xdt tbX9_told_0_ok 17 rfl
theorem dX9_told_30 : decode cX9_told 30 = .ok (.iconst 0, 1) := xdt tbX9_told_0_ok 18 rfl
theorem dX9_told_31 : decode cX9_told 31 = .ok (.istore_n 2, 1) := xdt tbX9_told_0_ok 19 rfl
theorem dX9_told_32 : decode cX9_told 32 = .ok (.iconst 0, 1) := xdt tbX9_told_0_ok 20 rfl
theorem dX9_told_33 : decode cX9_told 33 = .ok (.istore_n 3, 1) := xdt tbX9_told_0_ok 21 rfl
theorem dX9_told_34 : decode cX9_told 34 = .ok (.iload_n 3, 1) := xdt tbX9_told_0_ok 22 rfl
theorem dX9_told_35 : decode cX9_told 35 = .ok (.aload_n 0, 1) := xdt tbX9_told_0_ok 23 rfl
theorem dX9_told_36 : decode cX9_told 36 = .ok (.getfield 20, 3) := xdt tbX9_told_0_ok 24 rfl
theorem dX9_told_39 : decode cX9_told 39 = .ok (.iconst 1, 1) := xdt tbX9_told_0_ok 25 rfl
theorem dX9_told_40 : decode cX9_told 40 = .ok (.iaload, 1) := xdt tbX9_told_0_ok 26 rfl
theorem dX9_told_41 : decode cX9_told 41 = .ok (.if_icmp .ge 26, 3) := xdt tbX9_told_0_ok 27 rfl
theorem dX9_told_44 : decode cX9_told 44 = .ok (.iload_n 2, 1) := xdt tbX9_told_0_ok 28 rfl
theorem dX9_told_45 : decode cX9_told 45 = .ok (.aload_n 0, 1) := xdt tbX9_told_0_ok 29 rfl
theorem dX9_told_46 : decode cX9_told 46 = .ok (.getfield 26, 3) := xdt tbX9_told_0_ok 30 rfl
theorem dX9_told_49 : decode cX9_told 49 = .ok (.iload_n 3, 1) := xdt tbX9_told_0_ok 31 rfl
theorem dX9_told_50 : decode cX9_told 50 = .ok (.baload, 1) := xdt tbX9_told_0_ok 32 rfl
theorem dX9_told_51 : decode cX9_told 51 = .ok (.ifCond .eq 7, 3) := xdt tbX9_told_0_ok 33 rfl
theorem dX9_told_54 : decode cX9_told 54 = .ok (.iconst 0, 1) := xdt tbX9_told_0_ok 34 rfl
theorem dX9_told_55 : decode cX9_told 55 = .ok (.goto 4, 3) := xdt tbX9_told_0_ok 35 rfl
theorem dX9_told_58 : decode cX9_told 58 = .ok (.iconst 1, 1) := xdt tbX9_told_0_ok 36 rfl
theorem dX9_told_59 : decode cX9_told 59 = .ok (.iadd, 1) := xdt tbX9_told_0_ok 37 rfl
theorem dX9_told_60 : decode cX9_told 60 = .ok (.istore_n 2, 1) := xdt tbX9_told_0_ok 38 rfl
theorem dX9_told_61 : decode cX9_told 61 = .ok (.iinc 3 1, 3) := xdt tbX9_told_0_ok 39 rfl
theorem dX9_told_64 : decode cX9_told 64 = .ok (.goto (-30), 3) := xdt tbX9_told_0_ok 40 rfl
theorem dX9_told_67 : decode cX9_told 67 = .ok (.iload_n 1, 1) := xdt tbX9_told_0_ok 41 rfl
theorem dX9_told_68 : decode cX9_told 68 = .ok (.ifCond .ne 12, 3) := xdt tbX9_told_0_ok 42 rfl
theorem dX9_told_71 : decode cX9_told 71 = .ok (.aload_n 0, 1) := xdt tbX9_told_0_ok 43 rfl
theorem dX9_told_72 : decode cX9_told 72 = .ok (.getfield 20, 3) := xdt tbX9_told_0_ok 44 rfl
theorem dX9_told_75 : decode cX9_told 75 = .ok (.iconst 0, 1) := xdt tbX9_told_0_ok 45 rfl
theorem dX9_told_76 : decode cX9_told 76 = .ok (.iaload, 1) := xdt tbX9_told_0_ok 46 rfl
theorem dX9_told_77 : decode cX9_told 77 = .ok (.goto 56, 3) := xdt tbX9_told_0_ok 47 rfl
theorem dX9_told_80 : decode cX9_told 80 = .ok (.iload_n 1, 1) := xdt tbX9_told_0_ok 48 rfl
theorem dX9_told_81 : decode cX9_told 81 = .ok (.iconst 1, 1) := xdt tbX9_told_0_ok 49 rfl
theorem dX9_told_82 : decode cX9_told 82 = .ok (.if_icmp .ne 12, 3) := xdt tbX9_told_0_ok 50 rfl
theorem dX9_told_85 : decode cX9_told 85 = .ok (.aload_n 0, 1) := xdt tbX9_told_0_ok 51 rfl
theorem dX9_told_86 : decode cX9_told 86 = .ok (.getfield 20, 3) := xdt tbX9_told_0_ok 52 rfl
theorem dX9_told_89 : decode cX9_told 89 = .ok (.iconst 4, 1) := xdt tbX9_told_0_ok 53 rfl
theorem dX9_told_90 : decode cX9_told 90 = .ok (.iaload, 1) := xdt tbX9_told_0_ok 54 rfl
theorem dX9_told_91 : decode cX9_told 91 = .ok (.goto 42, 3) := xdt tbX9_told_0_ok 55 rfl
theorem dX9_told_94 : decode cX9_told 94 = .ok (.iload_n 1, 1) := xdt tbX9_told_0_ok 56 rfl
theorem dX9_told_95 : decode cX9_told 95 = .ok (.iconst 2, 1) := xdt tbX9_told_0_ok 57 rfl
theorem dX9_told_96 : decode cX9_told 96 = .ok (.if_icmp .ne 12, 3) := xdt tbX9_told_0_ok 58 rfl
theorem dX9_told_99 : decode cX9_told 99 = .ok (.aload_n 0, 1) := xdt tbX9_told_0_ok 59 rfl
def tbX9_told_60 : List (Nat × Instr × Nat) := [(100, .getfield 20, 3), (103, .iconst 1, 1), (104, .iaload, 1), (105, .goto 28, 3), (108, .iload_n 1, 1), (109, .iconst 3, 1), (110, .if_icmp .ne 7, 3), (113, .iload_n 2, 1), (114, .goto 19, 3), (117, .iload_n 1, 1), (118, .iconst 4, 1), (119, .if_icmp .ne 10, 3), (122, .aload_n 0, 1), (123, .getfield 94, 3), (126, .goto 7, 3), (129, .aload_n 0, 1), (130, .getfield 276, 3), (133, .ireturn, 1)]
theorem tbX9_told_60_ok : tbX9_told_60.all (fun q => decide (decode cX9_told q.1 = .ok q.2)) = true := by decide +kernel
theorem dX9_told_100 : decode cX9_told 100 = .ok (.getfield 20, 3) := xdt tbX9_told_60_ok 0 rfl
theorem dX9_told_103 : decode cX9_told 103 = .ok (.iconst 1, 1) := xdt tbX9_told_60_ok 1 rfl
theorem dX9_told_104 : decode cX9_told 104 = .ok (.iaload, 1) := xdt tbX9_told_60_ok 2 rfl
theorem dX9_told_105 : decode cX9_told 105 = .ok (.goto 28, 3) := xdt tbX9_told_60_ok 3 rfl
theorem dX9_told_108 : decode cX9_told 108 = .ok (.iload_n 1, 1) := xdt tbX9_told_60_ok 4 rfl
theorem dX9_told_109 : decode cX9_told 109 = .ok (.iconst 3, 1) := xdt tbX9_told_60_ok 5 rfl
theorem dX9_told_110 : decode cX9_told 110 = .ok (.if_icmp .ne 7, 3) := xdt tbX9_told_60_ok 6 rfl
theorem dX9_told_113 : decode cX9_told 113 = .ok (.iload_n 2, 1) := xdt tbX9_told_60_ok 7 rfl
theorem dX9_told_114 : decode cX9_told 114 = .ok (.goto 19, 3) := xdt tbX9_told_60_ok 8 rfl
theorem dX9_told_117 : decode cX9_told 117 = .ok (.iload_n 1, 1) := xdt tbX9_told_60_ok 9 rfl
theorem dX9_told_118 : decode cX9_told 118 = .ok (.iconst 4, 1) := xdt tbX9_told_60_ok 10 rfl
theorem dX9_told_119 : decode cX9_told 119 = .ok (.if_icmp .ne 10, 3) := xdt tbX9_told_60_ok 11 rfl
theorem dX9_told_122 : decode cX9_told 122 = .ok (.aload_n 0, 1) := xdt tbX9_told_60_ok 12 rfl
theorem dX9_told_123 : decode cX9_told 123 = .ok (.getfield 94, 3) := xdt tbX9_told_60_ok 13 rfl
theorem dX9_told_126 : decode cX9_told 126 = .ok (.goto 7, 3) := xdt tbX9_told_60_ok 14 rfl
theorem dX9_told_129 : decode cX9_told 129 = .ok (.aload_n 0, 1) := xdt tbX9_told_60_ok 15 rfl
theorem dX9_told_130 : decode cX9_told 130 = .ok (.getfield 276, 3) := xdt tbX9_told_60_ok 16 rfl
theorem dX9_told_133 : decode cX9_told 133 = .ok (.ireturn, 1) := xdt tbX9_told_60_ok 17 rfl
def tbX9_manyOf_0 : List (Nat × Instr × Nat) := [(0, .iconst 0, 1), (1, .istore_n 3, 1), (2, .iconst 0, 1), (3, .istore 4, 2), (5, .iload 4, 2), (7, .aload_n 0, 1), (8, .getfield 20, 3), (11, .iload_n 1, 1), (12, .iconst 2, 1), (13, .invokestatic 97, 3), (16, .if_icmp .ge 39, 3), (19, .iload_n 3, 1), (20, .aload_n 0, 1), (21, .getfield 20, 3), (24, .aload_n 0, 1), (25, .getfield 20, 3), (28, .iload_n 1, 1), (29, .iload 4, 2), (31, .invokestatic 101, 3), (34, .iconst 0, 1), (35, .invokestatic 104, 3), (38, .iload_n 2, 1), (39, .if_icmp .ne 7, 3), (42, .iconst 1, 1), (43, .goto 4, 3), (46, .iconst 0, 1), (47, .iadd, 1), (48, .istore_n 3, 1), (49, .iinc 4 1, 3), (52, .goto (-47), 3), (55, .iload_n 3, 1), (56, .ireturn, 1)]
theorem tbX9_manyOf_0_ok : tbX9_manyOf_0.all (fun q => decide (decode cX9_manyOf q.1 = .ok q.2)) = true := by decide +kernel
theorem dX9_manyOf_0 : decode cX9_manyOf 0 = .ok (.iconst 0, 1) := xdt tbX9_manyOf_0_ok 0 rfl
theorem dX9_manyOf_1 : decode cX9_manyOf 1 = .ok (.istore_n 3, 1) := xdt tbX9_manyOf_0_ok 1 rfl
theorem dX9_manyOf_2 : decode cX9_manyOf 2 = .ok (.iconst 0, 1) := xdt tbX9_manyOf_0_ok 2 rfl
theorem dX9_manyOf_3 : decode cX9_manyOf 3 = .ok (.istore 4, 2) := xdt tbX9_manyOf_0_ok 3 rfl
theorem dX9_manyOf_5 : decode cX9_manyOf 5 = .ok (.iload 4, 2) := xdt tbX9_manyOf_0_ok 4 rfl
theorem dX9_manyOf_7 : decode cX9_manyOf 7 = .ok (.aload_n 0, 1) := xdt tbX9_manyOf_0_ok 5 rfl
theorem dX9_manyOf_8 : decode cX9_manyOf 8 = .ok (.getfield 20, 3) := xdt tbX9_manyOf_0_ok 6 rfl
theorem dX9_manyOf_11 : decode cX9_manyOf 11 = .ok (.iload_n 1, 1) := xdt tbX9_manyOf_0_ok 7 rfl
theorem dX9_manyOf_12 : decode cX9_manyOf 12 = .ok (.iconst 2, 1) := xdt tbX9_manyOf_0_ok 8 rfl
theorem dX9_manyOf_13 : decode cX9_manyOf 13 = .ok (.invokestatic 97, 3) := xdt tbX9_manyOf_0_ok 9 rfl
theorem dX9_manyOf_16 : decode cX9_manyOf 16 = .ok (.if_icmp .ge 39, 3) := xdt tbX9_manyOf_0_ok 10 rfl
theorem dX9_manyOf_19 : decode cX9_manyOf 19 = .ok (.iload_n 3, 1) := xdt tbX9_manyOf_0_ok 11 rfl
theorem dX9_manyOf_20 : decode cX9_manyOf 20 = .ok (.aload_n 0, 1) := xdt tbX9_manyOf_0_ok 12 rfl
theorem dX9_manyOf_21 : decode cX9_manyOf 21 = .ok (.getfield 20, 3) := xdt tbX9_manyOf_0_ok 13 rfl
theorem dX9_manyOf_24 : decode cX9_manyOf 24 = .ok (.aload_n 0, 1) := xdt tbX9_manyOf_0_ok 14 rfl
theorem dX9_manyOf_25 : decode cX9_manyOf 25 = .ok (.getfield 20, 3) := xdt tbX9_manyOf_0_ok 15 rfl
theorem dX9_manyOf_28 : decode cX9_manyOf 28 = .ok (.iload_n 1, 1) := xdt tbX9_manyOf_0_ok 16 rfl
theorem dX9_manyOf_29 : decode cX9_manyOf 29 = .ok (.iload 4, 2) := xdt tbX9_manyOf_0_ok 17 rfl
theorem dX9_manyOf_31 : decode cX9_manyOf 31 = .ok (.invokestatic 101, 3) := xdt tbX9_manyOf_0_ok 18 rfl
theorem dX9_manyOf_34 : decode cX9_manyOf 34 = .ok (.iconst 0, 1) := xdt tbX9_manyOf_0_ok 19 rfl
theorem dX9_manyOf_35 : decode cX9_manyOf 35 = .ok (.invokestatic 104, 3) := xdt tbX9_manyOf_0_ok 20 rfl
theorem dX9_manyOf_38 : decode cX9_manyOf 38 = .ok (.iload_n 2, 1) := xdt tbX9_manyOf_0_ok 21 rfl
theorem dX9_manyOf_39 : decode cX9_manyOf 39 = .ok (.if_icmp .ne 7, 3) := xdt tbX9_manyOf_0_ok 22 rfl
theorem dX9_manyOf_42 : decode cX9_manyOf 42 = .ok (.iconst 1, 1) := xdt tbX9_manyOf_0_ok 23 rfl
theorem dX9_manyOf_43 : decode cX9_manyOf 43 = .ok (.goto 4, 3) := xdt tbX9_manyOf_0_ok 24 rfl
theorem dX9_manyOf_46 : decode cX9_manyOf 46 = .ok (.iconst 0, 1) := xdt tbX9_manyOf_0_ok 25 rfl
theorem dX9_manyOf_47 : decode cX9_manyOf 47 = .ok (.iadd, 1) := xdt tbX9_manyOf_0_ok 26 rfl
theorem dX9_manyOf_48 : decode cX9_manyOf 48 = .ok (.istore_n 3, 1) := xdt tbX9_manyOf_0_ok 27 rfl
theorem dX9_manyOf_49 : decode cX9_manyOf 49 = .ok (.iinc 4 1, 3) := xdt tbX9_manyOf_0_ok 28 rfl
theorem dX9_manyOf_52 : decode cX9_manyOf 52 = .ok (.goto (-47), 3) := xdt tbX9_manyOf_0_ok 29 rfl
theorem dX9_manyOf_55 : decode cX9_manyOf 55 = .ok (.iload_n 3, 1) := xdt tbX9_manyOf_0_ok 30 rfl
theorem dX9_manyOf_56 : decode cX9_manyOf 56 = .ok (.ireturn, 1) := xdt tbX9_manyOf_0_ok 31 rfl
def tbX9_unit_0 : List (Nat × Instr × Nat) := [(0, .aload_n 0, 1), (1, .iconst 0, 1), (2, .putfield 91, 3), (5, .aload_n 0, 1), (6, .aload_n 0, 1), (7, .iload_n 1, 1), (8, .invokevirtual 283, 3), (11, .ifCond .ne 7, 3), (14, .iconst 1, 1), (15, .goto 4, 3), (18, .iconst 0, 1), (19, .iconst 1, 1), (20, .iconst 0, 1), (21, .invokevirtual 257, 3), (24, .ifCond .ne 26, 3), (27, .aload_n 0, 1), (28, .iload_n 2, 1), (29, .iconst 0, 1), (30, .iconst 4, 1), (31, .invokestatic 155, 3), (34, .ifCond .ne 7, 3), (37, .iconst 1, 1), (38, .goto 4, 3), (41, .iconst 0, 1), (42, .iconst 2, 1), (43, .iconst 1, 1), (44, .invokevirtual 257, 3), (47, .ifCond .eq 5, 3), (50, .iconst 0, 1), (51, .ireturn, 1), (52, .iload_n 2, 1), (53, .iconst 3, 1), (54, .if_icmp .ge 15, 3), (57, .aload_n 0, 1), (58, .getfield 20, 3), (61, .iload_n 1, 1), (62, .iload_n 2, 1), (63, .invokestatic 97, 3), (66, .goto 18, 3), (69, .aload_n 0, 1), (70, .iload_n 1, 1), (71, .iload_n 2, 1), (72, .iconst 3, 1), (73, .if_icmp .ne 7, 3), (76, .iconst 1, 1), (77, .goto 4, 3), (80, .iconst 4, 1), (81, .invokevirtual 373, 3), (84, .ireturn, 1)]
theorem tbX9_unit_0_ok : tbX9_unit_0.all (fun q => decide (decode cX9_unit q.1 = .ok q.2)) = true := by decide +kernel
theorem dX9_unit_0 : decode cX9_unit 0 = .ok (.aload_n 0, 1) := xdt tbX9_unit_0_ok 0 rfl
theorem dX9_unit_1 : decode cX9_unit 1 = .ok (.iconst 0, 1) := xdt tbX9_unit_0_ok 1 rfl
theorem dX9_unit_2 : decode cX9_unit 2 = .ok (.putfield 91, 3) := xdt tbX9_unit_0_ok 2 rfl
theorem dX9_unit_5 : decode cX9_unit 5 = .ok (.aload_n 0, 1) := xdt tbX9_unit_0_ok 3 rfl
theorem dX9_unit_6 : decode cX9_unit 6 = .ok (.aload_n 0, 1) := xdt tbX9_unit_0_ok 4 rfl
theorem dX9_unit_7 : decode cX9_unit 7 = .ok (.iload_n 1, 1) := xdt tbX9_unit_0_ok 5 rfl
theorem dX9_unit_8 : decode cX9_unit 8 = .ok (.invokevirtual 283, 3) := xdt tbX9_unit_0_ok 6 rfl
theorem dX9_unit_11 : decode cX9_unit 11 = .ok (.ifCond .ne 7, 3) := xdt tbX9_unit_0_ok 7 rfl
theorem dX9_unit_14 : decode cX9_unit 14 = .ok (.iconst 1, 1) := xdt tbX9_unit_0_ok 8 rfl
theorem dX9_unit_15 : decode cX9_unit 15 = .ok (.goto 4, 3) := xdt tbX9_unit_0_ok 9 rfl
theorem dX9_unit_18 : decode cX9_unit 18 = .ok (.iconst 0, 1) := xdt tbX9_unit_0_ok 10 rfl
theorem dX9_unit_19 : decode cX9_unit 19 = .ok (.iconst 1, 1) := xdt tbX9_unit_0_ok 11 rfl
theorem dX9_unit_20 : decode cX9_unit 20 = .ok (.iconst 0, 1) := xdt tbX9_unit_0_ok 12 rfl
theorem dX9_unit_21 : decode cX9_unit 21 = .ok (.invokevirtual 257, 3) := xdt tbX9_unit_0_ok 13 rfl
theorem dX9_unit_24 : decode cX9_unit 24 = .ok (.ifCond .ne 26, 3) := xdt tbX9_unit_0_ok 14 rfl
theorem dX9_unit_27 : decode cX9_unit 27 = .ok (.aload_n 0, 1) := xdt tbX9_unit_0_ok 15 rfl
theorem dX9_unit_28 : decode cX9_unit 28 = .ok (.iload_n 2, 1) := xdt tbX9_unit_0_ok 16 rfl
theorem dX9_unit_29 : decode cX9_unit 29 = .ok (.iconst 0, 1) := xdt tbX9_unit_0_ok 17 rfl
theorem dX9_unit_30 : decode cX9_unit 30 = .ok (.iconst 4, 1) := xdt tbX9_unit_0_ok 18 rfl
theorem dX9_unit_31 : decode cX9_unit 31 = .ok (.invokestatic 155, 3) := xdt tbX9_unit_0_ok 19 rfl
theorem dX9_unit_34 : decode cX9_unit 34 = .ok (.ifCond .ne 7, 3) := xdt tbX9_unit_0_ok 20 rfl
theorem dX9_unit_37 : decode cX9_unit 37 = .ok (.iconst 1, 1) := xdt tbX9_unit_0_ok 21 rfl
theorem dX9_unit_38 : decode cX9_unit 38 = .ok (.goto 4, 3) := xdt tbX9_unit_0_ok 22 rfl
theorem dX9_unit_41 : decode cX9_unit 41 = .ok (.iconst 0, 1) := xdt tbX9_unit_0_ok 23 rfl
theorem dX9_unit_42 : decode cX9_unit 42 = .ok (.iconst 2, 1) := xdt tbX9_unit_0_ok 24 rfl
theorem dX9_unit_43 : decode cX9_unit 43 = .ok (.iconst 1, 1) := xdt tbX9_unit_0_ok 25 rfl
theorem dX9_unit_44 : decode cX9_unit 44 = .ok (.invokevirtual 257, 3) := xdt tbX9_unit_0_ok 26 rfl
theorem dX9_unit_47 : decode cX9_unit 47 = .ok (.ifCond .eq 5, 3) := xdt tbX9_unit_0_ok 27 rfl
theorem dX9_unit_50 : decode cX9_unit 50 = .ok (.iconst 0, 1) := xdt tbX9_unit_0_ok 28 rfl
theorem dX9_unit_51 : decode cX9_unit 51 = .ok (.ireturn, 1) := xdt tbX9_unit_0_ok 29 rfl
theorem dX9_unit_52 : decode cX9_unit 52 = .ok (.iload_n 2, 1) := xdt tbX9_unit_0_ok 30 rfl
theorem dX9_unit_53 : decode cX9_unit 53 = .ok (.iconst 3, 1) := xdt tbX9_unit_0_ok 31 rfl
theorem dX9_unit_54 : decode cX9_unit 54 = .ok (.if_icmp .ge 15, 3) := xdt tbX9_unit_0_ok 32 rfl
theorem dX9_unit_57 : decode cX9_unit 57 = .ok (.aload_n 0, 1) := xdt tbX9_unit_0_ok 33 rfl
theorem dX9_unit_58 : decode cX9_unit 58 = .ok (.getfield 20, 3) := xdt tbX9_unit_0_ok 34 rfl
theorem dX9_unit_61 : decode cX9_unit 61 = .ok (.iload_n 1, 1) := xdt tbX9_unit_0_ok 35 rfl
theorem dX9_unit_62 : decode cX9_unit 62 = .ok (.iload_n 2, 1) := xdt tbX9_unit_0_ok 36 rfl
theorem dX9_unit_63 : decode cX9_unit 63 = .ok (.invokestatic 97, 3) := xdt tbX9_unit_0_ok 37 rfl
theorem dX9_unit_66 : decode cX9_unit 66 = .ok (.goto 18, 3) := xdt tbX9_unit_0_ok 38 rfl
theorem dX9_unit_69 : decode cX9_unit 69 = .ok (.aload_n 0, 1) := xdt tbX9_unit_0_ok 39 rfl
theorem dX9_unit_70 : decode cX9_unit 70 = .ok (.iload_n 1, 1) := xdt tbX9_unit_0_ok 40 rfl
theorem dX9_unit_71 : decode cX9_unit 71 = .ok (.iload_n 2, 1) := xdt tbX9_unit_0_ok 41 rfl
theorem dX9_unit_72 : decode cX9_unit 72 = .ok (.iconst 3, 1) := xdt tbX9_unit_0_ok 42 rfl
theorem dX9_unit_73 : decode cX9_unit 73 = .ok (.if_icmp .ne 7, 3) := xdt tbX9_unit_0_ok 43 rfl
theorem dX9_unit_76 : decode cX9_unit 76 = .ok (.iconst 1, 1) := xdt tbX9_unit_0_ok 44 rfl
theorem dX9_unit_77 : decode cX9_unit 77 = .ok (.goto 4, 3) := xdt tbX9_unit_0_ok 45 rfl
theorem dX9_unit_80 : decode cX9_unit 80 = .ok (.iconst 4, 1) := xdt tbX9_unit_0_ok 46 rfl
theorem dX9_unit_81 : decode cX9_unit 81 = .ok (.invokevirtual 373, 3) := xdt tbX9_unit_0_ok 47 rfl
theorem dX9_unit_84 : decode cX9_unit 84 = .ok (.ireturn, 1) := xdt tbX9_unit_0_ok 48 rfl
def tbX9_termsOf_0 : List (Nat × Instr × Nat) := [(0, .iconst 0, 1), (1, .istore_n 2, 1), (2, .iload_n 1, 1), (3, .istore_n 3, 1), (4, .iload_n 3, 1), (5, .iconst (-1), 1), (6, .if_icmp .eq 49, 3), (9, .iload_n 2, 1), (10, .aload_n 0, 1), (11, .getfield 20, 3), (14, .iload_n 3, 1), (15, .iconst 1, 1), (16, .invokestatic 254, 3), (19, .iconst 4, 1), (20, .if_icmp .ne 19, 3), (23, .aload_n 0, 1), (24, .aload_n 0, 1), (25, .getfield 20, 3), (28, .iload_n 3, 1), (29, .iconst 2, 1), (30, .invokestatic 254, 3), (33, .invokevirtual 376, 3), (36, .goto 4, 3), (39, .iconst 1, 1), (40, .iadd, 1), (41, .istore_n 2, 1), (42, .aload_n 0, 1), (43, .getfield 20, 3), (46, .iload_n 3, 1), (47, .iconst 4, 1), (48, .invokestatic 254, 3), (51, .istore_n 3, 1), (52, .goto (-48), 3), (55, .iload_n 2, 1), (56, .ireturn, 1)]
theorem tbX9_termsOf_0_ok : tbX9_termsOf_0.all (fun q => decide (decode cX9_termsOf q.1 = .ok q.2)) = true := by decide +kernel
theorem dX9_termsOf_0 : decode cX9_termsOf 0 = .ok (.iconst 0, 1) := xdt tbX9_termsOf_0_ok 0 rfl
theorem dX9_termsOf_1 : decode cX9_termsOf 1 = .ok (.istore_n 2, 1) := xdt tbX9_termsOf_0_ok 1 rfl
theorem dX9_termsOf_2 : decode cX9_termsOf 2 = .ok (.iload_n 1, 1) := xdt tbX9_termsOf_0_ok 2 rfl
theorem dX9_termsOf_3 : decode cX9_termsOf 3 = .ok (.istore_n 3, 1) := xdt tbX9_termsOf_0_ok 3 rfl
theorem dX9_termsOf_4 : decode cX9_termsOf 4 = .ok (.iload_n 3, 1) := xdt tbX9_termsOf_0_ok 4 rfl
theorem dX9_termsOf_5 : decode cX9_termsOf 5 = .ok (.iconst (-1), 1) := xdt tbX9_termsOf_0_ok 5 rfl
theorem dX9_termsOf_6 : decode cX9_termsOf 6 = .ok (.if_icmp .eq 49, 3) := xdt tbX9_termsOf_0_ok 6 rfl
theorem dX9_termsOf_9 : decode cX9_termsOf 9 = .ok (.iload_n 2, 1) := xdt tbX9_termsOf_0_ok 7 rfl
theorem dX9_termsOf_10 : decode cX9_termsOf 10 = .ok (.aload_n 0, 1) := xdt tbX9_termsOf_0_ok 8 rfl
theorem dX9_termsOf_11 : decode cX9_termsOf 11 = .ok (.getfield 20, 3) := xdt tbX9_termsOf_0_ok 9 rfl
theorem dX9_termsOf_14 : decode cX9_termsOf 14 = .ok (.iload_n 3, 1) := xdt tbX9_termsOf_0_ok 10 rfl
theorem dX9_termsOf_15 : decode cX9_termsOf 15 = .ok (.iconst 1, 1) := xdt tbX9_termsOf_0_ok 11 rfl
theorem dX9_termsOf_16 : decode cX9_termsOf 16 = .ok (.invokestatic 254, 3) := xdt tbX9_termsOf_0_ok 12 rfl
theorem dX9_termsOf_19 : decode cX9_termsOf 19 = .ok (.iconst 4, 1) := xdt tbX9_termsOf_0_ok 13 rfl
theorem dX9_termsOf_20 : decode cX9_termsOf 20 = .ok (.if_icmp .ne 19, 3) := xdt tbX9_termsOf_0_ok 14 rfl
theorem dX9_termsOf_23 : decode cX9_termsOf 23 = .ok (.aload_n 0, 1) := xdt tbX9_termsOf_0_ok 15 rfl
theorem dX9_termsOf_24 : decode cX9_termsOf 24 = .ok (.aload_n 0, 1) := xdt tbX9_termsOf_0_ok 16 rfl
theorem dX9_termsOf_25 : decode cX9_termsOf 25 = .ok (.getfield 20, 3) := xdt tbX9_termsOf_0_ok 17 rfl
theorem dX9_termsOf_28 : decode cX9_termsOf 28 = .ok (.iload_n 3, 1) := xdt tbX9_termsOf_0_ok 18 rfl
theorem dX9_termsOf_29 : decode cX9_termsOf 29 = .ok (.iconst 2, 1) := xdt tbX9_termsOf_0_ok 19 rfl
theorem dX9_termsOf_30 : decode cX9_termsOf 30 = .ok (.invokestatic 254, 3) := xdt tbX9_termsOf_0_ok 20 rfl
theorem dX9_termsOf_33 : decode cX9_termsOf 33 = .ok (.invokevirtual 376, 3) := xdt tbX9_termsOf_0_ok 21 rfl
theorem dX9_termsOf_36 : decode cX9_termsOf 36 = .ok (.goto 4, 3) := xdt tbX9_termsOf_0_ok 22 rfl
theorem dX9_termsOf_39 : decode cX9_termsOf 39 = .ok (.iconst 1, 1) := xdt tbX9_termsOf_0_ok 23 rfl
theorem dX9_termsOf_40 : decode cX9_termsOf 40 = .ok (.iadd, 1) := xdt tbX9_termsOf_0_ok 24 rfl
theorem dX9_termsOf_41 : decode cX9_termsOf 41 = .ok (.istore_n 2, 1) := xdt tbX9_termsOf_0_ok 25 rfl
theorem dX9_termsOf_42 : decode cX9_termsOf 42 = .ok (.aload_n 0, 1) := xdt tbX9_termsOf_0_ok 26 rfl
theorem dX9_termsOf_43 : decode cX9_termsOf 43 = .ok (.getfield 20, 3) := xdt tbX9_termsOf_0_ok 27 rfl
theorem dX9_termsOf_46 : decode cX9_termsOf 46 = .ok (.iload_n 3, 1) := xdt tbX9_termsOf_0_ok 28 rfl
theorem dX9_termsOf_47 : decode cX9_termsOf 47 = .ok (.iconst 4, 1) := xdt tbX9_termsOf_0_ok 29 rfl
theorem dX9_termsOf_48 : decode cX9_termsOf 48 = .ok (.invokestatic 254, 3) := xdt tbX9_termsOf_0_ok 30 rfl
theorem dX9_termsOf_51 : decode cX9_termsOf 51 = .ok (.istore_n 3, 1) := xdt tbX9_termsOf_0_ok 31 rfl
theorem dX9_termsOf_52 : decode cX9_termsOf 52 = .ok (.goto (-48), 3) := xdt tbX9_termsOf_0_ok 32 rfl
theorem dX9_termsOf_55 : decode cX9_termsOf 55 = .ok (.iload_n 2, 1) := xdt tbX9_termsOf_0_ok 33 rfl
theorem dX9_termsOf_56 : decode cX9_termsOf 56 = .ok (.ireturn, 1) := xdt tbX9_termsOf_0_ok 34 rfl
def tbX9_member_0 : List (Nat × Instr × Nat) := [(0, .aload_n 0, 1), (1, .iconst 0, 1), (2, .putfield 91, 3), (5, .aload_n 0, 1), (6, .aload_n 0, 1), (7, .iload_n 1, 1), (8, .iload_n 2, 1), (9, .invokevirtual 286, 3), (12, .ifCond .ne 7, 3), (15, .iconst 1, 1), (16, .goto 4, 3), (19, .iconst 0, 1), (20, .iconst 1, 1), (21, .iconst 0, 1), (22, .invokevirtual 257, 3), (25, .ifCond .ne 26, 3), (28, .aload_n 0, 1), (29, .iload_n 3, 1), (30, .iconst 0, 1), (31, .iconst 4, 1), (32, .invokestatic 155, 3), (35, .ifCond .ne 7, 3), (38, .iconst 1, 1), (39, .goto 4, 3), (42, .iconst 0, 1), (43, .iconst 2, 1), (44, .iconst 1, 1), (45, .invokevirtual 257, 3), (48, .ifCond .eq 5, 3), (51, .iconst 0, 1), (52, .ireturn, 1), (53, .aload_n 0, 1), (54, .getfield 20, 3), (57, .iload_n 1, 1), (58, .iload_n 2, 1), (59, .invokestatic 101, 3), (62, .istore 4, 2), (64, .aload_n 0, 1), (65, .getfield 20, 3), (68, .iload 4, 2), (70, .iconst 0, 1), (71, .invokestatic 104, 3), (74, .istore 5, 2), (76, .aload_n 0, 1), (77, .getfield 20, 3), (80, .iload 4, 2), (82, .iconst 2, 1), (83, .invokestatic 104, 3), (86, .istore 6, 2), (88, .iload_n 3, 1), (89, .tableswitch 129 0 3 #[31, 34, 50, 88], 31), (120, .iload 5, 2), (122, .ireturn, 1), (123, .aload_n 0, 1), (124, .getfield 26, 3), (127, .iload 4, 2), (129, .baload, 1), (130, .ifCond .eq 7, 3), (133, .iconst 0, 1), (134, .goto 4, 3)]
theorem tbX9_member_0_ok : tbX9_member_0.all (fun q => decide (decode cX9_member q.1 = .ok q.2)) = true := by decide +kernel
theorem dX9_member_0 : decode cX9_member 0 = .ok (.aload_n 0, 1) := xdt tbX9_member_0_ok 0 rfl
theorem dX9_member_1 : decode cX9_member 1 = .ok (.iconst 0, 1) := xdt tbX9_member_0_ok 1 rfl
theorem dX9_member_2 : decode cX9_member 2 = .ok (.putfield 91, 3) := xdt tbX9_member_0_ok 2 rfl
theorem dX9_member_5 : decode cX9_member 5 = .ok (.aload_n 0, 1) := xdt tbX9_member_0_ok 3 rfl
theorem dX9_member_6 : decode cX9_member 6 = .ok (.aload_n 0, 1) := xdt tbX9_member_0_ok 4 rfl
theorem dX9_member_7 : decode cX9_member 7 = .ok (.iload_n 1, 1) := xdt tbX9_member_0_ok 5 rfl
theorem dX9_member_8 : decode cX9_member 8 = .ok (.iload_n 2, 1) := xdt tbX9_member_0_ok 6 rfl
theorem dX9_member_9 : decode cX9_member 9 = .ok (.invokevirtual 286, 3) := xdt tbX9_member_0_ok 7 rfl
theorem dX9_member_12 : decode cX9_member 12 = .ok (.ifCond .ne 7, 3) := xdt tbX9_member_0_ok 8 rfl
theorem dX9_member_15 : decode cX9_member 15 = .ok (.iconst 1, 1) := xdt tbX9_member_0_ok 9 rfl
theorem dX9_member_16 : decode cX9_member 16 = .ok (.goto 4, 3) := xdt tbX9_member_0_ok 10 rfl
theorem dX9_member_19 : decode cX9_member 19 = .ok (.iconst 0, 1) := xdt tbX9_member_0_ok 11 rfl
theorem dX9_member_20 : decode cX9_member 20 = .ok (.iconst 1, 1) := xdt tbX9_member_0_ok 12 rfl
theorem dX9_member_21 : decode cX9_member 21 = .ok (.iconst 0, 1) := xdt tbX9_member_0_ok 13 rfl
theorem dX9_member_22 : decode cX9_member 22 = .ok (.invokevirtual 257, 3) := xdt tbX9_member_0_ok 14 rfl
theorem dX9_member_25 : decode cX9_member 25 = .ok (.ifCond .ne 26, 3) := xdt tbX9_member_0_ok 15 rfl
theorem dX9_member_28 : decode cX9_member 28 = .ok (.aload_n 0, 1) := xdt tbX9_member_0_ok 16 rfl
theorem dX9_member_29 : decode cX9_member 29 = .ok (.iload_n 3, 1) := xdt tbX9_member_0_ok 17 rfl
theorem dX9_member_30 : decode cX9_member 30 = .ok (.iconst 0, 1) := xdt tbX9_member_0_ok 18 rfl
theorem dX9_member_31 : decode cX9_member 31 = .ok (.iconst 4, 1) := xdt tbX9_member_0_ok 19 rfl
theorem dX9_member_32 : decode cX9_member 32 = .ok (.invokestatic 155, 3) := xdt tbX9_member_0_ok 20 rfl
theorem dX9_member_35 : decode cX9_member 35 = .ok (.ifCond .ne 7, 3) := xdt tbX9_member_0_ok 21 rfl
theorem dX9_member_38 : decode cX9_member 38 = .ok (.iconst 1, 1) := xdt tbX9_member_0_ok 22 rfl
theorem dX9_member_39 : decode cX9_member 39 = .ok (.goto 4, 3) := xdt tbX9_member_0_ok 23 rfl
theorem dX9_member_42 : decode cX9_member 42 = .ok (.iconst 0, 1) := xdt tbX9_member_0_ok 24 rfl
theorem dX9_member_43 : decode cX9_member 43 = .ok (.iconst 2, 1) := xdt tbX9_member_0_ok 25 rfl
theorem dX9_member_44 : decode cX9_member 44 = .ok (.iconst 1, 1) := xdt tbX9_member_0_ok 26 rfl
theorem dX9_member_45 : decode cX9_member 45 = .ok (.invokevirtual 257, 3) := xdt tbX9_member_0_ok 27 rfl
theorem dX9_member_48 : decode cX9_member 48 = .ok (.ifCond .eq 5, 3) := xdt tbX9_member_0_ok 28 rfl
theorem dX9_member_51 : decode cX9_member 51 = .ok (.iconst 0, 1) := xdt tbX9_member_0_ok 29 rfl
theorem dX9_member_52 : decode cX9_member 52 = .ok (.ireturn, 1) := xdt tbX9_member_0_ok 30 rfl
theorem dX9_member_53 : decode cX9_member 53 = .ok (.aload_n 0, 1) := xdt tbX9_member_0_ok 31 rfl
theorem dX9_member_54 : decode cX9_member 54 = .ok (.getfield 20, 3) := xdt tbX9_member_0_ok 32 rfl
theorem dX9_member_57 : decode cX9_member 57 = .ok (.iload_n 1, 1) := xdt tbX9_member_0_ok 33 rfl
theorem dX9_member_58 : decode cX9_member 58 = .ok (.iload_n 2, 1) := xdt tbX9_member_0_ok 34 rfl
theorem dX9_member_59 : decode cX9_member 59 = .ok (.invokestatic 101, 3) := xdt tbX9_member_0_ok 35 rfl
theorem dX9_member_62 : decode cX9_member 62 = .ok (.istore 4, 2) := xdt tbX9_member_0_ok 36 rfl
theorem dX9_member_64 : decode cX9_member 64 = .ok (.aload_n 0, 1) := xdt tbX9_member_0_ok 37 rfl
theorem dX9_member_65 : decode cX9_member 65 = .ok (.getfield 20, 3) := xdt tbX9_member_0_ok 38 rfl
theorem dX9_member_68 : decode cX9_member 68 = .ok (.iload 4, 2) := xdt tbX9_member_0_ok 39 rfl
theorem dX9_member_70 : decode cX9_member 70 = .ok (.iconst 0, 1) := xdt tbX9_member_0_ok 40 rfl
theorem dX9_member_71 : decode cX9_member 71 = .ok (.invokestatic 104, 3) := xdt tbX9_member_0_ok 41 rfl
theorem dX9_member_74 : decode cX9_member 74 = .ok (.istore 5, 2) := xdt tbX9_member_0_ok 42 rfl
theorem dX9_member_76 : decode cX9_member 76 = .ok (.aload_n 0, 1) := xdt tbX9_member_0_ok 43 rfl
theorem dX9_member_77 : decode cX9_member 77 = .ok (.getfield 20, 3) := xdt tbX9_member_0_ok 44 rfl
theorem dX9_member_80 : decode cX9_member 80 = .ok (.iload 4, 2) := xdt tbX9_member_0_ok 45 rfl
theorem dX9_member_82 : decode cX9_member 82 = .ok (.iconst 2, 1) := xdt tbX9_member_0_ok 46 rfl
theorem dX9_member_83 : decode cX9_member 83 = .ok (.invokestatic 104, 3) := xdt tbX9_member_0_ok 47 rfl
theorem dX9_member_86 : decode cX9_member 86 = .ok (.istore 6, 2) := xdt tbX9_member_0_ok 48 rfl
theorem dX9_member_88 : decode cX9_member 88 = .ok (.iload_n 3, 1) := xdt tbX9_member_0_ok 49 rfl
theorem dX9_member_89 : decode cX9_member 89 = .ok (.tableswitch 129 0 3 #[31, 34, 50, 88], 31) := xdt tbX9_member_0_ok 50 rfl
theorem dX9_member_120 : decode cX9_member 120 = .ok (.iload 5, 2) := xdt tbX9_member_0_ok 51 rfl
theorem dX9_member_122 : decode cX9_member 122 = .ok (.ireturn, 1) := xdt tbX9_member_0_ok 52 rfl
theorem dX9_member_123 : decode cX9_member 123 = .ok (.aload_n 0, 1) := xdt tbX9_member_0_ok 53 rfl
theorem dX9_member_124 : decode cX9_member 124 = .ok (.getfield 26, 3) := xdt tbX9_member_0_ok 54 rfl
theorem dX9_member_127 : decode cX9_member 127 = .ok (.iload 4, 2) := xdt tbX9_member_0_ok 55 rfl
theorem dX9_member_129 : decode cX9_member 129 = .ok (.baload, 1) := xdt tbX9_member_0_ok 56 rfl
theorem dX9_member_130 : decode cX9_member 130 = .ok (.ifCond .eq 7, 3) := xdt tbX9_member_0_ok 57 rfl
theorem dX9_member_133 : decode cX9_member 133 = .ok (.iconst 0, 1) := xdt tbX9_member_0_ok 58 rfl
theorem dX9_member_134 : decode cX9_member 134 = .ok (.goto 4, 3) := xdt tbX9_member_0_ok 59 rfl
def tbX9_member_60 : List (Nat × Instr × Nat) := [(137, .iconst 1, 1), (138, .ireturn, 1), (139, .iload 5, 2), (141, .iconst 3, 1), (142, .if_icmp .ne 24, 3), (145, .aload_n 0, 1), (146, .getfield 20, 3), (149, .aload_n 0, 1), (150, .getfield 20, 3), (153, .iload 6, 2), (155, .iconst 1, 1), (156, .invokestatic 244, 3), (159, .iconst 1, 1), (160, .invokestatic 104, 3), (163, .goto 13, 3), (166, .aload_n 0, 1), (167, .getfield 20, 3), (170, .iload 4, 2), (172, .iconst 1, 1), (173, .invokestatic 104, 3), (176, .ireturn, 1), (177, .iload 5, 2), (179, .ifCond .ne 7, 3), (182, .iconst 0, 1), (183, .goto 34, 3), (186, .aload_n 0, 1), (187, .iload 5, 2), (189, .iconst 2, 1), (190, .if_icmp .eq 9, 3), (193, .iload 5, 2), (195, .iconst 3, 1), (196, .if_icmp .ne 16, 3), (199, .aload_n 0, 1), (200, .getfield 20, 3), (203, .iload 6, 2), (205, .iconst 2, 1), (206, .invokestatic 244, 3), (209, .goto 5, 3), (212, .iload 6, 2), (214, .invokevirtual 376, 3), (217, .ireturn, 1), (218, .iload 5, 2), (220, .ifCond .ne 8, 3), (223, .iload 6, 2), (225, .goto 42, 3), (228, .iload 5, 2), (230, .iconst 3, 1), (231, .if_icmp .ne 16, 3), (234, .aload_n 0, 1), (235, .getfield 20, 3), (238, .iload 6, 2), (240, .iconst 0, 1), (241, .invokestatic 244, 3), (244, .goto 23, 3), (247, .iload 5, 2), (249, .iconst 4, 1), (250, .if_icmp .ne 16, 3), (253, .aload_n 0, 1), (254, .getfield 20, 3), (257, .iload 4, 2)]
theorem tbX9_member_60_ok : tbX9_member_60.all (fun q => decide (decode cX9_member q.1 = .ok q.2)) = true := by decide +kernel
theorem dX9_member_137 : decode cX9_member 137 = .ok (.iconst 1, 1) := xdt tbX9_member_60_ok 0 rfl
theorem dX9_member_138 : decode cX9_member 138 = .ok (.ireturn, 1) := xdt tbX9_member_60_ok 1 rfl
theorem dX9_member_139 : decode cX9_member 139 = .ok (.iload 5, 2) := xdt tbX9_member_60_ok 2 rfl
theorem dX9_member_141 : decode cX9_member 141 = .ok (.iconst 3, 1) := xdt tbX9_member_60_ok 3 rfl
theorem dX9_member_142 : decode cX9_member 142 = .ok (.if_icmp .ne 24, 3) := xdt tbX9_member_60_ok 4 rfl
theorem dX9_member_145 : decode cX9_member 145 = .ok (.aload_n 0, 1) := xdt tbX9_member_60_ok 5 rfl
theorem dX9_member_146 : decode cX9_member 146 = .ok (.getfield 20, 3) := xdt tbX9_member_60_ok 6 rfl
theorem dX9_member_149 : decode cX9_member 149 = .ok (.aload_n 0, 1) := xdt tbX9_member_60_ok 7 rfl
theorem dX9_member_150 : decode cX9_member 150 = .ok (.getfield 20, 3) := xdt tbX9_member_60_ok 8 rfl
theorem dX9_member_153 : decode cX9_member 153 = .ok (.iload 6, 2) := xdt tbX9_member_60_ok 9 rfl
theorem dX9_member_155 : decode cX9_member 155 = .ok (.iconst 1, 1) := xdt tbX9_member_60_ok 10 rfl
theorem dX9_member_156 : decode cX9_member 156 = .ok (.invokestatic 244, 3) := xdt tbX9_member_60_ok 11 rfl
theorem dX9_member_159 : decode cX9_member 159 = .ok (.iconst 1, 1) := xdt tbX9_member_60_ok 12 rfl
theorem dX9_member_160 : decode cX9_member 160 = .ok (.invokestatic 104, 3) := xdt tbX9_member_60_ok 13 rfl
theorem dX9_member_163 : decode cX9_member 163 = .ok (.goto 13, 3) := xdt tbX9_member_60_ok 14 rfl
theorem dX9_member_166 : decode cX9_member 166 = .ok (.aload_n 0, 1) := xdt tbX9_member_60_ok 15 rfl
theorem dX9_member_167 : decode cX9_member 167 = .ok (.getfield 20, 3) := xdt tbX9_member_60_ok 16 rfl
theorem dX9_member_170 : decode cX9_member 170 = .ok (.iload 4, 2) := xdt tbX9_member_60_ok 17 rfl
theorem dX9_member_172 : decode cX9_member 172 = .ok (.iconst 1, 1) := xdt tbX9_member_60_ok 18 rfl
theorem dX9_member_173 : decode cX9_member 173 = .ok (.invokestatic 104, 3) := xdt tbX9_member_60_ok 19 rfl
theorem dX9_member_176 : decode cX9_member 176 = .ok (.ireturn, 1) := xdt tbX9_member_60_ok 20 rfl
theorem dX9_member_177 : decode cX9_member 177 = .ok (.iload 5, 2) := xdt tbX9_member_60_ok 21 rfl
theorem dX9_member_179 : decode cX9_member 179 = .ok (.ifCond .ne 7, 3) := xdt tbX9_member_60_ok 22 rfl
theorem dX9_member_182 : decode cX9_member 182 = .ok (.iconst 0, 1) := xdt tbX9_member_60_ok 23 rfl
theorem dX9_member_183 : decode cX9_member 183 = .ok (.goto 34, 3) := xdt tbX9_member_60_ok 24 rfl
theorem dX9_member_186 : decode cX9_member 186 = .ok (.aload_n 0, 1) := xdt tbX9_member_60_ok 25 rfl
theorem dX9_member_187 : decode cX9_member 187 = .ok (.iload 5, 2) := xdt tbX9_member_60_ok 26 rfl
theorem dX9_member_189 : decode cX9_member 189 = .ok (.iconst 2, 1) := xdt tbX9_member_60_ok 27 rfl
theorem dX9_member_190 : decode cX9_member 190 = .ok (.if_icmp .eq 9, 3) := xdt tbX9_member_60_ok 28 rfl
theorem dX9_member_193 : decode cX9_member 193 = .ok (.iload 5, 2) := xdt tbX9_member_60_ok 29 rfl
theorem dX9_member_195 : decode cX9_member 195 = .ok (.iconst 3, 1) := xdt tbX9_member_60_ok 30 rfl
theorem dX9_member_196 : decode cX9_member 196 = .ok (.if_icmp .ne 16, 3) := xdt tbX9_member_60_ok 31 rfl
theorem dX9_member_199 : decode cX9_member 199 = .ok (.aload_n 0, 1) := xdt tbX9_member_60_ok 32 rfl
theorem dX9_member_200 : decode cX9_member 200 = .ok (.getfield 20, 3) := xdt tbX9_member_60_ok 33 rfl
theorem dX9_member_203 : decode cX9_member 203 = .ok (.iload 6, 2) := xdt tbX9_member_60_ok 34 rfl
theorem dX9_member_205 : decode cX9_member 205 = .ok (.iconst 2, 1) := xdt tbX9_member_60_ok 35 rfl
theorem dX9_member_206 : decode cX9_member 206 = .ok (.invokestatic 244, 3) := xdt tbX9_member_60_ok 36 rfl
theorem dX9_member_209 : decode cX9_member 209 = .ok (.goto 5, 3) := xdt tbX9_member_60_ok 37 rfl
theorem dX9_member_212 : decode cX9_member 212 = .ok (.iload 6, 2) := xdt tbX9_member_60_ok 38 rfl
theorem dX9_member_214 : decode cX9_member 214 = .ok (.invokevirtual 376, 3) := xdt tbX9_member_60_ok 39 rfl
theorem dX9_member_217 : decode cX9_member 217 = .ok (.ireturn, 1) := xdt tbX9_member_60_ok 40 rfl
theorem dX9_member_218 : decode cX9_member 218 = .ok (.iload 5, 2) := xdt tbX9_member_60_ok 41 rfl
theorem dX9_member_220 : decode cX9_member 220 = .ok (.ifCond .ne 8, 3) := xdt tbX9_member_60_ok 42 rfl
theorem dX9_member_223 : decode cX9_member 223 = .ok (.iload 6, 2) := xdt tbX9_member_60_ok 43 rfl
theorem dX9_member_225 : decode cX9_member 225 = .ok (.goto 42, 3) := xdt tbX9_member_60_ok 44 rfl
theorem dX9_member_228 : decode cX9_member 228 = .ok (.iload 5, 2) := xdt tbX9_member_60_ok 45 rfl
theorem dX9_member_230 : decode cX9_member 230 = .ok (.iconst 3, 1) := xdt tbX9_member_60_ok 46 rfl
theorem dX9_member_231 : decode cX9_member 231 = .ok (.if_icmp .ne 16, 3) := xdt tbX9_member_60_ok 47 rfl
theorem dX9_member_234 : decode cX9_member 234 = .ok (.aload_n 0, 1) := xdt tbX9_member_60_ok 48 rfl
theorem dX9_member_235 : decode cX9_member 235 = .ok (.getfield 20, 3) := xdt tbX9_member_60_ok 49 rfl
theorem dX9_member_238 : decode cX9_member 238 = .ok (.iload 6, 2) := xdt tbX9_member_60_ok 50 rfl
theorem dX9_member_240 : decode cX9_member 240 = .ok (.iconst 0, 1) := xdt tbX9_member_60_ok 51 rfl
theorem dX9_member_241 : decode cX9_member 241 = .ok (.invokestatic 244, 3) := xdt tbX9_member_60_ok 52 rfl
theorem dX9_member_244 : decode cX9_member 244 = .ok (.goto 23, 3) := xdt tbX9_member_60_ok 53 rfl
theorem dX9_member_247 : decode cX9_member 247 = .ok (.iload 5, 2) := xdt tbX9_member_60_ok 54 rfl
theorem dX9_member_249 : decode cX9_member 249 = .ok (.iconst 4, 1) := xdt tbX9_member_60_ok 55 rfl
theorem dX9_member_250 : decode cX9_member 250 = .ok (.if_icmp .ne 16, 3) := xdt tbX9_member_60_ok 56 rfl
theorem dX9_member_253 : decode cX9_member 253 = .ok (.aload_n 0, 1) := xdt tbX9_member_60_ok 57 rfl
theorem dX9_member_254 : decode cX9_member 254 = .ok (.getfield 20, 3) := xdt tbX9_member_60_ok 58 rfl
theorem dX9_member_257 : decode cX9_member 257 = .ok (.iload 4, 2) := xdt tbX9_member_60_ok 59 rfl
def tbX9_member_120 : List (Nat × Instr × Nat) := [(259, .iconst 3, 1), (260, .invokestatic 104, 3), (263, .goto 4, 3), (266, .iconst (-1), 1), (267, .ireturn, 1)]
theorem tbX9_member_120_ok : tbX9_member_120.all (fun q => decide (decode cX9_member q.1 = .ok q.2)) = true := by decide +kernel
theorem dX9_member_259 : decode cX9_member 259 = .ok (.iconst 3, 1) := xdt tbX9_member_120_ok 0 rfl
theorem dX9_member_260 : decode cX9_member 260 = .ok (.invokestatic 104, 3) := xdt tbX9_member_120_ok 1 rfl
theorem dX9_member_263 : decode cX9_member 263 = .ok (.goto 4, 3) := xdt tbX9_member_120_ok 2 rfl
theorem dX9_member_266 : decode cX9_member 266 = .ok (.iconst (-1), 1) := xdt tbX9_member_120_ok 3 rfl
theorem dX9_member_267 : decode cX9_member 267 = .ok (.ireturn, 1) := xdt tbX9_member_120_ok 4 rfl
def tbX9_statesOf_0 : List (Nat × Instr × Nat) := [(0, .iconst 0, 1), (1, .istore_n 2, 1), (2, .iconst 0, 1), (3, .istore_n 3, 1), (4, .iload_n 3, 1), (5, .aload_n 0, 1), (6, .getfield 20, 3), (9, .iconst 0, 1), (10, .iaload, 1), (11, .if_icmp .ge 27, 3), (14, .iload_n 2, 1), (15, .aload_n 0, 1), (16, .getfield 39, 3), (19, .iload_n 3, 1), (20, .iaload, 1), (21, .iload_n 1, 1), (22, .if_icmp .ne 7, 3), (25, .iconst 1, 1), (26, .goto 4, 3), (29, .iconst 0, 1), (30, .iadd, 1), (31, .istore_n 2, 1), (32, .iinc 3 1, 3), (35, .goto (-31), 3), (38, .iload_n 2, 1), (39, .ireturn, 1)]
theorem tbX9_statesOf_0_ok : tbX9_statesOf_0.all (fun q => decide (decode cX9_statesOf q.1 = .ok q.2)) = true := by decide +kernel
theorem dX9_statesOf_0 : decode cX9_statesOf 0 = .ok (.iconst 0, 1) := xdt tbX9_statesOf_0_ok 0 rfl
theorem dX9_statesOf_1 : decode cX9_statesOf 1 = .ok (.istore_n 2, 1) := xdt tbX9_statesOf_0_ok 1 rfl
theorem dX9_statesOf_2 : decode cX9_statesOf 2 = .ok (.iconst 0, 1) := xdt tbX9_statesOf_0_ok 2 rfl
theorem dX9_statesOf_3 : decode cX9_statesOf 3 = .ok (.istore_n 3, 1) := xdt tbX9_statesOf_0_ok 3 rfl
theorem dX9_statesOf_4 : decode cX9_statesOf 4 = .ok (.iload_n 3, 1) := xdt tbX9_statesOf_0_ok 4 rfl
theorem dX9_statesOf_5 : decode cX9_statesOf 5 = .ok (.aload_n 0, 1) := xdt tbX9_statesOf_0_ok 5 rfl
theorem dX9_statesOf_6 : decode cX9_statesOf 6 = .ok (.getfield 20, 3) := xdt tbX9_statesOf_0_ok 6 rfl
theorem dX9_statesOf_9 : decode cX9_statesOf 9 = .ok (.iconst 0, 1) := xdt tbX9_statesOf_0_ok 7 rfl
theorem dX9_statesOf_10 : decode cX9_statesOf 10 = .ok (.iaload, 1) := xdt tbX9_statesOf_0_ok 8 rfl
theorem dX9_statesOf_11 : decode cX9_statesOf 11 = .ok (.if_icmp .ge 27, 3) := xdt tbX9_statesOf_0_ok 9 rfl
theorem dX9_statesOf_14 : decode cX9_statesOf 14 = .ok (.iload_n 2, 1) := xdt tbX9_statesOf_0_ok 10 rfl
theorem dX9_statesOf_15 : decode cX9_statesOf 15 = .ok (.aload_n 0, 1) := xdt tbX9_statesOf_0_ok 11 rfl
theorem dX9_statesOf_16 : decode cX9_statesOf 16 = .ok (.getfield 39, 3) := xdt tbX9_statesOf_0_ok 12 rfl
theorem dX9_statesOf_19 : decode cX9_statesOf 19 = .ok (.iload_n 3, 1) := xdt tbX9_statesOf_0_ok 13 rfl
theorem dX9_statesOf_20 : decode cX9_statesOf 20 = .ok (.iaload, 1) := xdt tbX9_statesOf_0_ok 14 rfl
theorem dX9_statesOf_21 : decode cX9_statesOf 21 = .ok (.iload_n 1, 1) := xdt tbX9_statesOf_0_ok 15 rfl
theorem dX9_statesOf_22 : decode cX9_statesOf 22 = .ok (.if_icmp .ne 7, 3) := xdt tbX9_statesOf_0_ok 16 rfl
theorem dX9_statesOf_25 : decode cX9_statesOf 25 = .ok (.iconst 1, 1) := xdt tbX9_statesOf_0_ok 17 rfl
theorem dX9_statesOf_26 : decode cX9_statesOf 26 = .ok (.goto 4, 3) := xdt tbX9_statesOf_0_ok 18 rfl
theorem dX9_statesOf_29 : decode cX9_statesOf 29 = .ok (.iconst 0, 1) := xdt tbX9_statesOf_0_ok 19 rfl
theorem dX9_statesOf_30 : decode cX9_statesOf 30 = .ok (.iadd, 1) := xdt tbX9_statesOf_0_ok 20 rfl
theorem dX9_statesOf_31 : decode cX9_statesOf 31 = .ok (.istore_n 2, 1) := xdt tbX9_statesOf_0_ok 21 rfl
theorem dX9_statesOf_32 : decode cX9_statesOf 32 = .ok (.iinc 3 1, 3) := xdt tbX9_statesOf_0_ok 22 rfl
theorem dX9_statesOf_35 : decode cX9_statesOf 35 = .ok (.goto (-31), 3) := xdt tbX9_statesOf_0_ok 23 rfl
theorem dX9_statesOf_38 : decode cX9_statesOf 38 = .ok (.iload_n 2, 1) := xdt tbX9_statesOf_0_ok 24 rfl
theorem dX9_statesOf_39 : decode cX9_statesOf 39 = .ok (.ireturn, 1) := xdt tbX9_statesOf_0_ok 25 rfl
def tbX9_tells_0 : List (Nat × Instr × Nat) := [(0, .iload_n 1, 1), (1, .tableswitch 80 0 6 #[43, 48, 53, 58, 63, 69, 75], 43), (44, .aload_n 0, 1), (45, .getfield 358, 3), (48, .ireturn, 1), (49, .aload_n 0, 1), (50, .getfield 343, 3), (53, .ireturn, 1), (54, .aload_n 0, 1), (55, .getfield 364, 3), (58, .ireturn, 1), (59, .aload_n 0, 1), (60, .getfield 325, 3), (63, .ireturn, 1), (64, .aload_n 0, 1), (65, .iconst 2, 1), (66, .invokevirtual 379, 3), (69, .ireturn, 1), (70, .aload_n 0, 1), (71, .iconst 3, 1), (72, .invokevirtual 379, 3), (75, .ireturn, 1), (76, .aload_n 0, 1), (77, .getfield 297, 3), (80, .ireturn, 1), (81, .aload_n 0, 1), (82, .getfield 300, 3), (85, .iconst 2, 1), (86, .if_icmp .ne 7, 3), (89, .iconst 1, 1), (90, .goto 4, 3), (93, .iconst 0, 1), (94, .ireturn, 1)]
theorem tbX9_tells_0_ok : tbX9_tells_0.all (fun q => decide (decode cX9_tells q.1 = .ok q.2)) = true := by decide +kernel
theorem dX9_tells_0 : decode cX9_tells 0 = .ok (.iload_n 1, 1) := xdt tbX9_tells_0_ok 0 rfl
theorem dX9_tells_1 : decode cX9_tells 1 = .ok (.tableswitch 80 0 6 #[43, 48, 53, 58, 63, 69, 75], 43) := xdt tbX9_tells_0_ok 1 rfl
theorem dX9_tells_44 : decode cX9_tells 44 = .ok (.aload_n 0, 1) := xdt tbX9_tells_0_ok 2 rfl
theorem dX9_tells_45 : decode cX9_tells 45 = .ok (.getfield 358, 3) := xdt tbX9_tells_0_ok 3 rfl
theorem dX9_tells_48 : decode cX9_tells 48 = .ok (.ireturn, 1) := xdt tbX9_tells_0_ok 4 rfl
theorem dX9_tells_49 : decode cX9_tells 49 = .ok (.aload_n 0, 1) := xdt tbX9_tells_0_ok 5 rfl
theorem dX9_tells_50 : decode cX9_tells 50 = .ok (.getfield 343, 3) := xdt tbX9_tells_0_ok 6 rfl
theorem dX9_tells_53 : decode cX9_tells 53 = .ok (.ireturn, 1) := xdt tbX9_tells_0_ok 7 rfl
theorem dX9_tells_54 : decode cX9_tells 54 = .ok (.aload_n 0, 1) := xdt tbX9_tells_0_ok 8 rfl
theorem dX9_tells_55 : decode cX9_tells 55 = .ok (.getfield 364, 3) := xdt tbX9_tells_0_ok 9 rfl
theorem dX9_tells_58 : decode cX9_tells 58 = .ok (.ireturn, 1) := xdt tbX9_tells_0_ok 10 rfl
theorem dX9_tells_59 : decode cX9_tells 59 = .ok (.aload_n 0, 1) := xdt tbX9_tells_0_ok 11 rfl
theorem dX9_tells_60 : decode cX9_tells 60 = .ok (.getfield 325, 3) := xdt tbX9_tells_0_ok 12 rfl
theorem dX9_tells_63 : decode cX9_tells 63 = .ok (.ireturn, 1) := xdt tbX9_tells_0_ok 13 rfl
theorem dX9_tells_64 : decode cX9_tells 64 = .ok (.aload_n 0, 1) := xdt tbX9_tells_0_ok 14 rfl
theorem dX9_tells_65 : decode cX9_tells 65 = .ok (.iconst 2, 1) := xdt tbX9_tells_0_ok 15 rfl
theorem dX9_tells_66 : decode cX9_tells 66 = .ok (.invokevirtual 379, 3) := xdt tbX9_tells_0_ok 16 rfl
theorem dX9_tells_69 : decode cX9_tells 69 = .ok (.ireturn, 1) := xdt tbX9_tells_0_ok 17 rfl
theorem dX9_tells_70 : decode cX9_tells 70 = .ok (.aload_n 0, 1) := xdt tbX9_tells_0_ok 18 rfl
theorem dX9_tells_71 : decode cX9_tells 71 = .ok (.iconst 3, 1) := xdt tbX9_tells_0_ok 19 rfl
theorem dX9_tells_72 : decode cX9_tells 72 = .ok (.invokevirtual 379, 3) := xdt tbX9_tells_0_ok 20 rfl
theorem dX9_tells_75 : decode cX9_tells 75 = .ok (.ireturn, 1) := xdt tbX9_tells_0_ok 21 rfl
theorem dX9_tells_76 : decode cX9_tells 76 = .ok (.aload_n 0, 1) := xdt tbX9_tells_0_ok 22 rfl
theorem dX9_tells_77 : decode cX9_tells 77 = .ok (.getfield 297, 3) := xdt tbX9_tells_0_ok 23 rfl
theorem dX9_tells_80 : decode cX9_tells 80 = .ok (.ireturn, 1) := xdt tbX9_tells_0_ok 24 rfl
theorem dX9_tells_81 : decode cX9_tells 81 = .ok (.aload_n 0, 1) := xdt tbX9_tells_0_ok 25 rfl
theorem dX9_tells_82 : decode cX9_tells 82 = .ok (.getfield 300, 3) := xdt tbX9_tells_0_ok 26 rfl
theorem dX9_tells_85 : decode cX9_tells 85 = .ok (.iconst 2, 1) := xdt tbX9_tells_0_ok 27 rfl
theorem dX9_tells_86 : decode cX9_tells 86 = .ok (.if_icmp .ne 7, 3) := xdt tbX9_tells_0_ok 28 rfl
theorem dX9_tells_89 : decode cX9_tells 89 = .ok (.iconst 1, 1) := xdt tbX9_tells_0_ok 29 rfl
theorem dX9_tells_90 : decode cX9_tells 90 = .ok (.goto 4, 3) := xdt tbX9_tells_0_ok 30 rfl
theorem dX9_tells_93 : decode cX9_tells 93 = .ok (.iconst 0, 1) := xdt tbX9_tells_0_ok 31 rfl
theorem dX9_tells_94 : decode cX9_tells 94 = .ok (.ireturn, 1) := xdt tbX9_tells_0_ok 32 rfl
def tbX9_lazy_0 : List (Nat × Instr × Nat) := [(0, .aload_n 0, 1), (1, .iconst 0, 1), (2, .putfield 91, 3), (5, .aload_n 0, 1), (6, .iload_n 1, 1), (7, .iconst 0, 1), (8, .bipush 7, 2), (10, .invokestatic 155, 3), (13, .ifCond .ne 7, 3), (16, .iconst 1, 1), (17, .goto 4, 3), (20, .iconst 0, 1), (21, .iconst 1, 1), (22, .iconst 1, 1), (23, .invokevirtual 257, 3), (26, .ifCond .eq 5, 3), (29, .iconst 0, 1), (30, .ireturn, 1), (31, .aload_n 0, 1), (32, .invokevirtual 382, 3), (35, .aload_n 0, 1), (36, .iload_n 1, 1), (37, .invokevirtual 385, 3), (40, .ireturn, 1)]
theorem tbX9_lazy_0_ok : tbX9_lazy_0.all (fun q => decide (decode cX9_lazy q.1 = .ok q.2)) = true := by decide +kernel
theorem dX9_lazy_0 : decode cX9_lazy 0 = .ok (.aload_n 0, 1) := xdt tbX9_lazy_0_ok 0 rfl
theorem dX9_lazy_1 : decode cX9_lazy 1 = .ok (.iconst 0, 1) := xdt tbX9_lazy_0_ok 1 rfl
theorem dX9_lazy_2 : decode cX9_lazy 2 = .ok (.putfield 91, 3) := xdt tbX9_lazy_0_ok 2 rfl
theorem dX9_lazy_5 : decode cX9_lazy 5 = .ok (.aload_n 0, 1) := xdt tbX9_lazy_0_ok 3 rfl
theorem dX9_lazy_6 : decode cX9_lazy 6 = .ok (.iload_n 1, 1) := xdt tbX9_lazy_0_ok 4 rfl
theorem dX9_lazy_7 : decode cX9_lazy 7 = .ok (.iconst 0, 1) := xdt tbX9_lazy_0_ok 5 rfl
theorem dX9_lazy_8 : decode cX9_lazy 8 = .ok (.bipush 7, 2) := xdt tbX9_lazy_0_ok 6 rfl
theorem dX9_lazy_10 : decode cX9_lazy 10 = .ok (.invokestatic 155, 3) := xdt tbX9_lazy_0_ok 7 rfl
theorem dX9_lazy_13 : decode cX9_lazy 13 = .ok (.ifCond .ne 7, 3) := xdt tbX9_lazy_0_ok 8 rfl
theorem dX9_lazy_16 : decode cX9_lazy 16 = .ok (.iconst 1, 1) := xdt tbX9_lazy_0_ok 9 rfl
theorem dX9_lazy_17 : decode cX9_lazy 17 = .ok (.goto 4, 3) := xdt tbX9_lazy_0_ok 10 rfl
theorem dX9_lazy_20 : decode cX9_lazy 20 = .ok (.iconst 0, 1) := xdt tbX9_lazy_0_ok 11 rfl
theorem dX9_lazy_21 : decode cX9_lazy 21 = .ok (.iconst 1, 1) := xdt tbX9_lazy_0_ok 12 rfl
theorem dX9_lazy_22 : decode cX9_lazy 22 = .ok (.iconst 1, 1) := xdt tbX9_lazy_0_ok 13 rfl
theorem dX9_lazy_23 : decode cX9_lazy 23 = .ok (.invokevirtual 257, 3) := xdt tbX9_lazy_0_ok 14 rfl
theorem dX9_lazy_26 : decode cX9_lazy 26 = .ok (.ifCond .eq 5, 3) := xdt tbX9_lazy_0_ok 15 rfl
theorem dX9_lazy_29 : decode cX9_lazy 29 = .ok (.iconst 0, 1) := xdt tbX9_lazy_0_ok 16 rfl
theorem dX9_lazy_30 : decode cX9_lazy 30 = .ok (.ireturn, 1) := xdt tbX9_lazy_0_ok 17 rfl
theorem dX9_lazy_31 : decode cX9_lazy 31 = .ok (.aload_n 0, 1) := xdt tbX9_lazy_0_ok 18 rfl
theorem dX9_lazy_32 : decode cX9_lazy 32 = .ok (.invokevirtual 382, 3) := xdt tbX9_lazy_0_ok 19 rfl
theorem dX9_lazy_35 : decode cX9_lazy 35 = .ok (.aload_n 0, 1) := xdt tbX9_lazy_0_ok 20 rfl
theorem dX9_lazy_36 : decode cX9_lazy 36 = .ok (.iload_n 1, 1) := xdt tbX9_lazy_0_ok 21 rfl
theorem dX9_lazy_37 : decode cX9_lazy 37 = .ok (.invokevirtual 385, 3) := xdt tbX9_lazy_0_ok 22 rfl
theorem dX9_lazy_40 : decode cX9_lazy 40 = .ok (.ireturn, 1) := xdt tbX9_lazy_0_ok 23 rfl
def tbX9_eager_0 : List (Nat × Instr × Nat) := [(0, .aload_n 0, 1), (1, .iconst 0, 1), (2, .putfield 91, 3), (5, .aload_n 0, 1), (6, .aload_n 0, 1), (7, .iload_n 1, 1), (8, .invokevirtual 388, 3), (11, .ifCond .eq 13, 3), (14, .iload_n 2, 1), (15, .iconst 0, 1), (16, .bipush 7, 2), (18, .invokestatic 155, 3), (21, .ifCond .ne 7, 3), (24, .iconst 1, 1), (25, .goto 4, 3), (28, .iconst 0, 1), (29, .iconst 1, 1), (30, .iconst 1, 1), (31, .invokevirtual 257, 3), (34, .ifCond .eq 5, 3), (37, .iconst 0, 1), (38, .ireturn, 1), (39, .aload_n 0, 1), (40, .iload_n 1, 1), (41, .invokevirtual 391, 3), (44, .aload_n 0, 1), (45, .iload_n 2, 1), (46, .invokevirtual 385, 3), (49, .ireturn, 1)]
theorem tbX9_eager_0_ok : tbX9_eager_0.all (fun q => decide (decode cX9_eager q.1 = .ok q.2)) = true := by decide +kernel
theorem dX9_eager_0 : decode cX9_eager 0 = .ok (.aload_n 0, 1) := xdt tbX9_eager_0_ok 0 rfl
theorem dX9_eager_1 : decode cX9_eager 1 = .ok (.iconst 0, 1) := xdt tbX9_eager_0_ok 1 rfl
theorem dX9_eager_2 : decode cX9_eager 2 = .ok (.putfield 91, 3) := xdt tbX9_eager_0_ok 2 rfl
theorem dX9_eager_5 : decode cX9_eager 5 = .ok (.aload_n 0, 1) := xdt tbX9_eager_0_ok 3 rfl
theorem dX9_eager_6 : decode cX9_eager 6 = .ok (.aload_n 0, 1) := xdt tbX9_eager_0_ok 4 rfl
theorem dX9_eager_7 : decode cX9_eager 7 = .ok (.iload_n 1, 1) := xdt tbX9_eager_0_ok 5 rfl
theorem dX9_eager_8 : decode cX9_eager 8 = .ok (.invokevirtual 388, 3) := xdt tbX9_eager_0_ok 6 rfl
theorem dX9_eager_11 : decode cX9_eager 11 = .ok (.ifCond .eq 13, 3) := xdt tbX9_eager_0_ok 7 rfl
theorem dX9_eager_14 : decode cX9_eager 14 = .ok (.iload_n 2, 1) := xdt tbX9_eager_0_ok 8 rfl
theorem dX9_eager_15 : decode cX9_eager 15 = .ok (.iconst 0, 1) := xdt tbX9_eager_0_ok 9 rfl
theorem dX9_eager_16 : decode cX9_eager 16 = .ok (.bipush 7, 2) := xdt tbX9_eager_0_ok 10 rfl
theorem dX9_eager_18 : decode cX9_eager 18 = .ok (.invokestatic 155, 3) := xdt tbX9_eager_0_ok 11 rfl
theorem dX9_eager_21 : decode cX9_eager 21 = .ok (.ifCond .ne 7, 3) := xdt tbX9_eager_0_ok 12 rfl
theorem dX9_eager_24 : decode cX9_eager 24 = .ok (.iconst 1, 1) := xdt tbX9_eager_0_ok 13 rfl
theorem dX9_eager_25 : decode cX9_eager 25 = .ok (.goto 4, 3) := xdt tbX9_eager_0_ok 14 rfl
theorem dX9_eager_28 : decode cX9_eager 28 = .ok (.iconst 0, 1) := xdt tbX9_eager_0_ok 15 rfl
theorem dX9_eager_29 : decode cX9_eager 29 = .ok (.iconst 1, 1) := xdt tbX9_eager_0_ok 16 rfl
theorem dX9_eager_30 : decode cX9_eager 30 = .ok (.iconst 1, 1) := xdt tbX9_eager_0_ok 17 rfl
theorem dX9_eager_31 : decode cX9_eager 31 = .ok (.invokevirtual 257, 3) := xdt tbX9_eager_0_ok 18 rfl
theorem dX9_eager_34 : decode cX9_eager 34 = .ok (.ifCond .eq 5, 3) := xdt tbX9_eager_0_ok 19 rfl
theorem dX9_eager_37 : decode cX9_eager 37 = .ok (.iconst 0, 1) := xdt tbX9_eager_0_ok 20 rfl
theorem dX9_eager_38 : decode cX9_eager 38 = .ok (.ireturn, 1) := xdt tbX9_eager_0_ok 21 rfl
theorem dX9_eager_39 : decode cX9_eager 39 = .ok (.aload_n 0, 1) := xdt tbX9_eager_0_ok 22 rfl
theorem dX9_eager_40 : decode cX9_eager 40 = .ok (.iload_n 1, 1) := xdt tbX9_eager_0_ok 23 rfl
theorem dX9_eager_41 : decode cX9_eager 41 = .ok (.invokevirtual 391, 3) := xdt tbX9_eager_0_ok 24 rfl
theorem dX9_eager_44 : decode cX9_eager 44 = .ok (.aload_n 0, 1) := xdt tbX9_eager_0_ok 25 rfl
theorem dX9_eager_45 : decode cX9_eager 45 = .ok (.iload_n 2, 1) := xdt tbX9_eager_0_ok 26 rfl
theorem dX9_eager_46 : decode cX9_eager 46 = .ok (.invokevirtual 385, 3) := xdt tbX9_eager_0_ok 27 rfl
theorem dX9_eager_49 : decode cX9_eager 49 = .ok (.ireturn, 1) := xdt tbX9_eager_0_ok 28 rfl
def tbX9_value_0 : List (Nat × Instr × Nat) := [(0, .aload_n 0, 1), (1, .iconst 0, 1), (2, .putfield 91, 3), (5, .aload_n 0, 1), (6, .iload_n 1, 1), (7, .invokevirtual 283, 3), (10, .ifCond .eq 15, 3), (13, .aload_n 0, 1), (14, .getfield 20, 3), (17, .iload_n 1, 1), (18, .iload_n 2, 1), (19, .invokestatic 215, 3), (22, .goto 4, 3), (25, .iconst (-1), 1), (26, .istore_n 3, 1), (27, .aload_n 0, 1), (28, .iload_n 3, 1), (29, .iconst (-1), 1), (30, .if_icmp .eq 20, 3), (33, .aload_n 0, 1), (34, .getfield 20, 3), (37, .iconst 0, 1), (38, .iload_n 3, 1), (39, .invokestatic 165, 3), (42, .iconst 0, 1), (43, .invokestatic 104, 3), (46, .iconst 1, 1), (47, .if_icmp .eq 7, 3), (50, .iconst 1, 1), (51, .goto 4, 3), (54, .iconst 0, 1), (55, .iconst 1, 1), (56, .iconst 0, 1), (57, .invokevirtual 257, 3), (60, .ifCond .eq 5, 3), (63, .iconst 0, 1), (64, .ireturn, 1), (65, .aload_n 0, 1), (66, .invokevirtual 382, 3), (69, .aload_n 0, 1), (70, .getfield 45, 3), (73, .iload_n 3, 1), (74, .iaload, 1), (75, .ireturn, 1)]
theorem tbX9_value_0_ok : tbX9_value_0.all (fun q => decide (decode cX9_value q.1 = .ok q.2)) = true := by decide +kernel
theorem dX9_value_0 : decode cX9_value 0 = .ok (.aload_n 0, 1) := xdt tbX9_value_0_ok 0 rfl
theorem dX9_value_1 : decode cX9_value 1 = .ok (.iconst 0, 1) := xdt tbX9_value_0_ok 1 rfl
theorem dX9_value_2 : decode cX9_value 2 = .ok (.putfield 91, 3) := xdt tbX9_value_0_ok 2 rfl
theorem dX9_value_5 : decode cX9_value 5 = .ok (.aload_n 0, 1) := xdt tbX9_value_0_ok 3 rfl
theorem dX9_value_6 : decode cX9_value 6 = .ok (.iload_n 1, 1) := xdt tbX9_value_0_ok 4 rfl
theorem dX9_value_7 : decode cX9_value 7 = .ok (.invokevirtual 283, 3) := xdt tbX9_value_0_ok 5 rfl
theorem dX9_value_10 : decode cX9_value 10 = .ok (.ifCond .eq 15, 3) := xdt tbX9_value_0_ok 6 rfl
theorem dX9_value_13 : decode cX9_value 13 = .ok (.aload_n 0, 1) := xdt tbX9_value_0_ok 7 rfl
theorem dX9_value_14 : decode cX9_value 14 = .ok (.getfield 20, 3) := xdt tbX9_value_0_ok 8 rfl
theorem dX9_value_17 : decode cX9_value 17 = .ok (.iload_n 1, 1) := xdt tbX9_value_0_ok 9 rfl
theorem dX9_value_18 : decode cX9_value 18 = .ok (.iload_n 2, 1) := xdt tbX9_value_0_ok 10 rfl
theorem dX9_value_19 : decode cX9_value 19 = .ok (.invokestatic 215, 3) := xdt tbX9_value_0_ok 11 rfl
theorem dX9_value_22 : decode cX9_value 22 = .ok (.goto 4, 3) := xdt tbX9_value_0_ok 12 rfl
theorem dX9_value_25 : decode cX9_value 25 = .ok (.iconst (-1), 1) := xdt tbX9_value_0_ok 13 rfl
theorem dX9_value_26 : decode cX9_value 26 = .ok (.istore_n 3, 1) := xdt tbX9_value_0_ok 14 rfl
theorem dX9_value_27 : decode cX9_value 27 = .ok (.aload_n 0, 1) := xdt tbX9_value_0_ok 15 rfl
theorem dX9_value_28 : decode cX9_value 28 = .ok (.iload_n 3, 1) := xdt tbX9_value_0_ok 16 rfl
theorem dX9_value_29 : decode cX9_value 29 = .ok (.iconst (-1), 1) := xdt tbX9_value_0_ok 17 rfl
theorem dX9_value_30 : decode cX9_value 30 = .ok (.if_icmp .eq 20, 3) := xdt tbX9_value_0_ok 18 rfl
theorem dX9_value_33 : decode cX9_value 33 = .ok (.aload_n 0, 1) := xdt tbX9_value_0_ok 19 rfl
theorem dX9_value_34 : decode cX9_value 34 = .ok (.getfield 20, 3) := xdt tbX9_value_0_ok 20 rfl
theorem dX9_value_37 : decode cX9_value 37 = .ok (.iconst 0, 1) := xdt tbX9_value_0_ok 21 rfl
theorem dX9_value_38 : decode cX9_value 38 = .ok (.iload_n 3, 1) := xdt tbX9_value_0_ok 22 rfl
theorem dX9_value_39 : decode cX9_value 39 = .ok (.invokestatic 165, 3) := xdt tbX9_value_0_ok 23 rfl
theorem dX9_value_42 : decode cX9_value 42 = .ok (.iconst 0, 1) := xdt tbX9_value_0_ok 24 rfl
theorem dX9_value_43 : decode cX9_value 43 = .ok (.invokestatic 104, 3) := xdt tbX9_value_0_ok 25 rfl
theorem dX9_value_46 : decode cX9_value 46 = .ok (.iconst 1, 1) := xdt tbX9_value_0_ok 26 rfl
theorem dX9_value_47 : decode cX9_value 47 = .ok (.if_icmp .eq 7, 3) := xdt tbX9_value_0_ok 27 rfl
theorem dX9_value_50 : decode cX9_value 50 = .ok (.iconst 1, 1) := xdt tbX9_value_0_ok 28 rfl
theorem dX9_value_51 : decode cX9_value 51 = .ok (.goto 4, 3) := xdt tbX9_value_0_ok 29 rfl
theorem dX9_value_54 : decode cX9_value 54 = .ok (.iconst 0, 1) := xdt tbX9_value_0_ok 30 rfl
theorem dX9_value_55 : decode cX9_value 55 = .ok (.iconst 1, 1) := xdt tbX9_value_0_ok 31 rfl
theorem dX9_value_56 : decode cX9_value 56 = .ok (.iconst 0, 1) := xdt tbX9_value_0_ok 32 rfl
theorem dX9_value_57 : decode cX9_value 57 = .ok (.invokevirtual 257, 3) := xdt tbX9_value_0_ok 33 rfl
theorem dX9_value_60 : decode cX9_value 60 = .ok (.ifCond .eq 5, 3) := xdt tbX9_value_0_ok 34 rfl
theorem dX9_value_63 : decode cX9_value 63 = .ok (.iconst 0, 1) := xdt tbX9_value_0_ok 35 rfl
theorem dX9_value_64 : decode cX9_value 64 = .ok (.ireturn, 1) := xdt tbX9_value_0_ok 36 rfl
theorem dX9_value_65 : decode cX9_value 65 = .ok (.aload_n 0, 1) := xdt tbX9_value_0_ok 37 rfl
theorem dX9_value_66 : decode cX9_value 66 = .ok (.invokevirtual 382, 3) := xdt tbX9_value_0_ok 38 rfl
theorem dX9_value_69 : decode cX9_value 69 = .ok (.aload_n 0, 1) := xdt tbX9_value_0_ok 39 rfl
theorem dX9_value_70 : decode cX9_value 70 = .ok (.getfield 45, 3) := xdt tbX9_value_0_ok 40 rfl
theorem dX9_value_73 : decode cX9_value 73 = .ok (.iload_n 3, 1) := xdt tbX9_value_0_ok 41 rfl
theorem dX9_value_74 : decode cX9_value 74 = .ok (.iaload, 1) := xdt tbX9_value_0_ok 42 rfl
theorem dX9_value_75 : decode cX9_value 75 = .ok (.ireturn, 1) := xdt tbX9_value_0_ok 43 rfl
def tbX9_state_0 : List (Nat × Instr × Nat) := [(0, .aload_n 0, 1), (1, .iconst 0, 1), (2, .putfield 91, 3), (5, .aload_n 0, 1), (6, .aload_n 0, 1), (7, .iload_n 1, 1), (8, .invokevirtual 283, 3), (11, .ifCond .ne 7, 3), (14, .iconst 1, 1), (15, .goto 4, 3), (18, .iconst 0, 1), (19, .iconst 1, 1), (20, .iconst 0, 1), (21, .invokevirtual 257, 3), (24, .ifCond .eq 5, 3), (27, .iconst 0, 1), (28, .ireturn, 1), (29, .aload_n 0, 1), (30, .invokevirtual 382, 3), (33, .aload_n 0, 1), (34, .getfield 39, 3), (37, .iload_n 1, 1), (38, .iaload, 1), (39, .ireturn, 1)]
theorem tbX9_state_0_ok : tbX9_state_0.all (fun q => decide (decode cX9_state q.1 = .ok q.2)) = true := by decide +kernel
theorem dX9_state_0 : decode cX9_state 0 = .ok (.aload_n 0, 1) := xdt tbX9_state_0_ok 0 rfl
theorem dX9_state_1 : decode cX9_state 1 = .ok (.iconst 0, 1) := xdt tbX9_state_0_ok 1 rfl
theorem dX9_state_2 : decode cX9_state 2 = .ok (.putfield 91, 3) := xdt tbX9_state_0_ok 2 rfl
theorem dX9_state_5 : decode cX9_state 5 = .ok (.aload_n 0, 1) := xdt tbX9_state_0_ok 3 rfl
theorem dX9_state_6 : decode cX9_state 6 = .ok (.aload_n 0, 1) := xdt tbX9_state_0_ok 4 rfl
theorem dX9_state_7 : decode cX9_state 7 = .ok (.iload_n 1, 1) := xdt tbX9_state_0_ok 5 rfl
theorem dX9_state_8 : decode cX9_state 8 = .ok (.invokevirtual 283, 3) := xdt tbX9_state_0_ok 6 rfl
theorem dX9_state_11 : decode cX9_state 11 = .ok (.ifCond .ne 7, 3) := xdt tbX9_state_0_ok 7 rfl
theorem dX9_state_14 : decode cX9_state 14 = .ok (.iconst 1, 1) := xdt tbX9_state_0_ok 8 rfl
theorem dX9_state_15 : decode cX9_state 15 = .ok (.goto 4, 3) := xdt tbX9_state_0_ok 9 rfl
theorem dX9_state_18 : decode cX9_state 18 = .ok (.iconst 0, 1) := xdt tbX9_state_0_ok 10 rfl
theorem dX9_state_19 : decode cX9_state 19 = .ok (.iconst 1, 1) := xdt tbX9_state_0_ok 11 rfl
theorem dX9_state_20 : decode cX9_state 20 = .ok (.iconst 0, 1) := xdt tbX9_state_0_ok 12 rfl
theorem dX9_state_21 : decode cX9_state 21 = .ok (.invokevirtual 257, 3) := xdt tbX9_state_0_ok 13 rfl
theorem dX9_state_24 : decode cX9_state 24 = .ok (.ifCond .eq 5, 3) := xdt tbX9_state_0_ok 14 rfl
theorem dX9_state_27 : decode cX9_state 27 = .ok (.iconst 0, 1) := xdt tbX9_state_0_ok 15 rfl
theorem dX9_state_28 : decode cX9_state 28 = .ok (.ireturn, 1) := xdt tbX9_state_0_ok 16 rfl
theorem dX9_state_29 : decode cX9_state 29 = .ok (.aload_n 0, 1) := xdt tbX9_state_0_ok 17 rfl
theorem dX9_state_30 : decode cX9_state 30 = .ok (.invokevirtual 382, 3) := xdt tbX9_state_0_ok 18 rfl
theorem dX9_state_33 : decode cX9_state 33 = .ok (.aload_n 0, 1) := xdt tbX9_state_0_ok 19 rfl
theorem dX9_state_34 : decode cX9_state 34 = .ok (.getfield 39, 3) := xdt tbX9_state_0_ok 20 rfl
theorem dX9_state_37 : decode cX9_state 37 = .ok (.iload_n 1, 1) := xdt tbX9_state_0_ok 21 rfl
theorem dX9_state_38 : decode cX9_state 38 = .ok (.iaload, 1) := xdt tbX9_state_0_ok 22 rfl
theorem dX9_state_39 : decode cX9_state 39 = .ok (.ireturn, 1) := xdt tbX9_state_0_ok 23 rfl
def tbX9_begun_0 : List (Nat × Instr × Nat) := [(0, .aload_n 0, 1), (1, .iconst 0, 1), (2, .putfield 91, 3), (5, .aload_n 0, 1), (6, .invokevirtual 382, 3), (9, .iload_n 1, 1), (10, .iconst 0, 1), (11, .aload_n 0, 1), (12, .getfield 325, 3), (15, .iconst 1, 1), (16, .isub, 1), (17, .invokestatic 155, 3), (20, .ifCond .eq 12, 3), (23, .aload_n 0, 1), (24, .getfield 42, 3), (27, .iload_n 1, 1), (28, .iaload, 1), (29, .goto 4, 3), (32, .iconst (-1), 1), (33, .ireturn, 1)]
theorem tbX9_begun_0_ok : tbX9_begun_0.all (fun q => decide (decode cX9_begun q.1 = .ok q.2)) = true := by decide +kernel
theorem dX9_begun_0 : decode cX9_begun 0 = .ok (.aload_n 0, 1) := xdt tbX9_begun_0_ok 0 rfl
theorem dX9_begun_1 : decode cX9_begun 1 = .ok (.iconst 0, 1) := xdt tbX9_begun_0_ok 1 rfl
theorem dX9_begun_2 : decode cX9_begun 2 = .ok (.putfield 91, 3) := xdt tbX9_begun_0_ok 2 rfl
theorem dX9_begun_5 : decode cX9_begun 5 = .ok (.aload_n 0, 1) := xdt tbX9_begun_0_ok 3 rfl
theorem dX9_begun_6 : decode cX9_begun 6 = .ok (.invokevirtual 382, 3) := xdt tbX9_begun_0_ok 4 rfl
theorem dX9_begun_9 : decode cX9_begun 9 = .ok (.iload_n 1, 1) := xdt tbX9_begun_0_ok 5 rfl
theorem dX9_begun_10 : decode cX9_begun 10 = .ok (.iconst 0, 1) := xdt tbX9_begun_0_ok 6 rfl
theorem dX9_begun_11 : decode cX9_begun 11 = .ok (.aload_n 0, 1) := xdt tbX9_begun_0_ok 7 rfl
theorem dX9_begun_12 : decode cX9_begun 12 = .ok (.getfield 325, 3) := xdt tbX9_begun_0_ok 8 rfl
theorem dX9_begun_15 : decode cX9_begun 15 = .ok (.iconst 1, 1) := xdt tbX9_begun_0_ok 9 rfl
theorem dX9_begun_16 : decode cX9_begun 16 = .ok (.isub, 1) := xdt tbX9_begun_0_ok 10 rfl
theorem dX9_begun_17 : decode cX9_begun 17 = .ok (.invokestatic 155, 3) := xdt tbX9_begun_0_ok 11 rfl
theorem dX9_begun_20 : decode cX9_begun 20 = .ok (.ifCond .eq 12, 3) := xdt tbX9_begun_0_ok 12 rfl
theorem dX9_begun_23 : decode cX9_begun 23 = .ok (.aload_n 0, 1) := xdt tbX9_begun_0_ok 13 rfl
theorem dX9_begun_24 : decode cX9_begun 24 = .ok (.getfield 42, 3) := xdt tbX9_begun_0_ok 14 rfl
theorem dX9_begun_27 : decode cX9_begun 27 = .ok (.iload_n 1, 1) := xdt tbX9_begun_0_ok 15 rfl
theorem dX9_begun_28 : decode cX9_begun 28 = .ok (.iaload, 1) := xdt tbX9_begun_0_ok 16 rfl
theorem dX9_begun_29 : decode cX9_begun 29 = .ok (.goto 4, 3) := xdt tbX9_begun_0_ok 17 rfl
theorem dX9_begun_32 : decode cX9_begun 32 = .ok (.iconst (-1), 1) := xdt tbX9_begun_0_ok 18 rfl
theorem dX9_begun_33 : decode cX9_begun 33 = .ok (.ireturn, 1) := xdt tbX9_begun_0_ok 19 rfl
def tbX9_surprise_0 : List (Nat × Instr × Nat) := [(0, .aload_n 0, 1), (1, .iconst 0, 1), (2, .putfield 91, 3), (5, .aload_n 0, 1), (6, .invokevirtual 382, 3), (9, .aload_n 0, 1), (10, .iload_n 1, 1), (11, .iconst 0, 1), (12, .aload_n 0, 1), (13, .getfield 358, 3), (16, .iconst 1, 1), (17, .isub, 1), (18, .invokestatic 155, 3), (21, .ifCond .ne 7, 3), (24, .iconst 1, 1), (25, .goto 4, 3), (28, .iconst 0, 1), (29, .iconst 1, 1), (30, .iconst 0, 1), (31, .invokevirtual 257, 3), (34, .ifCond .ne 26, 3), (37, .aload_n 0, 1), (38, .iload_n 2, 1), (39, .iconst 0, 1), (40, .iconst 5, 1), (41, .invokestatic 155, 3), (44, .ifCond .ne 7, 3), (47, .iconst 1, 1), (48, .goto 4, 3), (51, .iconst 0, 1), (52, .iconst 2, 1), (53, .iconst 1, 1), (54, .invokevirtual 257, 3), (57, .ifCond .eq 5, 3), (60, .iconst 0, 1), (61, .ireturn, 1), (62, .aload_n 0, 1), (63, .getfield 66, 3), (66, .bipush 6, 2), (68, .iload_n 1, 1), (69, .imul, 1), (70, .iload_n 2, 1), (71, .iadd, 1), (72, .iaload, 1), (73, .ireturn, 1)]
theorem tbX9_surprise_0_ok : tbX9_surprise_0.all (fun q => decide (decode cX9_surprise q.1 = .ok q.2)) = true := by decide +kernel
theorem dX9_surprise_0 : decode cX9_surprise 0 = .ok (.aload_n 0, 1) := xdt tbX9_surprise_0_ok 0 rfl
theorem dX9_surprise_1 : decode cX9_surprise 1 = .ok (.iconst 0, 1) := xdt tbX9_surprise_0_ok 1 rfl
theorem dX9_surprise_2 : decode cX9_surprise 2 = .ok (.putfield 91, 3) := xdt tbX9_surprise_0_ok 2 rfl
theorem dX9_surprise_5 : decode cX9_surprise 5 = .ok (.aload_n 0, 1) := xdt tbX9_surprise_0_ok 3 rfl
theorem dX9_surprise_6 : decode cX9_surprise 6 = .ok (.invokevirtual 382, 3) := xdt tbX9_surprise_0_ok 4 rfl
theorem dX9_surprise_9 : decode cX9_surprise 9 = .ok (.aload_n 0, 1) := xdt tbX9_surprise_0_ok 5 rfl
theorem dX9_surprise_10 : decode cX9_surprise 10 = .ok (.iload_n 1, 1) := xdt tbX9_surprise_0_ok 6 rfl
theorem dX9_surprise_11 : decode cX9_surprise 11 = .ok (.iconst 0, 1) := xdt tbX9_surprise_0_ok 7 rfl
theorem dX9_surprise_12 : decode cX9_surprise 12 = .ok (.aload_n 0, 1) := xdt tbX9_surprise_0_ok 8 rfl
theorem dX9_surprise_13 : decode cX9_surprise 13 = .ok (.getfield 358, 3) := xdt tbX9_surprise_0_ok 9 rfl
theorem dX9_surprise_16 : decode cX9_surprise 16 = .ok (.iconst 1, 1) := xdt tbX9_surprise_0_ok 10 rfl
theorem dX9_surprise_17 : decode cX9_surprise 17 = .ok (.isub, 1) := xdt tbX9_surprise_0_ok 11 rfl
theorem dX9_surprise_18 : decode cX9_surprise 18 = .ok (.invokestatic 155, 3) := xdt tbX9_surprise_0_ok 12 rfl
theorem dX9_surprise_21 : decode cX9_surprise 21 = .ok (.ifCond .ne 7, 3) := xdt tbX9_surprise_0_ok 13 rfl
theorem dX9_surprise_24 : decode cX9_surprise 24 = .ok (.iconst 1, 1) := xdt tbX9_surprise_0_ok 14 rfl
theorem dX9_surprise_25 : decode cX9_surprise 25 = .ok (.goto 4, 3) := xdt tbX9_surprise_0_ok 15 rfl
theorem dX9_surprise_28 : decode cX9_surprise 28 = .ok (.iconst 0, 1) := xdt tbX9_surprise_0_ok 16 rfl
theorem dX9_surprise_29 : decode cX9_surprise 29 = .ok (.iconst 1, 1) := xdt tbX9_surprise_0_ok 17 rfl
theorem dX9_surprise_30 : decode cX9_surprise 30 = .ok (.iconst 0, 1) := xdt tbX9_surprise_0_ok 18 rfl
theorem dX9_surprise_31 : decode cX9_surprise 31 = .ok (.invokevirtual 257, 3) := xdt tbX9_surprise_0_ok 19 rfl
theorem dX9_surprise_34 : decode cX9_surprise 34 = .ok (.ifCond .ne 26, 3) := xdt tbX9_surprise_0_ok 20 rfl
theorem dX9_surprise_37 : decode cX9_surprise 37 = .ok (.aload_n 0, 1) := xdt tbX9_surprise_0_ok 21 rfl
theorem dX9_surprise_38 : decode cX9_surprise 38 = .ok (.iload_n 2, 1) := xdt tbX9_surprise_0_ok 22 rfl
theorem dX9_surprise_39 : decode cX9_surprise 39 = .ok (.iconst 0, 1) := xdt tbX9_surprise_0_ok 23 rfl
theorem dX9_surprise_40 : decode cX9_surprise 40 = .ok (.iconst 5, 1) := xdt tbX9_surprise_0_ok 24 rfl
theorem dX9_surprise_41 : decode cX9_surprise 41 = .ok (.invokestatic 155, 3) := xdt tbX9_surprise_0_ok 25 rfl
theorem dX9_surprise_44 : decode cX9_surprise 44 = .ok (.ifCond .ne 7, 3) := xdt tbX9_surprise_0_ok 26 rfl
theorem dX9_surprise_47 : decode cX9_surprise 47 = .ok (.iconst 1, 1) := xdt tbX9_surprise_0_ok 27 rfl
theorem dX9_surprise_48 : decode cX9_surprise 48 = .ok (.goto 4, 3) := xdt tbX9_surprise_0_ok 28 rfl
theorem dX9_surprise_51 : decode cX9_surprise 51 = .ok (.iconst 0, 1) := xdt tbX9_surprise_0_ok 29 rfl
theorem dX9_surprise_52 : decode cX9_surprise 52 = .ok (.iconst 2, 1) := xdt tbX9_surprise_0_ok 30 rfl
theorem dX9_surprise_53 : decode cX9_surprise 53 = .ok (.iconst 1, 1) := xdt tbX9_surprise_0_ok 31 rfl
theorem dX9_surprise_54 : decode cX9_surprise 54 = .ok (.invokevirtual 257, 3) := xdt tbX9_surprise_0_ok 32 rfl
theorem dX9_surprise_57 : decode cX9_surprise 57 = .ok (.ifCond .eq 5, 3) := xdt tbX9_surprise_0_ok 33 rfl
theorem dX9_surprise_60 : decode cX9_surprise 60 = .ok (.iconst 0, 1) := xdt tbX9_surprise_0_ok 34 rfl
theorem dX9_surprise_61 : decode cX9_surprise 61 = .ok (.ireturn, 1) := xdt tbX9_surprise_0_ok 35 rfl
theorem dX9_surprise_62 : decode cX9_surprise 62 = .ok (.aload_n 0, 1) := xdt tbX9_surprise_0_ok 36 rfl
theorem dX9_surprise_63 : decode cX9_surprise 63 = .ok (.getfield 66, 3) := xdt tbX9_surprise_0_ok 37 rfl
theorem dX9_surprise_66 : decode cX9_surprise 66 = .ok (.bipush 6, 2) := xdt tbX9_surprise_0_ok 38 rfl
theorem dX9_surprise_68 : decode cX9_surprise 68 = .ok (.iload_n 1, 1) := xdt tbX9_surprise_0_ok 39 rfl
theorem dX9_surprise_69 : decode cX9_surprise 69 = .ok (.imul, 1) := xdt tbX9_surprise_0_ok 40 rfl
theorem dX9_surprise_70 : decode cX9_surprise 70 = .ok (.iload_n 2, 1) := xdt tbX9_surprise_0_ok 41 rfl
theorem dX9_surprise_71 : decode cX9_surprise 71 = .ok (.iadd, 1) := xdt tbX9_surprise_0_ok 42 rfl
theorem dX9_surprise_72 : decode cX9_surprise 72 = .ok (.iaload, 1) := xdt tbX9_surprise_0_ok 43 rfl
theorem dX9_surprise_73 : decode cX9_surprise 73 = .ok (.ireturn, 1) := xdt tbX9_surprise_0_ok 44 rfl
def tbX9_trace_0 : List (Nat × Instr × Nat) := [(0, .aload_n 0, 1), (1, .iconst 0, 1), (2, .putfield 91, 3), (5, .aload_n 0, 1), (6, .invokevirtual 382, 3), (9, .aload_n 0, 1), (10, .iload_n 1, 1), (11, .iconst 0, 1), (12, .aload_n 0, 1), (13, .getfield 358, 3), (16, .iconst 1, 1), (17, .isub, 1), (18, .invokestatic 155, 3), (21, .ifCond .ne 7, 3), (24, .iconst 1, 1), (25, .goto 4, 3), (28, .iconst 0, 1), (29, .iconst 1, 1), (30, .iconst 0, 1), (31, .invokevirtual 257, 3), (34, .ifCond .eq 5, 3), (37, .iconst 0, 1), (38, .ireturn, 1), (39, .iload_n 2, 1), (40, .iconst 0, 1), (41, .aload_n 0, 1), (42, .getfield 66, 3), (45, .bipush 6, 2), (47, .iload_n 1, 1), (48, .imul, 1), (49, .iconst 4, 1), (50, .iadd, 1), (51, .iaload, 1), (52, .iconst 1, 1), (53, .isub, 1), (54, .invokestatic 155, 3), (57, .ifCond .eq 32, 3), (60, .bipush 100, 2), (62, .aload_n 0, 1), (63, .getfield 70, 3), (66, .bipush 20, 2), (68, .iload_n 1, 1), (69, .imul, 1), (70, .iload_n 2, 1), (71, .iadd, 1), (72, .iaload, 1), (73, .imul, 1), (74, .aload_n 0, 1), (75, .getfield 73, 3), (78, .bipush 20, 2), (80, .iload_n 1, 1), (81, .imul, 1), (82, .iload_n 2, 1), (83, .iadd, 1), (84, .iaload, 1), (85, .iadd, 1), (86, .goto 4, 3), (89, .iconst (-1), 1), (90, .ireturn, 1)]
theorem tbX9_trace_0_ok : tbX9_trace_0.all (fun q => decide (decode cX9_trace q.1 = .ok q.2)) = true := by decide +kernel
theorem dX9_trace_0 : decode cX9_trace 0 = .ok (.aload_n 0, 1) := xdt tbX9_trace_0_ok 0 rfl
theorem dX9_trace_1 : decode cX9_trace 1 = .ok (.iconst 0, 1) := xdt tbX9_trace_0_ok 1 rfl
theorem dX9_trace_2 : decode cX9_trace 2 = .ok (.putfield 91, 3) := xdt tbX9_trace_0_ok 2 rfl
theorem dX9_trace_5 : decode cX9_trace 5 = .ok (.aload_n 0, 1) := xdt tbX9_trace_0_ok 3 rfl
theorem dX9_trace_6 : decode cX9_trace 6 = .ok (.invokevirtual 382, 3) := xdt tbX9_trace_0_ok 4 rfl
theorem dX9_trace_9 : decode cX9_trace 9 = .ok (.aload_n 0, 1) := xdt tbX9_trace_0_ok 5 rfl
theorem dX9_trace_10 : decode cX9_trace 10 = .ok (.iload_n 1, 1) := xdt tbX9_trace_0_ok 6 rfl
theorem dX9_trace_11 : decode cX9_trace 11 = .ok (.iconst 0, 1) := xdt tbX9_trace_0_ok 7 rfl
theorem dX9_trace_12 : decode cX9_trace 12 = .ok (.aload_n 0, 1) := xdt tbX9_trace_0_ok 8 rfl
theorem dX9_trace_13 : decode cX9_trace 13 = .ok (.getfield 358, 3) := xdt tbX9_trace_0_ok 9 rfl
theorem dX9_trace_16 : decode cX9_trace 16 = .ok (.iconst 1, 1) := xdt tbX9_trace_0_ok 10 rfl
theorem dX9_trace_17 : decode cX9_trace 17 = .ok (.isub, 1) := xdt tbX9_trace_0_ok 11 rfl
theorem dX9_trace_18 : decode cX9_trace 18 = .ok (.invokestatic 155, 3) := xdt tbX9_trace_0_ok 12 rfl
theorem dX9_trace_21 : decode cX9_trace 21 = .ok (.ifCond .ne 7, 3) := xdt tbX9_trace_0_ok 13 rfl
theorem dX9_trace_24 : decode cX9_trace 24 = .ok (.iconst 1, 1) := xdt tbX9_trace_0_ok 14 rfl
theorem dX9_trace_25 : decode cX9_trace 25 = .ok (.goto 4, 3) := xdt tbX9_trace_0_ok 15 rfl
theorem dX9_trace_28 : decode cX9_trace 28 = .ok (.iconst 0, 1) := xdt tbX9_trace_0_ok 16 rfl
theorem dX9_trace_29 : decode cX9_trace 29 = .ok (.iconst 1, 1) := xdt tbX9_trace_0_ok 17 rfl
theorem dX9_trace_30 : decode cX9_trace 30 = .ok (.iconst 0, 1) := xdt tbX9_trace_0_ok 18 rfl
theorem dX9_trace_31 : decode cX9_trace 31 = .ok (.invokevirtual 257, 3) := xdt tbX9_trace_0_ok 19 rfl
theorem dX9_trace_34 : decode cX9_trace 34 = .ok (.ifCond .eq 5, 3) := xdt tbX9_trace_0_ok 20 rfl
theorem dX9_trace_37 : decode cX9_trace 37 = .ok (.iconst 0, 1) := xdt tbX9_trace_0_ok 21 rfl
theorem dX9_trace_38 : decode cX9_trace 38 = .ok (.ireturn, 1) := xdt tbX9_trace_0_ok 22 rfl
theorem dX9_trace_39 : decode cX9_trace 39 = .ok (.iload_n 2, 1) := xdt tbX9_trace_0_ok 23 rfl
theorem dX9_trace_40 : decode cX9_trace 40 = .ok (.iconst 0, 1) := xdt tbX9_trace_0_ok 24 rfl
theorem dX9_trace_41 : decode cX9_trace 41 = .ok (.aload_n 0, 1) := xdt tbX9_trace_0_ok 25 rfl
theorem dX9_trace_42 : decode cX9_trace 42 = .ok (.getfield 66, 3) := xdt tbX9_trace_0_ok 26 rfl
theorem dX9_trace_45 : decode cX9_trace 45 = .ok (.bipush 6, 2) := xdt tbX9_trace_0_ok 27 rfl
theorem dX9_trace_47 : decode cX9_trace 47 = .ok (.iload_n 1, 1) := xdt tbX9_trace_0_ok 28 rfl
theorem dX9_trace_48 : decode cX9_trace 48 = .ok (.imul, 1) := xdt tbX9_trace_0_ok 29 rfl
theorem dX9_trace_49 : decode cX9_trace 49 = .ok (.iconst 4, 1) := xdt tbX9_trace_0_ok 30 rfl
theorem dX9_trace_50 : decode cX9_trace 50 = .ok (.iadd, 1) := xdt tbX9_trace_0_ok 31 rfl
theorem dX9_trace_51 : decode cX9_trace 51 = .ok (.iaload, 1) := xdt tbX9_trace_0_ok 32 rfl
theorem dX9_trace_52 : decode cX9_trace 52 = .ok (.iconst 1, 1) := xdt tbX9_trace_0_ok 33 rfl
theorem dX9_trace_53 : decode cX9_trace 53 = .ok (.isub, 1) := xdt tbX9_trace_0_ok 34 rfl
theorem dX9_trace_54 : decode cX9_trace 54 = .ok (.invokestatic 155, 3) := xdt tbX9_trace_0_ok 35 rfl
theorem dX9_trace_57 : decode cX9_trace 57 = .ok (.ifCond .eq 32, 3) := xdt tbX9_trace_0_ok 36 rfl
theorem dX9_trace_60 : decode cX9_trace 60 = .ok (.bipush 100, 2) := xdt tbX9_trace_0_ok 37 rfl
theorem dX9_trace_62 : decode cX9_trace 62 = .ok (.aload_n 0, 1) := xdt tbX9_trace_0_ok 38 rfl
theorem dX9_trace_63 : decode cX9_trace 63 = .ok (.getfield 70, 3) := xdt tbX9_trace_0_ok 39 rfl
theorem dX9_trace_66 : decode cX9_trace 66 = .ok (.bipush 20, 2) := xdt tbX9_trace_0_ok 40 rfl
theorem dX9_trace_68 : decode cX9_trace 68 = .ok (.iload_n 1, 1) := xdt tbX9_trace_0_ok 41 rfl
theorem dX9_trace_69 : decode cX9_trace 69 = .ok (.imul, 1) := xdt tbX9_trace_0_ok 42 rfl
theorem dX9_trace_70 : decode cX9_trace 70 = .ok (.iload_n 2, 1) := xdt tbX9_trace_0_ok 43 rfl
theorem dX9_trace_71 : decode cX9_trace 71 = .ok (.iadd, 1) := xdt tbX9_trace_0_ok 44 rfl
theorem dX9_trace_72 : decode cX9_trace 72 = .ok (.iaload, 1) := xdt tbX9_trace_0_ok 45 rfl
theorem dX9_trace_73 : decode cX9_trace 73 = .ok (.imul, 1) := xdt tbX9_trace_0_ok 46 rfl
theorem dX9_trace_74 : decode cX9_trace 74 = .ok (.aload_n 0, 1) := xdt tbX9_trace_0_ok 47 rfl
theorem dX9_trace_75 : decode cX9_trace 75 = .ok (.getfield 73, 3) := xdt tbX9_trace_0_ok 48 rfl
theorem dX9_trace_78 : decode cX9_trace 78 = .ok (.bipush 20, 2) := xdt tbX9_trace_0_ok 49 rfl
theorem dX9_trace_80 : decode cX9_trace 80 = .ok (.iload_n 1, 1) := xdt tbX9_trace_0_ok 50 rfl
theorem dX9_trace_81 : decode cX9_trace 81 = .ok (.imul, 1) := xdt tbX9_trace_0_ok 51 rfl
theorem dX9_trace_82 : decode cX9_trace 82 = .ok (.iload_n 2, 1) := xdt tbX9_trace_0_ok 52 rfl
theorem dX9_trace_83 : decode cX9_trace 83 = .ok (.iadd, 1) := xdt tbX9_trace_0_ok 53 rfl
theorem dX9_trace_84 : decode cX9_trace 84 = .ok (.iaload, 1) := xdt tbX9_trace_0_ok 54 rfl
theorem dX9_trace_85 : decode cX9_trace 85 = .ok (.iadd, 1) := xdt tbX9_trace_0_ok 55 rfl
theorem dX9_trace_86 : decode cX9_trace 86 = .ok (.goto 4, 3) := xdt tbX9_trace_0_ok 56 rfl
theorem dX9_trace_89 : decode cX9_trace 89 = .ok (.iconst (-1), 1) := xdt tbX9_trace_0_ok 57 rfl
theorem dX9_trace_90 : decode cX9_trace 90 = .ok (.ireturn, 1) := xdt tbX9_trace_0_ok 58 rfl
def tbX9_broken_0 : List (Nat × Instr × Nat) := [(0, .aload_n 0, 1), (1, .iconst 0, 1), (2, .putfield 91, 3), (5, .aload_n 0, 1), (6, .aload_n 0, 1), (7, .iload_n 1, 1), (8, .invokevirtual 283, 3), (11, .ifCond .ne 7, 3), (14, .iconst 1, 1), (15, .goto 4, 3), (18, .iconst 0, 1), (19, .iconst 1, 1), (20, .iconst 0, 1), (21, .invokevirtual 257, 3), (24, .ifCond .ne 26, 3), (27, .aload_n 0, 1), (28, .iload_n 2, 1), (29, .iconst 0, 1), (30, .iconst 2, 1), (31, .invokestatic 155, 3), (34, .ifCond .ne 7, 3), (37, .iconst 1, 1), (38, .goto 4, 3), (41, .iconst 0, 1), (42, .iconst 2, 1), (43, .iconst 1, 1), (44, .invokevirtual 257, 3), (47, .ifCond .eq 5, 3), (50, .iconst 0, 1), (51, .ireturn, 1), (52, .aload_n 0, 1), (53, .invokevirtual 382, 3), (56, .iload_n 2, 1), (57, .ifCond .ne 12, 3), (60, .aload_n 0, 1), (61, .getfield 48, 3), (64, .iload_n 1, 1), (65, .iaload, 1), (66, .goto 23, 3), (69, .iload_n 2, 1), (70, .iconst 1, 1), (71, .if_icmp .ne 12, 3), (74, .aload_n 0, 1), (75, .getfield 51, 3), (78, .iload_n 1, 1), (79, .iaload, 1), (80, .goto 9, 3), (83, .aload_n 0, 1), (84, .getfield 54, 3), (87, .iload_n 1, 1), (88, .iaload, 1), (89, .ireturn, 1)]
theorem tbX9_broken_0_ok : tbX9_broken_0.all (fun q => decide (decode cX9_broken q.1 = .ok q.2)) = true := by decide +kernel
theorem dX9_broken_0 : decode cX9_broken 0 = .ok (.aload_n 0, 1) := xdt tbX9_broken_0_ok 0 rfl
theorem dX9_broken_1 : decode cX9_broken 1 = .ok (.iconst 0, 1) := xdt tbX9_broken_0_ok 1 rfl
theorem dX9_broken_2 : decode cX9_broken 2 = .ok (.putfield 91, 3) := xdt tbX9_broken_0_ok 2 rfl
theorem dX9_broken_5 : decode cX9_broken 5 = .ok (.aload_n 0, 1) := xdt tbX9_broken_0_ok 3 rfl
theorem dX9_broken_6 : decode cX9_broken 6 = .ok (.aload_n 0, 1) := xdt tbX9_broken_0_ok 4 rfl
theorem dX9_broken_7 : decode cX9_broken 7 = .ok (.iload_n 1, 1) := xdt tbX9_broken_0_ok 5 rfl
theorem dX9_broken_8 : decode cX9_broken 8 = .ok (.invokevirtual 283, 3) := xdt tbX9_broken_0_ok 6 rfl
theorem dX9_broken_11 : decode cX9_broken 11 = .ok (.ifCond .ne 7, 3) := xdt tbX9_broken_0_ok 7 rfl
theorem dX9_broken_14 : decode cX9_broken 14 = .ok (.iconst 1, 1) := xdt tbX9_broken_0_ok 8 rfl
theorem dX9_broken_15 : decode cX9_broken 15 = .ok (.goto 4, 3) := xdt tbX9_broken_0_ok 9 rfl
theorem dX9_broken_18 : decode cX9_broken 18 = .ok (.iconst 0, 1) := xdt tbX9_broken_0_ok 10 rfl
theorem dX9_broken_19 : decode cX9_broken 19 = .ok (.iconst 1, 1) := xdt tbX9_broken_0_ok 11 rfl
theorem dX9_broken_20 : decode cX9_broken 20 = .ok (.iconst 0, 1) := xdt tbX9_broken_0_ok 12 rfl
theorem dX9_broken_21 : decode cX9_broken 21 = .ok (.invokevirtual 257, 3) := xdt tbX9_broken_0_ok 13 rfl
theorem dX9_broken_24 : decode cX9_broken 24 = .ok (.ifCond .ne 26, 3) := xdt tbX9_broken_0_ok 14 rfl
theorem dX9_broken_27 : decode cX9_broken 27 = .ok (.aload_n 0, 1) := xdt tbX9_broken_0_ok 15 rfl
theorem dX9_broken_28 : decode cX9_broken 28 = .ok (.iload_n 2, 1) := xdt tbX9_broken_0_ok 16 rfl
theorem dX9_broken_29 : decode cX9_broken 29 = .ok (.iconst 0, 1) := xdt tbX9_broken_0_ok 17 rfl
theorem dX9_broken_30 : decode cX9_broken 30 = .ok (.iconst 2, 1) := xdt tbX9_broken_0_ok 18 rfl
theorem dX9_broken_31 : decode cX9_broken 31 = .ok (.invokestatic 155, 3) := xdt tbX9_broken_0_ok 19 rfl
theorem dX9_broken_34 : decode cX9_broken 34 = .ok (.ifCond .ne 7, 3) := xdt tbX9_broken_0_ok 20 rfl
theorem dX9_broken_37 : decode cX9_broken 37 = .ok (.iconst 1, 1) := xdt tbX9_broken_0_ok 21 rfl
theorem dX9_broken_38 : decode cX9_broken 38 = .ok (.goto 4, 3) := xdt tbX9_broken_0_ok 22 rfl
theorem dX9_broken_41 : decode cX9_broken 41 = .ok (.iconst 0, 1) := xdt tbX9_broken_0_ok 23 rfl
theorem dX9_broken_42 : decode cX9_broken 42 = .ok (.iconst 2, 1) := xdt tbX9_broken_0_ok 24 rfl
theorem dX9_broken_43 : decode cX9_broken 43 = .ok (.iconst 1, 1) := xdt tbX9_broken_0_ok 25 rfl
theorem dX9_broken_44 : decode cX9_broken 44 = .ok (.invokevirtual 257, 3) := xdt tbX9_broken_0_ok 26 rfl
theorem dX9_broken_47 : decode cX9_broken 47 = .ok (.ifCond .eq 5, 3) := xdt tbX9_broken_0_ok 27 rfl
theorem dX9_broken_50 : decode cX9_broken 50 = .ok (.iconst 0, 1) := xdt tbX9_broken_0_ok 28 rfl
theorem dX9_broken_51 : decode cX9_broken 51 = .ok (.ireturn, 1) := xdt tbX9_broken_0_ok 29 rfl
theorem dX9_broken_52 : decode cX9_broken 52 = .ok (.aload_n 0, 1) := xdt tbX9_broken_0_ok 30 rfl
theorem dX9_broken_53 : decode cX9_broken 53 = .ok (.invokevirtual 382, 3) := xdt tbX9_broken_0_ok 31 rfl
theorem dX9_broken_56 : decode cX9_broken 56 = .ok (.iload_n 2, 1) := xdt tbX9_broken_0_ok 32 rfl
theorem dX9_broken_57 : decode cX9_broken 57 = .ok (.ifCond .ne 12, 3) := xdt tbX9_broken_0_ok 33 rfl
theorem dX9_broken_60 : decode cX9_broken 60 = .ok (.aload_n 0, 1) := xdt tbX9_broken_0_ok 34 rfl
theorem dX9_broken_61 : decode cX9_broken 61 = .ok (.getfield 48, 3) := xdt tbX9_broken_0_ok 35 rfl
theorem dX9_broken_64 : decode cX9_broken 64 = .ok (.iload_n 1, 1) := xdt tbX9_broken_0_ok 36 rfl
theorem dX9_broken_65 : decode cX9_broken 65 = .ok (.iaload, 1) := xdt tbX9_broken_0_ok 37 rfl
theorem dX9_broken_66 : decode cX9_broken 66 = .ok (.goto 23, 3) := xdt tbX9_broken_0_ok 38 rfl
theorem dX9_broken_69 : decode cX9_broken 69 = .ok (.iload_n 2, 1) := xdt tbX9_broken_0_ok 39 rfl
theorem dX9_broken_70 : decode cX9_broken 70 = .ok (.iconst 1, 1) := xdt tbX9_broken_0_ok 40 rfl
theorem dX9_broken_71 : decode cX9_broken 71 = .ok (.if_icmp .ne 12, 3) := xdt tbX9_broken_0_ok 41 rfl
theorem dX9_broken_74 : decode cX9_broken 74 = .ok (.aload_n 0, 1) := xdt tbX9_broken_0_ok 42 rfl
theorem dX9_broken_75 : decode cX9_broken 75 = .ok (.getfield 51, 3) := xdt tbX9_broken_0_ok 43 rfl
theorem dX9_broken_78 : decode cX9_broken 78 = .ok (.iload_n 1, 1) := xdt tbX9_broken_0_ok 44 rfl
theorem dX9_broken_79 : decode cX9_broken 79 = .ok (.iaload, 1) := xdt tbX9_broken_0_ok 45 rfl
theorem dX9_broken_80 : decode cX9_broken 80 = .ok (.goto 9, 3) := xdt tbX9_broken_0_ok 46 rfl
theorem dX9_broken_83 : decode cX9_broken 83 = .ok (.aload_n 0, 1) := xdt tbX9_broken_0_ok 47 rfl
theorem dX9_broken_84 : decode cX9_broken 84 = .ok (.getfield 54, 3) := xdt tbX9_broken_0_ok 48 rfl
theorem dX9_broken_87 : decode cX9_broken 87 = .ok (.iload_n 1, 1) := xdt tbX9_broken_0_ok 49 rfl
theorem dX9_broken_88 : decode cX9_broken 88 = .ok (.iaload, 1) := xdt tbX9_broken_0_ok 50 rfl
theorem dX9_broken_89 : decode cX9_broken 89 = .ok (.ireturn, 1) := xdt tbX9_broken_0_ok 51 rfl
def tbX9_alike_0 : List (Nat × Instr × Nat) := [(0, .aload_n 0, 1), (1, .iconst 0, 1), (2, .putfield 91, 3), (5, .aload_n 0, 1), (6, .aload_n 0, 1), (7, .iload_n 1, 1), (8, .invokevirtual 388, 3), (11, .ifCond .ne 7, 3), (14, .iconst 1, 1), (15, .goto 4, 3), (18, .iconst 0, 1), (19, .iconst 1, 1), (20, .iconst 1, 1), (21, .invokevirtual 257, 3), (24, .ifCond .eq 5, 3), (27, .iconst 0, 1), (28, .ireturn, 1), (29, .aload_n 0, 1), (30, .invokevirtual 382, 3), (33, .aload_n 0, 1), (34, .getfield 300, 3), (37, .iconst 2, 1), (38, .if_icmp .ne 7, 3), (41, .iconst 1, 1), (42, .goto 4, 3), (45, .iconst 0, 1), (46, .istore_n 2, 1), (47, .iconst 0, 1), (48, .istore_n 3, 1), (49, .iload_n 3, 1), (50, .bipush 84, 2), (52, .if_icmp .ge 21, 3), (55, .aload_n 0, 1), (56, .getfield 76, 3), (59, .iload_n 3, 1), (60, .aload_n 0, 1), (61, .getfield 45, 3), (64, .iload_n 3, 1), (65, .iaload, 1), (66, .iastore, 1), (67, .iinc 3 1, 3), (70, .goto (-21), 3), (73, .iconst 0, 1), (74, .istore_n 3, 1), (75, .iload_n 3, 1), (76, .bipush 7, 2), (78, .if_icmp .ge 21, 3), (81, .aload_n 0, 1), (82, .getfield 79, 3), (85, .iload_n 3, 1), (86, .aload_n 0, 1), (87, .getfield 39, 3), (90, .iload_n 3, 1), (91, .iaload, 1), (92, .iastore, 1), (93, .iinc 3 1, 3), (96, .goto (-21), 3), (99, .aload_n 0, 1), (100, .iload_n 1, 1), (101, .invokevirtual 391, 3)]
theorem tbX9_alike_0_ok : tbX9_alike_0.all (fun q => decide (decode cX9_alike q.1 = .ok q.2)) = true := by decide +kernel
theorem dX9_alike_0 : decode cX9_alike 0 = .ok (.aload_n 0, 1) := xdt tbX9_alike_0_ok 0 rfl
theorem dX9_alike_1 : decode cX9_alike 1 = .ok (.iconst 0, 1) := xdt tbX9_alike_0_ok 1 rfl
theorem dX9_alike_2 : decode cX9_alike 2 = .ok (.putfield 91, 3) := xdt tbX9_alike_0_ok 2 rfl
theorem dX9_alike_5 : decode cX9_alike 5 = .ok (.aload_n 0, 1) := xdt tbX9_alike_0_ok 3 rfl
theorem dX9_alike_6 : decode cX9_alike 6 = .ok (.aload_n 0, 1) := xdt tbX9_alike_0_ok 4 rfl
theorem dX9_alike_7 : decode cX9_alike 7 = .ok (.iload_n 1, 1) := xdt tbX9_alike_0_ok 5 rfl
theorem dX9_alike_8 : decode cX9_alike 8 = .ok (.invokevirtual 388, 3) := xdt tbX9_alike_0_ok 6 rfl
theorem dX9_alike_11 : decode cX9_alike 11 = .ok (.ifCond .ne 7, 3) := xdt tbX9_alike_0_ok 7 rfl
theorem dX9_alike_14 : decode cX9_alike 14 = .ok (.iconst 1, 1) := xdt tbX9_alike_0_ok 8 rfl
theorem dX9_alike_15 : decode cX9_alike 15 = .ok (.goto 4, 3) := xdt tbX9_alike_0_ok 9 rfl
theorem dX9_alike_18 : decode cX9_alike 18 = .ok (.iconst 0, 1) := xdt tbX9_alike_0_ok 10 rfl
theorem dX9_alike_19 : decode cX9_alike 19 = .ok (.iconst 1, 1) := xdt tbX9_alike_0_ok 11 rfl
theorem dX9_alike_20 : decode cX9_alike 20 = .ok (.iconst 1, 1) := xdt tbX9_alike_0_ok 12 rfl
theorem dX9_alike_21 : decode cX9_alike 21 = .ok (.invokevirtual 257, 3) := xdt tbX9_alike_0_ok 13 rfl
theorem dX9_alike_24 : decode cX9_alike 24 = .ok (.ifCond .eq 5, 3) := xdt tbX9_alike_0_ok 14 rfl
theorem dX9_alike_27 : decode cX9_alike 27 = .ok (.iconst 0, 1) := xdt tbX9_alike_0_ok 15 rfl
theorem dX9_alike_28 : decode cX9_alike 28 = .ok (.ireturn, 1) := xdt tbX9_alike_0_ok 16 rfl
theorem dX9_alike_29 : decode cX9_alike 29 = .ok (.aload_n 0, 1) := xdt tbX9_alike_0_ok 17 rfl
theorem dX9_alike_30 : decode cX9_alike 30 = .ok (.invokevirtual 382, 3) := xdt tbX9_alike_0_ok 18 rfl
theorem dX9_alike_33 : decode cX9_alike 33 = .ok (.aload_n 0, 1) := xdt tbX9_alike_0_ok 19 rfl
theorem dX9_alike_34 : decode cX9_alike 34 = .ok (.getfield 300, 3) := xdt tbX9_alike_0_ok 20 rfl
theorem dX9_alike_37 : decode cX9_alike 37 = .ok (.iconst 2, 1) := xdt tbX9_alike_0_ok 21 rfl
theorem dX9_alike_38 : decode cX9_alike 38 = .ok (.if_icmp .ne 7, 3) := xdt tbX9_alike_0_ok 22 rfl
theorem dX9_alike_41 : decode cX9_alike 41 = .ok (.iconst 1, 1) := xdt tbX9_alike_0_ok 23 rfl
theorem dX9_alike_42 : decode cX9_alike 42 = .ok (.goto 4, 3) := xdt tbX9_alike_0_ok 24 rfl
theorem dX9_alike_45 : decode cX9_alike 45 = .ok (.iconst 0, 1) := xdt tbX9_alike_0_ok 25 rfl
theorem dX9_alike_46 : decode cX9_alike 46 = .ok (.istore_n 2, 1) := xdt tbX9_alike_0_ok 26 rfl
theorem dX9_alike_47 : decode cX9_alike 47 = .ok (.iconst 0, 1) := xdt tbX9_alike_0_ok 27 rfl
theorem dX9_alike_48 : decode cX9_alike 48 = .ok (.istore_n 3, 1) := xdt tbX9_alike_0_ok 28 rfl
theorem dX9_alike_49 : decode cX9_alike 49 = .ok (.iload_n 3, 1) := xdt tbX9_alike_0_ok 29 rfl
theorem dX9_alike_50 : decode cX9_alike 50 = .ok (.bipush 84, 2) := xdt tbX9_alike_0_ok 30 rfl
theorem dX9_alike_52 : decode cX9_alike 52 = .ok (.if_icmp .ge 21, 3) := xdt tbX9_alike_0_ok 31 rfl
theorem dX9_alike_55 : decode cX9_alike 55 = .ok (.aload_n 0, 1) := xdt tbX9_alike_0_ok 32 rfl
theorem dX9_alike_56 : decode cX9_alike 56 = .ok (.getfield 76, 3) := xdt tbX9_alike_0_ok 33 rfl
theorem dX9_alike_59 : decode cX9_alike 59 = .ok (.iload_n 3, 1) := xdt tbX9_alike_0_ok 34 rfl
theorem dX9_alike_60 : decode cX9_alike 60 = .ok (.aload_n 0, 1) := xdt tbX9_alike_0_ok 35 rfl
theorem dX9_alike_61 : decode cX9_alike 61 = .ok (.getfield 45, 3) := xdt tbX9_alike_0_ok 36 rfl
theorem dX9_alike_64 : decode cX9_alike 64 = .ok (.iload_n 3, 1) := xdt tbX9_alike_0_ok 37 rfl
theorem dX9_alike_65 : decode cX9_alike 65 = .ok (.iaload, 1) := xdt tbX9_alike_0_ok 38 rfl
theorem dX9_alike_66 : decode cX9_alike 66 = .ok (.iastore, 1) := xdt tbX9_alike_0_ok 39 rfl
theorem dX9_alike_67 : decode cX9_alike 67 = .ok (.iinc 3 1, 3) := xdt tbX9_alike_0_ok 40 rfl
theorem dX9_alike_70 : decode cX9_alike 70 = .ok (.goto (-21), 3) := xdt tbX9_alike_0_ok 41 rfl
theorem dX9_alike_73 : decode cX9_alike 73 = .ok (.iconst 0, 1) := xdt tbX9_alike_0_ok 42 rfl
theorem dX9_alike_74 : decode cX9_alike 74 = .ok (.istore_n 3, 1) := xdt tbX9_alike_0_ok 43 rfl
theorem dX9_alike_75 : decode cX9_alike 75 = .ok (.iload_n 3, 1) := xdt tbX9_alike_0_ok 44 rfl
theorem dX9_alike_76 : decode cX9_alike 76 = .ok (.bipush 7, 2) := xdt tbX9_alike_0_ok 45 rfl
theorem dX9_alike_78 : decode cX9_alike 78 = .ok (.if_icmp .ge 21, 3) := xdt tbX9_alike_0_ok 46 rfl
theorem dX9_alike_81 : decode cX9_alike 81 = .ok (.aload_n 0, 1) := xdt tbX9_alike_0_ok 47 rfl
theorem dX9_alike_82 : decode cX9_alike 82 = .ok (.getfield 79, 3) := xdt tbX9_alike_0_ok 48 rfl
theorem dX9_alike_85 : decode cX9_alike 85 = .ok (.iload_n 3, 1) := xdt tbX9_alike_0_ok 49 rfl
theorem dX9_alike_86 : decode cX9_alike 86 = .ok (.aload_n 0, 1) := xdt tbX9_alike_0_ok 50 rfl
theorem dX9_alike_87 : decode cX9_alike 87 = .ok (.getfield 39, 3) := xdt tbX9_alike_0_ok 51 rfl
theorem dX9_alike_90 : decode cX9_alike 90 = .ok (.iload_n 3, 1) := xdt tbX9_alike_0_ok 52 rfl
theorem dX9_alike_91 : decode cX9_alike 91 = .ok (.iaload, 1) := xdt tbX9_alike_0_ok 53 rfl
theorem dX9_alike_92 : decode cX9_alike 92 = .ok (.iastore, 1) := xdt tbX9_alike_0_ok 54 rfl
theorem dX9_alike_93 : decode cX9_alike 93 = .ok (.iinc 3 1, 3) := xdt tbX9_alike_0_ok 55 rfl
theorem dX9_alike_96 : decode cX9_alike 96 = .ok (.goto (-21), 3) := xdt tbX9_alike_0_ok 56 rfl
theorem dX9_alike_99 : decode cX9_alike 99 = .ok (.aload_n 0, 1) := xdt tbX9_alike_0_ok 57 rfl
theorem dX9_alike_100 : decode cX9_alike 100 = .ok (.iload_n 1, 1) := xdt tbX9_alike_0_ok 58 rfl
theorem dX9_alike_101 : decode cX9_alike 101 = .ok (.invokevirtual 391, 3) := xdt tbX9_alike_0_ok 59 rfl
def tbX9_alike_60 : List (Nat × Instr × Nat) := [(104, .iload_n 2, 1), (105, .ifCond .ne 11, 3), (108, .aload_n 0, 1), (109, .getfield 300, 3), (112, .iconst 2, 1), (113, .if_icmp .ne 6, 3), (116, .bipush (-2), 2), (118, .ireturn, 1), (119, .iconst 0, 1), (120, .istore_n 3, 1), (121, .iload_n 3, 1), (122, .aload_n 0, 1), (123, .getfield 20, 3), (126, .iconst 0, 1), (127, .iaload, 1), (128, .if_icmp .ge 87, 3), (131, .iconst 0, 1), (132, .istore 4, 2), (134, .iload 4, 2), (136, .aload_n 0, 1), (137, .getfield 20, 3), (140, .iload_n 3, 1), (141, .iconst 2, 1), (142, .invokestatic 97, 3), (145, .if_icmp .ge 64, 3), (148, .aload_n 0, 1), (149, .getfield 79, 3), (152, .iload_n 3, 1), (153, .iaload, 1), (154, .iconst 2, 1), (155, .if_icmp .ne 54, 3), (158, .aload_n 0, 1), (159, .getfield 20, 3), (162, .iload_n 3, 1), (163, .iload 4, 2), (165, .invokestatic 101, 3), (168, .istore 5, 2), (170, .aload_n 0, 1), (171, .getfield 20, 3), (174, .iload 5, 2), (176, .iconst 0, 1), (177, .invokestatic 104, 3), (180, .iconst 1, 1), (181, .if_icmp .ne 22, 3), (184, .aload_n 0, 1), (185, .getfield 45, 3), (188, .iload 5, 2), (190, .iaload, 1), (191, .aload_n 0, 1), (192, .getfield 76, 3), (195, .iload 5, 2), (197, .iaload, 1), (198, .if_icmp .eq 5, 3), (201, .iconst 0, 1), (202, .ireturn, 1), (203, .iinc 4 1, 3), (206, .goto (-72), 3), (209, .iinc 3 1, 3), (212, .goto (-91), 3), (215, .iconst 1, 1)]
theorem tbX9_alike_60_ok : tbX9_alike_60.all (fun q => decide (decode cX9_alike q.1 = .ok q.2)) = true := by decide +kernel
theorem dX9_alike_104 : decode cX9_alike 104 = .ok (.iload_n 2, 1) := xdt tbX9_alike_60_ok 0 rfl
theorem dX9_alike_105 : decode cX9_alike 105 = .ok (.ifCond .ne 11, 3) := xdt tbX9_alike_60_ok 1 rfl
theorem dX9_alike_108 : decode cX9_alike 108 = .ok (.aload_n 0, 1) := xdt tbX9_alike_60_ok 2 rfl
theorem dX9_alike_109 : decode cX9_alike 109 = .ok (.getfield 300, 3) := xdt tbX9_alike_60_ok 3 rfl
theorem dX9_alike_112 : decode cX9_alike 112 = .ok (.iconst 2, 1) := xdt tbX9_alike_60_ok 4 rfl
theorem dX9_alike_113 : decode cX9_alike 113 = .ok (.if_icmp .ne 6, 3) := xdt tbX9_alike_60_ok 5 rfl
theorem dX9_alike_116 : decode cX9_alike 116 = .ok (.bipush (-2), 2) := xdt tbX9_alike_60_ok 6 rfl
theorem dX9_alike_118 : decode cX9_alike 118 = .ok (.ireturn, 1) := xdt tbX9_alike_60_ok 7 rfl
theorem dX9_alike_119 : decode cX9_alike 119 = .ok (.iconst 0, 1) := xdt tbX9_alike_60_ok 8 rfl
theorem dX9_alike_120 : decode cX9_alike 120 = .ok (.istore_n 3, 1) := xdt tbX9_alike_60_ok 9 rfl
theorem dX9_alike_121 : decode cX9_alike 121 = .ok (.iload_n 3, 1) := xdt tbX9_alike_60_ok 10 rfl
theorem dX9_alike_122 : decode cX9_alike 122 = .ok (.aload_n 0, 1) := xdt tbX9_alike_60_ok 11 rfl
theorem dX9_alike_123 : decode cX9_alike 123 = .ok (.getfield 20, 3) := xdt tbX9_alike_60_ok 12 rfl
theorem dX9_alike_126 : decode cX9_alike 126 = .ok (.iconst 0, 1) := xdt tbX9_alike_60_ok 13 rfl
theorem dX9_alike_127 : decode cX9_alike 127 = .ok (.iaload, 1) := xdt tbX9_alike_60_ok 14 rfl
theorem dX9_alike_128 : decode cX9_alike 128 = .ok (.if_icmp .ge 87, 3) := xdt tbX9_alike_60_ok 15 rfl
theorem dX9_alike_131 : decode cX9_alike 131 = .ok (.iconst 0, 1) := xdt tbX9_alike_60_ok 16 rfl
theorem dX9_alike_132 : decode cX9_alike 132 = .ok (.istore 4, 2) := xdt tbX9_alike_60_ok 17 rfl
theorem dX9_alike_134 : decode cX9_alike 134 = .ok (.iload 4, 2) := xdt tbX9_alike_60_ok 18 rfl
theorem dX9_alike_136 : decode cX9_alike 136 = .ok (.aload_n 0, 1) := xdt tbX9_alike_60_ok 19 rfl
theorem dX9_alike_137 : decode cX9_alike 137 = .ok (.getfield 20, 3) := xdt tbX9_alike_60_ok 20 rfl
theorem dX9_alike_140 : decode cX9_alike 140 = .ok (.iload_n 3, 1) := xdt tbX9_alike_60_ok 21 rfl
theorem dX9_alike_141 : decode cX9_alike 141 = .ok (.iconst 2, 1) := xdt tbX9_alike_60_ok 22 rfl
theorem dX9_alike_142 : decode cX9_alike 142 = .ok (.invokestatic 97, 3) := xdt tbX9_alike_60_ok 23 rfl
theorem dX9_alike_145 : decode cX9_alike 145 = .ok (.if_icmp .ge 64, 3) := xdt tbX9_alike_60_ok 24 rfl
theorem dX9_alike_148 : decode cX9_alike 148 = .ok (.aload_n 0, 1) := xdt tbX9_alike_60_ok 25 rfl
theorem dX9_alike_149 : decode cX9_alike 149 = .ok (.getfield 79, 3) := xdt tbX9_alike_60_ok 26 rfl
theorem dX9_alike_152 : decode cX9_alike 152 = .ok (.iload_n 3, 1) := xdt tbX9_alike_60_ok 27 rfl
theorem dX9_alike_153 : decode cX9_alike 153 = .ok (.iaload, 1) := xdt tbX9_alike_60_ok 28 rfl
theorem dX9_alike_154 : decode cX9_alike 154 = .ok (.iconst 2, 1) := xdt tbX9_alike_60_ok 29 rfl
theorem dX9_alike_155 : decode cX9_alike 155 = .ok (.if_icmp .ne 54, 3) := xdt tbX9_alike_60_ok 30 rfl
theorem dX9_alike_158 : decode cX9_alike 158 = .ok (.aload_n 0, 1) := xdt tbX9_alike_60_ok 31 rfl
theorem dX9_alike_159 : decode cX9_alike 159 = .ok (.getfield 20, 3) := xdt tbX9_alike_60_ok 32 rfl
theorem dX9_alike_162 : decode cX9_alike 162 = .ok (.iload_n 3, 1) := xdt tbX9_alike_60_ok 33 rfl
theorem dX9_alike_163 : decode cX9_alike 163 = .ok (.iload 4, 2) := xdt tbX9_alike_60_ok 34 rfl
theorem dX9_alike_165 : decode cX9_alike 165 = .ok (.invokestatic 101, 3) := xdt tbX9_alike_60_ok 35 rfl
theorem dX9_alike_168 : decode cX9_alike 168 = .ok (.istore 5, 2) := xdt tbX9_alike_60_ok 36 rfl
theorem dX9_alike_170 : decode cX9_alike 170 = .ok (.aload_n 0, 1) := xdt tbX9_alike_60_ok 37 rfl
theorem dX9_alike_171 : decode cX9_alike 171 = .ok (.getfield 20, 3) := xdt tbX9_alike_60_ok 38 rfl
theorem dX9_alike_174 : decode cX9_alike 174 = .ok (.iload 5, 2) := xdt tbX9_alike_60_ok 39 rfl
theorem dX9_alike_176 : decode cX9_alike 176 = .ok (.iconst 0, 1) := xdt tbX9_alike_60_ok 40 rfl
theorem dX9_alike_177 : decode cX9_alike 177 = .ok (.invokestatic 104, 3) := xdt tbX9_alike_60_ok 41 rfl
theorem dX9_alike_180 : decode cX9_alike 180 = .ok (.iconst 1, 1) := xdt tbX9_alike_60_ok 42 rfl
theorem dX9_alike_181 : decode cX9_alike 181 = .ok (.if_icmp .ne 22, 3) := xdt tbX9_alike_60_ok 43 rfl
theorem dX9_alike_184 : decode cX9_alike 184 = .ok (.aload_n 0, 1) := xdt tbX9_alike_60_ok 44 rfl
theorem dX9_alike_185 : decode cX9_alike 185 = .ok (.getfield 45, 3) := xdt tbX9_alike_60_ok 45 rfl
theorem dX9_alike_188 : decode cX9_alike 188 = .ok (.iload 5, 2) := xdt tbX9_alike_60_ok 46 rfl
theorem dX9_alike_190 : decode cX9_alike 190 = .ok (.iaload, 1) := xdt tbX9_alike_60_ok 47 rfl
theorem dX9_alike_191 : decode cX9_alike 191 = .ok (.aload_n 0, 1) := xdt tbX9_alike_60_ok 48 rfl
theorem dX9_alike_192 : decode cX9_alike 192 = .ok (.getfield 76, 3) := xdt tbX9_alike_60_ok 49 rfl
theorem dX9_alike_195 : decode cX9_alike 195 = .ok (.iload 5, 2) := xdt tbX9_alike_60_ok 50 rfl
theorem dX9_alike_197 : decode cX9_alike 197 = .ok (.iaload, 1) := xdt tbX9_alike_60_ok 51 rfl
theorem dX9_alike_198 : decode cX9_alike 198 = .ok (.if_icmp .eq 5, 3) := xdt tbX9_alike_60_ok 52 rfl
theorem dX9_alike_201 : decode cX9_alike 201 = .ok (.iconst 0, 1) := xdt tbX9_alike_60_ok 53 rfl
theorem dX9_alike_202 : decode cX9_alike 202 = .ok (.ireturn, 1) := xdt tbX9_alike_60_ok 54 rfl
theorem dX9_alike_203 : decode cX9_alike 203 = .ok (.iinc 4 1, 3) := xdt tbX9_alike_60_ok 55 rfl
theorem dX9_alike_206 : decode cX9_alike 206 = .ok (.goto (-72), 3) := xdt tbX9_alike_60_ok 56 rfl
theorem dX9_alike_209 : decode cX9_alike 209 = .ok (.iinc 3 1, 3) := xdt tbX9_alike_60_ok 57 rfl
theorem dX9_alike_212 : decode cX9_alike 212 = .ok (.goto (-91), 3) := xdt tbX9_alike_60_ok 58 rfl
theorem dX9_alike_215 : decode cX9_alike 215 = .ok (.iconst 1, 1) := xdt tbX9_alike_60_ok 59 rfl
def tbX9_alike_120 : List (Nat × Instr × Nat) := [(216, .ireturn, 1)]
theorem tbX9_alike_120_ok : tbX9_alike_120.all (fun q => decide (decode cX9_alike q.1 = .ok q.2)) = true := by decide +kernel
theorem dX9_alike_216 : decode cX9_alike 216 = .ok (.ireturn, 1) := xdt tbX9_alike_120_ok 0 rfl
def tbX9_orderNow_0 : List (Nat × Instr × Nat) := [(0, .iconst 0, 1), (1, .istore_n 1, 1), (2, .iconst 0, 1), (3, .istore_n 2, 1), (4, .iload_n 2, 1), (5, .aload_n 0, 1), (6, .getfield 20, 3), (9, .iconst 0, 1), (10, .iaload, 1), (11, .if_icmp .ge 21, 3), (14, .bipush 10, 2), (16, .iload_n 1, 1), (17, .imul, 1), (18, .aload_n 0, 1), (19, .getfield 82, 3), (22, .iload_n 2, 1), (23, .iaload, 1), (24, .iadd, 1), (25, .istore_n 1, 1), (26, .iinc 2 1, 3), (29, .goto (-25), 3), (32, .iload_n 1, 1), (33, .ireturn, 1)]
theorem tbX9_orderNow_0_ok : tbX9_orderNow_0.all (fun q => decide (decode cX9_orderNow q.1 = .ok q.2)) = true := by decide +kernel
theorem dX9_orderNow_0 : decode cX9_orderNow 0 = .ok (.iconst 0, 1) := xdt tbX9_orderNow_0_ok 0 rfl
theorem dX9_orderNow_1 : decode cX9_orderNow 1 = .ok (.istore_n 1, 1) := xdt tbX9_orderNow_0_ok 1 rfl
theorem dX9_orderNow_2 : decode cX9_orderNow 2 = .ok (.iconst 0, 1) := xdt tbX9_orderNow_0_ok 2 rfl
theorem dX9_orderNow_3 : decode cX9_orderNow 3 = .ok (.istore_n 2, 1) := xdt tbX9_orderNow_0_ok 3 rfl
theorem dX9_orderNow_4 : decode cX9_orderNow 4 = .ok (.iload_n 2, 1) := xdt tbX9_orderNow_0_ok 4 rfl
theorem dX9_orderNow_5 : decode cX9_orderNow 5 = .ok (.aload_n 0, 1) := xdt tbX9_orderNow_0_ok 5 rfl
theorem dX9_orderNow_6 : decode cX9_orderNow 6 = .ok (.getfield 20, 3) := xdt tbX9_orderNow_0_ok 6 rfl
theorem dX9_orderNow_9 : decode cX9_orderNow 9 = .ok (.iconst 0, 1) := xdt tbX9_orderNow_0_ok 7 rfl
theorem dX9_orderNow_10 : decode cX9_orderNow 10 = .ok (.iaload, 1) := xdt tbX9_orderNow_0_ok 8 rfl
theorem dX9_orderNow_11 : decode cX9_orderNow 11 = .ok (.if_icmp .ge 21, 3) := xdt tbX9_orderNow_0_ok 9 rfl
theorem dX9_orderNow_14 : decode cX9_orderNow 14 = .ok (.bipush 10, 2) := xdt tbX9_orderNow_0_ok 10 rfl
theorem dX9_orderNow_16 : decode cX9_orderNow 16 = .ok (.iload_n 1, 1) := xdt tbX9_orderNow_0_ok 11 rfl
theorem dX9_orderNow_17 : decode cX9_orderNow 17 = .ok (.imul, 1) := xdt tbX9_orderNow_0_ok 12 rfl
theorem dX9_orderNow_18 : decode cX9_orderNow 18 = .ok (.aload_n 0, 1) := xdt tbX9_orderNow_0_ok 13 rfl
theorem dX9_orderNow_19 : decode cX9_orderNow 19 = .ok (.getfield 82, 3) := xdt tbX9_orderNow_0_ok 14 rfl
theorem dX9_orderNow_22 : decode cX9_orderNow 22 = .ok (.iload_n 2, 1) := xdt tbX9_orderNow_0_ok 15 rfl
theorem dX9_orderNow_23 : decode cX9_orderNow 23 = .ok (.iaload, 1) := xdt tbX9_orderNow_0_ok 16 rfl
theorem dX9_orderNow_24 : decode cX9_orderNow 24 = .ok (.iadd, 1) := xdt tbX9_orderNow_0_ok 17 rfl
theorem dX9_orderNow_25 : decode cX9_orderNow 25 = .ok (.istore_n 1, 1) := xdt tbX9_orderNow_0_ok 18 rfl
theorem dX9_orderNow_26 : decode cX9_orderNow 26 = .ok (.iinc 2 1, 3) := xdt tbX9_orderNow_0_ok 19 rfl
theorem dX9_orderNow_29 : decode cX9_orderNow 29 = .ok (.goto (-25), 3) := xdt tbX9_orderNow_0_ok 20 rfl
theorem dX9_orderNow_32 : decode cX9_orderNow 32 = .ok (.iload_n 1, 1) := xdt tbX9_orderNow_0_ok 21 rfl
theorem dX9_orderNow_33 : decode cX9_orderNow 33 = .ok (.ireturn, 1) := xdt tbX9_orderNow_0_ok 22 rfl
def tbX9_swaps_0 : List (Nat × Instr × Nat) := [(0, .aload_n 0, 1), (1, .getfield 82, 3), (4, .iload_n 1, 1), (5, .iaload, 1), (6, .istore_n 3, 1), (7, .aload_n 0, 1), (8, .getfield 82, 3), (11, .iload_n 1, 1), (12, .aload_n 0, 1), (13, .getfield 82, 3), (16, .iload_n 2, 1), (17, .iaload, 1), (18, .iastore, 1), (19, .aload_n 0, 1), (20, .getfield 82, 3), (23, .iload_n 2, 1), (24, .iload_n 3, 1), (25, .iastore, 1), (26, .return_, 1)]
theorem tbX9_swaps_0_ok : tbX9_swaps_0.all (fun q => decide (decode cX9_swaps q.1 = .ok q.2)) = true := by decide +kernel
theorem dX9_swaps_0 : decode cX9_swaps 0 = .ok (.aload_n 0, 1) := xdt tbX9_swaps_0_ok 0 rfl
theorem dX9_swaps_1 : decode cX9_swaps 1 = .ok (.getfield 82, 3) := xdt tbX9_swaps_0_ok 1 rfl
theorem dX9_swaps_4 : decode cX9_swaps 4 = .ok (.iload_n 1, 1) := xdt tbX9_swaps_0_ok 2 rfl
theorem dX9_swaps_5 : decode cX9_swaps 5 = .ok (.iaload, 1) := xdt tbX9_swaps_0_ok 3 rfl
theorem dX9_swaps_6 : decode cX9_swaps 6 = .ok (.istore_n 3, 1) := xdt tbX9_swaps_0_ok 4 rfl
theorem dX9_swaps_7 : decode cX9_swaps 7 = .ok (.aload_n 0, 1) := xdt tbX9_swaps_0_ok 5 rfl
theorem dX9_swaps_8 : decode cX9_swaps 8 = .ok (.getfield 82, 3) := xdt tbX9_swaps_0_ok 6 rfl
theorem dX9_swaps_11 : decode cX9_swaps 11 = .ok (.iload_n 1, 1) := xdt tbX9_swaps_0_ok 7 rfl
theorem dX9_swaps_12 : decode cX9_swaps 12 = .ok (.aload_n 0, 1) := xdt tbX9_swaps_0_ok 8 rfl
theorem dX9_swaps_13 : decode cX9_swaps 13 = .ok (.getfield 82, 3) := xdt tbX9_swaps_0_ok 9 rfl
theorem dX9_swaps_16 : decode cX9_swaps 16 = .ok (.iload_n 2, 1) := xdt tbX9_swaps_0_ok 10 rfl
theorem dX9_swaps_17 : decode cX9_swaps 17 = .ok (.iaload, 1) := xdt tbX9_swaps_0_ok 11 rfl
theorem dX9_swaps_18 : decode cX9_swaps 18 = .ok (.iastore, 1) := xdt tbX9_swaps_0_ok 12 rfl
theorem dX9_swaps_19 : decode cX9_swaps 19 = .ok (.aload_n 0, 1) := xdt tbX9_swaps_0_ok 13 rfl
theorem dX9_swaps_20 : decode cX9_swaps 20 = .ok (.getfield 82, 3) := xdt tbX9_swaps_0_ok 14 rfl
theorem dX9_swaps_23 : decode cX9_swaps 23 = .ok (.iload_n 2, 1) := xdt tbX9_swaps_0_ok 15 rfl
theorem dX9_swaps_24 : decode cX9_swaps 24 = .ok (.iload_n 3, 1) := xdt tbX9_swaps_0_ok 16 rfl
theorem dX9_swaps_25 : decode cX9_swaps 25 = .ok (.iastore, 1) := xdt tbX9_swaps_0_ok 17 rfl
theorem dX9_swaps_26 : decode cX9_swaps 26 = .ok (.return_, 1) := xdt tbX9_swaps_0_ok 18 rfl
def tbX9_nextOrder_0 : List (Nat × Instr × Nat) := [(0, .aload_n 0, 1), (1, .getfield 20, 3), (4, .iconst 0, 1), (5, .iaload, 1), (6, .istore_n 1, 1), (7, .iload_n 1, 1), (8, .iconst 2, 1), (9, .isub, 1), (10, .istore_n 2, 1), (11, .iload_n 2, 1), (12, .ifCond .lt 26, 3), (15, .aload_n 0, 1), (16, .getfield 82, 3), (19, .iload_n 2, 1), (20, .iaload, 1), (21, .aload_n 0, 1), (22, .getfield 82, 3), (25, .iload_n 2, 1), (26, .iconst 1, 1), (27, .iadd, 1), (28, .iaload, 1), (29, .if_icmp .le 9, 3), (32, .iinc 2 (-1), 3), (35, .goto (-24), 3), (38, .iload_n 2, 1), (39, .ifCond .ge 5, 3), (42, .iconst 0, 1), (43, .ireturn, 1), (44, .iload_n 1, 1), (45, .iconst 1, 1), (46, .isub, 1), (47, .istore_n 3, 1), (48, .aload_n 0, 1), (49, .getfield 82, 3), (52, .iload_n 3, 1), (53, .iaload, 1), (54, .aload_n 0, 1), (55, .getfield 82, 3), (58, .iload_n 2, 1), (59, .iaload, 1), (60, .if_icmp .ge 9, 3), (63, .iinc 3 (-1), 3), (66, .goto (-18), 3), (69, .aload_n 0, 1), (70, .iload_n 2, 1), (71, .iload_n 3, 1), (72, .invokevirtual 394, 3), (75, .iload_n 2, 1), (76, .iconst 1, 1), (77, .iadd, 1), (78, .istore 4, 2), (80, .iload_n 1, 1), (81, .iconst 1, 1), (82, .isub, 1), (83, .istore 5, 2), (85, .iload 4, 2), (87, .iload 5, 2), (89, .if_icmp .ge 20, 3), (92, .aload_n 0, 1), (93, .iload 4, 2)]
theorem tbX9_nextOrder_0_ok : tbX9_nextOrder_0.all (fun q => decide (decode cX9_nextOrder q.1 = .ok q.2)) = true := by decide +kernel
theorem dX9_nextOrder_0 : decode cX9_nextOrder 0 = .ok (.aload_n 0, 1) := xdt tbX9_nextOrder_0_ok 0 rfl
theorem dX9_nextOrder_1 : decode cX9_nextOrder 1 = .ok (.getfield 20, 3) := xdt tbX9_nextOrder_0_ok 1 rfl
theorem dX9_nextOrder_4 : decode cX9_nextOrder 4 = .ok (.iconst 0, 1) := xdt tbX9_nextOrder_0_ok 2 rfl
theorem dX9_nextOrder_5 : decode cX9_nextOrder 5 = .ok (.iaload, 1) := xdt tbX9_nextOrder_0_ok 3 rfl
theorem dX9_nextOrder_6 : decode cX9_nextOrder 6 = .ok (.istore_n 1, 1) := xdt tbX9_nextOrder_0_ok 4 rfl
theorem dX9_nextOrder_7 : decode cX9_nextOrder 7 = .ok (.iload_n 1, 1) := xdt tbX9_nextOrder_0_ok 5 rfl
theorem dX9_nextOrder_8 : decode cX9_nextOrder 8 = .ok (.iconst 2, 1) := xdt tbX9_nextOrder_0_ok 6 rfl
theorem dX9_nextOrder_9 : decode cX9_nextOrder 9 = .ok (.isub, 1) := xdt tbX9_nextOrder_0_ok 7 rfl
theorem dX9_nextOrder_10 : decode cX9_nextOrder 10 = .ok (.istore_n 2, 1) := xdt tbX9_nextOrder_0_ok 8 rfl
theorem dX9_nextOrder_11 : decode cX9_nextOrder 11 = .ok (.iload_n 2, 1) := xdt tbX9_nextOrder_0_ok 9 rfl
theorem dX9_nextOrder_12 : decode cX9_nextOrder 12 = .ok (.ifCond .lt 26, 3) := xdt tbX9_nextOrder_0_ok 10 rfl
theorem dX9_nextOrder_15 : decode cX9_nextOrder 15 = .ok (.aload_n 0, 1) := xdt tbX9_nextOrder_0_ok 11 rfl
theorem dX9_nextOrder_16 : decode cX9_nextOrder 16 = .ok (.getfield 82, 3) := xdt tbX9_nextOrder_0_ok 12 rfl
theorem dX9_nextOrder_19 : decode cX9_nextOrder 19 = .ok (.iload_n 2, 1) := xdt tbX9_nextOrder_0_ok 13 rfl
theorem dX9_nextOrder_20 : decode cX9_nextOrder 20 = .ok (.iaload, 1) := xdt tbX9_nextOrder_0_ok 14 rfl
theorem dX9_nextOrder_21 : decode cX9_nextOrder 21 = .ok (.aload_n 0, 1) := xdt tbX9_nextOrder_0_ok 15 rfl
theorem dX9_nextOrder_22 : decode cX9_nextOrder 22 = .ok (.getfield 82, 3) := xdt tbX9_nextOrder_0_ok 16 rfl
theorem dX9_nextOrder_25 : decode cX9_nextOrder 25 = .ok (.iload_n 2, 1) := xdt tbX9_nextOrder_0_ok 17 rfl
theorem dX9_nextOrder_26 : decode cX9_nextOrder 26 = .ok (.iconst 1, 1) := xdt tbX9_nextOrder_0_ok 18 rfl
theorem dX9_nextOrder_27 : decode cX9_nextOrder 27 = .ok (.iadd, 1) := xdt tbX9_nextOrder_0_ok 19 rfl
theorem dX9_nextOrder_28 : decode cX9_nextOrder 28 = .ok (.iaload, 1) := xdt tbX9_nextOrder_0_ok 20 rfl
theorem dX9_nextOrder_29 : decode cX9_nextOrder 29 = .ok (.if_icmp .le 9, 3) := xdt tbX9_nextOrder_0_ok 21 rfl
theorem dX9_nextOrder_32 : decode cX9_nextOrder 32 = .ok (.iinc 2 (-1), 3) := xdt tbX9_nextOrder_0_ok 22 rfl
theorem dX9_nextOrder_35 : decode cX9_nextOrder 35 = .ok (.goto (-24), 3) := xdt tbX9_nextOrder_0_ok 23 rfl
theorem dX9_nextOrder_38 : decode cX9_nextOrder 38 = .ok (.iload_n 2, 1) := xdt tbX9_nextOrder_0_ok 24 rfl
theorem dX9_nextOrder_39 : decode cX9_nextOrder 39 = .ok (.ifCond .ge 5, 3) := xdt tbX9_nextOrder_0_ok 25 rfl
theorem dX9_nextOrder_42 : decode cX9_nextOrder 42 = .ok (.iconst 0, 1) := xdt tbX9_nextOrder_0_ok 26 rfl
theorem dX9_nextOrder_43 : decode cX9_nextOrder 43 = .ok (.ireturn, 1) := xdt tbX9_nextOrder_0_ok 27 rfl
theorem dX9_nextOrder_44 : decode cX9_nextOrder 44 = .ok (.iload_n 1, 1) := xdt tbX9_nextOrder_0_ok 28 rfl
theorem dX9_nextOrder_45 : decode cX9_nextOrder 45 = .ok (.iconst 1, 1) := xdt tbX9_nextOrder_0_ok 29 rfl
theorem dX9_nextOrder_46 : decode cX9_nextOrder 46 = .ok (.isub, 1) := xdt tbX9_nextOrder_0_ok 30 rfl
theorem dX9_nextOrder_47 : decode cX9_nextOrder 47 = .ok (.istore_n 3, 1) := xdt tbX9_nextOrder_0_ok 31 rfl
theorem dX9_nextOrder_48 : decode cX9_nextOrder 48 = .ok (.aload_n 0, 1) := xdt tbX9_nextOrder_0_ok 32 rfl
theorem dX9_nextOrder_49 : decode cX9_nextOrder 49 = .ok (.getfield 82, 3) := xdt tbX9_nextOrder_0_ok 33 rfl
theorem dX9_nextOrder_52 : decode cX9_nextOrder 52 = .ok (.iload_n 3, 1) := xdt tbX9_nextOrder_0_ok 34 rfl
theorem dX9_nextOrder_53 : decode cX9_nextOrder 53 = .ok (.iaload, 1) := xdt tbX9_nextOrder_0_ok 35 rfl
theorem dX9_nextOrder_54 : decode cX9_nextOrder 54 = .ok (.aload_n 0, 1) := xdt tbX9_nextOrder_0_ok 36 rfl
theorem dX9_nextOrder_55 : decode cX9_nextOrder 55 = .ok (.getfield 82, 3) := xdt tbX9_nextOrder_0_ok 37 rfl
theorem dX9_nextOrder_58 : decode cX9_nextOrder 58 = .ok (.iload_n 2, 1) := xdt tbX9_nextOrder_0_ok 38 rfl
theorem dX9_nextOrder_59 : decode cX9_nextOrder 59 = .ok (.iaload, 1) := xdt tbX9_nextOrder_0_ok 39 rfl
theorem dX9_nextOrder_60 : decode cX9_nextOrder 60 = .ok (.if_icmp .ge 9, 3) := xdt tbX9_nextOrder_0_ok 40 rfl
theorem dX9_nextOrder_63 : decode cX9_nextOrder 63 = .ok (.iinc 3 (-1), 3) := xdt tbX9_nextOrder_0_ok 41 rfl
theorem dX9_nextOrder_66 : decode cX9_nextOrder 66 = .ok (.goto (-18), 3) := xdt tbX9_nextOrder_0_ok 42 rfl
theorem dX9_nextOrder_69 : decode cX9_nextOrder 69 = .ok (.aload_n 0, 1) := xdt tbX9_nextOrder_0_ok 43 rfl
theorem dX9_nextOrder_70 : decode cX9_nextOrder 70 = .ok (.iload_n 2, 1) := xdt tbX9_nextOrder_0_ok 44 rfl
theorem dX9_nextOrder_71 : decode cX9_nextOrder 71 = .ok (.iload_n 3, 1) := xdt tbX9_nextOrder_0_ok 45 rfl
theorem dX9_nextOrder_72 : decode cX9_nextOrder 72 = .ok (.invokevirtual 394, 3) := xdt tbX9_nextOrder_0_ok 46 rfl
theorem dX9_nextOrder_75 : decode cX9_nextOrder 75 = .ok (.iload_n 2, 1) := xdt tbX9_nextOrder_0_ok 47 rfl
theorem dX9_nextOrder_76 : decode cX9_nextOrder 76 = .ok (.iconst 1, 1) := xdt tbX9_nextOrder_0_ok 48 rfl
theorem dX9_nextOrder_77 : decode cX9_nextOrder 77 = .ok (.iadd, 1) := xdt tbX9_nextOrder_0_ok 49 rfl
theorem dX9_nextOrder_78 : decode cX9_nextOrder 78 = .ok (.istore 4, 2) := xdt tbX9_nextOrder_0_ok 50 rfl
theorem dX9_nextOrder_80 : decode cX9_nextOrder 80 = .ok (.iload_n 1, 1) := xdt tbX9_nextOrder_0_ok 51 rfl
theorem dX9_nextOrder_81 : decode cX9_nextOrder 81 = .ok (.iconst 1, 1) := xdt tbX9_nextOrder_0_ok 52 rfl
theorem dX9_nextOrder_82 : decode cX9_nextOrder 82 = .ok (.isub, 1) := xdt tbX9_nextOrder_0_ok 53 rfl
theorem dX9_nextOrder_83 : decode cX9_nextOrder 83 = .ok (.istore 5, 2) := xdt tbX9_nextOrder_0_ok 54 rfl
theorem dX9_nextOrder_85 : decode cX9_nextOrder 85 = .ok (.iload 4, 2) := xdt tbX9_nextOrder_0_ok 55 rfl
theorem dX9_nextOrder_87 : decode cX9_nextOrder 87 = .ok (.iload 5, 2) := xdt tbX9_nextOrder_0_ok 56 rfl
theorem dX9_nextOrder_89 : decode cX9_nextOrder 89 = .ok (.if_icmp .ge 20, 3) := xdt tbX9_nextOrder_0_ok 57 rfl
theorem dX9_nextOrder_92 : decode cX9_nextOrder 92 = .ok (.aload_n 0, 1) := xdt tbX9_nextOrder_0_ok 58 rfl
theorem dX9_nextOrder_93 : decode cX9_nextOrder 93 = .ok (.iload 4, 2) := xdt tbX9_nextOrder_0_ok 59 rfl
def tbX9_nextOrder_60 : List (Nat × Instr × Nat) := [(95, .iload 5, 2), (97, .invokevirtual 394, 3), (100, .iinc 4 1, 3), (103, .iinc 5 (-1), 3), (106, .goto (-21), 3), (109, .iconst 1, 1), (110, .ireturn, 1)]
theorem tbX9_nextOrder_60_ok : tbX9_nextOrder_60.all (fun q => decide (decode cX9_nextOrder q.1 = .ok q.2)) = true := by decide +kernel
theorem dX9_nextOrder_95 : decode cX9_nextOrder 95 = .ok (.iload 5, 2) := xdt tbX9_nextOrder_60_ok 0 rfl
theorem dX9_nextOrder_97 : decode cX9_nextOrder 97 = .ok (.invokevirtual 394, 3) := xdt tbX9_nextOrder_60_ok 1 rfl
theorem dX9_nextOrder_100 : decode cX9_nextOrder 100 = .ok (.iinc 4 1, 3) := xdt tbX9_nextOrder_60_ok 2 rfl
theorem dX9_nextOrder_103 : decode cX9_nextOrder 103 = .ok (.iinc 5 (-1), 3) := xdt tbX9_nextOrder_60_ok 3 rfl
theorem dX9_nextOrder_106 : decode cX9_nextOrder 106 = .ok (.goto (-21), 3) := xdt tbX9_nextOrder_60_ok 4 rfl
theorem dX9_nextOrder_109 : decode cX9_nextOrder 109 = .ok (.iconst 1, 1) := xdt tbX9_nextOrder_60_ok 5 rfl
theorem dX9_nextOrder_110 : decode cX9_nextOrder 110 = .ok (.ireturn, 1) := xdt tbX9_nextOrder_60_ok 6 rfl
def tbX9_firstOrder_0 : List (Nat × Instr × Nat) := [(0, .iconst 0, 1), (1, .istore_n 1, 1), (2, .iload_n 1, 1), (3, .bipush 7, 2), (5, .if_icmp .ge 16, 3), (8, .aload_n 0, 1), (9, .getfield 82, 3), (12, .iload_n 1, 1), (13, .iload_n 1, 1), (14, .iastore, 1), (15, .iinc 1 1, 3), (18, .goto (-16), 3), (21, .return_, 1)]
theorem tbX9_firstOrder_0_ok : tbX9_firstOrder_0.all (fun q => decide (decode cX9_firstOrder q.1 = .ok q.2)) = true := by decide +kernel
theorem dX9_firstOrder_0 : decode cX9_firstOrder 0 = .ok (.iconst 0, 1) := xdt tbX9_firstOrder_0_ok 0 rfl
theorem dX9_firstOrder_1 : decode cX9_firstOrder 1 = .ok (.istore_n 1, 1) := xdt tbX9_firstOrder_0_ok 1 rfl
theorem dX9_firstOrder_2 : decode cX9_firstOrder 2 = .ok (.iload_n 1, 1) := xdt tbX9_firstOrder_0_ok 2 rfl
theorem dX9_firstOrder_3 : decode cX9_firstOrder 3 = .ok (.bipush 7, 2) := xdt tbX9_firstOrder_0_ok 3 rfl
theorem dX9_firstOrder_5 : decode cX9_firstOrder 5 = .ok (.if_icmp .ge 16, 3) := xdt tbX9_firstOrder_0_ok 4 rfl
theorem dX9_firstOrder_8 : decode cX9_firstOrder 8 = .ok (.aload_n 0, 1) := xdt tbX9_firstOrder_0_ok 5 rfl
theorem dX9_firstOrder_9 : decode cX9_firstOrder 9 = .ok (.getfield 82, 3) := xdt tbX9_firstOrder_0_ok 6 rfl
theorem dX9_firstOrder_12 : decode cX9_firstOrder 12 = .ok (.iload_n 1, 1) := xdt tbX9_firstOrder_0_ok 7 rfl
theorem dX9_firstOrder_13 : decode cX9_firstOrder 13 = .ok (.iload_n 1, 1) := xdt tbX9_firstOrder_0_ok 8 rfl
theorem dX9_firstOrder_14 : decode cX9_firstOrder 14 = .ok (.iastore, 1) := xdt tbX9_firstOrder_0_ok 9 rfl
theorem dX9_firstOrder_15 : decode cX9_firstOrder 15 = .ok (.iinc 1 1, 3) := xdt tbX9_firstOrder_0_ok 10 rfl
theorem dX9_firstOrder_18 : decode cX9_firstOrder 18 = .ok (.goto (-16), 3) := xdt tbX9_firstOrder_0_ok 11 rfl
theorem dX9_firstOrder_21 : decode cX9_firstOrder 21 = .ok (.return_, 1) := xdt tbX9_firstOrder_0_ok 12 rfl
def tbX9_fewest_0 : List (Nat × Instr × Nat) := [(0, .aload_n 0, 1), (1, .iconst 0, 1), (2, .putfield 91, 3), (5, .aload_n 0, 1), (6, .iload_n 1, 1), (7, .iconst 0, 1), (8, .iconst 2, 1), (9, .invokestatic 155, 3), (12, .ifCond .ne 7, 3), (15, .iconst 1, 1), (16, .goto 4, 3), (19, .iconst 0, 1), (20, .iconst 1, 1), (21, .iconst 1, 1), (22, .invokevirtual 257, 3), (25, .ifCond .eq 5, 3), (28, .iconst 0, 1), (29, .ireturn, 1), (30, .iconst (-1), 1), (31, .istore_n 2, 1), (32, .iconst (-1), 1), (33, .istore_n 3, 1), (34, .iconst 0, 1), (35, .istore 4, 2), (37, .aload_n 0, 1), (38, .invokevirtual 397, 3), (41, .iconst 1, 1), (42, .istore 5, 2), (44, .iload 5, 2), (46, .ifCond .eq 78, 3), (49, .aload_n 0, 1), (50, .aload_n 0, 1), (51, .invokevirtual 400, 3), (54, .invokevirtual 391, 3), (57, .aload_n 0, 1), (58, .getfield 300, 3), (61, .iconst 2, 1), (62, .if_icmp .ne 9, 3), (65, .ldc_w 403, 3), (68, .goto 7, 3), (71, .aload_n 0, 1), (72, .getfield 358, 3), (75, .istore 6, 2), (77, .iload_n 2, 1), (78, .iconst (-1), 1), (79, .if_icmp .eq 9, 3), (82, .iload 6, 2), (84, .iload_n 2, 1), (85, .if_icmp .ge 14, 3), (88, .iload 6, 2), (90, .istore_n 2, 1), (91, .aload_n 0, 1), (92, .invokevirtual 400, 3), (95, .istore_n 3, 1), (96, .iconst 0, 1), (97, .istore 4, 2), (99, .iload 4, 2), (101, .iload 6, 2), (103, .iload_n 2, 1), (104, .if_icmp .ne 7, 3)]
theorem tbX9_fewest_0_ok : tbX9_fewest_0.all (fun q => decide (decode cX9_fewest q.1 = .ok q.2)) = true := by decide +kernel
theorem dX9_fewest_0 : decode cX9_fewest 0 = .ok (.aload_n 0, 1) := xdt tbX9_fewest_0_ok 0 rfl
theorem dX9_fewest_1 : decode cX9_fewest 1 = .ok (.iconst 0, 1) := xdt tbX9_fewest_0_ok 1 rfl
theorem dX9_fewest_2 : decode cX9_fewest 2 = .ok (.putfield 91, 3) := xdt tbX9_fewest_0_ok 2 rfl
theorem dX9_fewest_5 : decode cX9_fewest 5 = .ok (.aload_n 0, 1) := xdt tbX9_fewest_0_ok 3 rfl
theorem dX9_fewest_6 : decode cX9_fewest 6 = .ok (.iload_n 1, 1) := xdt tbX9_fewest_0_ok 4 rfl
theorem dX9_fewest_7 : decode cX9_fewest 7 = .ok (.iconst 0, 1) := xdt tbX9_fewest_0_ok 5 rfl
theorem dX9_fewest_8 : decode cX9_fewest 8 = .ok (.iconst 2, 1) := xdt tbX9_fewest_0_ok 6 rfl
theorem dX9_fewest_9 : decode cX9_fewest 9 = .ok (.invokestatic 155, 3) := xdt tbX9_fewest_0_ok 7 rfl
theorem dX9_fewest_12 : decode cX9_fewest 12 = .ok (.ifCond .ne 7, 3) := xdt tbX9_fewest_0_ok 8 rfl
theorem dX9_fewest_15 : decode cX9_fewest 15 = .ok (.iconst 1, 1) := xdt tbX9_fewest_0_ok 9 rfl
theorem dX9_fewest_16 : decode cX9_fewest 16 = .ok (.goto 4, 3) := xdt tbX9_fewest_0_ok 10 rfl
theorem dX9_fewest_19 : decode cX9_fewest 19 = .ok (.iconst 0, 1) := xdt tbX9_fewest_0_ok 11 rfl
theorem dX9_fewest_20 : decode cX9_fewest 20 = .ok (.iconst 1, 1) := xdt tbX9_fewest_0_ok 12 rfl
theorem dX9_fewest_21 : decode cX9_fewest 21 = .ok (.iconst 1, 1) := xdt tbX9_fewest_0_ok 13 rfl
theorem dX9_fewest_22 : decode cX9_fewest 22 = .ok (.invokevirtual 257, 3) := xdt tbX9_fewest_0_ok 14 rfl
theorem dX9_fewest_25 : decode cX9_fewest 25 = .ok (.ifCond .eq 5, 3) := xdt tbX9_fewest_0_ok 15 rfl
theorem dX9_fewest_28 : decode cX9_fewest 28 = .ok (.iconst 0, 1) := xdt tbX9_fewest_0_ok 16 rfl
theorem dX9_fewest_29 : decode cX9_fewest 29 = .ok (.ireturn, 1) := xdt tbX9_fewest_0_ok 17 rfl
theorem dX9_fewest_30 : decode cX9_fewest 30 = .ok (.iconst (-1), 1) := xdt tbX9_fewest_0_ok 18 rfl
theorem dX9_fewest_31 : decode cX9_fewest 31 = .ok (.istore_n 2, 1) := xdt tbX9_fewest_0_ok 19 rfl
theorem dX9_fewest_32 : decode cX9_fewest 32 = .ok (.iconst (-1), 1) := xdt tbX9_fewest_0_ok 20 rfl
theorem dX9_fewest_33 : decode cX9_fewest 33 = .ok (.istore_n 3, 1) := xdt tbX9_fewest_0_ok 21 rfl
theorem dX9_fewest_34 : decode cX9_fewest 34 = .ok (.iconst 0, 1) := xdt tbX9_fewest_0_ok 22 rfl
theorem dX9_fewest_35 : decode cX9_fewest 35 = .ok (.istore 4, 2) := xdt tbX9_fewest_0_ok 23 rfl
theorem dX9_fewest_37 : decode cX9_fewest 37 = .ok (.aload_n 0, 1) := xdt tbX9_fewest_0_ok 24 rfl
theorem dX9_fewest_38 : decode cX9_fewest 38 = .ok (.invokevirtual 397, 3) := xdt tbX9_fewest_0_ok 25 rfl
theorem dX9_fewest_41 : decode cX9_fewest 41 = .ok (.iconst 1, 1) := xdt tbX9_fewest_0_ok 26 rfl
theorem dX9_fewest_42 : decode cX9_fewest 42 = .ok (.istore 5, 2) := xdt tbX9_fewest_0_ok 27 rfl
theorem dX9_fewest_44 : decode cX9_fewest 44 = .ok (.iload 5, 2) := xdt tbX9_fewest_0_ok 28 rfl
theorem dX9_fewest_46 : decode cX9_fewest 46 = .ok (.ifCond .eq 78, 3) := xdt tbX9_fewest_0_ok 29 rfl
theorem dX9_fewest_49 : decode cX9_fewest 49 = .ok (.aload_n 0, 1) := xdt tbX9_fewest_0_ok 30 rfl
theorem dX9_fewest_50 : decode cX9_fewest 50 = .ok (.aload_n 0, 1) := xdt tbX9_fewest_0_ok 31 rfl
theorem dX9_fewest_51 : decode cX9_fewest 51 = .ok (.invokevirtual 400, 3) := xdt tbX9_fewest_0_ok 32 rfl
theorem dX9_fewest_54 : decode cX9_fewest 54 = .ok (.invokevirtual 391, 3) := xdt tbX9_fewest_0_ok 33 rfl
theorem dX9_fewest_57 : decode cX9_fewest 57 = .ok (.aload_n 0, 1) := xdt tbX9_fewest_0_ok 34 rfl
theorem dX9_fewest_58 : decode cX9_fewest 58 = .ok (.getfield 300, 3) := xdt tbX9_fewest_0_ok 35 rfl
theorem dX9_fewest_61 : decode cX9_fewest 61 = .ok (.iconst 2, 1) := xdt tbX9_fewest_0_ok 36 rfl
theorem dX9_fewest_62 : decode cX9_fewest 62 = .ok (.if_icmp .ne 9, 3) := xdt tbX9_fewest_0_ok 37 rfl
theorem dX9_fewest_65 : decode cX9_fewest 65 = .ok (.ldc_w 403, 3) := xdt tbX9_fewest_0_ok 38 rfl
theorem dX9_fewest_68 : decode cX9_fewest 68 = .ok (.goto 7, 3) := xdt tbX9_fewest_0_ok 39 rfl
theorem dX9_fewest_71 : decode cX9_fewest 71 = .ok (.aload_n 0, 1) := xdt tbX9_fewest_0_ok 40 rfl
theorem dX9_fewest_72 : decode cX9_fewest 72 = .ok (.getfield 358, 3) := xdt tbX9_fewest_0_ok 41 rfl
theorem dX9_fewest_75 : decode cX9_fewest 75 = .ok (.istore 6, 2) := xdt tbX9_fewest_0_ok 42 rfl
theorem dX9_fewest_77 : decode cX9_fewest 77 = .ok (.iload_n 2, 1) := xdt tbX9_fewest_0_ok 43 rfl
theorem dX9_fewest_78 : decode cX9_fewest 78 = .ok (.iconst (-1), 1) := xdt tbX9_fewest_0_ok 44 rfl
theorem dX9_fewest_79 : decode cX9_fewest 79 = .ok (.if_icmp .eq 9, 3) := xdt tbX9_fewest_0_ok 45 rfl
theorem dX9_fewest_82 : decode cX9_fewest 82 = .ok (.iload 6, 2) := xdt tbX9_fewest_0_ok 46 rfl
theorem dX9_fewest_84 : decode cX9_fewest 84 = .ok (.iload_n 2, 1) := xdt tbX9_fewest_0_ok 47 rfl
theorem dX9_fewest_85 : decode cX9_fewest 85 = .ok (.if_icmp .ge 14, 3) := xdt tbX9_fewest_0_ok 48 rfl
theorem dX9_fewest_88 : decode cX9_fewest 88 = .ok (.iload 6, 2) := xdt tbX9_fewest_0_ok 49 rfl
theorem dX9_fewest_90 : decode cX9_fewest 90 = .ok (.istore_n 2, 1) := xdt tbX9_fewest_0_ok 50 rfl
theorem dX9_fewest_91 : decode cX9_fewest 91 = .ok (.aload_n 0, 1) := xdt tbX9_fewest_0_ok 51 rfl
theorem dX9_fewest_92 : decode cX9_fewest 92 = .ok (.invokevirtual 400, 3) := xdt tbX9_fewest_0_ok 52 rfl
theorem dX9_fewest_95 : decode cX9_fewest 95 = .ok (.istore_n 3, 1) := xdt tbX9_fewest_0_ok 53 rfl
theorem dX9_fewest_96 : decode cX9_fewest 96 = .ok (.iconst 0, 1) := xdt tbX9_fewest_0_ok 54 rfl
theorem dX9_fewest_97 : decode cX9_fewest 97 = .ok (.istore 4, 2) := xdt tbX9_fewest_0_ok 55 rfl
theorem dX9_fewest_99 : decode cX9_fewest 99 = .ok (.iload 4, 2) := xdt tbX9_fewest_0_ok 56 rfl
theorem dX9_fewest_101 : decode cX9_fewest 101 = .ok (.iload 6, 2) := xdt tbX9_fewest_0_ok 57 rfl
theorem dX9_fewest_103 : decode cX9_fewest 103 = .ok (.iload_n 2, 1) := xdt tbX9_fewest_0_ok 58 rfl
theorem dX9_fewest_104 : decode cX9_fewest 104 = .ok (.if_icmp .ne 7, 3) := xdt tbX9_fewest_0_ok 59 rfl
def tbX9_fewest_60 : List (Nat × Instr × Nat) := [(107, .iconst 1, 1), (108, .goto 4, 3), (111, .iconst 0, 1), (112, .iadd, 1), (113, .istore 4, 2), (115, .aload_n 0, 1), (116, .invokevirtual 404, 3), (119, .istore 5, 2), (121, .goto (-77), 3), (124, .iload_n 1, 1), (125, .ifCond .ne 7, 3), (128, .iload_n 2, 1), (129, .goto 14, 3), (132, .iload_n 1, 1), (133, .iconst 1, 1), (134, .if_icmp .ne 7, 3), (137, .iload_n 3, 1), (138, .goto 5, 3), (141, .iload 4, 2), (143, .ireturn, 1)]
theorem tbX9_fewest_60_ok : tbX9_fewest_60.all (fun q => decide (decode cX9_fewest q.1 = .ok q.2)) = true := by decide +kernel
theorem dX9_fewest_107 : decode cX9_fewest 107 = .ok (.iconst 1, 1) := xdt tbX9_fewest_60_ok 0 rfl
theorem dX9_fewest_108 : decode cX9_fewest 108 = .ok (.goto 4, 3) := xdt tbX9_fewest_60_ok 1 rfl
theorem dX9_fewest_111 : decode cX9_fewest 111 = .ok (.iconst 0, 1) := xdt tbX9_fewest_60_ok 2 rfl
theorem dX9_fewest_112 : decode cX9_fewest 112 = .ok (.iadd, 1) := xdt tbX9_fewest_60_ok 3 rfl
theorem dX9_fewest_113 : decode cX9_fewest 113 = .ok (.istore 4, 2) := xdt tbX9_fewest_60_ok 4 rfl
theorem dX9_fewest_115 : decode cX9_fewest 115 = .ok (.aload_n 0, 1) := xdt tbX9_fewest_60_ok 5 rfl
theorem dX9_fewest_116 : decode cX9_fewest 116 = .ok (.invokevirtual 404, 3) := xdt tbX9_fewest_60_ok 6 rfl
theorem dX9_fewest_119 : decode cX9_fewest 119 = .ok (.istore 5, 2) := xdt tbX9_fewest_60_ok 7 rfl
theorem dX9_fewest_121 : decode cX9_fewest 121 = .ok (.goto (-77), 3) := xdt tbX9_fewest_60_ok 8 rfl
theorem dX9_fewest_124 : decode cX9_fewest 124 = .ok (.iload_n 1, 1) := xdt tbX9_fewest_60_ok 9 rfl
theorem dX9_fewest_125 : decode cX9_fewest 125 = .ok (.ifCond .ne 7, 3) := xdt tbX9_fewest_60_ok 10 rfl
theorem dX9_fewest_128 : decode cX9_fewest 128 = .ok (.iload_n 2, 1) := xdt tbX9_fewest_60_ok 11 rfl
theorem dX9_fewest_129 : decode cX9_fewest 129 = .ok (.goto 14, 3) := xdt tbX9_fewest_60_ok 12 rfl
theorem dX9_fewest_132 : decode cX9_fewest 132 = .ok (.iload_n 1, 1) := xdt tbX9_fewest_60_ok 13 rfl
theorem dX9_fewest_133 : decode cX9_fewest 133 = .ok (.iconst 1, 1) := xdt tbX9_fewest_60_ok 14 rfl
theorem dX9_fewest_134 : decode cX9_fewest 134 = .ok (.if_icmp .ne 7, 3) := xdt tbX9_fewest_60_ok 15 rfl
theorem dX9_fewest_137 : decode cX9_fewest 137 = .ok (.iload_n 3, 1) := xdt tbX9_fewest_60_ok 16 rfl
theorem dX9_fewest_138 : decode cX9_fewest 138 = .ok (.goto 5, 3) := xdt tbX9_fewest_60_ok 17 rfl
theorem dX9_fewest_141 : decode cX9_fewest 141 = .ok (.iload 4, 2) := xdt tbX9_fewest_60_ok 18 rfl
theorem dX9_fewest_143 : decode cX9_fewest 143 = .ok (.ireturn, 1) := xdt tbX9_fewest_60_ok 19 rfl
def tbX9_bySum_0 : List (Nat × Instr × Nat) := [(0, .iconst 0, 1), (1, .istore_n 2, 1), (2, .iload_n 1, 1), (3, .istore_n 3, 1), (4, .iload_n 3, 1), (5, .iconst (-1), 1), (6, .if_icmp .eq 111, 3), (9, .aload_n 0, 1), (10, .getfield 20, 3), (13, .iload_n 3, 1), (14, .iconst 1, 1), (15, .invokestatic 254, 3), (18, .istore 4, 2), (20, .aload_n 0, 1), (21, .getfield 20, 3), (24, .iload_n 3, 1), (25, .iconst 2, 1), (26, .invokestatic 254, 3), (29, .istore 5, 2), (31, .aload_n 0, 1), (32, .getfield 20, 3), (35, .iload_n 3, 1), (36, .iconst 3, 1), (37, .invokestatic 254, 3), (40, .istore 6, 2), (42, .iload 4, 2), (44, .iconst 4, 1), (45, .if_icmp .ne 12, 3), (48, .iload_n 2, 1), (49, .aload_n 0, 1), (50, .iload 5, 2), (52, .invokevirtual 407, 3), (55, .ior, 1), (56, .istore_n 2, 1), (57, .iload 4, 2), (59, .iconst 1, 1), (60, .if_icmp .ne 24, 3), (63, .aload_n 0, 1), (64, .getfield 20, 3), (67, .iload 6, 2), (69, .iconst 0, 1), (70, .invokestatic 104, 3), (73, .iconst 1, 1), (74, .if_icmp .ne 10, 3), (77, .iload_n 2, 1), (78, .iconst 1, 1), (79, .iload 5, 2), (81, .ishl, 1), (82, .ior, 1), (83, .istore_n 2, 1), (84, .iload 4, 2), (86, .iconst 2, 1), (87, .if_icmp .ne 17, 3), (90, .iload_n 2, 1), (91, .iconst 1, 1), (92, .iload 5, 2), (94, .ishl, 1), (95, .aload_n 0, 1), (96, .iload 6, 2), (98, .invokevirtual 410, 3)]
theorem tbX9_bySum_0_ok : tbX9_bySum_0.all (fun q => decide (decode cX9_bySum q.1 = .ok q.2)) = true := by decide +kernel
theorem dX9_bySum_0 : decode cX9_bySum 0 = .ok (.iconst 0, 1) := xdt tbX9_bySum_0_ok 0 rfl
theorem dX9_bySum_1 : decode cX9_bySum 1 = .ok (.istore_n 2, 1) := xdt tbX9_bySum_0_ok 1 rfl
theorem dX9_bySum_2 : decode cX9_bySum 2 = .ok (.iload_n 1, 1) := xdt tbX9_bySum_0_ok 2 rfl
theorem dX9_bySum_3 : decode cX9_bySum 3 = .ok (.istore_n 3, 1) := xdt tbX9_bySum_0_ok 3 rfl
theorem dX9_bySum_4 : decode cX9_bySum 4 = .ok (.iload_n 3, 1) := xdt tbX9_bySum_0_ok 4 rfl
theorem dX9_bySum_5 : decode cX9_bySum 5 = .ok (.iconst (-1), 1) := xdt tbX9_bySum_0_ok 5 rfl
theorem dX9_bySum_6 : decode cX9_bySum 6 = .ok (.if_icmp .eq 111, 3) := xdt tbX9_bySum_0_ok 6 rfl
theorem dX9_bySum_9 : decode cX9_bySum 9 = .ok (.aload_n 0, 1) := xdt tbX9_bySum_0_ok 7 rfl
theorem dX9_bySum_10 : decode cX9_bySum 10 = .ok (.getfield 20, 3) := xdt tbX9_bySum_0_ok 8 rfl
theorem dX9_bySum_13 : decode cX9_bySum 13 = .ok (.iload_n 3, 1) := xdt tbX9_bySum_0_ok 9 rfl
theorem dX9_bySum_14 : decode cX9_bySum 14 = .ok (.iconst 1, 1) := xdt tbX9_bySum_0_ok 10 rfl
theorem dX9_bySum_15 : decode cX9_bySum 15 = .ok (.invokestatic 254, 3) := xdt tbX9_bySum_0_ok 11 rfl
theorem dX9_bySum_18 : decode cX9_bySum 18 = .ok (.istore 4, 2) := xdt tbX9_bySum_0_ok 12 rfl
theorem dX9_bySum_20 : decode cX9_bySum 20 = .ok (.aload_n 0, 1) := xdt tbX9_bySum_0_ok 13 rfl
theorem dX9_bySum_21 : decode cX9_bySum 21 = .ok (.getfield 20, 3) := xdt tbX9_bySum_0_ok 14 rfl
theorem dX9_bySum_24 : decode cX9_bySum 24 = .ok (.iload_n 3, 1) := xdt tbX9_bySum_0_ok 15 rfl
theorem dX9_bySum_25 : decode cX9_bySum 25 = .ok (.iconst 2, 1) := xdt tbX9_bySum_0_ok 16 rfl
theorem dX9_bySum_26 : decode cX9_bySum 26 = .ok (.invokestatic 254, 3) := xdt tbX9_bySum_0_ok 17 rfl
theorem dX9_bySum_29 : decode cX9_bySum 29 = .ok (.istore 5, 2) := xdt tbX9_bySum_0_ok 18 rfl
theorem dX9_bySum_31 : decode cX9_bySum 31 = .ok (.aload_n 0, 1) := xdt tbX9_bySum_0_ok 19 rfl
theorem dX9_bySum_32 : decode cX9_bySum 32 = .ok (.getfield 20, 3) := xdt tbX9_bySum_0_ok 20 rfl
theorem dX9_bySum_35 : decode cX9_bySum 35 = .ok (.iload_n 3, 1) := xdt tbX9_bySum_0_ok 21 rfl
theorem dX9_bySum_36 : decode cX9_bySum 36 = .ok (.iconst 3, 1) := xdt tbX9_bySum_0_ok 22 rfl
theorem dX9_bySum_37 : decode cX9_bySum 37 = .ok (.invokestatic 254, 3) := xdt tbX9_bySum_0_ok 23 rfl
theorem dX9_bySum_40 : decode cX9_bySum 40 = .ok (.istore 6, 2) := xdt tbX9_bySum_0_ok 24 rfl
theorem dX9_bySum_42 : decode cX9_bySum 42 = .ok (.iload 4, 2) := xdt tbX9_bySum_0_ok 25 rfl
theorem dX9_bySum_44 : decode cX9_bySum 44 = .ok (.iconst 4, 1) := xdt tbX9_bySum_0_ok 26 rfl
theorem dX9_bySum_45 : decode cX9_bySum 45 = .ok (.if_icmp .ne 12, 3) := xdt tbX9_bySum_0_ok 27 rfl
theorem dX9_bySum_48 : decode cX9_bySum 48 = .ok (.iload_n 2, 1) := xdt tbX9_bySum_0_ok 28 rfl
theorem dX9_bySum_49 : decode cX9_bySum 49 = .ok (.aload_n 0, 1) := xdt tbX9_bySum_0_ok 29 rfl
theorem dX9_bySum_50 : decode cX9_bySum 50 = .ok (.iload 5, 2) := xdt tbX9_bySum_0_ok 30 rfl
theorem dX9_bySum_52 : decode cX9_bySum 52 = .ok (.invokevirtual 407, 3) := xdt tbX9_bySum_0_ok 31 rfl
theorem dX9_bySum_55 : decode cX9_bySum 55 = .ok (.ior, 1) := xdt tbX9_bySum_0_ok 32 rfl
theorem dX9_bySum_56 : decode cX9_bySum 56 = .ok (.istore_n 2, 1) := xdt tbX9_bySum_0_ok 33 rfl
theorem dX9_bySum_57 : decode cX9_bySum 57 = .ok (.iload 4, 2) := xdt tbX9_bySum_0_ok 34 rfl
theorem dX9_bySum_59 : decode cX9_bySum 59 = .ok (.iconst 1, 1) := xdt tbX9_bySum_0_ok 35 rfl
theorem dX9_bySum_60 : decode cX9_bySum 60 = .ok (.if_icmp .ne 24, 3) := xdt tbX9_bySum_0_ok 36 rfl
theorem dX9_bySum_63 : decode cX9_bySum 63 = .ok (.aload_n 0, 1) := xdt tbX9_bySum_0_ok 37 rfl
theorem dX9_bySum_64 : decode cX9_bySum 64 = .ok (.getfield 20, 3) := xdt tbX9_bySum_0_ok 38 rfl
theorem dX9_bySum_67 : decode cX9_bySum 67 = .ok (.iload 6, 2) := xdt tbX9_bySum_0_ok 39 rfl
theorem dX9_bySum_69 : decode cX9_bySum 69 = .ok (.iconst 0, 1) := xdt tbX9_bySum_0_ok 40 rfl
theorem dX9_bySum_70 : decode cX9_bySum 70 = .ok (.invokestatic 104, 3) := xdt tbX9_bySum_0_ok 41 rfl
theorem dX9_bySum_73 : decode cX9_bySum 73 = .ok (.iconst 1, 1) := xdt tbX9_bySum_0_ok 42 rfl
theorem dX9_bySum_74 : decode cX9_bySum 74 = .ok (.if_icmp .ne 10, 3) := xdt tbX9_bySum_0_ok 43 rfl
theorem dX9_bySum_77 : decode cX9_bySum 77 = .ok (.iload_n 2, 1) := xdt tbX9_bySum_0_ok 44 rfl
theorem dX9_bySum_78 : decode cX9_bySum 78 = .ok (.iconst 1, 1) := xdt tbX9_bySum_0_ok 45 rfl
theorem dX9_bySum_79 : decode cX9_bySum 79 = .ok (.iload 5, 2) := xdt tbX9_bySum_0_ok 46 rfl
theorem dX9_bySum_81 : decode cX9_bySum 81 = .ok (.ishl, 1) := xdt tbX9_bySum_0_ok 47 rfl
theorem dX9_bySum_82 : decode cX9_bySum 82 = .ok (.ior, 1) := xdt tbX9_bySum_0_ok 48 rfl
theorem dX9_bySum_83 : decode cX9_bySum 83 = .ok (.istore_n 2, 1) := xdt tbX9_bySum_0_ok 49 rfl
theorem dX9_bySum_84 : decode cX9_bySum 84 = .ok (.iload 4, 2) := xdt tbX9_bySum_0_ok 50 rfl
theorem dX9_bySum_86 : decode cX9_bySum 86 = .ok (.iconst 2, 1) := xdt tbX9_bySum_0_ok 51 rfl
theorem dX9_bySum_87 : decode cX9_bySum 87 = .ok (.if_icmp .ne 17, 3) := xdt tbX9_bySum_0_ok 52 rfl
theorem dX9_bySum_90 : decode cX9_bySum 90 = .ok (.iload_n 2, 1) := xdt tbX9_bySum_0_ok 53 rfl
theorem dX9_bySum_91 : decode cX9_bySum 91 = .ok (.iconst 1, 1) := xdt tbX9_bySum_0_ok 54 rfl
theorem dX9_bySum_92 : decode cX9_bySum 92 = .ok (.iload 5, 2) := xdt tbX9_bySum_0_ok 55 rfl
theorem dX9_bySum_94 : decode cX9_bySum 94 = .ok (.ishl, 1) := xdt tbX9_bySum_0_ok 56 rfl
theorem dX9_bySum_95 : decode cX9_bySum 95 = .ok (.aload_n 0, 1) := xdt tbX9_bySum_0_ok 57 rfl
theorem dX9_bySum_96 : decode cX9_bySum 96 = .ok (.iload 6, 2) := xdt tbX9_bySum_0_ok 58 rfl
theorem dX9_bySum_98 : decode cX9_bySum 98 = .ok (.invokevirtual 410, 3) := xdt tbX9_bySum_0_ok 59 rfl
def tbX9_bySum_60 : List (Nat × Instr × Nat) := [(101, .ior, 1), (102, .ior, 1), (103, .istore_n 2, 1), (104, .aload_n 0, 1), (105, .getfield 20, 3), (108, .iload_n 3, 1), (109, .iconst 4, 1), (110, .invokestatic 254, 3), (113, .istore_n 3, 1), (114, .goto (-110), 3), (117, .iload_n 2, 1), (118, .ireturn, 1)]
theorem tbX9_bySum_60_ok : tbX9_bySum_60.all (fun q => decide (decode cX9_bySum q.1 = .ok q.2)) = true := by decide +kernel
theorem dX9_bySum_101 : decode cX9_bySum 101 = .ok (.ior, 1) := xdt tbX9_bySum_60_ok 0 rfl
theorem dX9_bySum_102 : decode cX9_bySum 102 = .ok (.ior, 1) := xdt tbX9_bySum_60_ok 1 rfl
theorem dX9_bySum_103 : decode cX9_bySum 103 = .ok (.istore_n 2, 1) := xdt tbX9_bySum_60_ok 2 rfl
theorem dX9_bySum_104 : decode cX9_bySum 104 = .ok (.aload_n 0, 1) := xdt tbX9_bySum_60_ok 3 rfl
theorem dX9_bySum_105 : decode cX9_bySum 105 = .ok (.getfield 20, 3) := xdt tbX9_bySum_60_ok 4 rfl
theorem dX9_bySum_108 : decode cX9_bySum 108 = .ok (.iload_n 3, 1) := xdt tbX9_bySum_60_ok 5 rfl
theorem dX9_bySum_109 : decode cX9_bySum 109 = .ok (.iconst 4, 1) := xdt tbX9_bySum_60_ok 6 rfl
theorem dX9_bySum_110 : decode cX9_bySum 110 = .ok (.invokestatic 254, 3) := xdt tbX9_bySum_60_ok 7 rfl
theorem dX9_bySum_113 : decode cX9_bySum 113 = .ok (.istore_n 3, 1) := xdt tbX9_bySum_60_ok 8 rfl
theorem dX9_bySum_114 : decode cX9_bySum 114 = .ok (.goto (-110), 3) := xdt tbX9_bySum_60_ok 9 rfl
theorem dX9_bySum_117 : decode cX9_bySum 117 = .ok (.iload_n 2, 1) := xdt tbX9_bySum_60_ok 10 rfl
theorem dX9_bySum_118 : decode cX9_bySum 118 = .ok (.ireturn, 1) := xdt tbX9_bySum_60_ok 11 rfl
def tbX9_byAct_0 : List (Nat × Instr × Nat) := [(0, .aload_n 0, 1), (1, .aload_n 0, 1), (2, .getfield 20, 3), (5, .iload_n 1, 1), (6, .iconst 2, 1), (7, .invokestatic 244, 3), (10, .invokevirtual 407, 3), (13, .aload_n 0, 1), (14, .getfield 20, 3), (17, .iload_n 1, 1), (18, .iconst 0, 1), (19, .invokestatic 244, 3), (22, .iconst (-1), 1), (23, .if_icmp .ne 7, 3), (26, .iconst 0, 1), (27, .goto 14, 3), (30, .iconst 1, 1), (31, .aload_n 0, 1), (32, .getfield 20, 3), (35, .iload_n 1, 1), (36, .iconst 0, 1), (37, .invokestatic 244, 3), (40, .ishl, 1), (41, .ior, 1), (42, .ireturn, 1)]
theorem tbX9_byAct_0_ok : tbX9_byAct_0.all (fun q => decide (decode cX9_byAct q.1 = .ok q.2)) = true := by decide +kernel
theorem dX9_byAct_0 : decode cX9_byAct 0 = .ok (.aload_n 0, 1) := xdt tbX9_byAct_0_ok 0 rfl
theorem dX9_byAct_1 : decode cX9_byAct 1 = .ok (.aload_n 0, 1) := xdt tbX9_byAct_0_ok 1 rfl
theorem dX9_byAct_2 : decode cX9_byAct 2 = .ok (.getfield 20, 3) := xdt tbX9_byAct_0_ok 2 rfl
theorem dX9_byAct_5 : decode cX9_byAct 5 = .ok (.iload_n 1, 1) := xdt tbX9_byAct_0_ok 3 rfl
theorem dX9_byAct_6 : decode cX9_byAct 6 = .ok (.iconst 2, 1) := xdt tbX9_byAct_0_ok 4 rfl
theorem dX9_byAct_7 : decode cX9_byAct 7 = .ok (.invokestatic 244, 3) := xdt tbX9_byAct_0_ok 5 rfl
theorem dX9_byAct_10 : decode cX9_byAct 10 = .ok (.invokevirtual 407, 3) := xdt tbX9_byAct_0_ok 6 rfl
theorem dX9_byAct_13 : decode cX9_byAct 13 = .ok (.aload_n 0, 1) := xdt tbX9_byAct_0_ok 7 rfl
theorem dX9_byAct_14 : decode cX9_byAct 14 = .ok (.getfield 20, 3) := xdt tbX9_byAct_0_ok 8 rfl
theorem dX9_byAct_17 : decode cX9_byAct 17 = .ok (.iload_n 1, 1) := xdt tbX9_byAct_0_ok 9 rfl
theorem dX9_byAct_18 : decode cX9_byAct 18 = .ok (.iconst 0, 1) := xdt tbX9_byAct_0_ok 10 rfl
theorem dX9_byAct_19 : decode cX9_byAct 19 = .ok (.invokestatic 244, 3) := xdt tbX9_byAct_0_ok 11 rfl
theorem dX9_byAct_22 : decode cX9_byAct 22 = .ok (.iconst (-1), 1) := xdt tbX9_byAct_0_ok 12 rfl
theorem dX9_byAct_23 : decode cX9_byAct 23 = .ok (.if_icmp .ne 7, 3) := xdt tbX9_byAct_0_ok 13 rfl
theorem dX9_byAct_26 : decode cX9_byAct 26 = .ok (.iconst 0, 1) := xdt tbX9_byAct_0_ok 14 rfl
theorem dX9_byAct_27 : decode cX9_byAct 27 = .ok (.goto 14, 3) := xdt tbX9_byAct_0_ok 15 rfl
theorem dX9_byAct_30 : decode cX9_byAct 30 = .ok (.iconst 1, 1) := xdt tbX9_byAct_0_ok 16 rfl
theorem dX9_byAct_31 : decode cX9_byAct 31 = .ok (.aload_n 0, 1) := xdt tbX9_byAct_0_ok 17 rfl
theorem dX9_byAct_32 : decode cX9_byAct 32 = .ok (.getfield 20, 3) := xdt tbX9_byAct_0_ok 18 rfl
theorem dX9_byAct_35 : decode cX9_byAct 35 = .ok (.iload_n 1, 1) := xdt tbX9_byAct_0_ok 19 rfl
theorem dX9_byAct_36 : decode cX9_byAct 36 = .ok (.iconst 0, 1) := xdt tbX9_byAct_0_ok 20 rfl
theorem dX9_byAct_37 : decode cX9_byAct 37 = .ok (.invokestatic 244, 3) := xdt tbX9_byAct_0_ok 21 rfl
theorem dX9_byAct_40 : decode cX9_byAct 40 = .ok (.ishl, 1) := xdt tbX9_byAct_0_ok 22 rfl
theorem dX9_byAct_41 : decode cX9_byAct 41 = .ok (.ior, 1) := xdt tbX9_byAct_0_ok 23 rfl
theorem dX9_byAct_42 : decode cX9_byAct 42 = .ok (.ireturn, 1) := xdt tbX9_byAct_0_ok 24 rfl
def tbX9_byFunction_0 : List (Nat × Instr × Nat) := [(0, .aload_n 0, 1), (1, .getfield 85, 3), (4, .iload_n 1, 1), (5, .baload, 1), (6, .ifCond .eq 5, 3), (9, .iconst 0, 1), (10, .ireturn, 1), (11, .aload_n 0, 1), (12, .getfield 85, 3), (15, .iload_n 1, 1), (16, .iconst 1, 1), (17, .bastore, 1), (18, .aload_n 0, 1), (19, .aload_n 0, 1), (20, .getfield 20, 3), (23, .iload_n 1, 1), (24, .iconst 2, 1), (25, .invokestatic 104, 3), (28, .invokevirtual 407, 3), (31, .istore_n 2, 1), (32, .iconst 0, 1), (33, .istore_n 3, 1), (34, .iload_n 3, 1), (35, .aload_n 0, 1), (36, .getfield 20, 3), (39, .iload_n 1, 1), (40, .iconst 3, 1), (41, .invokestatic 104, 3), (44, .if_icmp .ge 27, 3), (47, .iload_n 2, 1), (48, .aload_n 0, 1), (49, .aload_n 0, 1), (50, .getfield 20, 3), (53, .iload_n 1, 1), (54, .iconst 4, 1), (55, .invokestatic 104, 3), (58, .iload_n 3, 1), (59, .iadd, 1), (60, .invokevirtual 413, 3), (63, .ior, 1), (64, .istore_n 2, 1), (65, .iinc 3 1, 3), (68, .goto (-34), 3), (71, .iload_n 2, 1), (72, .ireturn, 1)]
theorem tbX9_byFunction_0_ok : tbX9_byFunction_0.all (fun q => decide (decode cX9_byFunction q.1 = .ok q.2)) = true := by decide +kernel
theorem dX9_byFunction_0 : decode cX9_byFunction 0 = .ok (.aload_n 0, 1) := xdt tbX9_byFunction_0_ok 0 rfl
theorem dX9_byFunction_1 : decode cX9_byFunction 1 = .ok (.getfield 85, 3) := xdt tbX9_byFunction_0_ok 1 rfl
theorem dX9_byFunction_4 : decode cX9_byFunction 4 = .ok (.iload_n 1, 1) := xdt tbX9_byFunction_0_ok 2 rfl
theorem dX9_byFunction_5 : decode cX9_byFunction 5 = .ok (.baload, 1) := xdt tbX9_byFunction_0_ok 3 rfl
theorem dX9_byFunction_6 : decode cX9_byFunction 6 = .ok (.ifCond .eq 5, 3) := xdt tbX9_byFunction_0_ok 4 rfl
theorem dX9_byFunction_9 : decode cX9_byFunction 9 = .ok (.iconst 0, 1) := xdt tbX9_byFunction_0_ok 5 rfl
theorem dX9_byFunction_10 : decode cX9_byFunction 10 = .ok (.ireturn, 1) := xdt tbX9_byFunction_0_ok 6 rfl
theorem dX9_byFunction_11 : decode cX9_byFunction 11 = .ok (.aload_n 0, 1) := xdt tbX9_byFunction_0_ok 7 rfl
theorem dX9_byFunction_12 : decode cX9_byFunction 12 = .ok (.getfield 85, 3) := xdt tbX9_byFunction_0_ok 8 rfl
theorem dX9_byFunction_15 : decode cX9_byFunction 15 = .ok (.iload_n 1, 1) := xdt tbX9_byFunction_0_ok 9 rfl
theorem dX9_byFunction_16 : decode cX9_byFunction 16 = .ok (.iconst 1, 1) := xdt tbX9_byFunction_0_ok 10 rfl
theorem dX9_byFunction_17 : decode cX9_byFunction 17 = .ok (.bastore, 1) := xdt tbX9_byFunction_0_ok 11 rfl
theorem dX9_byFunction_18 : decode cX9_byFunction 18 = .ok (.aload_n 0, 1) := xdt tbX9_byFunction_0_ok 12 rfl
theorem dX9_byFunction_19 : decode cX9_byFunction 19 = .ok (.aload_n 0, 1) := xdt tbX9_byFunction_0_ok 13 rfl
theorem dX9_byFunction_20 : decode cX9_byFunction 20 = .ok (.getfield 20, 3) := xdt tbX9_byFunction_0_ok 14 rfl
theorem dX9_byFunction_23 : decode cX9_byFunction 23 = .ok (.iload_n 1, 1) := xdt tbX9_byFunction_0_ok 15 rfl
theorem dX9_byFunction_24 : decode cX9_byFunction 24 = .ok (.iconst 2, 1) := xdt tbX9_byFunction_0_ok 16 rfl
theorem dX9_byFunction_25 : decode cX9_byFunction 25 = .ok (.invokestatic 104, 3) := xdt tbX9_byFunction_0_ok 17 rfl
theorem dX9_byFunction_28 : decode cX9_byFunction 28 = .ok (.invokevirtual 407, 3) := xdt tbX9_byFunction_0_ok 18 rfl
theorem dX9_byFunction_31 : decode cX9_byFunction 31 = .ok (.istore_n 2, 1) := xdt tbX9_byFunction_0_ok 19 rfl
theorem dX9_byFunction_32 : decode cX9_byFunction 32 = .ok (.iconst 0, 1) := xdt tbX9_byFunction_0_ok 20 rfl
theorem dX9_byFunction_33 : decode cX9_byFunction 33 = .ok (.istore_n 3, 1) := xdt tbX9_byFunction_0_ok 21 rfl
theorem dX9_byFunction_34 : decode cX9_byFunction 34 = .ok (.iload_n 3, 1) := xdt tbX9_byFunction_0_ok 22 rfl
theorem dX9_byFunction_35 : decode cX9_byFunction 35 = .ok (.aload_n 0, 1) := xdt tbX9_byFunction_0_ok 23 rfl
theorem dX9_byFunction_36 : decode cX9_byFunction 36 = .ok (.getfield 20, 3) := xdt tbX9_byFunction_0_ok 24 rfl
theorem dX9_byFunction_39 : decode cX9_byFunction 39 = .ok (.iload_n 1, 1) := xdt tbX9_byFunction_0_ok 25 rfl
theorem dX9_byFunction_40 : decode cX9_byFunction 40 = .ok (.iconst 3, 1) := xdt tbX9_byFunction_0_ok 26 rfl
theorem dX9_byFunction_41 : decode cX9_byFunction 41 = .ok (.invokestatic 104, 3) := xdt tbX9_byFunction_0_ok 27 rfl
theorem dX9_byFunction_44 : decode cX9_byFunction 44 = .ok (.if_icmp .ge 27, 3) := xdt tbX9_byFunction_0_ok 28 rfl
theorem dX9_byFunction_47 : decode cX9_byFunction 47 = .ok (.iload_n 2, 1) := xdt tbX9_byFunction_0_ok 29 rfl
theorem dX9_byFunction_48 : decode cX9_byFunction 48 = .ok (.aload_n 0, 1) := xdt tbX9_byFunction_0_ok 30 rfl
theorem dX9_byFunction_49 : decode cX9_byFunction 49 = .ok (.aload_n 0, 1) := xdt tbX9_byFunction_0_ok 31 rfl
theorem dX9_byFunction_50 : decode cX9_byFunction 50 = .ok (.getfield 20, 3) := xdt tbX9_byFunction_0_ok 32 rfl
theorem dX9_byFunction_53 : decode cX9_byFunction 53 = .ok (.iload_n 1, 1) := xdt tbX9_byFunction_0_ok 33 rfl
theorem dX9_byFunction_54 : decode cX9_byFunction 54 = .ok (.iconst 4, 1) := xdt tbX9_byFunction_0_ok 34 rfl
theorem dX9_byFunction_55 : decode cX9_byFunction 55 = .ok (.invokestatic 104, 3) := xdt tbX9_byFunction_0_ok 35 rfl
theorem dX9_byFunction_58 : decode cX9_byFunction 58 = .ok (.iload_n 3, 1) := xdt tbX9_byFunction_0_ok 36 rfl
theorem dX9_byFunction_59 : decode cX9_byFunction 59 = .ok (.iadd, 1) := xdt tbX9_byFunction_0_ok 37 rfl
theorem dX9_byFunction_60 : decode cX9_byFunction 60 = .ok (.invokevirtual 413, 3) := xdt tbX9_byFunction_0_ok 38 rfl
theorem dX9_byFunction_63 : decode cX9_byFunction 63 = .ok (.ior, 1) := xdt tbX9_byFunction_0_ok 39 rfl
theorem dX9_byFunction_64 : decode cX9_byFunction 64 = .ok (.istore_n 2, 1) := xdt tbX9_byFunction_0_ok 40 rfl
theorem dX9_byFunction_65 : decode cX9_byFunction 65 = .ok (.iinc 3 1, 3) := xdt tbX9_byFunction_0_ok 41 rfl
theorem dX9_byFunction_68 : decode cX9_byFunction 68 = .ok (.goto (-34), 3) := xdt tbX9_byFunction_0_ok 42 rfl
theorem dX9_byFunction_71 : decode cX9_byFunction 71 = .ok (.iload_n 2, 1) := xdt tbX9_byFunction_0_ok 43 rfl
theorem dX9_byFunction_72 : decode cX9_byFunction 72 = .ok (.ireturn, 1) := xdt tbX9_byFunction_0_ok 44 rfl
def tbX9_touched_0 : List (Nat × Instr × Nat) := [(0, .iconst 0, 1), (1, .istore_n 2, 1), (2, .iload_n 2, 1), (3, .bipush 84, 2), (5, .if_icmp .ge 16, 3), (8, .aload_n 0, 1), (9, .getfield 85, 3), (12, .iload_n 2, 1), (13, .iconst 0, 1), (14, .bastore, 1), (15, .iinc 2 1, 3), (18, .goto (-16), 3), (21, .aload_n 0, 1), (22, .getfield 20, 3), (25, .iload_n 1, 1), (26, .iconst 1, 1), (27, .invokestatic 97, 3), (30, .iconst (-1), 1), (31, .if_icmp .ne 7, 3), (34, .iconst 0, 1), (35, .goto 14, 3), (38, .iconst 1, 1), (39, .aload_n 0, 1), (40, .getfield 20, 3), (43, .iload_n 1, 1), (44, .iconst 1, 1), (45, .invokestatic 97, 3), (48, .ishl, 1), (49, .istore_n 2, 1), (50, .iconst 0, 1), (51, .istore_n 3, 1), (52, .iload_n 3, 1), (53, .aload_n 0, 1), (54, .getfield 20, 3), (57, .iload_n 1, 1), (58, .iconst 2, 1), (59, .invokestatic 97, 3), (62, .if_icmp .ge 92, 3), (65, .aload_n 0, 1), (66, .getfield 20, 3), (69, .iload_n 1, 1), (70, .iload_n 3, 1), (71, .invokestatic 101, 3), (74, .istore 4, 2), (76, .aload_n 0, 1), (77, .getfield 20, 3), (80, .iload 4, 2), (82, .iconst 0, 1), (83, .invokestatic 104, 3), (86, .istore 5, 2), (88, .aload_n 0, 1), (89, .getfield 20, 3), (92, .iload 4, 2), (94, .iconst 2, 1), (95, .invokestatic 104, 3), (98, .istore 6, 2), (100, .aload_n 0, 1), (101, .getfield 26, 3), (104, .iload 4, 2), (106, .baload, 1)]
theorem tbX9_touched_0_ok : tbX9_touched_0.all (fun q => decide (decode cX9_touched q.1 = .ok q.2)) = true := by decide +kernel
theorem dX9_touched_0 : decode cX9_touched 0 = .ok (.iconst 0, 1) := xdt tbX9_touched_0_ok 0 rfl
theorem dX9_touched_1 : decode cX9_touched 1 = .ok (.istore_n 2, 1) := xdt tbX9_touched_0_ok 1 rfl
theorem dX9_touched_2 : decode cX9_touched 2 = .ok (.iload_n 2, 1) := xdt tbX9_touched_0_ok 2 rfl
theorem dX9_touched_3 : decode cX9_touched 3 = .ok (.bipush 84, 2) := xdt tbX9_touched_0_ok 3 rfl
theorem dX9_touched_5 : decode cX9_touched 5 = .ok (.if_icmp .ge 16, 3) := xdt tbX9_touched_0_ok 4 rfl
theorem dX9_touched_8 : decode cX9_touched 8 = .ok (.aload_n 0, 1) := xdt tbX9_touched_0_ok 5 rfl
theorem dX9_touched_9 : decode cX9_touched 9 = .ok (.getfield 85, 3) := xdt tbX9_touched_0_ok 6 rfl
theorem dX9_touched_12 : decode cX9_touched 12 = .ok (.iload_n 2, 1) := xdt tbX9_touched_0_ok 7 rfl
theorem dX9_touched_13 : decode cX9_touched 13 = .ok (.iconst 0, 1) := xdt tbX9_touched_0_ok 8 rfl
theorem dX9_touched_14 : decode cX9_touched 14 = .ok (.bastore, 1) := xdt tbX9_touched_0_ok 9 rfl
theorem dX9_touched_15 : decode cX9_touched 15 = .ok (.iinc 2 1, 3) := xdt tbX9_touched_0_ok 10 rfl
theorem dX9_touched_18 : decode cX9_touched 18 = .ok (.goto (-16), 3) := xdt tbX9_touched_0_ok 11 rfl
theorem dX9_touched_21 : decode cX9_touched 21 = .ok (.aload_n 0, 1) := xdt tbX9_touched_0_ok 12 rfl
theorem dX9_touched_22 : decode cX9_touched 22 = .ok (.getfield 20, 3) := xdt tbX9_touched_0_ok 13 rfl
theorem dX9_touched_25 : decode cX9_touched 25 = .ok (.iload_n 1, 1) := xdt tbX9_touched_0_ok 14 rfl
theorem dX9_touched_26 : decode cX9_touched 26 = .ok (.iconst 1, 1) := xdt tbX9_touched_0_ok 15 rfl
theorem dX9_touched_27 : decode cX9_touched 27 = .ok (.invokestatic 97, 3) := xdt tbX9_touched_0_ok 16 rfl
theorem dX9_touched_30 : decode cX9_touched 30 = .ok (.iconst (-1), 1) := xdt tbX9_touched_0_ok 17 rfl
theorem dX9_touched_31 : decode cX9_touched 31 = .ok (.if_icmp .ne 7, 3) := xdt tbX9_touched_0_ok 18 rfl
theorem dX9_touched_34 : decode cX9_touched 34 = .ok (.iconst 0, 1) := xdt tbX9_touched_0_ok 19 rfl
theorem dX9_touched_35 : decode cX9_touched 35 = .ok (.goto 14, 3) := xdt tbX9_touched_0_ok 20 rfl
theorem dX9_touched_38 : decode cX9_touched 38 = .ok (.iconst 1, 1) := xdt tbX9_touched_0_ok 21 rfl
theorem dX9_touched_39 : decode cX9_touched 39 = .ok (.aload_n 0, 1) := xdt tbX9_touched_0_ok 22 rfl
theorem dX9_touched_40 : decode cX9_touched 40 = .ok (.getfield 20, 3) := xdt tbX9_touched_0_ok 23 rfl
theorem dX9_touched_43 : decode cX9_touched 43 = .ok (.iload_n 1, 1) := xdt tbX9_touched_0_ok 24 rfl
theorem dX9_touched_44 : decode cX9_touched 44 = .ok (.iconst 1, 1) := xdt tbX9_touched_0_ok 25 rfl
theorem dX9_touched_45 : decode cX9_touched 45 = .ok (.invokestatic 97, 3) := xdt tbX9_touched_0_ok 26 rfl
theorem dX9_touched_48 : decode cX9_touched 48 = .ok (.ishl, 1) := xdt tbX9_touched_0_ok 27 rfl
theorem dX9_touched_49 : decode cX9_touched 49 = .ok (.istore_n 2, 1) := xdt tbX9_touched_0_ok 28 rfl
theorem dX9_touched_50 : decode cX9_touched 50 = .ok (.iconst 0, 1) := xdt tbX9_touched_0_ok 29 rfl
theorem dX9_touched_51 : decode cX9_touched 51 = .ok (.istore_n 3, 1) := xdt tbX9_touched_0_ok 30 rfl
theorem dX9_touched_52 : decode cX9_touched 52 = .ok (.iload_n 3, 1) := xdt tbX9_touched_0_ok 31 rfl
theorem dX9_touched_53 : decode cX9_touched 53 = .ok (.aload_n 0, 1) := xdt tbX9_touched_0_ok 32 rfl
theorem dX9_touched_54 : decode cX9_touched 54 = .ok (.getfield 20, 3) := xdt tbX9_touched_0_ok 33 rfl
theorem dX9_touched_57 : decode cX9_touched 57 = .ok (.iload_n 1, 1) := xdt tbX9_touched_0_ok 34 rfl
theorem dX9_touched_58 : decode cX9_touched 58 = .ok (.iconst 2, 1) := xdt tbX9_touched_0_ok 35 rfl
theorem dX9_touched_59 : decode cX9_touched 59 = .ok (.invokestatic 97, 3) := xdt tbX9_touched_0_ok 36 rfl
theorem dX9_touched_62 : decode cX9_touched 62 = .ok (.if_icmp .ge 92, 3) := xdt tbX9_touched_0_ok 37 rfl
theorem dX9_touched_65 : decode cX9_touched 65 = .ok (.aload_n 0, 1) := xdt tbX9_touched_0_ok 38 rfl
theorem dX9_touched_66 : decode cX9_touched 66 = .ok (.getfield 20, 3) := xdt tbX9_touched_0_ok 39 rfl
theorem dX9_touched_69 : decode cX9_touched 69 = .ok (.iload_n 1, 1) := xdt tbX9_touched_0_ok 40 rfl
theorem dX9_touched_70 : decode cX9_touched 70 = .ok (.iload_n 3, 1) := xdt tbX9_touched_0_ok 41 rfl
theorem dX9_touched_71 : decode cX9_touched 71 = .ok (.invokestatic 101, 3) := xdt tbX9_touched_0_ok 42 rfl
theorem dX9_touched_74 : decode cX9_touched 74 = .ok (.istore 4, 2) := xdt tbX9_touched_0_ok 43 rfl
theorem dX9_touched_76 : decode cX9_touched 76 = .ok (.aload_n 0, 1) := xdt tbX9_touched_0_ok 44 rfl
theorem dX9_touched_77 : decode cX9_touched 77 = .ok (.getfield 20, 3) := xdt tbX9_touched_0_ok 45 rfl
theorem dX9_touched_80 : decode cX9_touched 80 = .ok (.iload 4, 2) := xdt tbX9_touched_0_ok 46 rfl
theorem dX9_touched_82 : decode cX9_touched 82 = .ok (.iconst 0, 1) := xdt tbX9_touched_0_ok 47 rfl
theorem dX9_touched_83 : decode cX9_touched 83 = .ok (.invokestatic 104, 3) := xdt tbX9_touched_0_ok 48 rfl
theorem dX9_touched_86 : decode cX9_touched 86 = .ok (.istore 5, 2) := xdt tbX9_touched_0_ok 49 rfl
theorem dX9_touched_88 : decode cX9_touched 88 = .ok (.aload_n 0, 1) := xdt tbX9_touched_0_ok 50 rfl
theorem dX9_touched_89 : decode cX9_touched 89 = .ok (.getfield 20, 3) := xdt tbX9_touched_0_ok 51 rfl
theorem dX9_touched_92 : decode cX9_touched 92 = .ok (.iload 4, 2) := xdt tbX9_touched_0_ok 52 rfl
theorem dX9_touched_94 : decode cX9_touched 94 = .ok (.iconst 2, 1) := xdt tbX9_touched_0_ok 53 rfl
theorem dX9_touched_95 : decode cX9_touched 95 = .ok (.invokestatic 104, 3) := xdt tbX9_touched_0_ok 54 rfl
theorem dX9_touched_98 : decode cX9_touched 98 = .ok (.istore 6, 2) := xdt tbX9_touched_0_ok 55 rfl
theorem dX9_touched_100 : decode cX9_touched 100 = .ok (.aload_n 0, 1) := xdt tbX9_touched_0_ok 56 rfl
theorem dX9_touched_101 : decode cX9_touched 101 = .ok (.getfield 26, 3) := xdt tbX9_touched_0_ok 57 rfl
theorem dX9_touched_104 : decode cX9_touched 104 = .ok (.iload 4, 2) := xdt tbX9_touched_0_ok 58 rfl
theorem dX9_touched_106 : decode cX9_touched 106 = .ok (.baload, 1) := xdt tbX9_touched_0_ok 59 rfl
def tbX9_touched_60 : List (Nat × Instr × Nat) := [(107, .ifCond .ne 41, 3), (110, .iload 5, 2), (112, .ifCond .eq 36, 3), (115, .iload 5, 2), (117, .iconst 4, 1), (118, .if_icmp .ne 6, 3), (121, .goto 27, 3), (124, .iload_n 2, 1), (125, .iload 5, 2), (127, .iconst 1, 1), (128, .if_icmp .ne 12, 3), (131, .aload_n 0, 1), (132, .iload 6, 2), (134, .invokevirtual 407, 3), (137, .goto 9, 3), (140, .aload_n 0, 1), (141, .iload 6, 2), (143, .invokevirtual 413, 3), (146, .ior, 1), (147, .istore_n 2, 1), (148, .iinc 3 1, 3), (151, .goto (-99), 3), (154, .iload_n 2, 1), (155, .ireturn, 1)]
theorem tbX9_touched_60_ok : tbX9_touched_60.all (fun q => decide (decode cX9_touched q.1 = .ok q.2)) = true := by decide +kernel
theorem dX9_touched_107 : decode cX9_touched 107 = .ok (.ifCond .ne 41, 3) := xdt tbX9_touched_60_ok 0 rfl
theorem dX9_touched_110 : decode cX9_touched 110 = .ok (.iload 5, 2) := xdt tbX9_touched_60_ok 1 rfl
theorem dX9_touched_112 : decode cX9_touched 112 = .ok (.ifCond .eq 36, 3) := xdt tbX9_touched_60_ok 2 rfl
theorem dX9_touched_115 : decode cX9_touched 115 = .ok (.iload 5, 2) := xdt tbX9_touched_60_ok 3 rfl
theorem dX9_touched_117 : decode cX9_touched 117 = .ok (.iconst 4, 1) := xdt tbX9_touched_60_ok 4 rfl
theorem dX9_touched_118 : decode cX9_touched 118 = .ok (.if_icmp .ne 6, 3) := xdt tbX9_touched_60_ok 5 rfl
theorem dX9_touched_121 : decode cX9_touched 121 = .ok (.goto 27, 3) := xdt tbX9_touched_60_ok 6 rfl
theorem dX9_touched_124 : decode cX9_touched 124 = .ok (.iload_n 2, 1) := xdt tbX9_touched_60_ok 7 rfl
theorem dX9_touched_125 : decode cX9_touched 125 = .ok (.iload 5, 2) := xdt tbX9_touched_60_ok 8 rfl
theorem dX9_touched_127 : decode cX9_touched 127 = .ok (.iconst 1, 1) := xdt tbX9_touched_60_ok 9 rfl
theorem dX9_touched_128 : decode cX9_touched 128 = .ok (.if_icmp .ne 12, 3) := xdt tbX9_touched_60_ok 10 rfl
theorem dX9_touched_131 : decode cX9_touched 131 = .ok (.aload_n 0, 1) := xdt tbX9_touched_60_ok 11 rfl
theorem dX9_touched_132 : decode cX9_touched 132 = .ok (.iload 6, 2) := xdt tbX9_touched_60_ok 12 rfl
theorem dX9_touched_134 : decode cX9_touched 134 = .ok (.invokevirtual 407, 3) := xdt tbX9_touched_60_ok 13 rfl
theorem dX9_touched_137 : decode cX9_touched 137 = .ok (.goto 9, 3) := xdt tbX9_touched_60_ok 14 rfl
theorem dX9_touched_140 : decode cX9_touched 140 = .ok (.aload_n 0, 1) := xdt tbX9_touched_60_ok 15 rfl
theorem dX9_touched_141 : decode cX9_touched 141 = .ok (.iload 6, 2) := xdt tbX9_touched_60_ok 16 rfl
theorem dX9_touched_143 : decode cX9_touched 143 = .ok (.invokevirtual 413, 3) := xdt tbX9_touched_60_ok 17 rfl
theorem dX9_touched_146 : decode cX9_touched 146 = .ok (.ior, 1) := xdt tbX9_touched_60_ok 18 rfl
theorem dX9_touched_147 : decode cX9_touched 147 = .ok (.istore_n 2, 1) := xdt tbX9_touched_60_ok 19 rfl
theorem dX9_touched_148 : decode cX9_touched 148 = .ok (.iinc 3 1, 3) := xdt tbX9_touched_60_ok 20 rfl
theorem dX9_touched_151 : decode cX9_touched 151 = .ok (.goto (-99), 3) := xdt tbX9_touched_60_ok 21 rfl
theorem dX9_touched_154 : decode cX9_touched 154 = .ok (.iload_n 2, 1) := xdt tbX9_touched_60_ok 22 rfl
theorem dX9_touched_155 : decode cX9_touched 155 = .ok (.ireturn, 1) := xdt tbX9_touched_60_ok 23 rfl
def tbX9_reached_0 : List (Nat × Instr × Nat) := [(0, .aload_n 0, 1), (1, .iload_n 1, 1), (2, .invokevirtual 416, 3), (5, .istore_n 2, 1), (6, .iconst 0, 1), (7, .istore_n 3, 1), (8, .iload_n 2, 1), (9, .iload_n 3, 1), (10, .if_icmp .eq 47, 3), (13, .iload_n 2, 1), (14, .istore_n 3, 1), (15, .iconst 0, 1), (16, .istore 4, 2), (18, .iload 4, 2), (20, .aload_n 0, 1), (21, .getfield 20, 3), (24, .iconst 0, 1), (25, .iaload, 1), (26, .if_icmp .ge 28, 3), (29, .iload_n 3, 1), (30, .iload 4, 2), (32, .ishr, 1), (33, .iconst 1, 1), (34, .iand, 1), (35, .iconst 1, 1), (36, .if_icmp .ne 12, 3), (39, .iload_n 2, 1), (40, .aload_n 0, 1), (41, .iload 4, 2), (43, .invokevirtual 416, 3), (46, .ior, 1), (47, .istore_n 2, 1), (48, .iinc 4 1, 3), (51, .goto (-33), 3), (54, .goto (-46), 3), (57, .iload_n 2, 1), (58, .ireturn, 1)]
theorem tbX9_reached_0_ok : tbX9_reached_0.all (fun q => decide (decode cX9_reached q.1 = .ok q.2)) = true := by decide +kernel
theorem dX9_reached_0 : decode cX9_reached 0 = .ok (.aload_n 0, 1) := xdt tbX9_reached_0_ok 0 rfl
theorem dX9_reached_1 : decode cX9_reached 1 = .ok (.iload_n 1, 1) := xdt tbX9_reached_0_ok 1 rfl
theorem dX9_reached_2 : decode cX9_reached 2 = .ok (.invokevirtual 416, 3) := xdt tbX9_reached_0_ok 2 rfl
theorem dX9_reached_5 : decode cX9_reached 5 = .ok (.istore_n 2, 1) := xdt tbX9_reached_0_ok 3 rfl
theorem dX9_reached_6 : decode cX9_reached 6 = .ok (.iconst 0, 1) := xdt tbX9_reached_0_ok 4 rfl
theorem dX9_reached_7 : decode cX9_reached 7 = .ok (.istore_n 3, 1) := xdt tbX9_reached_0_ok 5 rfl
theorem dX9_reached_8 : decode cX9_reached 8 = .ok (.iload_n 2, 1) := xdt tbX9_reached_0_ok 6 rfl
theorem dX9_reached_9 : decode cX9_reached 9 = .ok (.iload_n 3, 1) := xdt tbX9_reached_0_ok 7 rfl
theorem dX9_reached_10 : decode cX9_reached 10 = .ok (.if_icmp .eq 47, 3) := xdt tbX9_reached_0_ok 8 rfl
theorem dX9_reached_13 : decode cX9_reached 13 = .ok (.iload_n 2, 1) := xdt tbX9_reached_0_ok 9 rfl
theorem dX9_reached_14 : decode cX9_reached 14 = .ok (.istore_n 3, 1) := xdt tbX9_reached_0_ok 10 rfl
theorem dX9_reached_15 : decode cX9_reached 15 = .ok (.iconst 0, 1) := xdt tbX9_reached_0_ok 11 rfl
theorem dX9_reached_16 : decode cX9_reached 16 = .ok (.istore 4, 2) := xdt tbX9_reached_0_ok 12 rfl
theorem dX9_reached_18 : decode cX9_reached 18 = .ok (.iload 4, 2) := xdt tbX9_reached_0_ok 13 rfl
theorem dX9_reached_20 : decode cX9_reached 20 = .ok (.aload_n 0, 1) := xdt tbX9_reached_0_ok 14 rfl
theorem dX9_reached_21 : decode cX9_reached 21 = .ok (.getfield 20, 3) := xdt tbX9_reached_0_ok 15 rfl
theorem dX9_reached_24 : decode cX9_reached 24 = .ok (.iconst 0, 1) := xdt tbX9_reached_0_ok 16 rfl
theorem dX9_reached_25 : decode cX9_reached 25 = .ok (.iaload, 1) := xdt tbX9_reached_0_ok 17 rfl
theorem dX9_reached_26 : decode cX9_reached 26 = .ok (.if_icmp .ge 28, 3) := xdt tbX9_reached_0_ok 18 rfl
theorem dX9_reached_29 : decode cX9_reached 29 = .ok (.iload_n 3, 1) := xdt tbX9_reached_0_ok 19 rfl
theorem dX9_reached_30 : decode cX9_reached 30 = .ok (.iload 4, 2) := xdt tbX9_reached_0_ok 20 rfl
theorem dX9_reached_32 : decode cX9_reached 32 = .ok (.ishr, 1) := xdt tbX9_reached_0_ok 21 rfl
theorem dX9_reached_33 : decode cX9_reached 33 = .ok (.iconst 1, 1) := xdt tbX9_reached_0_ok 22 rfl
theorem dX9_reached_34 : decode cX9_reached 34 = .ok (.iand, 1) := xdt tbX9_reached_0_ok 23 rfl
theorem dX9_reached_35 : decode cX9_reached 35 = .ok (.iconst 1, 1) := xdt tbX9_reached_0_ok 24 rfl
theorem dX9_reached_36 : decode cX9_reached 36 = .ok (.if_icmp .ne 12, 3) := xdt tbX9_reached_0_ok 25 rfl
theorem dX9_reached_39 : decode cX9_reached 39 = .ok (.iload_n 2, 1) := xdt tbX9_reached_0_ok 26 rfl
theorem dX9_reached_40 : decode cX9_reached 40 = .ok (.aload_n 0, 1) := xdt tbX9_reached_0_ok 27 rfl
theorem dX9_reached_41 : decode cX9_reached 41 = .ok (.iload 4, 2) := xdt tbX9_reached_0_ok 28 rfl
theorem dX9_reached_43 : decode cX9_reached 43 = .ok (.invokevirtual 416, 3) := xdt tbX9_reached_0_ok 29 rfl
theorem dX9_reached_46 : decode cX9_reached 46 = .ok (.ior, 1) := xdt tbX9_reached_0_ok 30 rfl
theorem dX9_reached_47 : decode cX9_reached 47 = .ok (.istore_n 2, 1) := xdt tbX9_reached_0_ok 31 rfl
theorem dX9_reached_48 : decode cX9_reached 48 = .ok (.iinc 4 1, 3) := xdt tbX9_reached_0_ok 32 rfl
theorem dX9_reached_51 : decode cX9_reached 51 = .ok (.goto (-33), 3) := xdt tbX9_reached_0_ok 33 rfl
theorem dX9_reached_54 : decode cX9_reached 54 = .ok (.goto (-46), 3) := xdt tbX9_reached_0_ok 34 rfl
theorem dX9_reached_57 : decode cX9_reached 57 = .ok (.iload_n 2, 1) := xdt tbX9_reached_0_ok 35 rfl
theorem dX9_reached_58 : decode cX9_reached 58 = .ok (.ireturn, 1) := xdt tbX9_reached_0_ok 36 rfl
def tbX9_touches_0 : List (Nat × Instr × Nat) := [(0, .aload_n 0, 1), (1, .iconst 0, 1), (2, .putfield 91, 3), (5, .aload_n 0, 1), (6, .aload_n 0, 1), (7, .iload_n 1, 1), (8, .invokevirtual 283, 3), (11, .ifCond .ne 7, 3), (14, .iconst 1, 1), (15, .goto 4, 3), (18, .iconst 0, 1), (19, .iconst 1, 1), (20, .iconst 0, 1), (21, .invokevirtual 257, 3), (24, .ifCond .eq 7, 3), (27, .iconst 0, 1), (28, .goto 8, 3), (31, .aload_n 0, 1), (32, .iload_n 1, 1), (33, .invokevirtual 416, 3), (36, .ireturn, 1)]
theorem tbX9_touches_0_ok : tbX9_touches_0.all (fun q => decide (decode cX9_touches q.1 = .ok q.2)) = true := by decide +kernel
theorem dX9_touches_0 : decode cX9_touches 0 = .ok (.aload_n 0, 1) := xdt tbX9_touches_0_ok 0 rfl
theorem dX9_touches_1 : decode cX9_touches 1 = .ok (.iconst 0, 1) := xdt tbX9_touches_0_ok 1 rfl
theorem dX9_touches_2 : decode cX9_touches 2 = .ok (.putfield 91, 3) := xdt tbX9_touches_0_ok 2 rfl
theorem dX9_touches_5 : decode cX9_touches 5 = .ok (.aload_n 0, 1) := xdt tbX9_touches_0_ok 3 rfl
theorem dX9_touches_6 : decode cX9_touches 6 = .ok (.aload_n 0, 1) := xdt tbX9_touches_0_ok 4 rfl
theorem dX9_touches_7 : decode cX9_touches 7 = .ok (.iload_n 1, 1) := xdt tbX9_touches_0_ok 5 rfl
theorem dX9_touches_8 : decode cX9_touches 8 = .ok (.invokevirtual 283, 3) := xdt tbX9_touches_0_ok 6 rfl
theorem dX9_touches_11 : decode cX9_touches 11 = .ok (.ifCond .ne 7, 3) := xdt tbX9_touches_0_ok 7 rfl
theorem dX9_touches_14 : decode cX9_touches 14 = .ok (.iconst 1, 1) := xdt tbX9_touches_0_ok 8 rfl
theorem dX9_touches_15 : decode cX9_touches 15 = .ok (.goto 4, 3) := xdt tbX9_touches_0_ok 9 rfl
theorem dX9_touches_18 : decode cX9_touches 18 = .ok (.iconst 0, 1) := xdt tbX9_touches_0_ok 10 rfl
theorem dX9_touches_19 : decode cX9_touches 19 = .ok (.iconst 1, 1) := xdt tbX9_touches_0_ok 11 rfl
theorem dX9_touches_20 : decode cX9_touches 20 = .ok (.iconst 0, 1) := xdt tbX9_touches_0_ok 12 rfl
theorem dX9_touches_21 : decode cX9_touches 21 = .ok (.invokevirtual 257, 3) := xdt tbX9_touches_0_ok 13 rfl
theorem dX9_touches_24 : decode cX9_touches 24 = .ok (.ifCond .eq 7, 3) := xdt tbX9_touches_0_ok 14 rfl
theorem dX9_touches_27 : decode cX9_touches 27 = .ok (.iconst 0, 1) := xdt tbX9_touches_0_ok 15 rfl
theorem dX9_touches_28 : decode cX9_touches 28 = .ok (.goto 8, 3) := xdt tbX9_touches_0_ok 16 rfl
theorem dX9_touches_31 : decode cX9_touches 31 = .ok (.aload_n 0, 1) := xdt tbX9_touches_0_ok 17 rfl
theorem dX9_touches_32 : decode cX9_touches 32 = .ok (.iload_n 1, 1) := xdt tbX9_touches_0_ok 18 rfl
theorem dX9_touches_33 : decode cX9_touches 33 = .ok (.invokevirtual 416, 3) := xdt tbX9_touches_0_ok 19 rfl
theorem dX9_touches_36 : decode cX9_touches 36 = .ok (.ireturn, 1) := xdt tbX9_touches_0_ok 20 rfl
def tbX9_reach_0 : List (Nat × Instr × Nat) := [(0, .aload_n 0, 1), (1, .iconst 0, 1), (2, .putfield 91, 3), (5, .aload_n 0, 1), (6, .aload_n 0, 1), (7, .iload_n 1, 1), (8, .invokevirtual 283, 3), (11, .ifCond .ne 7, 3), (14, .iconst 1, 1), (15, .goto 4, 3), (18, .iconst 0, 1), (19, .iconst 1, 1), (20, .iconst 0, 1), (21, .invokevirtual 257, 3), (24, .ifCond .eq 7, 3), (27, .iconst 0, 1), (28, .goto 8, 3), (31, .aload_n 0, 1), (32, .iload_n 1, 1), (33, .invokevirtual 419, 3), (36, .ireturn, 1)]
theorem tbX9_reach_0_ok : tbX9_reach_0.all (fun q => decide (decode cX9_reach q.1 = .ok q.2)) = true := by decide +kernel
theorem dX9_reach_0 : decode cX9_reach 0 = .ok (.aload_n 0, 1) := xdt tbX9_reach_0_ok 0 rfl
theorem dX9_reach_1 : decode cX9_reach 1 = .ok (.iconst 0, 1) := xdt tbX9_reach_0_ok 1 rfl
theorem dX9_reach_2 : decode cX9_reach 2 = .ok (.putfield 91, 3) := xdt tbX9_reach_0_ok 2 rfl
theorem dX9_reach_5 : decode cX9_reach 5 = .ok (.aload_n 0, 1) := xdt tbX9_reach_0_ok 3 rfl
theorem dX9_reach_6 : decode cX9_reach 6 = .ok (.aload_n 0, 1) := xdt tbX9_reach_0_ok 4 rfl
theorem dX9_reach_7 : decode cX9_reach 7 = .ok (.iload_n 1, 1) := xdt tbX9_reach_0_ok 5 rfl
theorem dX9_reach_8 : decode cX9_reach 8 = .ok (.invokevirtual 283, 3) := xdt tbX9_reach_0_ok 6 rfl
theorem dX9_reach_11 : decode cX9_reach 11 = .ok (.ifCond .ne 7, 3) := xdt tbX9_reach_0_ok 7 rfl
theorem dX9_reach_14 : decode cX9_reach 14 = .ok (.iconst 1, 1) := xdt tbX9_reach_0_ok 8 rfl
theorem dX9_reach_15 : decode cX9_reach 15 = .ok (.goto 4, 3) := xdt tbX9_reach_0_ok 9 rfl
theorem dX9_reach_18 : decode cX9_reach 18 = .ok (.iconst 0, 1) := xdt tbX9_reach_0_ok 10 rfl
theorem dX9_reach_19 : decode cX9_reach 19 = .ok (.iconst 1, 1) := xdt tbX9_reach_0_ok 11 rfl
theorem dX9_reach_20 : decode cX9_reach 20 = .ok (.iconst 0, 1) := xdt tbX9_reach_0_ok 12 rfl
theorem dX9_reach_21 : decode cX9_reach 21 = .ok (.invokevirtual 257, 3) := xdt tbX9_reach_0_ok 13 rfl
theorem dX9_reach_24 : decode cX9_reach 24 = .ok (.ifCond .eq 7, 3) := xdt tbX9_reach_0_ok 14 rfl
theorem dX9_reach_27 : decode cX9_reach 27 = .ok (.iconst 0, 1) := xdt tbX9_reach_0_ok 15 rfl
theorem dX9_reach_28 : decode cX9_reach 28 = .ok (.goto 8, 3) := xdt tbX9_reach_0_ok 16 rfl
theorem dX9_reach_31 : decode cX9_reach 31 = .ok (.aload_n 0, 1) := xdt tbX9_reach_0_ok 17 rfl
theorem dX9_reach_32 : decode cX9_reach 32 = .ok (.iload_n 1, 1) := xdt tbX9_reach_0_ok 18 rfl
theorem dX9_reach_33 : decode cX9_reach 33 = .ok (.invokevirtual 419, 3) := xdt tbX9_reach_0_ok 19 rfl
theorem dX9_reach_36 : decode cX9_reach 36 = .ok (.ireturn, 1) := xdt tbX9_reach_0_ok 20 rfl
def tbX9_ring_0 : List (Nat × Instr × Nat) := [(0, .aload_n 0, 1), (1, .iconst 0, 1), (2, .putfield 91, 3), (5, .aload_n 0, 1), (6, .aload_n 0, 1), (7, .iload_n 1, 1), (8, .invokevirtual 283, 3), (11, .ifCond .ne 7, 3), (14, .iconst 1, 1), (15, .goto 4, 3), (18, .iconst 0, 1), (19, .iconst 1, 1), (20, .iconst 0, 1), (21, .invokevirtual 257, 3), (24, .ifCond .eq 5, 3), (27, .iconst 0, 1), (28, .ireturn, 1), (29, .aload_n 0, 1), (30, .iload_n 1, 1), (31, .invokevirtual 419, 3), (34, .istore_n 2, 1), (35, .iconst 0, 1), (36, .istore_n 3, 1), (37, .iconst 0, 1), (38, .istore 4, 2), (40, .iload 4, 2), (42, .aload_n 0, 1), (43, .getfield 20, 3), (46, .iconst 0, 1), (47, .iaload, 1), (48, .if_icmp .ge 40, 3), (51, .iload_n 2, 1), (52, .iload 4, 2), (54, .ishr, 1), (55, .iconst 1, 1), (56, .iand, 1), (57, .iconst 1, 1), (58, .if_icmp .ne 24, 3), (61, .aload_n 0, 1), (62, .iload 4, 2), (64, .invokevirtual 419, 3), (67, .iload_n 1, 1), (68, .ishr, 1), (69, .iconst 1, 1), (70, .iand, 1), (71, .iconst 1, 1), (72, .if_icmp .ne 10, 3), (75, .iload_n 3, 1), (76, .iconst 1, 1), (77, .iload 4, 2), (79, .ishl, 1), (80, .ior, 1), (81, .istore_n 3, 1), (82, .iinc 4 1, 3), (85, .goto (-45), 3), (88, .iload_n 3, 1), (89, .ireturn, 1)]
theorem tbX9_ring_0_ok : tbX9_ring_0.all (fun q => decide (decode cX9_ring q.1 = .ok q.2)) = true := by decide +kernel
theorem dX9_ring_0 : decode cX9_ring 0 = .ok (.aload_n 0, 1) := xdt tbX9_ring_0_ok 0 rfl
theorem dX9_ring_1 : decode cX9_ring 1 = .ok (.iconst 0, 1) := xdt tbX9_ring_0_ok 1 rfl
theorem dX9_ring_2 : decode cX9_ring 2 = .ok (.putfield 91, 3) := xdt tbX9_ring_0_ok 2 rfl
theorem dX9_ring_5 : decode cX9_ring 5 = .ok (.aload_n 0, 1) := xdt tbX9_ring_0_ok 3 rfl
theorem dX9_ring_6 : decode cX9_ring 6 = .ok (.aload_n 0, 1) := xdt tbX9_ring_0_ok 4 rfl
theorem dX9_ring_7 : decode cX9_ring 7 = .ok (.iload_n 1, 1) := xdt tbX9_ring_0_ok 5 rfl
theorem dX9_ring_8 : decode cX9_ring 8 = .ok (.invokevirtual 283, 3) := xdt tbX9_ring_0_ok 6 rfl
theorem dX9_ring_11 : decode cX9_ring 11 = .ok (.ifCond .ne 7, 3) := xdt tbX9_ring_0_ok 7 rfl
theorem dX9_ring_14 : decode cX9_ring 14 = .ok (.iconst 1, 1) := xdt tbX9_ring_0_ok 8 rfl
theorem dX9_ring_15 : decode cX9_ring 15 = .ok (.goto 4, 3) := xdt tbX9_ring_0_ok 9 rfl
theorem dX9_ring_18 : decode cX9_ring 18 = .ok (.iconst 0, 1) := xdt tbX9_ring_0_ok 10 rfl
theorem dX9_ring_19 : decode cX9_ring 19 = .ok (.iconst 1, 1) := xdt tbX9_ring_0_ok 11 rfl
theorem dX9_ring_20 : decode cX9_ring 20 = .ok (.iconst 0, 1) := xdt tbX9_ring_0_ok 12 rfl
theorem dX9_ring_21 : decode cX9_ring 21 = .ok (.invokevirtual 257, 3) := xdt tbX9_ring_0_ok 13 rfl
theorem dX9_ring_24 : decode cX9_ring 24 = .ok (.ifCond .eq 5, 3) := xdt tbX9_ring_0_ok 14 rfl
theorem dX9_ring_27 : decode cX9_ring 27 = .ok (.iconst 0, 1) := xdt tbX9_ring_0_ok 15 rfl
theorem dX9_ring_28 : decode cX9_ring 28 = .ok (.ireturn, 1) := xdt tbX9_ring_0_ok 16 rfl
theorem dX9_ring_29 : decode cX9_ring 29 = .ok (.aload_n 0, 1) := xdt tbX9_ring_0_ok 17 rfl
theorem dX9_ring_30 : decode cX9_ring 30 = .ok (.iload_n 1, 1) := xdt tbX9_ring_0_ok 18 rfl
theorem dX9_ring_31 : decode cX9_ring 31 = .ok (.invokevirtual 419, 3) := xdt tbX9_ring_0_ok 19 rfl
theorem dX9_ring_34 : decode cX9_ring 34 = .ok (.istore_n 2, 1) := xdt tbX9_ring_0_ok 20 rfl
theorem dX9_ring_35 : decode cX9_ring 35 = .ok (.iconst 0, 1) := xdt tbX9_ring_0_ok 21 rfl
theorem dX9_ring_36 : decode cX9_ring 36 = .ok (.istore_n 3, 1) := xdt tbX9_ring_0_ok 22 rfl
theorem dX9_ring_37 : decode cX9_ring 37 = .ok (.iconst 0, 1) := xdt tbX9_ring_0_ok 23 rfl
theorem dX9_ring_38 : decode cX9_ring 38 = .ok (.istore 4, 2) := xdt tbX9_ring_0_ok 24 rfl
theorem dX9_ring_40 : decode cX9_ring 40 = .ok (.iload 4, 2) := xdt tbX9_ring_0_ok 25 rfl
theorem dX9_ring_42 : decode cX9_ring 42 = .ok (.aload_n 0, 1) := xdt tbX9_ring_0_ok 26 rfl
theorem dX9_ring_43 : decode cX9_ring 43 = .ok (.getfield 20, 3) := xdt tbX9_ring_0_ok 27 rfl
theorem dX9_ring_46 : decode cX9_ring 46 = .ok (.iconst 0, 1) := xdt tbX9_ring_0_ok 28 rfl
theorem dX9_ring_47 : decode cX9_ring 47 = .ok (.iaload, 1) := xdt tbX9_ring_0_ok 29 rfl
theorem dX9_ring_48 : decode cX9_ring 48 = .ok (.if_icmp .ge 40, 3) := xdt tbX9_ring_0_ok 30 rfl
theorem dX9_ring_51 : decode cX9_ring 51 = .ok (.iload_n 2, 1) := xdt tbX9_ring_0_ok 31 rfl
theorem dX9_ring_52 : decode cX9_ring 52 = .ok (.iload 4, 2) := xdt tbX9_ring_0_ok 32 rfl
theorem dX9_ring_54 : decode cX9_ring 54 = .ok (.ishr, 1) := xdt tbX9_ring_0_ok 33 rfl
theorem dX9_ring_55 : decode cX9_ring 55 = .ok (.iconst 1, 1) := xdt tbX9_ring_0_ok 34 rfl
theorem dX9_ring_56 : decode cX9_ring 56 = .ok (.iand, 1) := xdt tbX9_ring_0_ok 35 rfl
theorem dX9_ring_57 : decode cX9_ring 57 = .ok (.iconst 1, 1) := xdt tbX9_ring_0_ok 36 rfl
theorem dX9_ring_58 : decode cX9_ring 58 = .ok (.if_icmp .ne 24, 3) := xdt tbX9_ring_0_ok 37 rfl
theorem dX9_ring_61 : decode cX9_ring 61 = .ok (.aload_n 0, 1) := xdt tbX9_ring_0_ok 38 rfl
theorem dX9_ring_62 : decode cX9_ring 62 = .ok (.iload 4, 2) := xdt tbX9_ring_0_ok 39 rfl
theorem dX9_ring_64 : decode cX9_ring 64 = .ok (.invokevirtual 419, 3) := xdt tbX9_ring_0_ok 40 rfl
theorem dX9_ring_67 : decode cX9_ring 67 = .ok (.iload_n 1, 1) := xdt tbX9_ring_0_ok 41 rfl
theorem dX9_ring_68 : decode cX9_ring 68 = .ok (.ishr, 1) := xdt tbX9_ring_0_ok 42 rfl
theorem dX9_ring_69 : decode cX9_ring 69 = .ok (.iconst 1, 1) := xdt tbX9_ring_0_ok 43 rfl
theorem dX9_ring_70 : decode cX9_ring 70 = .ok (.iand, 1) := xdt tbX9_ring_0_ok 44 rfl
theorem dX9_ring_71 : decode cX9_ring 71 = .ok (.iconst 1, 1) := xdt tbX9_ring_0_ok 45 rfl
theorem dX9_ring_72 : decode cX9_ring 72 = .ok (.if_icmp .ne 10, 3) := xdt tbX9_ring_0_ok 46 rfl
theorem dX9_ring_75 : decode cX9_ring 75 = .ok (.iload_n 3, 1) := xdt tbX9_ring_0_ok 47 rfl
theorem dX9_ring_76 : decode cX9_ring 76 = .ok (.iconst 1, 1) := xdt tbX9_ring_0_ok 48 rfl
theorem dX9_ring_77 : decode cX9_ring 77 = .ok (.iload 4, 2) := xdt tbX9_ring_0_ok 49 rfl
theorem dX9_ring_79 : decode cX9_ring 79 = .ok (.ishl, 1) := xdt tbX9_ring_0_ok 50 rfl
theorem dX9_ring_80 : decode cX9_ring 80 = .ok (.ior, 1) := xdt tbX9_ring_0_ok 51 rfl
theorem dX9_ring_81 : decode cX9_ring 81 = .ok (.istore_n 3, 1) := xdt tbX9_ring_0_ok 52 rfl
theorem dX9_ring_82 : decode cX9_ring 82 = .ok (.iinc 4 1, 3) := xdt tbX9_ring_0_ok 53 rfl
theorem dX9_ring_85 : decode cX9_ring 85 = .ok (.goto (-45), 3) := xdt tbX9_ring_0_ok 54 rfl
theorem dX9_ring_88 : decode cX9_ring 88 = .ok (.iload_n 3, 1) := xdt tbX9_ring_0_ok 55 rfl
theorem dX9_ring_89 : decode cX9_ring 89 = .ok (.ireturn, 1) := xdt tbX9_ring_0_ok 56 rfl
def tbX9_brokenIn_0 : List (Nat × Instr × Nat) := [(0, .iconst 0, 1), (1, .istore_n 2, 1), (2, .iconst 0, 1), (3, .istore_n 3, 1), (4, .iconst 1, 1), (5, .istore 4, 2), (7, .iconst 1, 1), (8, .istore 5, 2), (10, .iload 5, 2), (12, .aload_n 0, 1), (13, .getfield 20, 3), (16, .iconst 0, 1), (17, .iaload, 1), (18, .if_icmp .ge 16, 3), (21, .iload 4, 2), (23, .bipush 10, 2), (25, .imul, 1), (26, .istore 4, 2), (28, .iinc 5 1, 3), (31, .goto (-21), 3), (34, .iload 4, 2), (36, .ifCond .le 55, 3), (39, .aload_n 0, 1), (40, .getfield 20, 3), (43, .iconst 0, 1), (44, .iaload, 1), (45, .ifCond .le 46, 3), (48, .iload_n 1, 1), (49, .iload 4, 2), (51, .idiv, 1), (52, .bipush 10, 2), (54, .irem, 1), (55, .istore 5, 2), (57, .iload_n 3, 1), (58, .iconst 1, 1), (59, .iload 5, 2), (61, .ishl, 1), (62, .ior, 1), (63, .istore_n 3, 1), (64, .iload_n 2, 1), (65, .aload_n 0, 1), (66, .getfield 88, 3), (69, .iload 5, 2), (71, .iaload, 1), (72, .iload_n 3, 1), (73, .iconst (-1), 1), (74, .ixor, 1), (75, .iand, 1), (76, .invokestatic 422, 3), (79, .iadd, 1), (80, .istore_n 2, 1), (81, .iload 4, 2), (83, .bipush 10, 2), (85, .idiv, 1), (86, .istore 4, 2), (88, .goto (-54), 3), (91, .iload_n 2, 1), (92, .ireturn, 1)]
theorem tbX9_brokenIn_0_ok : tbX9_brokenIn_0.all (fun q => decide (decode cX9_brokenIn q.1 = .ok q.2)) = true := by decide +kernel
theorem dX9_brokenIn_0 : decode cX9_brokenIn 0 = .ok (.iconst 0, 1) := xdt tbX9_brokenIn_0_ok 0 rfl
theorem dX9_brokenIn_1 : decode cX9_brokenIn 1 = .ok (.istore_n 2, 1) := xdt tbX9_brokenIn_0_ok 1 rfl
theorem dX9_brokenIn_2 : decode cX9_brokenIn 2 = .ok (.iconst 0, 1) := xdt tbX9_brokenIn_0_ok 2 rfl
theorem dX9_brokenIn_3 : decode cX9_brokenIn 3 = .ok (.istore_n 3, 1) := xdt tbX9_brokenIn_0_ok 3 rfl
theorem dX9_brokenIn_4 : decode cX9_brokenIn 4 = .ok (.iconst 1, 1) := xdt tbX9_brokenIn_0_ok 4 rfl
theorem dX9_brokenIn_5 : decode cX9_brokenIn 5 = .ok (.istore 4, 2) := xdt tbX9_brokenIn_0_ok 5 rfl
theorem dX9_brokenIn_7 : decode cX9_brokenIn 7 = .ok (.iconst 1, 1) := xdt tbX9_brokenIn_0_ok 6 rfl
theorem dX9_brokenIn_8 : decode cX9_brokenIn 8 = .ok (.istore 5, 2) := xdt tbX9_brokenIn_0_ok 7 rfl
theorem dX9_brokenIn_10 : decode cX9_brokenIn 10 = .ok (.iload 5, 2) := xdt tbX9_brokenIn_0_ok 8 rfl
theorem dX9_brokenIn_12 : decode cX9_brokenIn 12 = .ok (.aload_n 0, 1) := xdt tbX9_brokenIn_0_ok 9 rfl
theorem dX9_brokenIn_13 : decode cX9_brokenIn 13 = .ok (.getfield 20, 3) := xdt tbX9_brokenIn_0_ok 10 rfl
theorem dX9_brokenIn_16 : decode cX9_brokenIn 16 = .ok (.iconst 0, 1) := xdt tbX9_brokenIn_0_ok 11 rfl
theorem dX9_brokenIn_17 : decode cX9_brokenIn 17 = .ok (.iaload, 1) := xdt tbX9_brokenIn_0_ok 12 rfl
theorem dX9_brokenIn_18 : decode cX9_brokenIn 18 = .ok (.if_icmp .ge 16, 3) := xdt tbX9_brokenIn_0_ok 13 rfl
theorem dX9_brokenIn_21 : decode cX9_brokenIn 21 = .ok (.iload 4, 2) := xdt tbX9_brokenIn_0_ok 14 rfl
theorem dX9_brokenIn_23 : decode cX9_brokenIn 23 = .ok (.bipush 10, 2) := xdt tbX9_brokenIn_0_ok 15 rfl
theorem dX9_brokenIn_25 : decode cX9_brokenIn 25 = .ok (.imul, 1) := xdt tbX9_brokenIn_0_ok 16 rfl
theorem dX9_brokenIn_26 : decode cX9_brokenIn 26 = .ok (.istore 4, 2) := xdt tbX9_brokenIn_0_ok 17 rfl
theorem dX9_brokenIn_28 : decode cX9_brokenIn 28 = .ok (.iinc 5 1, 3) := xdt tbX9_brokenIn_0_ok 18 rfl
theorem dX9_brokenIn_31 : decode cX9_brokenIn 31 = .ok (.goto (-21), 3) := xdt tbX9_brokenIn_0_ok 19 rfl
theorem dX9_brokenIn_34 : decode cX9_brokenIn 34 = .ok (.iload 4, 2) := xdt tbX9_brokenIn_0_ok 20 rfl
theorem dX9_brokenIn_36 : decode cX9_brokenIn 36 = .ok (.ifCond .le 55, 3) := xdt tbX9_brokenIn_0_ok 21 rfl
theorem dX9_brokenIn_39 : decode cX9_brokenIn 39 = .ok (.aload_n 0, 1) := xdt tbX9_brokenIn_0_ok 22 rfl
theorem dX9_brokenIn_40 : decode cX9_brokenIn 40 = .ok (.getfield 20, 3) := xdt tbX9_brokenIn_0_ok 23 rfl
theorem dX9_brokenIn_43 : decode cX9_brokenIn 43 = .ok (.iconst 0, 1) := xdt tbX9_brokenIn_0_ok 24 rfl
theorem dX9_brokenIn_44 : decode cX9_brokenIn 44 = .ok (.iaload, 1) := xdt tbX9_brokenIn_0_ok 25 rfl
theorem dX9_brokenIn_45 : decode cX9_brokenIn 45 = .ok (.ifCond .le 46, 3) := xdt tbX9_brokenIn_0_ok 26 rfl
theorem dX9_brokenIn_48 : decode cX9_brokenIn 48 = .ok (.iload_n 1, 1) := xdt tbX9_brokenIn_0_ok 27 rfl
theorem dX9_brokenIn_49 : decode cX9_brokenIn 49 = .ok (.iload 4, 2) := xdt tbX9_brokenIn_0_ok 28 rfl
theorem dX9_brokenIn_51 : decode cX9_brokenIn 51 = .ok (.idiv, 1) := xdt tbX9_brokenIn_0_ok 29 rfl
theorem dX9_brokenIn_52 : decode cX9_brokenIn 52 = .ok (.bipush 10, 2) := xdt tbX9_brokenIn_0_ok 30 rfl
theorem dX9_brokenIn_54 : decode cX9_brokenIn 54 = .ok (.irem, 1) := xdt tbX9_brokenIn_0_ok 31 rfl
theorem dX9_brokenIn_55 : decode cX9_brokenIn 55 = .ok (.istore 5, 2) := xdt tbX9_brokenIn_0_ok 32 rfl
theorem dX9_brokenIn_57 : decode cX9_brokenIn 57 = .ok (.iload_n 3, 1) := xdt tbX9_brokenIn_0_ok 33 rfl
theorem dX9_brokenIn_58 : decode cX9_brokenIn 58 = .ok (.iconst 1, 1) := xdt tbX9_brokenIn_0_ok 34 rfl
theorem dX9_brokenIn_59 : decode cX9_brokenIn 59 = .ok (.iload 5, 2) := xdt tbX9_brokenIn_0_ok 35 rfl
theorem dX9_brokenIn_61 : decode cX9_brokenIn 61 = .ok (.ishl, 1) := xdt tbX9_brokenIn_0_ok 36 rfl
theorem dX9_brokenIn_62 : decode cX9_brokenIn 62 = .ok (.ior, 1) := xdt tbX9_brokenIn_0_ok 37 rfl
theorem dX9_brokenIn_63 : decode cX9_brokenIn 63 = .ok (.istore_n 3, 1) := xdt tbX9_brokenIn_0_ok 38 rfl
theorem dX9_brokenIn_64 : decode cX9_brokenIn 64 = .ok (.iload_n 2, 1) := xdt tbX9_brokenIn_0_ok 39 rfl
theorem dX9_brokenIn_65 : decode cX9_brokenIn 65 = .ok (.aload_n 0, 1) := xdt tbX9_brokenIn_0_ok 40 rfl
theorem dX9_brokenIn_66 : decode cX9_brokenIn 66 = .ok (.getfield 88, 3) := xdt tbX9_brokenIn_0_ok 41 rfl
theorem dX9_brokenIn_69 : decode cX9_brokenIn 69 = .ok (.iload 5, 2) := xdt tbX9_brokenIn_0_ok 42 rfl
theorem dX9_brokenIn_71 : decode cX9_brokenIn 71 = .ok (.iaload, 1) := xdt tbX9_brokenIn_0_ok 43 rfl
theorem dX9_brokenIn_72 : decode cX9_brokenIn 72 = .ok (.iload_n 3, 1) := xdt tbX9_brokenIn_0_ok 44 rfl
theorem dX9_brokenIn_73 : decode cX9_brokenIn 73 = .ok (.iconst (-1), 1) := xdt tbX9_brokenIn_0_ok 45 rfl
theorem dX9_brokenIn_74 : decode cX9_brokenIn 74 = .ok (.ixor, 1) := xdt tbX9_brokenIn_0_ok 46 rfl
theorem dX9_brokenIn_75 : decode cX9_brokenIn 75 = .ok (.iand, 1) := xdt tbX9_brokenIn_0_ok 47 rfl
theorem dX9_brokenIn_76 : decode cX9_brokenIn 76 = .ok (.invokestatic 422, 3) := xdt tbX9_brokenIn_0_ok 48 rfl
theorem dX9_brokenIn_79 : decode cX9_brokenIn 79 = .ok (.iadd, 1) := xdt tbX9_brokenIn_0_ok 49 rfl
theorem dX9_brokenIn_80 : decode cX9_brokenIn 80 = .ok (.istore_n 2, 1) := xdt tbX9_brokenIn_0_ok 50 rfl
theorem dX9_brokenIn_81 : decode cX9_brokenIn 81 = .ok (.iload 4, 2) := xdt tbX9_brokenIn_0_ok 51 rfl
theorem dX9_brokenIn_83 : decode cX9_brokenIn 83 = .ok (.bipush 10, 2) := xdt tbX9_brokenIn_0_ok 52 rfl
theorem dX9_brokenIn_85 : decode cX9_brokenIn 85 = .ok (.idiv, 1) := xdt tbX9_brokenIn_0_ok 53 rfl
theorem dX9_brokenIn_86 : decode cX9_brokenIn 86 = .ok (.istore 4, 2) := xdt tbX9_brokenIn_0_ok 54 rfl
theorem dX9_brokenIn_88 : decode cX9_brokenIn 88 = .ok (.goto (-54), 3) := xdt tbX9_brokenIn_0_ok 55 rfl
theorem dX9_brokenIn_91 : decode cX9_brokenIn 91 = .ok (.iload_n 2, 1) := xdt tbX9_brokenIn_0_ok 56 rfl
theorem dX9_brokenIn_92 : decode cX9_brokenIn 92 = .ok (.ireturn, 1) := xdt tbX9_brokenIn_0_ok 57 rfl
def tbX9_laysDirect_0 : List (Nat × Instr × Nat) := [(0, .iconst 0, 1), (1, .istore_n 1, 1), (2, .iload_n 1, 1), (3, .aload_n 0, 1), (4, .getfield 20, 3), (7, .iconst 0, 1), (8, .iaload, 1), (9, .if_icmp .ge 20, 3), (12, .aload_n 0, 1), (13, .getfield 88, 3), (16, .iload_n 1, 1), (17, .aload_n 0, 1), (18, .iload_n 1, 1), (19, .invokevirtual 416, 3), (22, .iastore, 1), (23, .iinc 1 1, 3), (26, .goto (-24), 3), (29, .return_, 1)]
theorem tbX9_laysDirect_0_ok : tbX9_laysDirect_0.all (fun q => decide (decode cX9_laysDirect q.1 = .ok q.2)) = true := by decide +kernel
theorem dX9_laysDirect_0 : decode cX9_laysDirect 0 = .ok (.iconst 0, 1) := xdt tbX9_laysDirect_0_ok 0 rfl
theorem dX9_laysDirect_1 : decode cX9_laysDirect 1 = .ok (.istore_n 1, 1) := xdt tbX9_laysDirect_0_ok 1 rfl
theorem dX9_laysDirect_2 : decode cX9_laysDirect 2 = .ok (.iload_n 1, 1) := xdt tbX9_laysDirect_0_ok 2 rfl
theorem dX9_laysDirect_3 : decode cX9_laysDirect 3 = .ok (.aload_n 0, 1) := xdt tbX9_laysDirect_0_ok 3 rfl
theorem dX9_laysDirect_4 : decode cX9_laysDirect 4 = .ok (.getfield 20, 3) := xdt tbX9_laysDirect_0_ok 4 rfl
theorem dX9_laysDirect_7 : decode cX9_laysDirect 7 = .ok (.iconst 0, 1) := xdt tbX9_laysDirect_0_ok 5 rfl
theorem dX9_laysDirect_8 : decode cX9_laysDirect 8 = .ok (.iaload, 1) := xdt tbX9_laysDirect_0_ok 6 rfl
theorem dX9_laysDirect_9 : decode cX9_laysDirect 9 = .ok (.if_icmp .ge 20, 3) := xdt tbX9_laysDirect_0_ok 7 rfl
theorem dX9_laysDirect_12 : decode cX9_laysDirect 12 = .ok (.aload_n 0, 1) := xdt tbX9_laysDirect_0_ok 8 rfl
theorem dX9_laysDirect_13 : decode cX9_laysDirect 13 = .ok (.getfield 88, 3) := xdt tbX9_laysDirect_0_ok 9 rfl
theorem dX9_laysDirect_16 : decode cX9_laysDirect 16 = .ok (.iload_n 1, 1) := xdt tbX9_laysDirect_0_ok 10 rfl
theorem dX9_laysDirect_17 : decode cX9_laysDirect 17 = .ok (.aload_n 0, 1) := xdt tbX9_laysDirect_0_ok 11 rfl
theorem dX9_laysDirect_18 : decode cX9_laysDirect 18 = .ok (.iload_n 1, 1) := xdt tbX9_laysDirect_0_ok 12 rfl
theorem dX9_laysDirect_19 : decode cX9_laysDirect 19 = .ok (.invokevirtual 416, 3) := xdt tbX9_laysDirect_0_ok 13 rfl
theorem dX9_laysDirect_22 : decode cX9_laysDirect 22 = .ok (.iastore, 1) := xdt tbX9_laysDirect_0_ok 14 rfl
theorem dX9_laysDirect_23 : decode cX9_laysDirect 23 = .ok (.iinc 1 1, 3) := xdt tbX9_laysDirect_0_ok 15 rfl
theorem dX9_laysDirect_26 : decode cX9_laysDirect 26 = .ok (.goto (-24), 3) := xdt tbX9_laysDirect_0_ok 16 rfl
theorem dX9_laysDirect_29 : decode cX9_laysDirect 29 = .ok (.return_, 1) := xdt tbX9_laysDirect_0_ok 17 rfl
def tbX9_least_0 : List (Nat × Instr × Nat) := [(0, .aload_n 0, 1), (1, .iconst 0, 1), (2, .putfield 91, 3), (5, .aload_n 0, 1), (6, .iload_n 1, 1), (7, .iconst 0, 1), (8, .iconst 1, 1), (9, .invokestatic 155, 3), (12, .ifCond .ne 7, 3), (15, .iconst 1, 1), (16, .goto 4, 3), (19, .iconst 0, 1), (20, .iconst 1, 1), (21, .iconst 1, 1), (22, .invokevirtual 257, 3), (25, .ifCond .eq 5, 3), (28, .iconst 0, 1), (29, .ireturn, 1), (30, .aload_n 0, 1), (31, .invokevirtual 425, 3), (34, .iconst (-1), 1), (35, .istore_n 2, 1), (36, .iconst (-1), 1), (37, .istore_n 3, 1), (38, .aload_n 0, 1), (39, .invokevirtual 397, 3), (42, .iconst 1, 1), (43, .istore 4, 2), (45, .iload 4, 2), (47, .ifCond .eq 41, 3), (50, .aload_n 0, 1), (51, .aload_n 0, 1), (52, .invokevirtual 400, 3), (55, .invokevirtual 428, 3), (58, .istore 5, 2), (60, .iload_n 2, 1), (61, .iconst (-1), 1), (62, .if_icmp .eq 9, 3), (65, .iload 5, 2), (67, .iload_n 2, 1), (68, .if_icmp .ge 11, 3), (71, .iload 5, 2), (73, .istore_n 2, 1), (74, .aload_n 0, 1), (75, .invokevirtual 400, 3), (78, .istore_n 3, 1), (79, .aload_n 0, 1), (80, .invokevirtual 404, 3), (83, .istore 4, 2), (85, .goto (-40), 3), (88, .iload_n 1, 1), (89, .ifCond .ne 7, 3), (92, .iload_n 2, 1), (93, .goto 4, 3), (96, .iload_n 3, 1), (97, .ireturn, 1)]
theorem tbX9_least_0_ok : tbX9_least_0.all (fun q => decide (decode cX9_least q.1 = .ok q.2)) = true := by decide +kernel
theorem dX9_least_0 : decode cX9_least 0 = .ok (.aload_n 0, 1) := xdt tbX9_least_0_ok 0 rfl
theorem dX9_least_1 : decode cX9_least 1 = .ok (.iconst 0, 1) := xdt tbX9_least_0_ok 1 rfl
theorem dX9_least_2 : decode cX9_least 2 = .ok (.putfield 91, 3) := xdt tbX9_least_0_ok 2 rfl
theorem dX9_least_5 : decode cX9_least 5 = .ok (.aload_n 0, 1) := xdt tbX9_least_0_ok 3 rfl
theorem dX9_least_6 : decode cX9_least 6 = .ok (.iload_n 1, 1) := xdt tbX9_least_0_ok 4 rfl
theorem dX9_least_7 : decode cX9_least 7 = .ok (.iconst 0, 1) := xdt tbX9_least_0_ok 5 rfl
theorem dX9_least_8 : decode cX9_least 8 = .ok (.iconst 1, 1) := xdt tbX9_least_0_ok 6 rfl
theorem dX9_least_9 : decode cX9_least 9 = .ok (.invokestatic 155, 3) := xdt tbX9_least_0_ok 7 rfl
theorem dX9_least_12 : decode cX9_least 12 = .ok (.ifCond .ne 7, 3) := xdt tbX9_least_0_ok 8 rfl
theorem dX9_least_15 : decode cX9_least 15 = .ok (.iconst 1, 1) := xdt tbX9_least_0_ok 9 rfl
theorem dX9_least_16 : decode cX9_least 16 = .ok (.goto 4, 3) := xdt tbX9_least_0_ok 10 rfl
theorem dX9_least_19 : decode cX9_least 19 = .ok (.iconst 0, 1) := xdt tbX9_least_0_ok 11 rfl
theorem dX9_least_20 : decode cX9_least 20 = .ok (.iconst 1, 1) := xdt tbX9_least_0_ok 12 rfl
theorem dX9_least_21 : decode cX9_least 21 = .ok (.iconst 1, 1) := xdt tbX9_least_0_ok 13 rfl
theorem dX9_least_22 : decode cX9_least 22 = .ok (.invokevirtual 257, 3) := xdt tbX9_least_0_ok 14 rfl
theorem dX9_least_25 : decode cX9_least 25 = .ok (.ifCond .eq 5, 3) := xdt tbX9_least_0_ok 15 rfl
theorem dX9_least_28 : decode cX9_least 28 = .ok (.iconst 0, 1) := xdt tbX9_least_0_ok 16 rfl
theorem dX9_least_29 : decode cX9_least 29 = .ok (.ireturn, 1) := xdt tbX9_least_0_ok 17 rfl
theorem dX9_least_30 : decode cX9_least 30 = .ok (.aload_n 0, 1) := xdt tbX9_least_0_ok 18 rfl
theorem dX9_least_31 : decode cX9_least 31 = .ok (.invokevirtual 425, 3) := xdt tbX9_least_0_ok 19 rfl
theorem dX9_least_34 : decode cX9_least 34 = .ok (.iconst (-1), 1) := xdt tbX9_least_0_ok 20 rfl
theorem dX9_least_35 : decode cX9_least 35 = .ok (.istore_n 2, 1) := xdt tbX9_least_0_ok 21 rfl
theorem dX9_least_36 : decode cX9_least 36 = .ok (.iconst (-1), 1) := xdt tbX9_least_0_ok 22 rfl
theorem dX9_least_37 : decode cX9_least 37 = .ok (.istore_n 3, 1) := xdt tbX9_least_0_ok 23 rfl
theorem dX9_least_38 : decode cX9_least 38 = .ok (.aload_n 0, 1) := xdt tbX9_least_0_ok 24 rfl
theorem dX9_least_39 : decode cX9_least 39 = .ok (.invokevirtual 397, 3) := xdt tbX9_least_0_ok 25 rfl
theorem dX9_least_42 : decode cX9_least 42 = .ok (.iconst 1, 1) := xdt tbX9_least_0_ok 26 rfl
theorem dX9_least_43 : decode cX9_least 43 = .ok (.istore 4, 2) := xdt tbX9_least_0_ok 27 rfl
theorem dX9_least_45 : decode cX9_least 45 = .ok (.iload 4, 2) := xdt tbX9_least_0_ok 28 rfl
theorem dX9_least_47 : decode cX9_least 47 = .ok (.ifCond .eq 41, 3) := xdt tbX9_least_0_ok 29 rfl
theorem dX9_least_50 : decode cX9_least 50 = .ok (.aload_n 0, 1) := xdt tbX9_least_0_ok 30 rfl
theorem dX9_least_51 : decode cX9_least 51 = .ok (.aload_n 0, 1) := xdt tbX9_least_0_ok 31 rfl
theorem dX9_least_52 : decode cX9_least 52 = .ok (.invokevirtual 400, 3) := xdt tbX9_least_0_ok 32 rfl
theorem dX9_least_55 : decode cX9_least 55 = .ok (.invokevirtual 428, 3) := xdt tbX9_least_0_ok 33 rfl
theorem dX9_least_58 : decode cX9_least 58 = .ok (.istore 5, 2) := xdt tbX9_least_0_ok 34 rfl
theorem dX9_least_60 : decode cX9_least 60 = .ok (.iload_n 2, 1) := xdt tbX9_least_0_ok 35 rfl
theorem dX9_least_61 : decode cX9_least 61 = .ok (.iconst (-1), 1) := xdt tbX9_least_0_ok 36 rfl
theorem dX9_least_62 : decode cX9_least 62 = .ok (.if_icmp .eq 9, 3) := xdt tbX9_least_0_ok 37 rfl
theorem dX9_least_65 : decode cX9_least 65 = .ok (.iload 5, 2) := xdt tbX9_least_0_ok 38 rfl
theorem dX9_least_67 : decode cX9_least 67 = .ok (.iload_n 2, 1) := xdt tbX9_least_0_ok 39 rfl
theorem dX9_least_68 : decode cX9_least 68 = .ok (.if_icmp .ge 11, 3) := xdt tbX9_least_0_ok 40 rfl
theorem dX9_least_71 : decode cX9_least 71 = .ok (.iload 5, 2) := xdt tbX9_least_0_ok 41 rfl
theorem dX9_least_73 : decode cX9_least 73 = .ok (.istore_n 2, 1) := xdt tbX9_least_0_ok 42 rfl
theorem dX9_least_74 : decode cX9_least 74 = .ok (.aload_n 0, 1) := xdt tbX9_least_0_ok 43 rfl
theorem dX9_least_75 : decode cX9_least 75 = .ok (.invokevirtual 400, 3) := xdt tbX9_least_0_ok 44 rfl
theorem dX9_least_78 : decode cX9_least 78 = .ok (.istore_n 3, 1) := xdt tbX9_least_0_ok 45 rfl
theorem dX9_least_79 : decode cX9_least 79 = .ok (.aload_n 0, 1) := xdt tbX9_least_0_ok 46 rfl
theorem dX9_least_80 : decode cX9_least 80 = .ok (.invokevirtual 404, 3) := xdt tbX9_least_0_ok 47 rfl
theorem dX9_least_83 : decode cX9_least 83 = .ok (.istore 4, 2) := xdt tbX9_least_0_ok 48 rfl
theorem dX9_least_85 : decode cX9_least 85 = .ok (.goto (-40), 3) := xdt tbX9_least_0_ok 49 rfl
theorem dX9_least_88 : decode cX9_least 88 = .ok (.iload_n 1, 1) := xdt tbX9_least_0_ok 50 rfl
theorem dX9_least_89 : decode cX9_least 89 = .ok (.ifCond .ne 7, 3) := xdt tbX9_least_0_ok 51 rfl
theorem dX9_least_92 : decode cX9_least 92 = .ok (.iload_n 2, 1) := xdt tbX9_least_0_ok 52 rfl
theorem dX9_least_93 : decode cX9_least 93 = .ok (.goto 4, 3) := xdt tbX9_least_0_ok 53 rfl
theorem dX9_least_96 : decode cX9_least 96 = .ok (.iload_n 3, 1) := xdt tbX9_least_0_ok 54 rfl
theorem dX9_least_97 : decode cX9_least 97 = .ok (.ireturn, 1) := xdt tbX9_least_0_ok 55 rfl
def tbX9_breaks_0 : List (Nat × Instr × Nat) := [(0, .aload_n 0, 1), (1, .iconst 0, 1), (2, .putfield 91, 3), (5, .aload_n 0, 1), (6, .aload_n 0, 1), (7, .iload_n 1, 1), (8, .invokevirtual 388, 3), (11, .ifCond .ne 7, 3), (14, .iconst 1, 1), (15, .goto 4, 3), (18, .iconst 0, 1), (19, .iconst 1, 1), (20, .iconst 1, 1), (21, .invokevirtual 257, 3), (24, .ifCond .eq 5, 3), (27, .iconst 0, 1), (28, .ireturn, 1), (29, .aload_n 0, 1), (30, .invokevirtual 425, 3), (33, .aload_n 0, 1), (34, .iload_n 1, 1), (35, .invokevirtual 428, 3), (38, .ireturn, 1)]
theorem tbX9_breaks_0_ok : tbX9_breaks_0.all (fun q => decide (decode cX9_breaks q.1 = .ok q.2)) = true := by decide +kernel
theorem dX9_breaks_0 : decode cX9_breaks 0 = .ok (.aload_n 0, 1) := xdt tbX9_breaks_0_ok 0 rfl
theorem dX9_breaks_1 : decode cX9_breaks 1 = .ok (.iconst 0, 1) := xdt tbX9_breaks_0_ok 1 rfl
theorem dX9_breaks_2 : decode cX9_breaks 2 = .ok (.putfield 91, 3) := xdt tbX9_breaks_0_ok 2 rfl
theorem dX9_breaks_5 : decode cX9_breaks 5 = .ok (.aload_n 0, 1) := xdt tbX9_breaks_0_ok 3 rfl
theorem dX9_breaks_6 : decode cX9_breaks 6 = .ok (.aload_n 0, 1) := xdt tbX9_breaks_0_ok 4 rfl
theorem dX9_breaks_7 : decode cX9_breaks 7 = .ok (.iload_n 1, 1) := xdt tbX9_breaks_0_ok 5 rfl
theorem dX9_breaks_8 : decode cX9_breaks 8 = .ok (.invokevirtual 388, 3) := xdt tbX9_breaks_0_ok 6 rfl
theorem dX9_breaks_11 : decode cX9_breaks 11 = .ok (.ifCond .ne 7, 3) := xdt tbX9_breaks_0_ok 7 rfl
theorem dX9_breaks_14 : decode cX9_breaks 14 = .ok (.iconst 1, 1) := xdt tbX9_breaks_0_ok 8 rfl
theorem dX9_breaks_15 : decode cX9_breaks 15 = .ok (.goto 4, 3) := xdt tbX9_breaks_0_ok 9 rfl
theorem dX9_breaks_18 : decode cX9_breaks 18 = .ok (.iconst 0, 1) := xdt tbX9_breaks_0_ok 10 rfl
theorem dX9_breaks_19 : decode cX9_breaks 19 = .ok (.iconst 1, 1) := xdt tbX9_breaks_0_ok 11 rfl
theorem dX9_breaks_20 : decode cX9_breaks 20 = .ok (.iconst 1, 1) := xdt tbX9_breaks_0_ok 12 rfl
theorem dX9_breaks_21 : decode cX9_breaks 21 = .ok (.invokevirtual 257, 3) := xdt tbX9_breaks_0_ok 13 rfl
theorem dX9_breaks_24 : decode cX9_breaks 24 = .ok (.ifCond .eq 5, 3) := xdt tbX9_breaks_0_ok 14 rfl
theorem dX9_breaks_27 : decode cX9_breaks 27 = .ok (.iconst 0, 1) := xdt tbX9_breaks_0_ok 15 rfl
theorem dX9_breaks_28 : decode cX9_breaks 28 = .ok (.ireturn, 1) := xdt tbX9_breaks_0_ok 16 rfl
theorem dX9_breaks_29 : decode cX9_breaks 29 = .ok (.aload_n 0, 1) := xdt tbX9_breaks_0_ok 17 rfl
theorem dX9_breaks_30 : decode cX9_breaks 30 = .ok (.invokevirtual 425, 3) := xdt tbX9_breaks_0_ok 18 rfl
theorem dX9_breaks_33 : decode cX9_breaks 33 = .ok (.aload_n 0, 1) := xdt tbX9_breaks_0_ok 19 rfl
theorem dX9_breaks_34 : decode cX9_breaks 34 = .ok (.iload_n 1, 1) := xdt tbX9_breaks_0_ok 20 rfl
theorem dX9_breaks_35 : decode cX9_breaks 35 = .ok (.invokevirtual 428, 3) := xdt tbX9_breaks_0_ok 21 rfl
theorem dX9_breaks_38 : decode cX9_breaks 38 = .ok (.ireturn, 1) := xdt tbX9_breaks_0_ok 22 rfl
def tbX9_print_0 : List (Nat × Instr × Nat) := [(0, .aload_n 0, 1), (1, .iconst 0, 1), (2, .putfield 91, 3), (5, .aload_n 0, 1), (6, .invokevirtual 382, 3), (9, .lconst 0, 1), (10, .lstore_n 1, 1), (11, .iconst 0, 1), (12, .istore_n 3, 1), (13, .iload_n 3, 1), (14, .aload_n 0, 1), (15, .getfield 20, 3), (18, .iconst 0, 1), (19, .iaload, 1), (20, .if_icmp .ge 91, 3), (23, .ldc2_w 431, 3), (26, .lload_n 1, 1), (27, .lmul, 1), (28, .aload_n 0, 1), (29, .getfield 39, 3), (32, .iload_n 3, 1), (33, .iaload, 1), (34, .i2l, 1), (35, .ladd, 1), (36, .lstore_n 1, 1), (37, .iconst 0, 1), (38, .istore 4, 2), (40, .iload 4, 2), (42, .aload_n 0, 1), (43, .getfield 20, 3), (46, .iload_n 3, 1), (47, .iconst 2, 1), (48, .invokestatic 97, 3), (51, .if_icmp .ge 54, 3), (54, .aload_n 0, 1), (55, .getfield 20, 3), (58, .aload_n 0, 1), (59, .getfield 20, 3), (62, .iload_n 3, 1), (63, .iload 4, 2), (65, .invokestatic 101, 3), (68, .iconst 0, 1), (69, .invokestatic 104, 3), (72, .iconst 1, 1), (73, .if_icmp .ne 26, 3), (76, .ldc2_w 431, 3), (79, .lload_n 1, 1), (80, .lmul, 1), (81, .aload_n 0, 1), (82, .getfield 45, 3), (85, .aload_n 0, 1), (86, .getfield 20, 3), (89, .iload_n 3, 1), (90, .iload 4, 2), (92, .invokestatic 101, 3), (95, .iaload, 1), (96, .i2l, 1), (97, .ladd, 1), (98, .lstore_n 1, 1), (99, .iinc 4 1, 3)]
theorem tbX9_print_0_ok : tbX9_print_0.all (fun q => decide (decode cX9_print q.1 = .ok q.2)) = true := by decide +kernel
theorem dX9_print_0 : decode cX9_print 0 = .ok (.aload_n 0, 1) := xdt tbX9_print_0_ok 0 rfl
theorem dX9_print_1 : decode cX9_print 1 = .ok (.iconst 0, 1) := xdt tbX9_print_0_ok 1 rfl
theorem dX9_print_2 : decode cX9_print 2 = .ok (.putfield 91, 3) := xdt tbX9_print_0_ok 2 rfl
theorem dX9_print_5 : decode cX9_print 5 = .ok (.aload_n 0, 1) := xdt tbX9_print_0_ok 3 rfl
theorem dX9_print_6 : decode cX9_print 6 = .ok (.invokevirtual 382, 3) := xdt tbX9_print_0_ok 4 rfl
theorem dX9_print_9 : decode cX9_print 9 = .ok (.lconst 0, 1) := xdt tbX9_print_0_ok 5 rfl
theorem dX9_print_10 : decode cX9_print 10 = .ok (.lstore_n 1, 1) := xdt tbX9_print_0_ok 6 rfl
theorem dX9_print_11 : decode cX9_print 11 = .ok (.iconst 0, 1) := xdt tbX9_print_0_ok 7 rfl
theorem dX9_print_12 : decode cX9_print 12 = .ok (.istore_n 3, 1) := xdt tbX9_print_0_ok 8 rfl
theorem dX9_print_13 : decode cX9_print 13 = .ok (.iload_n 3, 1) := xdt tbX9_print_0_ok 9 rfl
theorem dX9_print_14 : decode cX9_print 14 = .ok (.aload_n 0, 1) := xdt tbX9_print_0_ok 10 rfl
theorem dX9_print_15 : decode cX9_print 15 = .ok (.getfield 20, 3) := xdt tbX9_print_0_ok 11 rfl
theorem dX9_print_18 : decode cX9_print 18 = .ok (.iconst 0, 1) := xdt tbX9_print_0_ok 12 rfl
theorem dX9_print_19 : decode cX9_print 19 = .ok (.iaload, 1) := xdt tbX9_print_0_ok 13 rfl
theorem dX9_print_20 : decode cX9_print 20 = .ok (.if_icmp .ge 91, 3) := xdt tbX9_print_0_ok 14 rfl
theorem dX9_print_23 : decode cX9_print 23 = .ok (.ldc2_w 431, 3) := xdt tbX9_print_0_ok 15 rfl
theorem dX9_print_26 : decode cX9_print 26 = .ok (.lload_n 1, 1) := xdt tbX9_print_0_ok 16 rfl
theorem dX9_print_27 : decode cX9_print 27 = .ok (.lmul, 1) := xdt tbX9_print_0_ok 17 rfl
theorem dX9_print_28 : decode cX9_print 28 = .ok (.aload_n 0, 1) := xdt tbX9_print_0_ok 18 rfl
theorem dX9_print_29 : decode cX9_print 29 = .ok (.getfield 39, 3) := xdt tbX9_print_0_ok 19 rfl
theorem dX9_print_32 : decode cX9_print 32 = .ok (.iload_n 3, 1) := xdt tbX9_print_0_ok 20 rfl
theorem dX9_print_33 : decode cX9_print 33 = .ok (.iaload, 1) := xdt tbX9_print_0_ok 21 rfl
theorem dX9_print_34 : decode cX9_print 34 = .ok (.i2l, 1) := xdt tbX9_print_0_ok 22 rfl
theorem dX9_print_35 : decode cX9_print 35 = .ok (.ladd, 1) := xdt tbX9_print_0_ok 23 rfl
theorem dX9_print_36 : decode cX9_print 36 = .ok (.lstore_n 1, 1) := xdt tbX9_print_0_ok 24 rfl
theorem dX9_print_37 : decode cX9_print 37 = .ok (.iconst 0, 1) := xdt tbX9_print_0_ok 25 rfl
theorem dX9_print_38 : decode cX9_print 38 = .ok (.istore 4, 2) := xdt tbX9_print_0_ok 26 rfl
theorem dX9_print_40 : decode cX9_print 40 = .ok (.iload 4, 2) := xdt tbX9_print_0_ok 27 rfl
theorem dX9_print_42 : decode cX9_print 42 = .ok (.aload_n 0, 1) := xdt tbX9_print_0_ok 28 rfl
theorem dX9_print_43 : decode cX9_print 43 = .ok (.getfield 20, 3) := xdt tbX9_print_0_ok 29 rfl
theorem dX9_print_46 : decode cX9_print 46 = .ok (.iload_n 3, 1) := xdt tbX9_print_0_ok 30 rfl
theorem dX9_print_47 : decode cX9_print 47 = .ok (.iconst 2, 1) := xdt tbX9_print_0_ok 31 rfl
theorem dX9_print_48 : decode cX9_print 48 = .ok (.invokestatic 97, 3) := xdt tbX9_print_0_ok 32 rfl
theorem dX9_print_51 : decode cX9_print 51 = .ok (.if_icmp .ge 54, 3) := xdt tbX9_print_0_ok 33 rfl
theorem dX9_print_54 : decode cX9_print 54 = .ok (.aload_n 0, 1) := xdt tbX9_print_0_ok 34 rfl
theorem dX9_print_55 : decode cX9_print 55 = .ok (.getfield 20, 3) := xdt tbX9_print_0_ok 35 rfl
theorem dX9_print_58 : decode cX9_print 58 = .ok (.aload_n 0, 1) := xdt tbX9_print_0_ok 36 rfl
theorem dX9_print_59 : decode cX9_print 59 = .ok (.getfield 20, 3) := xdt tbX9_print_0_ok 37 rfl
theorem dX9_print_62 : decode cX9_print 62 = .ok (.iload_n 3, 1) := xdt tbX9_print_0_ok 38 rfl
theorem dX9_print_63 : decode cX9_print 63 = .ok (.iload 4, 2) := xdt tbX9_print_0_ok 39 rfl
theorem dX9_print_65 : decode cX9_print 65 = .ok (.invokestatic 101, 3) := xdt tbX9_print_0_ok 40 rfl
theorem dX9_print_68 : decode cX9_print 68 = .ok (.iconst 0, 1) := xdt tbX9_print_0_ok 41 rfl
theorem dX9_print_69 : decode cX9_print 69 = .ok (.invokestatic 104, 3) := xdt tbX9_print_0_ok 42 rfl
theorem dX9_print_72 : decode cX9_print 72 = .ok (.iconst 1, 1) := xdt tbX9_print_0_ok 43 rfl
theorem dX9_print_73 : decode cX9_print 73 = .ok (.if_icmp .ne 26, 3) := xdt tbX9_print_0_ok 44 rfl
theorem dX9_print_76 : decode cX9_print 76 = .ok (.ldc2_w 431, 3) := xdt tbX9_print_0_ok 45 rfl
theorem dX9_print_79 : decode cX9_print 79 = .ok (.lload_n 1, 1) := xdt tbX9_print_0_ok 46 rfl
theorem dX9_print_80 : decode cX9_print 80 = .ok (.lmul, 1) := xdt tbX9_print_0_ok 47 rfl
theorem dX9_print_81 : decode cX9_print 81 = .ok (.aload_n 0, 1) := xdt tbX9_print_0_ok 48 rfl
theorem dX9_print_82 : decode cX9_print 82 = .ok (.getfield 45, 3) := xdt tbX9_print_0_ok 49 rfl
theorem dX9_print_85 : decode cX9_print 85 = .ok (.aload_n 0, 1) := xdt tbX9_print_0_ok 50 rfl
theorem dX9_print_86 : decode cX9_print 86 = .ok (.getfield 20, 3) := xdt tbX9_print_0_ok 51 rfl
theorem dX9_print_89 : decode cX9_print 89 = .ok (.iload_n 3, 1) := xdt tbX9_print_0_ok 52 rfl
theorem dX9_print_90 : decode cX9_print 90 = .ok (.iload 4, 2) := xdt tbX9_print_0_ok 53 rfl
theorem dX9_print_92 : decode cX9_print 92 = .ok (.invokestatic 101, 3) := xdt tbX9_print_0_ok 54 rfl
theorem dX9_print_95 : decode cX9_print 95 = .ok (.iaload, 1) := xdt tbX9_print_0_ok 55 rfl
theorem dX9_print_96 : decode cX9_print 96 = .ok (.i2l, 1) := xdt tbX9_print_0_ok 56 rfl
theorem dX9_print_97 : decode cX9_print 97 = .ok (.ladd, 1) := xdt tbX9_print_0_ok 57 rfl
theorem dX9_print_98 : decode cX9_print 98 = .ok (.lstore_n 1, 1) := xdt tbX9_print_0_ok 58 rfl
theorem dX9_print_99 : decode cX9_print 99 = .ok (.iinc 4 1, 3) := xdt tbX9_print_0_ok 59 rfl
def tbX9_print_60 : List (Nat × Instr × Nat) := [(102, .goto (-62), 3), (105, .iinc 3 1, 3), (108, .goto (-95), 3), (111, .lload_n 1, 1), (112, .lreturn, 1)]
theorem tbX9_print_60_ok : tbX9_print_60.all (fun q => decide (decode cX9_print q.1 = .ok q.2)) = true := by decide +kernel
theorem dX9_print_102 : decode cX9_print 102 = .ok (.goto (-62), 3) := xdt tbX9_print_60_ok 0 rfl
theorem dX9_print_105 : decode cX9_print 105 = .ok (.iinc 3 1, 3) := xdt tbX9_print_60_ok 1 rfl
theorem dX9_print_108 : decode cX9_print 108 = .ok (.goto (-95), 3) := xdt tbX9_print_60_ok 2 rfl
theorem dX9_print_111 : decode cX9_print 111 = .ok (.lload_n 1, 1) := xdt tbX9_print_60_ok 3 rfl
theorem dX9_print_112 : decode cX9_print 112 = .ok (.lreturn, 1) := xdt tbX9_print_60_ok 4 rfl
def tbX9_status_0 : List (Nat × Instr × Nat) := [(0, .aload_n 0, 1), (1, .iconst 0, 1), (2, .putfield 91, 3), (5, .iload_n 1, 1), (6, .iconst 0, 1), (7, .iconst 1, 1), (8, .invokestatic 155, 3), (11, .ifCond .eq 12, 3), (14, .aload_n 0, 1), (15, .getfield 9, 3), (18, .iload_n 1, 1), (19, .iaload, 1), (20, .goto 4, 3), (23, .iconst (-1), 1), (24, .ireturn, 1)]
theorem tbX9_status_0_ok : tbX9_status_0.all (fun q => decide (decode cX9_status q.1 = .ok q.2)) = true := by decide +kernel
theorem dX9_status_0 : decode cX9_status 0 = .ok (.aload_n 0, 1) := xdt tbX9_status_0_ok 0 rfl
theorem dX9_status_1 : decode cX9_status 1 = .ok (.iconst 0, 1) := xdt tbX9_status_0_ok 1 rfl
theorem dX9_status_2 : decode cX9_status 2 = .ok (.putfield 91, 3) := xdt tbX9_status_0_ok 2 rfl
theorem dX9_status_5 : decode cX9_status 5 = .ok (.iload_n 1, 1) := xdt tbX9_status_0_ok 3 rfl
theorem dX9_status_6 : decode cX9_status 6 = .ok (.iconst 0, 1) := xdt tbX9_status_0_ok 4 rfl
theorem dX9_status_7 : decode cX9_status 7 = .ok (.iconst 1, 1) := xdt tbX9_status_0_ok 5 rfl
theorem dX9_status_8 : decode cX9_status 8 = .ok (.invokestatic 155, 3) := xdt tbX9_status_0_ok 6 rfl
theorem dX9_status_11 : decode cX9_status 11 = .ok (.ifCond .eq 12, 3) := xdt tbX9_status_0_ok 7 rfl
theorem dX9_status_14 : decode cX9_status 14 = .ok (.aload_n 0, 1) := xdt tbX9_status_0_ok 8 rfl
theorem dX9_status_15 : decode cX9_status 15 = .ok (.getfield 9, 3) := xdt tbX9_status_0_ok 9 rfl
theorem dX9_status_18 : decode cX9_status 18 = .ok (.iload_n 1, 1) := xdt tbX9_status_0_ok 10 rfl
theorem dX9_status_19 : decode cX9_status 19 = .ok (.iaload, 1) := xdt tbX9_status_0_ok 11 rfl
theorem dX9_status_20 : decode cX9_status 20 = .ok (.goto 4, 3) := xdt tbX9_status_0_ok 12 rfl
theorem dX9_status_23 : decode cX9_status 23 = .ok (.iconst (-1), 1) := xdt tbX9_status_0_ok 13 rfl
theorem dX9_status_24 : decode cX9_status 24 = .ok (.ireturn, 1) := xdt tbX9_status_0_ok 14 rfl
def tbJ0_length_8abf5_0 : List (Nat × Instr × Nat) := [(0, .aload_n 0, 1), (1, .getfield 9, 3), (4, .arraylength, 1), (5, .aload_n 0, 1), (6, .invokevirtual 335, 3), (9, .ishr, 1), (10, .ireturn, 1)]
theorem tbJ0_length_8abf5_0_ok : tbJ0_length_8abf5_0.all (fun q => decide (decode cJ0_length_8abf5 q.1 = .ok q.2)) = true := by decide +kernel
theorem dJ0_length_8abf5_0 : decode cJ0_length_8abf5 0 = .ok (.aload_n 0, 1) := xdt tbJ0_length_8abf5_0_ok 0 rfl
theorem dJ0_length_8abf5_1 : decode cJ0_length_8abf5 1 = .ok (.getfield 9, 3) := xdt tbJ0_length_8abf5_0_ok 1 rfl
theorem dJ0_length_8abf5_4 : decode cJ0_length_8abf5 4 = .ok (.arraylength, 1) := xdt tbJ0_length_8abf5_0_ok 2 rfl
theorem dJ0_length_8abf5_5 : decode cJ0_length_8abf5 5 = .ok (.aload_n 0, 1) := xdt tbJ0_length_8abf5_0_ok 3 rfl
theorem dJ0_length_8abf5_6 : decode cJ0_length_8abf5 6 = .ok (.invokevirtual 335, 3) := xdt tbJ0_length_8abf5_0_ok 4 rfl
theorem dJ0_length_8abf5_9 : decode cJ0_length_8abf5 9 = .ok (.ishr, 1) := xdt tbJ0_length_8abf5_0_ok 5 rfl
theorem dJ0_length_8abf5_10 : decode cJ0_length_8abf5 10 = .ok (.ireturn, 1) := xdt tbJ0_length_8abf5_0_ok 6 rfl
def tbJ0_charAt_5068e_0 : List (Nat × Instr × Nat) := [(0, .aload_n 0, 1), (1, .invokevirtual 492, 3), (4, .ifCond .eq 12, 3), (7, .aload_n 0, 1), (8, .getfield 9, 3), (11, .iload_n 1, 1), (12, .invokestatic 495, 3), (15, .ireturn, 1), (16, .aload_n 0, 1), (17, .getfield 9, 3), (20, .iload_n 1, 1), (21, .invokestatic 498, 3), (24, .ireturn, 1)]
theorem tbJ0_charAt_5068e_0_ok : tbJ0_charAt_5068e_0.all (fun q => decide (decode cJ0_charAt_5068e q.1 = .ok q.2)) = true := by decide +kernel
theorem dJ0_charAt_5068e_0 : decode cJ0_charAt_5068e 0 = .ok (.aload_n 0, 1) := xdt tbJ0_charAt_5068e_0_ok 0 rfl
theorem dJ0_charAt_5068e_1 : decode cJ0_charAt_5068e 1 = .ok (.invokevirtual 492, 3) := xdt tbJ0_charAt_5068e_0_ok 1 rfl
theorem dJ0_charAt_5068e_4 : decode cJ0_charAt_5068e 4 = .ok (.ifCond .eq 12, 3) := xdt tbJ0_charAt_5068e_0_ok 2 rfl
theorem dJ0_charAt_5068e_7 : decode cJ0_charAt_5068e 7 = .ok (.aload_n 0, 1) := xdt tbJ0_charAt_5068e_0_ok 3 rfl
theorem dJ0_charAt_5068e_8 : decode cJ0_charAt_5068e 8 = .ok (.getfield 9, 3) := xdt tbJ0_charAt_5068e_0_ok 4 rfl
theorem dJ0_charAt_5068e_11 : decode cJ0_charAt_5068e 11 = .ok (.iload_n 1, 1) := xdt tbJ0_charAt_5068e_0_ok 5 rfl
theorem dJ0_charAt_5068e_12 : decode cJ0_charAt_5068e 12 = .ok (.invokestatic 495, 3) := xdt tbJ0_charAt_5068e_0_ok 6 rfl
theorem dJ0_charAt_5068e_15 : decode cJ0_charAt_5068e 15 = .ok (.ireturn, 1) := xdt tbJ0_charAt_5068e_0_ok 7 rfl
theorem dJ0_charAt_5068e_16 : decode cJ0_charAt_5068e 16 = .ok (.aload_n 0, 1) := xdt tbJ0_charAt_5068e_0_ok 8 rfl
theorem dJ0_charAt_5068e_17 : decode cJ0_charAt_5068e 17 = .ok (.getfield 9, 3) := xdt tbJ0_charAt_5068e_0_ok 9 rfl
theorem dJ0_charAt_5068e_20 : decode cJ0_charAt_5068e 20 = .ok (.iload_n 1, 1) := xdt tbJ0_charAt_5068e_0_ok 10 rfl
theorem dJ0_charAt_5068e_21 : decode cJ0_charAt_5068e 21 = .ok (.invokestatic 498, 3) := xdt tbJ0_charAt_5068e_0_ok 11 rfl
theorem dJ0_charAt_5068e_24 : decode cJ0_charAt_5068e 24 = .ok (.ireturn, 1) := xdt tbJ0_charAt_5068e_0_ok 12 rfl
def tbJ0_coder_7d493_0 : List (Nat × Instr × Nat) := [(0, .getstatic 38, 3), (3, .ifCond .eq 10, 3), (6, .aload_n 0, 1), (7, .getfield 15, 3), (10, .goto 4, 3), (13, .iconst 1, 1), (14, .ireturn, 1)]
theorem tbJ0_coder_7d493_0_ok : tbJ0_coder_7d493_0.all (fun q => decide (decode cJ0_coder_7d493 q.1 = .ok q.2)) = true := by decide +kernel
theorem dJ0_coder_7d493_0 : decode cJ0_coder_7d493 0 = .ok (.getstatic 38, 3) := xdt tbJ0_coder_7d493_0_ok 0 rfl
theorem dJ0_coder_7d493_3 : decode cJ0_coder_7d493 3 = .ok (.ifCond .eq 10, 3) := xdt tbJ0_coder_7d493_0_ok 1 rfl
theorem dJ0_coder_7d493_6 : decode cJ0_coder_7d493 6 = .ok (.aload_n 0, 1) := xdt tbJ0_coder_7d493_0_ok 2 rfl
theorem dJ0_coder_7d493_7 : decode cJ0_coder_7d493 7 = .ok (.getfield 15, 3) := xdt tbJ0_coder_7d493_0_ok 3 rfl
theorem dJ0_coder_7d493_10 : decode cJ0_coder_7d493 10 = .ok (.goto 4, 3) := xdt tbJ0_coder_7d493_0_ok 4 rfl
theorem dJ0_coder_7d493_13 : decode cJ0_coder_7d493 13 = .ok (.iconst 1, 1) := xdt tbJ0_coder_7d493_0_ok 5 rfl
theorem dJ0_coder_7d493_14 : decode cJ0_coder_7d493 14 = .ok (.ireturn, 1) := xdt tbJ0_coder_7d493_0_ok 6 rfl
def tbJ0_isLatin1_aae02_0 : List (Nat × Instr × Nat) := [(0, .getstatic 38, 3), (3, .ifCond .eq 14, 3), (6, .aload_n 0, 1), (7, .getfield 15, 3), (10, .ifCond .ne 7, 3), (13, .iconst 1, 1), (14, .goto 4, 3), (17, .iconst 0, 1), (18, .ireturn, 1)]
theorem tbJ0_isLatin1_aae02_0_ok : tbJ0_isLatin1_aae02_0.all (fun q => decide (decode cJ0_isLatin1_aae02 q.1 = .ok q.2)) = true := by decide +kernel
theorem dJ0_isLatin1_aae02_0 : decode cJ0_isLatin1_aae02 0 = .ok (.getstatic 38, 3) := xdt tbJ0_isLatin1_aae02_0_ok 0 rfl
theorem dJ0_isLatin1_aae02_3 : decode cJ0_isLatin1_aae02 3 = .ok (.ifCond .eq 14, 3) := xdt tbJ0_isLatin1_aae02_0_ok 1 rfl
theorem dJ0_isLatin1_aae02_6 : decode cJ0_isLatin1_aae02 6 = .ok (.aload_n 0, 1) := xdt tbJ0_isLatin1_aae02_0_ok 2 rfl
theorem dJ0_isLatin1_aae02_7 : decode cJ0_isLatin1_aae02 7 = .ok (.getfield 15, 3) := xdt tbJ0_isLatin1_aae02_0_ok 3 rfl
theorem dJ0_isLatin1_aae02_10 : decode cJ0_isLatin1_aae02 10 = .ok (.ifCond .ne 7, 3) := xdt tbJ0_isLatin1_aae02_0_ok 4 rfl
theorem dJ0_isLatin1_aae02_13 : decode cJ0_isLatin1_aae02 13 = .ok (.iconst 1, 1) := xdt tbJ0_isLatin1_aae02_0_ok 5 rfl
theorem dJ0_isLatin1_aae02_14 : decode cJ0_isLatin1_aae02 14 = .ok (.goto 4, 3) := xdt tbJ0_isLatin1_aae02_0_ok 6 rfl
theorem dJ0_isLatin1_aae02_17 : decode cJ0_isLatin1_aae02 17 = .ok (.iconst 0, 1) := xdt tbJ0_isLatin1_aae02_0_ok 7 rfl
theorem dJ0_isLatin1_aae02_18 : decode cJ0_isLatin1_aae02 18 = .ok (.ireturn, 1) := xdt tbJ0_isLatin1_aae02_0_ok 8 rfl
def tbJ0_checkIndex_df160_0 : List (Nat × Instr × Nat) := [(0, .iload_n 0, 1), (1, .iload_n 1, 1), (2, .getstatic 1053, 3), (5, .invokestatic 1059, 3), (8, .pop, 1), (9, .return_, 1)]
theorem tbJ0_checkIndex_df160_0_ok : tbJ0_checkIndex_df160_0.all (fun q => decide (decode cJ0_checkIndex_df160 q.1 = .ok q.2)) = true := by decide +kernel
theorem dJ0_checkIndex_df160_0 : decode cJ0_checkIndex_df160 0 = .ok (.iload_n 0, 1) := xdt tbJ0_checkIndex_df160_0_ok 0 rfl
theorem dJ0_checkIndex_df160_1 : decode cJ0_checkIndex_df160 1 = .ok (.iload_n 1, 1) := xdt tbJ0_checkIndex_df160_0_ok 1 rfl
theorem dJ0_checkIndex_df160_2 : decode cJ0_checkIndex_df160 2 = .ok (.getstatic 1053, 3) := xdt tbJ0_checkIndex_df160_0_ok 2 rfl
theorem dJ0_checkIndex_df160_5 : decode cJ0_checkIndex_df160 5 = .ok (.invokestatic 1059, 3) := xdt tbJ0_checkIndex_df160_0_ok 3 rfl
theorem dJ0_checkIndex_df160_8 : decode cJ0_checkIndex_df160 8 = .ok (.pop, 1) := xdt tbJ0_checkIndex_df160_0_ok 4 rfl
theorem dJ0_checkIndex_df160_9 : decode cJ0_checkIndex_df160 9 = .ok (.return_, 1) := xdt tbJ0_checkIndex_df160_0_ok 5 rfl
def tbJ1_charAt_3b067_0 : List (Nat × Instr × Nat) := [(0, .iload_n 1, 1), (1, .aload_n 0, 1), (2, .arraylength, 1), (3, .invokestatic 9, 3), (6, .aload_n 0, 1), (7, .iload_n 1, 1), (8, .baload, 1), (9, .sipush 255, 3), (12, .iand, 1), (13, .i2c, 1), (14, .ireturn, 1)]
theorem tbJ1_charAt_3b067_0_ok : tbJ1_charAt_3b067_0.all (fun q => decide (decode cJ1_charAt_3b067 q.1 = .ok q.2)) = true := by decide +kernel
theorem dJ1_charAt_3b067_0 : decode cJ1_charAt_3b067 0 = .ok (.iload_n 1, 1) := xdt tbJ1_charAt_3b067_0_ok 0 rfl
theorem dJ1_charAt_3b067_1 : decode cJ1_charAt_3b067 1 = .ok (.aload_n 0, 1) := xdt tbJ1_charAt_3b067_0_ok 1 rfl
theorem dJ1_charAt_3b067_2 : decode cJ1_charAt_3b067 2 = .ok (.arraylength, 1) := xdt tbJ1_charAt_3b067_0_ok 2 rfl
theorem dJ1_charAt_3b067_3 : decode cJ1_charAt_3b067 3 = .ok (.invokestatic 9, 3) := xdt tbJ1_charAt_3b067_0_ok 3 rfl
theorem dJ1_charAt_3b067_6 : decode cJ1_charAt_3b067 6 = .ok (.aload_n 0, 1) := xdt tbJ1_charAt_3b067_0_ok 4 rfl
theorem dJ1_charAt_3b067_7 : decode cJ1_charAt_3b067 7 = .ok (.iload_n 1, 1) := xdt tbJ1_charAt_3b067_0_ok 5 rfl
theorem dJ1_charAt_3b067_8 : decode cJ1_charAt_3b067 8 = .ok (.baload, 1) := xdt tbJ1_charAt_3b067_0_ok 6 rfl
theorem dJ1_charAt_3b067_9 : decode cJ1_charAt_3b067 9 = .ok (.sipush 255, 3) := xdt tbJ1_charAt_3b067_0_ok 7 rfl
theorem dJ1_charAt_3b067_12 : decode cJ1_charAt_3b067 12 = .ok (.iand, 1) := xdt tbJ1_charAt_3b067_0_ok 8 rfl
theorem dJ1_charAt_3b067_13 : decode cJ1_charAt_3b067 13 = .ok (.i2c, 1) := xdt tbJ1_charAt_3b067_0_ok 9 rfl
theorem dJ1_charAt_3b067_14 : decode cJ1_charAt_3b067 14 = .ok (.ireturn, 1) := xdt tbJ1_charAt_3b067_0_ok 10 rfl
def tbJ3_checkIndex_8e157_0 : List (Nat × Instr × Nat) := [(0, .iload_n 0, 1), (1, .ifCond .lt 8, 3), (4, .iload_n 0, 1), (5, .iload_n 1, 1), (6, .if_icmp .lt 10, 3), (9, .aload_n 2, 1), (10, .iload_n 0, 1), (11, .iload_n 1, 1), (12, .invokestatic 95, 3), (15, .athrow, 1), (16, .iload_n 0, 1), (17, .ireturn, 1)]
theorem tbJ3_checkIndex_8e157_0_ok : tbJ3_checkIndex_8e157_0.all (fun q => decide (decode cJ3_checkIndex_8e157 q.1 = .ok q.2)) = true := by decide +kernel
theorem dJ3_checkIndex_8e157_0 : decode cJ3_checkIndex_8e157 0 = .ok (.iload_n 0, 1) := xdt tbJ3_checkIndex_8e157_0_ok 0 rfl
theorem dJ3_checkIndex_8e157_1 : decode cJ3_checkIndex_8e157 1 = .ok (.ifCond .lt 8, 3) := xdt tbJ3_checkIndex_8e157_0_ok 1 rfl
theorem dJ3_checkIndex_8e157_4 : decode cJ3_checkIndex_8e157 4 = .ok (.iload_n 0, 1) := xdt tbJ3_checkIndex_8e157_0_ok 2 rfl
theorem dJ3_checkIndex_8e157_5 : decode cJ3_checkIndex_8e157 5 = .ok (.iload_n 1, 1) := xdt tbJ3_checkIndex_8e157_0_ok 3 rfl
theorem dJ3_checkIndex_8e157_6 : decode cJ3_checkIndex_8e157 6 = .ok (.if_icmp .lt 10, 3) := xdt tbJ3_checkIndex_8e157_0_ok 4 rfl
theorem dJ3_checkIndex_8e157_9 : decode cJ3_checkIndex_8e157 9 = .ok (.aload_n 2, 1) := xdt tbJ3_checkIndex_8e157_0_ok 5 rfl
theorem dJ3_checkIndex_8e157_10 : decode cJ3_checkIndex_8e157 10 = .ok (.iload_n 0, 1) := xdt tbJ3_checkIndex_8e157_0_ok 6 rfl
theorem dJ3_checkIndex_8e157_11 : decode cJ3_checkIndex_8e157 11 = .ok (.iload_n 1, 1) := xdt tbJ3_checkIndex_8e157_0_ok 7 rfl
theorem dJ3_checkIndex_8e157_12 : decode cJ3_checkIndex_8e157 12 = .ok (.invokestatic 95, 3) := xdt tbJ3_checkIndex_8e157_0_ok 8 rfl
theorem dJ3_checkIndex_8e157_15 : decode cJ3_checkIndex_8e157 15 = .ok (.athrow, 1) := xdt tbJ3_checkIndex_8e157_0_ok 9 rfl
theorem dJ3_checkIndex_8e157_16 : decode cJ3_checkIndex_8e157 16 = .ok (.iload_n 0, 1) := xdt tbJ3_checkIndex_8e157_0_ok 10 rfl
theorem dJ3_checkIndex_8e157_17 : decode cJ3_checkIndex_8e157 17 = .ok (.ireturn, 1) := xdt tbJ3_checkIndex_8e157_0_ok 11 rfl
