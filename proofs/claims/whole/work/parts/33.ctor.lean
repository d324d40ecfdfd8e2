def tbX5_init_0 : List (Nat × Instr × Nat) := [(0, .aload_n 0, 1), (1, .invokespecial 3, 3), (4, .aload_n 0, 1), (5, .sipush 600, 3), (8, .newarray .int, 2), (10, .putfield 9, 3), (13, .aload_n 0, 1), (14, .sipush 600, 3), (17, .newarray .int, 2), (19, .putfield 15, 3), (22, .aload_n 0, 1), (23, .sipush 300, 3), (26, .newarray .int, 2), (28, .putfield 18, 3), (31, .aload_n 0, 1), (32, .sipush 300, 3), (35, .newarray .int, 2), (37, .putfield 21, 3), (40, .aload_n 0, 1), (41, .sipush 300, 3), (44, .newarray .int, 2), (46, .putfield 24, 3), (49, .return_, 1)]
theorem tbX5_init_0_ok : tbX5_init_0.all (fun q => decide (decode cX5_init q.1 = .ok q.2)) = true := by decide +kernel
theorem dX5_init_0 : decode cX5_init 0 = .ok (.aload_n 0, 1) := xdt tbX5_init_0_ok 0 rfl
theorem dX5_init_1 : decode cX5_init 1 = .ok (.invokespecial 3, 3) := xdt tbX5_init_0_ok 1 rfl
theorem dX5_init_4 : decode cX5_init 4 = .ok (.aload_n 0, 1) := xdt tbX5_init_0_ok 2 rfl
theorem dX5_init_5 : decode cX5_init 5 = .ok (.sipush 600, 3) := xdt tbX5_init_0_ok 3 rfl
theorem dX5_init_8 : decode cX5_init 8 = .ok (.newarray .int, 2) := xdt tbX5_init_0_ok 4 rfl
theorem dX5_init_10 : decode cX5_init 10 = .ok (.putfield 9, 3) := xdt tbX5_init_0_ok 5 rfl
theorem dX5_init_13 : decode cX5_init 13 = .ok (.aload_n 0, 1) := xdt tbX5_init_0_ok 6 rfl
theorem dX5_init_14 : decode cX5_init 14 = .ok (.sipush 600, 3) := xdt tbX5_init_0_ok 7 rfl
theorem dX5_init_17 : decode cX5_init 17 = .ok (.newarray .int, 2) := xdt tbX5_init_0_ok 8 rfl
theorem dX5_init_19 : decode cX5_init 19 = .ok (.putfield 15, 3) := xdt tbX5_init_0_ok 9 rfl
theorem dX5_init_22 : decode cX5_init 22 = .ok (.aload_n 0, 1) := xdt tbX5_init_0_ok 10 rfl
theorem dX5_init_23 : decode cX5_init 23 = .ok (.sipush 300, 3) := xdt tbX5_init_0_ok 11 rfl
theorem dX5_init_26 : decode cX5_init 26 = .ok (.newarray .int, 2) := xdt tbX5_init_0_ok 12 rfl
theorem dX5_init_28 : decode cX5_init 28 = .ok (.putfield 18, 3) := xdt tbX5_init_0_ok 13 rfl
theorem dX5_init_31 : decode cX5_init 31 = .ok (.aload_n 0, 1) := xdt tbX5_init_0_ok 14 rfl
theorem dX5_init_32 : decode cX5_init 32 = .ok (.sipush 300, 3) := xdt tbX5_init_0_ok 15 rfl
theorem dX5_init_35 : decode cX5_init 35 = .ok (.newarray .int, 2) := xdt tbX5_init_0_ok 16 rfl
theorem dX5_init_37 : decode cX5_init 37 = .ok (.putfield 21, 3) := xdt tbX5_init_0_ok 17 rfl
theorem dX5_init_40 : decode cX5_init 40 = .ok (.aload_n 0, 1) := xdt tbX5_init_0_ok 18 rfl
theorem dX5_init_41 : decode cX5_init 41 = .ok (.sipush 300, 3) := xdt tbX5_init_0_ok 19 rfl
theorem dX5_init_44 : decode cX5_init 44 = .ok (.newarray .int, 2) := xdt tbX5_init_0_ok 20 rfl
theorem dX5_init_46 : decode cX5_init 46 = .ok (.putfield 24, 3) := xdt tbX5_init_0_ok 21 rfl
theorem dX5_init_49 : decode cX5_init 49 = .ok (.return_, 1) := xdt tbX5_init_0_ok 22 rfl
def tbX6_init_0 : List (Nat × Instr × Nat) := [(0, .aload_n 0, 1), (1, .invokespecial 3, 3), (4, .aload_n 0, 1), (5, .bipush 7, 2), (7, .newarray .int, 2), (9, .putfield 9, 3), (12, .aload_n 0, 1), (13, .bipush 7, 2), (15, .newarray .int, 2), (17, .putfield 15, 3), (20, .aload_n 0, 1), (21, .bipush 7, 2), (23, .newarray .int, 2), (25, .putfield 18, 3), (28, .aload_n 0, 1), (29, .bipush 84, 2), (31, .newarray .int, 2), (33, .putfield 21, 3), (36, .aload_n 0, 1), (37, .bipush 84, 2), (39, .newarray .int, 2), (41, .putfield 24, 3), (44, .aload_n 0, 1), (45, .bipush 84, 2), (47, .newarray .int, 2), (49, .putfield 27, 3), (52, .aload_n 0, 1), (53, .bipush 84, 2), (55, .newarray .int, 2), (57, .putfield 30, 3), (60, .aload_n 0, 1), (61, .bipush 84, 2), (63, .newarray .int, 2), (65, .putfield 33, 3), (68, .aload_n 0, 1), (69, .bipush 84, 2), (71, .newarray .int, 2), (73, .putfield 36, 3), (76, .aload_n 0, 1), (77, .sipush 182, 3), (80, .newarray .int, 2), (82, .putfield 39, 3), (85, .aload_n 0, 1), (86, .bipush 10, 2), (88, .newarray .int, 2), (90, .putfield 42, 3), (93, .aload_n 0, 1), (94, .new 45, 3), (97, .dup, 1), (98, .invokespecial 47, 3), (101, .putfield 48, 3), (104, .return_, 1)]
theorem tbX6_init_0_ok : tbX6_init_0.all (fun q => decide (decode cX6_init q.1 = .ok q.2)) = true := by decide +kernel
theorem dX6_init_0 : decode cX6_init 0 = .ok (.aload_n 0, 1) := xdt tbX6_init_0_ok 0 rfl
theorem dX6_init_1 : decode cX6_init 1 = .ok (.invokespecial 3, 3) := xdt tbX6_init_0_ok 1 rfl
theorem dX6_init_4 : decode cX6_init 4 = .ok (.aload_n 0, 1) := xdt tbX6_init_0_ok 2 rfl
theorem dX6_init_5 : decode cX6_init 5 = .ok (.bipush 7, 2) := xdt tbX6_init_0_ok 3 rfl
theorem dX6_init_7 : decode cX6_init 7 = .ok (.newarray .int, 2) := xdt tbX6_init_0_ok 4 rfl
theorem dX6_init_9 : decode cX6_init 9 = .ok (.putfield 9, 3) := xdt tbX6_init_0_ok 5 rfl
theorem dX6_init_12 : decode cX6_init 12 = .ok (.aload_n 0, 1) := xdt tbX6_init_0_ok 6 rfl
theorem dX6_init_13 : decode cX6_init 13 = .ok (.bipush 7, 2) := xdt tbX6_init_0_ok 7 rfl
theorem dX6_init_15 : decode cX6_init 15 = .ok (.newarray .int, 2) := xdt tbX6_init_0_ok 8 rfl
theorem dX6_init_17 : decode cX6_init 17 = .ok (.putfield 15, 3) := xdt tbX6_init_0_ok 9 rfl
theorem dX6_init_20 : decode cX6_init 20 = .ok (.aload_n 0, 1) := xdt tbX6_init_0_ok 10 rfl
theorem dX6_init_21 : decode cX6_init 21 = .ok (.bipush 7, 2) := xdt tbX6_init_0_ok 11 rfl
theorem dX6_init_23 : decode cX6_init 23 = .ok (.newarray .int, 2) := xdt tbX6_init_0_ok 12 rfl
theorem dX6_init_25 : decode cX6_init 25 = .ok (.putfield 18, 3) := xdt tbX6_init_0_ok 13 rfl
theorem dX6_init_28 : decode cX6_init 28 = .ok (.aload_n 0, 1) := xdt tbX6_init_0_ok 14 rfl
theorem dX6_init_29 : decode cX6_init 29 = .ok (.bipush 84, 2) := xdt tbX6_init_0_ok 15 rfl
theorem dX6_init_31 : decode cX6_init 31 = .ok (.newarray .int, 2) := xdt tbX6_init_0_ok 16 rfl
theorem dX6_init_33 : decode cX6_init 33 = .ok (.putfield 21, 3) := xdt tbX6_init_0_ok 17 rfl
theorem dX6_init_36 : decode cX6_init 36 = .ok (.aload_n 0, 1) := xdt tbX6_init_0_ok 18 rfl
theorem dX6_init_37 : decode cX6_init 37 = .ok (.bipush 84, 2) := xdt tbX6_init_0_ok 19 rfl
theorem dX6_init_39 : decode cX6_init 39 = .ok (.newarray .int, 2) := xdt tbX6_init_0_ok 20 rfl
theorem dX6_init_41 : decode cX6_init 41 = .ok (.putfield 24, 3) := xdt tbX6_init_0_ok 21 rfl
theorem dX6_init_44 : decode cX6_init 44 = .ok (.aload_n 0, 1) := xdt tbX6_init_0_ok 22 rfl
theorem dX6_init_45 : decode cX6_init 45 = .ok (.bipush 84, 2) := xdt tbX6_init_0_ok 23 rfl
theorem dX6_init_47 : decode cX6_init 47 = .ok (.newarray .int, 2) := xdt tbX6_init_0_ok 24 rfl
theorem dX6_init_49 : decode cX6_init 49 = .ok (.putfield 27, 3) := xdt tbX6_init_0_ok 25 rfl
theorem dX6_init_52 : decode cX6_init 52 = .ok (.aload_n 0, 1) := xdt tbX6_init_0_ok 26 rfl
theorem dX6_init_53 : decode cX6_init 53 = .ok (.bipush 84, 2) := xdt tbX6_init_0_ok 27 rfl
theorem dX6_init_55 : decode cX6_init 55 = .ok (.newarray .int, 2) := xdt tbX6_init_0_ok 28 rfl
theorem dX6_init_57 : decode cX6_init 57 = .ok (.putfield 30, 3) := xdt tbX6_init_0_ok 29 rfl
theorem dX6_init_60 : decode cX6_init 60 = .ok (.aload_n 0, 1) := xdt tbX6_init_0_ok 30 rfl
theorem dX6_init_61 : decode cX6_init 61 = .ok (.bipush 84, 2) := xdt tbX6_init_0_ok 31 rfl
theorem dX6_init_63 : decode cX6_init 63 = .ok (.newarray .int, 2) := xdt tbX6_init_0_ok 32 rfl
theorem dX6_init_65 : decode cX6_init 65 = .ok (.putfield 33, 3) := xdt tbX6_init_0_ok 33 rfl
theorem dX6_init_68 : decode cX6_init 68 = .ok (.aload_n 0, 1) := xdt tbX6_init_0_ok 34 rfl
theorem dX6_init_69 : decode cX6_init 69 = .ok (.bipush 84, 2) := xdt tbX6_init_0_ok 35 rfl
theorem dX6_init_71 : decode cX6_init 71 = .ok (.newarray .int, 2) := xdt tbX6_init_0_ok 36 rfl
theorem dX6_init_73 : decode cX6_init 73 = .ok (.putfield 36, 3) := xdt tbX6_init_0_ok 37 rfl
theorem dX6_init_76 : decode cX6_init 76 = .ok (.aload_n 0, 1) := xdt tbX6_init_0_ok 38 rfl
theorem dX6_init_77 : decode cX6_init 77 = .ok (.sipush 182, 3) := xdt tbX6_init_0_ok 39 rfl
theorem dX6_init_80 : decode cX6_init 80 = .ok (.newarray .int, 2) := xdt tbX6_init_0_ok 40 rfl
theorem dX6_init_82 : decode cX6_init 82 = .ok (.putfield 39, 3) := xdt tbX6_init_0_ok 41 rfl
theorem dX6_init_85 : decode cX6_init 85 = .ok (.aload_n 0, 1) := xdt tbX6_init_0_ok 42 rfl
theorem dX6_init_86 : decode cX6_init 86 = .ok (.bipush 10, 2) := xdt tbX6_init_0_ok 43 rfl
theorem dX6_init_88 : decode cX6_init 88 = .ok (.newarray .int, 2) := xdt tbX6_init_0_ok 44 rfl
theorem dX6_init_90 : decode cX6_init 90 = .ok (.putfield 42, 3) := xdt tbX6_init_0_ok 45 rfl
theorem dX6_init_93 : decode cX6_init 93 = .ok (.aload_n 0, 1) := xdt tbX6_init_0_ok 46 rfl
theorem dX6_init_94 : decode cX6_init 94 = .ok (.new 45, 3) := xdt tbX6_init_0_ok 47 rfl
theorem dX6_init_97 : decode cX6_init 97 = .ok (.dup, 1) := xdt tbX6_init_0_ok 48 rfl
theorem dX6_init_98 : decode cX6_init 98 = .ok (.invokespecial 47, 3) := xdt tbX6_init_0_ok 49 rfl
theorem dX6_init_101 : decode cX6_init 101 = .ok (.putfield 48, 3) := xdt tbX6_init_0_ok 50 rfl
theorem dX6_init_104 : decode cX6_init 104 = .ok (.return_, 1) := xdt tbX6_init_0_ok 51 rfl
def tbX4_init_0 : List (Nat × Instr × Nat) := [(0, .aload_n 0, 1), (1, .invokespecial 3, 3), (4, .aload_n 0, 1), (5, .iconst (-1), 1), (6, .putfield 9, 3), (9, .aload_n 0, 1), (10, .bipush 20, 2), (12, .newarray .int, 2), (14, .putfield 15, 3), (17, .return_, 1)]
theorem tbX4_init_0_ok : tbX4_init_0.all (fun q => decide (decode cX4_init q.1 = .ok q.2)) = true := by decide +kernel
theorem dX4_init_0 : decode cX4_init 0 = .ok (.aload_n 0, 1) := xdt tbX4_init_0_ok 0 rfl
theorem dX4_init_1 : decode cX4_init 1 = .ok (.invokespecial 3, 3) := xdt tbX4_init_0_ok 1 rfl
theorem dX4_init_4 : decode cX4_init 4 = .ok (.aload_n 0, 1) := xdt tbX4_init_0_ok 2 rfl
theorem dX4_init_5 : decode cX4_init 5 = .ok (.iconst (-1), 1) := xdt tbX4_init_0_ok 3 rfl
theorem dX4_init_6 : decode cX4_init 6 = .ok (.putfield 9, 3) := xdt tbX4_init_0_ok 4 rfl
theorem dX4_init_9 : decode cX4_init 9 = .ok (.aload_n 0, 1) := xdt tbX4_init_0_ok 5 rfl
theorem dX4_init_10 : decode cX4_init 10 = .ok (.bipush 20, 2) := xdt tbX4_init_0_ok 6 rfl
theorem dX4_init_12 : decode cX4_init 12 = .ok (.newarray .int, 2) := xdt tbX4_init_0_ok 7 rfl
theorem dX4_init_14 : decode cX4_init 14 = .ok (.putfield 15, 3) := xdt tbX4_init_0_ok 8 rfl
theorem dX4_init_17 : decode cX4_init 17 = .ok (.return_, 1) := xdt tbX4_init_0_ok 9 rfl
def tbX0_init_0 : List (Nat × Instr × Nat) := [(0, .aload_n 0, 1), (1, .invokespecial 3, 3), (4, .aload_n 0, 1), (5, .bipush 16, 2), (7, .newarray .int, 2), (9, .putfield 9, 3), (12, .aload_n 0, 1), (13, .bipush 16, 2), (15, .newarray .int, 2), (17, .putfield 15, 3), (20, .aload_n 0, 1), (21, .bipush 16, 2), (23, .newarray .int, 2), (25, .putfield 18, 3), (28, .return_, 1)]
theorem tbX0_init_0_ok : tbX0_init_0.all (fun q => decide (decode cX0_init q.1 = .ok q.2)) = true := by decide +kernel
theorem dX0_init_0 : decode cX0_init 0 = .ok (.aload_n 0, 1) := xdt tbX0_init_0_ok 0 rfl
theorem dX0_init_1 : decode cX0_init 1 = .ok (.invokespecial 3, 3) := xdt tbX0_init_0_ok 1 rfl
theorem dX0_init_4 : decode cX0_init 4 = .ok (.aload_n 0, 1) := xdt tbX0_init_0_ok 2 rfl
theorem dX0_init_5 : decode cX0_init 5 = .ok (.bipush 16, 2) := xdt tbX0_init_0_ok 3 rfl
theorem dX0_init_7 : decode cX0_init 7 = .ok (.newarray .int, 2) := xdt tbX0_init_0_ok 4 rfl
theorem dX0_init_9 : decode cX0_init 9 = .ok (.putfield 9, 3) := xdt tbX0_init_0_ok 5 rfl
theorem dX0_init_12 : decode cX0_init 12 = .ok (.aload_n 0, 1) := xdt tbX0_init_0_ok 6 rfl
theorem dX0_init_13 : decode cX0_init 13 = .ok (.bipush 16, 2) := xdt tbX0_init_0_ok 7 rfl
theorem dX0_init_15 : decode cX0_init 15 = .ok (.newarray .int, 2) := xdt tbX0_init_0_ok 8 rfl
theorem dX0_init_17 : decode cX0_init 17 = .ok (.putfield 15, 3) := xdt tbX0_init_0_ok 9 rfl
theorem dX0_init_20 : decode cX0_init 20 = .ok (.aload_n 0, 1) := xdt tbX0_init_0_ok 10 rfl
theorem dX0_init_21 : decode cX0_init 21 = .ok (.bipush 16, 2) := xdt tbX0_init_0_ok 11 rfl
theorem dX0_init_23 : decode cX0_init 23 = .ok (.newarray .int, 2) := xdt tbX0_init_0_ok 12 rfl
theorem dX0_init_25 : decode cX0_init 25 = .ok (.putfield 18, 3) := xdt tbX0_init_0_ok 13 rfl
theorem dX0_init_28 : decode cX0_init 28 = .ok (.return_, 1) := xdt tbX0_init_0_ok 14 rfl
def tbX1_init_0 : List (Nat × Instr × Nat) := [(0, .aload_n 0, 1), (1, .invokespecial 3, 3), (4, .aload_n 0, 1), (5, .new 9, 3), (8, .dup, 1), (9, .invokespecial 11, 3), (12, .putfield 12, 3), (15, .aload_n 0, 1), (16, .bipush 7, 2), (18, .newarray .int, 2), (20, .putfield 18, 3), (23, .aload_n 0, 1), (24, .sipush 600, 3), (27, .newarray .int, 2), (29, .putfield 22, 3), (32, .aload_n 0, 1), (33, .sipush 300, 3), (36, .newarray .int, 2), (38, .putfield 25, 3), (41, .aload_n 0, 1), (42, .iconst 0, 1), (43, .newarray .int, 2), (45, .putfield 28, 3), (48, .aload_n 0, 1), (49, .sipush 602, 3), (52, .newarray .int, 2), (54, .putfield 31, 3), (57, .aload_n 0, 1), (58, .sipush 602, 3), (61, .newarray .int, 2), (63, .putfield 34, 3), (66, .aload_n 0, 1), (67, .sipush 602, 3), (70, .newarray .int, 2), (72, .putfield 37, 3), (75, .return_, 1)]
theorem tbX1_init_0_ok : tbX1_init_0.all (fun q => decide (decode cX1_init q.1 = .ok q.2)) = true := by decide +kernel
theorem dX1_init_0 : decode cX1_init 0 = .ok (.aload_n 0, 1) := xdt tbX1_init_0_ok 0 rfl
theorem dX1_init_1 : decode cX1_init 1 = .ok (.invokespecial 3, 3) := xdt tbX1_init_0_ok 1 rfl
theorem dX1_init_4 : decode cX1_init 4 = .ok (.aload_n 0, 1) := xdt tbX1_init_0_ok 2 rfl
theorem dX1_init_5 : decode cX1_init 5 = .ok (.new 9, 3) := xdt tbX1_init_0_ok 3 rfl
theorem dX1_init_8 : decode cX1_init 8 = .ok (.dup, 1) := xdt tbX1_init_0_ok 4 rfl
theorem dX1_init_9 : decode cX1_init 9 = .ok (.invokespecial 11, 3) := xdt tbX1_init_0_ok 5 rfl
theorem dX1_init_12 : decode cX1_init 12 = .ok (.putfield 12, 3) := xdt tbX1_init_0_ok 6 rfl
theorem dX1_init_15 : decode cX1_init 15 = .ok (.aload_n 0, 1) := xdt tbX1_init_0_ok 7 rfl
theorem dX1_init_16 : decode cX1_init 16 = .ok (.bipush 7, 2) := xdt tbX1_init_0_ok 8 rfl
theorem dX1_init_18 : decode cX1_init 18 = .ok (.newarray .int, 2) := xdt tbX1_init_0_ok 9 rfl
theorem dX1_init_20 : decode cX1_init 20 = .ok (.putfield 18, 3) := xdt tbX1_init_0_ok 10 rfl
theorem dX1_init_23 : decode cX1_init 23 = .ok (.aload_n 0, 1) := xdt tbX1_init_0_ok 11 rfl
theorem dX1_init_24 : decode cX1_init 24 = .ok (.sipush 600, 3) := xdt tbX1_init_0_ok 12 rfl
theorem dX1_init_27 : decode cX1_init 27 = .ok (.newarray .int, 2) := xdt tbX1_init_0_ok 13 rfl
theorem dX1_init_29 : decode cX1_init 29 = .ok (.putfield 22, 3) := xdt tbX1_init_0_ok 14 rfl
theorem dX1_init_32 : decode cX1_init 32 = .ok (.aload_n 0, 1) := xdt tbX1_init_0_ok 15 rfl
theorem dX1_init_33 : decode cX1_init 33 = .ok (.sipush 300, 3) := xdt tbX1_init_0_ok 16 rfl
theorem dX1_init_36 : decode cX1_init 36 = .ok (.newarray .int, 2) := xdt tbX1_init_0_ok 17 rfl
theorem dX1_init_38 : decode cX1_init 38 = .ok (.putfield 25, 3) := xdt tbX1_init_0_ok 18 rfl
theorem dX1_init_41 : decode cX1_init 41 = .ok (.aload_n 0, 1) := xdt tbX1_init_0_ok 19 rfl
theorem dX1_init_42 : decode cX1_init 42 = .ok (.iconst 0, 1) := xdt tbX1_init_0_ok 20 rfl
theorem dX1_init_43 : decode cX1_init 43 = .ok (.newarray .int, 2) := xdt tbX1_init_0_ok 21 rfl
theorem dX1_init_45 : decode cX1_init 45 = .ok (.putfield 28, 3) := xdt tbX1_init_0_ok 22 rfl
theorem dX1_init_48 : decode cX1_init 48 = .ok (.aload_n 0, 1) := xdt tbX1_init_0_ok 23 rfl
theorem dX1_init_49 : decode cX1_init 49 = .ok (.sipush 602, 3) := xdt tbX1_init_0_ok 24 rfl
theorem dX1_init_52 : decode cX1_init 52 = .ok (.newarray .int, 2) := xdt tbX1_init_0_ok 25 rfl
theorem dX1_init_54 : decode cX1_init 54 = .ok (.putfield 31, 3) := xdt tbX1_init_0_ok 26 rfl
theorem dX1_init_57 : decode cX1_init 57 = .ok (.aload_n 0, 1) := xdt tbX1_init_0_ok 27 rfl
theorem dX1_init_58 : decode cX1_init 58 = .ok (.sipush 602, 3) := xdt tbX1_init_0_ok 28 rfl
theorem dX1_init_61 : decode cX1_init 61 = .ok (.newarray .int, 2) := xdt tbX1_init_0_ok 29 rfl
theorem dX1_init_63 : decode cX1_init 63 = .ok (.putfield 34, 3) := xdt tbX1_init_0_ok 30 rfl
theorem dX1_init_66 : decode cX1_init 66 = .ok (.aload_n 0, 1) := xdt tbX1_init_0_ok 31 rfl
theorem dX1_init_67 : decode cX1_init 67 = .ok (.sipush 602, 3) := xdt tbX1_init_0_ok 32 rfl
theorem dX1_init_70 : decode cX1_init 70 = .ok (.newarray .int, 2) := xdt tbX1_init_0_ok 33 rfl
theorem dX1_init_72 : decode cX1_init 72 = .ok (.putfield 37, 3) := xdt tbX1_init_0_ok 34 rfl
theorem dX1_init_75 : decode cX1_init 75 = .ok (.return_, 1) := xdt tbX1_init_0_ok 35 rfl
def tbX2_init_0 : List (Nat × Instr × Nat) := [(0, .aload_n 0, 1), (1, .invokespecial 3, 3), (4, .aload_n 0, 1), (5, .aload_n 1, 1), (6, .putfield 9, 3), (9, .aload_n 0, 1), (10, .bipush 7, 2), (12, .newarray .int, 2), (14, .putfield 15, 3), (17, .aload_n 0, 1), (18, .bipush 84, 2), (20, .newarray .int, 2), (22, .putfield 19, 3), (25, .aload_n 0, 1), (26, .bipush 84, 2), (28, .newarray .int, 2), (30, .putfield 22, 3), (33, .aload_n 0, 1), (34, .bipush 7, 2), (36, .newarray .int, 2), (38, .putfield 25, 3), (41, .aload_n 0, 1), (42, .iconst 3, 1), (43, .bipush 7, 2), (45, .multianewarray 28 2, 4), (49, .putfield 30, 3), (52, .aload_n 0, 1), (53, .bipush 20, 2), (55, .newarray .int, 2), (57, .putfield 33, 3), (60, .aload_n 0, 1), (61, .sipush 168, 3), (64, .newarray .int, 2), (66, .putfield 36, 3), (69, .aload_n 0, 1), (70, .new 39, 3), (73, .dup, 1), (74, .invokespecial 41, 3), (77, .putfield 42, 3), (80, .return_, 1)]
theorem tbX2_init_0_ok : tbX2_init_0.all (fun q => decide (decode cX2_init q.1 = .ok q.2)) = true := by decide +kernel
theorem dX2_init_0 : decode cX2_init 0 = .ok (.aload_n 0, 1) := xdt tbX2_init_0_ok 0 rfl
theorem dX2_init_1 : decode cX2_init 1 = .ok (.invokespecial 3, 3) := xdt tbX2_init_0_ok 1 rfl
theorem dX2_init_4 : decode cX2_init 4 = .ok (.aload_n 0, 1) := xdt tbX2_init_0_ok 2 rfl
theorem dX2_init_5 : decode cX2_init 5 = .ok (.aload_n 1, 1) := xdt tbX2_init_0_ok 3 rfl
theorem dX2_init_6 : decode cX2_init 6 = .ok (.putfield 9, 3) := xdt tbX2_init_0_ok 4 rfl
theorem dX2_init_9 : decode cX2_init 9 = .ok (.aload_n 0, 1) := xdt tbX2_init_0_ok 5 rfl
theorem dX2_init_10 : decode cX2_init 10 = .ok (.bipush 7, 2) := xdt tbX2_init_0_ok 6 rfl
theorem dX2_init_12 : decode cX2_init 12 = .ok (.newarray .int, 2) := xdt tbX2_init_0_ok 7 rfl
theorem dX2_init_14 : decode cX2_init 14 = .ok (.putfield 15, 3) := xdt tbX2_init_0_ok 8 rfl
theorem dX2_init_17 : decode cX2_init 17 = .ok (.aload_n 0, 1) := xdt tbX2_init_0_ok 9 rfl
theorem dX2_init_18 : decode cX2_init 18 = .ok (.bipush 84, 2) := xdt tbX2_init_0_ok 10 rfl
theorem dX2_init_20 : decode cX2_init 20 = .ok (.newarray .int, 2) := xdt tbX2_init_0_ok 11 rfl
theorem dX2_init_22 : decode cX2_init 22 = .ok (.putfield 19, 3) := xdt tbX2_init_0_ok 12 rfl
theorem dX2_init_25 : decode cX2_init 25 = .ok (.aload_n 0, 1) := xdt tbX2_init_0_ok 13 rfl
theorem dX2_init_26 : decode cX2_init 26 = .ok (.bipush 84, 2) := xdt tbX2_init_0_ok 14 rfl
theorem dX2_init_28 : decode cX2_init 28 = .ok (.newarray .int, 2) := xdt tbX2_init_0_ok 15 rfl
theorem dX2_init_30 : decode cX2_init 30 = .ok (.putfield 22, 3) := xdt tbX2_init_0_ok 16 rfl
theorem dX2_init_33 : decode cX2_init 33 = .ok (.aload_n 0, 1) := xdt tbX2_init_0_ok 17 rfl
theorem dX2_init_34 : decode cX2_init 34 = .ok (.bipush 7, 2) := xdt tbX2_init_0_ok 18 rfl
theorem dX2_init_36 : decode cX2_init 36 = .ok (.newarray .int, 2) := xdt tbX2_init_0_ok 19 rfl
theorem dX2_init_38 : decode cX2_init 38 = .ok (.putfield 25, 3) := xdt tbX2_init_0_ok 20 rfl
theorem dX2_init_41 : decode cX2_init 41 = .ok (.aload_n 0, 1) := xdt tbX2_init_0_ok 21 rfl
theorem dX2_init_42 : decode cX2_init 42 = .ok (.iconst 3, 1) := xdt tbX2_init_0_ok 22 rfl
theorem dX2_init_43 : decode cX2_init 43 = .ok (.bipush 7, 2) := xdt tbX2_init_0_ok 23 rfl
theorem dX2_init_45 : decode cX2_init 45 = .ok (.multianewarray 28 2, 4) := xdt tbX2_init_0_ok 24 rfl
theorem dX2_init_49 : decode cX2_init 49 = .ok (.putfield 30, 3) := xdt tbX2_init_0_ok 25 rfl
theorem dX2_init_52 : decode cX2_init 52 = .ok (.aload_n 0, 1) := xdt tbX2_init_0_ok 26 rfl
theorem dX2_init_53 : decode cX2_init 53 = .ok (.bipush 20, 2) := xdt tbX2_init_0_ok 27 rfl
theorem dX2_init_55 : decode cX2_init 55 = .ok (.newarray .int, 2) := xdt tbX2_init_0_ok 28 rfl
theorem dX2_init_57 : decode cX2_init 57 = .ok (.putfield 33, 3) := xdt tbX2_init_0_ok 29 rfl
theorem dX2_init_60 : decode cX2_init 60 = .ok (.aload_n 0, 1) := xdt tbX2_init_0_ok 30 rfl
theorem dX2_init_61 : decode cX2_init 61 = .ok (.sipush 168, 3) := xdt tbX2_init_0_ok 31 rfl
theorem dX2_init_64 : decode cX2_init 64 = .ok (.newarray .int, 2) := xdt tbX2_init_0_ok 32 rfl
theorem dX2_init_66 : decode cX2_init 66 = .ok (.putfield 36, 3) := xdt tbX2_init_0_ok 33 rfl
theorem dX2_init_69 : decode cX2_init 69 = .ok (.aload_n 0, 1) := xdt tbX2_init_0_ok 34 rfl
theorem dX2_init_70 : decode cX2_init 70 = .ok (.new 39, 3) := xdt tbX2_init_0_ok 35 rfl
theorem dX2_init_73 : decode cX2_init 73 = .ok (.dup, 1) := xdt tbX2_init_0_ok 36 rfl
theorem dX2_init_74 : decode cX2_init 74 = .ok (.invokespecial 41, 3) := xdt tbX2_init_0_ok 37 rfl
theorem dX2_init_77 : decode cX2_init 77 = .ok (.putfield 42, 3) := xdt tbX2_init_0_ok 38 rfl
theorem dX2_init_80 : decode cX2_init 80 = .ok (.return_, 1) := xdt tbX2_init_0_ok 39 rfl
def tbX3_init_0 : List (Nat × Instr × Nat) := [(0, .aload_n 0, 1), (1, .invokespecial 3, 3), (4, .aload_n 0, 1), (5, .aload_n 1, 1), (6, .putfield 9, 3), (9, .aload_n 0, 1), (10, .aload_n 2, 1), (11, .putfield 15, 3), (14, .aload_n 0, 1), (15, .sipush 17496, 3), (18, .newarray .long, 2), (20, .putfield 19, 3), (23, .return_, 1)]
theorem tbX3_init_0_ok : tbX3_init_0.all (fun q => decide (decode cX3_init q.1 = .ok q.2)) = true := by decide +kernel
theorem dX3_init_0 : decode cX3_init 0 = .ok (.aload_n 0, 1) := xdt tbX3_init_0_ok 0 rfl
theorem dX3_init_1 : decode cX3_init 1 = .ok (.invokespecial 3, 3) := xdt tbX3_init_0_ok 1 rfl
theorem dX3_init_4 : decode cX3_init 4 = .ok (.aload_n 0, 1) := xdt tbX3_init_0_ok 2 rfl
theorem dX3_init_5 : decode cX3_init 5 = .ok (.aload_n 1, 1) := xdt tbX3_init_0_ok 3 rfl
theorem dX3_init_6 : decode cX3_init 6 = .ok (.putfield 9, 3) := xdt tbX3_init_0_ok 4 rfl
theorem dX3_init_9 : decode cX3_init 9 = .ok (.aload_n 0, 1) := xdt tbX3_init_0_ok 5 rfl
theorem dX3_init_10 : decode cX3_init 10 = .ok (.aload_n 2, 1) := xdt tbX3_init_0_ok 6 rfl
theorem dX3_init_11 : decode cX3_init 11 = .ok (.putfield 15, 3) := xdt tbX3_init_0_ok 7 rfl
theorem dX3_init_14 : decode cX3_init 14 = .ok (.aload_n 0, 1) := xdt tbX3_init_0_ok 8 rfl
theorem dX3_init_15 : decode cX3_init 15 = .ok (.sipush 17496, 3) := xdt tbX3_init_0_ok 9 rfl
theorem dX3_init_18 : decode cX3_init 18 = .ok (.newarray .long, 2) := xdt tbX3_init_0_ok 10 rfl
theorem dX3_init_20 : decode cX3_init 20 = .ok (.putfield 19, 3) := xdt tbX3_init_0_ok 11 rfl
theorem dX3_init_23 : decode cX3_init 23 = .ok (.return_, 1) := xdt tbX3_init_0_ok 12 rfl
def tbX7_init_0 : List (Nat × Instr × Nat) := [(0, .aload_n 0, 1), (1, .invokespecial 3, 3), (4, .aload_n 0, 1), (5, .bipush 7, 2), (7, .newarray .int, 2), (9, .putfield 9, 3), (12, .aload_n 0, 1), (13, .bipush 7, 2), (15, .newarray .int, 2), (17, .putfield 15, 3), (20, .aload_n 0, 1), (21, .bipush 84, 2), (23, .newarray .int, 2), (25, .putfield 18, 3), (28, .aload_n 0, 1), (29, .bipush 84, 2), (31, .newarray .int, 2), (33, .putfield 21, 3), (36, .aload_n 0, 1), (37, .sipush 128, 3), (40, .newarray .int, 2), (42, .putfield 24, 3), (45, .return_, 1)]
theorem tbX7_init_0_ok : tbX7_init_0.all (fun q => decide (decode cX7_init q.1 = .ok q.2)) = true := by decide +kernel
theorem dX7_init_0 : decode cX7_init 0 = .ok (.aload_n 0, 1) := xdt tbX7_init_0_ok 0 rfl
theorem dX7_init_1 : decode cX7_init 1 = .ok (.invokespecial 3, 3) := xdt tbX7_init_0_ok 1 rfl
theorem dX7_init_4 : decode cX7_init 4 = .ok (.aload_n 0, 1) := xdt tbX7_init_0_ok 2 rfl
theorem dX7_init_5 : decode cX7_init 5 = .ok (.bipush 7, 2) := xdt tbX7_init_0_ok 3 rfl
theorem dX7_init_7 : decode cX7_init 7 = .ok (.newarray .int, 2) := xdt tbX7_init_0_ok 4 rfl
theorem dX7_init_9 : decode cX7_init 9 = .ok (.putfield 9, 3) := xdt tbX7_init_0_ok 5 rfl
theorem dX7_init_12 : decode cX7_init 12 = .ok (.aload_n 0, 1) := xdt tbX7_init_0_ok 6 rfl
theorem dX7_init_13 : decode cX7_init 13 = .ok (.bipush 7, 2) := xdt tbX7_init_0_ok 7 rfl
theorem dX7_init_15 : decode cX7_init 15 = .ok (.newarray .int, 2) := xdt tbX7_init_0_ok 8 rfl
theorem dX7_init_17 : decode cX7_init 17 = .ok (.putfield 15, 3) := xdt tbX7_init_0_ok 9 rfl
theorem dX7_init_20 : decode cX7_init 20 = .ok (.aload_n 0, 1) := xdt tbX7_init_0_ok 10 rfl
theorem dX7_init_21 : decode cX7_init 21 = .ok (.bipush 84, 2) := xdt tbX7_init_0_ok 11 rfl
theorem dX7_init_23 : decode cX7_init 23 = .ok (.newarray .int, 2) := xdt tbX7_init_0_ok 12 rfl
theorem dX7_init_25 : decode cX7_init 25 = .ok (.putfield 18, 3) := xdt tbX7_init_0_ok 13 rfl
theorem dX7_init_28 : decode cX7_init 28 = .ok (.aload_n 0, 1) := xdt tbX7_init_0_ok 14 rfl
theorem dX7_init_29 : decode cX7_init 29 = .ok (.bipush 84, 2) := xdt tbX7_init_0_ok 15 rfl
theorem dX7_init_31 : decode cX7_init 31 = .ok (.newarray .int, 2) := xdt tbX7_init_0_ok 16 rfl
theorem dX7_init_33 : decode cX7_init 33 = .ok (.putfield 21, 3) := xdt tbX7_init_0_ok 17 rfl
theorem dX7_init_36 : decode cX7_init 36 = .ok (.aload_n 0, 1) := xdt tbX7_init_0_ok 18 rfl
theorem dX7_init_37 : decode cX7_init 37 = .ok (.sipush 128, 3) := xdt tbX7_init_0_ok 19 rfl
theorem dX7_init_40 : decode cX7_init 40 = .ok (.newarray .int, 2) := xdt tbX7_init_0_ok 20 rfl
theorem dX7_init_42 : decode cX7_init 42 = .ok (.putfield 24, 3) := xdt tbX7_init_0_ok 21 rfl
theorem dX7_init_45 : decode cX7_init 45 = .ok (.return_, 1) := xdt tbX7_init_0_ok 22 rfl
def tbX8_init_0 : List (Nat × Instr × Nat) := [(0, .aload_n 0, 1), (1, .invokespecial 3, 3), (4, .aload_n 0, 1), (5, .sipush 600, 3), (8, .newarray .int, 2), (10, .putfield 9, 3), (13, .aload_n 0, 1), (14, .new 13, 3), (17, .dup, 1), (18, .invokespecial 15, 3), (21, .putfield 16, 3), (24, .aload_n 0, 1), (25, .new 20, 3), (28, .dup, 1), (29, .invokespecial 22, 3), (32, .putfield 23, 3), (35, .aload_n 0, 1), (36, .new 27, 3), (39, .dup, 1), (40, .invokespecial 29, 3), (43, .putfield 30, 3), (46, .aload_n 0, 1), (47, .new 34, 3), (50, .dup, 1), (51, .aload_n 0, 1), (52, .getfield 23, 3), (55, .invokespecial 36, 3), (58, .putfield 39, 3), (61, .aload_n 0, 1), (62, .new 34, 3), (65, .dup, 1), (66, .aload_n 0, 1), (67, .getfield 23, 3), (70, .invokespecial 36, 3), (73, .putfield 43, 3), (76, .aload_n 0, 1), (77, .bipush 7, 2), (79, .newarray .int, 2), (81, .putfield 46, 3), (84, .aload_n 0, 1), (85, .new 49, 3), (88, .dup, 1), (89, .aload_n 0, 1), (90, .getfield 23, 3), (93, .aload_n 0, 1), (94, .getfield 43, 3), (97, .invokespecial 51, 3), (100, .putfield 54, 3), (103, .aload_n 0, 1), (104, .new 58, 3), (107, .dup, 1), (108, .invokespecial 60, 3), (111, .putfield 61, 3), (114, .aload_n 0, 1), (115, .iconst (-1), 1), (116, .putfield 65, 3), (119, .return_, 1)]
theorem tbX8_init_0_ok : tbX8_init_0.all (fun q => decide (decode cX8_init q.1 = .ok q.2)) = true := by decide +kernel
theorem dX8_init_0 : decode cX8_init 0 = .ok (.aload_n 0, 1) := xdt tbX8_init_0_ok 0 rfl
theorem dX8_init_1 : decode cX8_init 1 = .ok (.invokespecial 3, 3) := xdt tbX8_init_0_ok 1 rfl
theorem dX8_init_4 : decode cX8_init 4 = .ok (.aload_n 0, 1) := xdt tbX8_init_0_ok 2 rfl
theorem dX8_init_5 : decode cX8_init 5 = .ok (.sipush 600, 3) := xdt tbX8_init_0_ok 3 rfl
theorem dX8_init_8 : decode cX8_init 8 = .ok (.newarray .int, 2) := xdt tbX8_init_0_ok 4 rfl
theorem dX8_init_10 : decode cX8_init 10 = .ok (.putfield 9, 3) := xdt tbX8_init_0_ok 5 rfl
theorem dX8_init_13 : decode cX8_init 13 = .ok (.aload_n 0, 1) := xdt tbX8_init_0_ok 6 rfl
theorem dX8_init_14 : decode cX8_init 14 = .ok (.new 13, 3) := xdt tbX8_init_0_ok 7 rfl
theorem dX8_init_17 : decode cX8_init 17 = .ok (.dup, 1) := xdt tbX8_init_0_ok 8 rfl
theorem dX8_init_18 : decode cX8_init 18 = .ok (.invokespecial 15, 3) := xdt tbX8_init_0_ok 9 rfl
theorem dX8_init_21 : decode cX8_init 21 = .ok (.putfield 16, 3) := xdt tbX8_init_0_ok 10 rfl
theorem dX8_init_24 : decode cX8_init 24 = .ok (.aload_n 0, 1) := xdt tbX8_init_0_ok 11 rfl
theorem dX8_init_25 : decode cX8_init 25 = .ok (.new 20, 3) := xdt tbX8_init_0_ok 12 rfl
theorem dX8_init_28 : decode cX8_init 28 = .ok (.dup, 1) := xdt tbX8_init_0_ok 13 rfl
theorem dX8_init_29 : decode cX8_init 29 = .ok (.invokespecial 22, 3) := xdt tbX8_init_0_ok 14 rfl
theorem dX8_init_32 : decode cX8_init 32 = .ok (.putfield 23, 3) := xdt tbX8_init_0_ok 15 rfl
theorem dX8_init_35 : decode cX8_init 35 = .ok (.aload_n 0, 1) := xdt tbX8_init_0_ok 16 rfl
theorem dX8_init_36 : decode cX8_init 36 = .ok (.new 27, 3) := xdt tbX8_init_0_ok 17 rfl
theorem dX8_init_39 : decode cX8_init 39 = .ok (.dup, 1) := xdt tbX8_init_0_ok 18 rfl
theorem dX8_init_40 : decode cX8_init 40 = .ok (.invokespecial 29, 3) := xdt tbX8_init_0_ok 19 rfl
theorem dX8_init_43 : decode cX8_init 43 = .ok (.putfield 30, 3) := xdt tbX8_init_0_ok 20 rfl
theorem dX8_init_46 : decode cX8_init 46 = .ok (.aload_n 0, 1) := xdt tbX8_init_0_ok 21 rfl
theorem dX8_init_47 : decode cX8_init 47 = .ok (.new 34, 3) := xdt tbX8_init_0_ok 22 rfl
theorem dX8_init_50 : decode cX8_init 50 = .ok (.dup, 1) := xdt tbX8_init_0_ok 23 rfl
theorem dX8_init_51 : decode cX8_init 51 = .ok (.aload_n 0, 1) := xdt tbX8_init_0_ok 24 rfl
theorem dX8_init_52 : decode cX8_init 52 = .ok (.getfield 23, 3) := xdt tbX8_init_0_ok 25 rfl
theorem dX8_init_55 : decode cX8_init 55 = .ok (.invokespecial 36, 3) := xdt tbX8_init_0_ok 26 rfl
theorem dX8_init_58 : decode cX8_init 58 = .ok (.putfield 39, 3) := xdt tbX8_init_0_ok 27 rfl
theorem dX8_init_61 : decode cX8_init 61 = .ok (.aload_n 0, 1) := xdt tbX8_init_0_ok 28 rfl
theorem dX8_init_62 : decode cX8_init 62 = .ok (.new 34, 3) := xdt tbX8_init_0_ok 29 rfl
theorem dX8_init_65 : decode cX8_init 65 = .ok (.dup, 1) := xdt tbX8_init_0_ok 30 rfl
theorem dX8_init_66 : decode cX8_init 66 = .ok (.aload_n 0, 1) := xdt tbX8_init_0_ok 31 rfl
theorem dX8_init_67 : decode cX8_init 67 = .ok (.getfield 23, 3) := xdt tbX8_init_0_ok 32 rfl
theorem dX8_init_70 : decode cX8_init 70 = .ok (.invokespecial 36, 3) := xdt tbX8_init_0_ok 33 rfl
theorem dX8_init_73 : decode cX8_init 73 = .ok (.putfield 43, 3) := xdt tbX8_init_0_ok 34 rfl
theorem dX8_init_76 : decode cX8_init 76 = .ok (.aload_n 0, 1) := xdt tbX8_init_0_ok 35 rfl
theorem dX8_init_77 : decode cX8_init 77 = .ok (.bipush 7, 2) := xdt tbX8_init_0_ok 36 rfl
theorem dX8_init_79 : decode cX8_init 79 = .ok (.newarray .int, 2) := xdt tbX8_init_0_ok 37 rfl
theorem dX8_init_81 : decode cX8_init 81 = .ok (.putfield 46, 3) := xdt tbX8_init_0_ok 38 rfl
theorem dX8_init_84 : decode cX8_init 84 = .ok (.aload_n 0, 1) := xdt tbX8_init_0_ok 39 rfl
theorem dX8_init_85 : decode cX8_init 85 = .ok (.new 49, 3) := xdt tbX8_init_0_ok 40 rfl
theorem dX8_init_88 : decode cX8_init 88 = .ok (.dup, 1) := xdt tbX8_init_0_ok 41 rfl
theorem dX8_init_89 : decode cX8_init 89 = .ok (.aload_n 0, 1) := xdt tbX8_init_0_ok 42 rfl
theorem dX8_init_90 : decode cX8_init 90 = .ok (.getfield 23, 3) := xdt tbX8_init_0_ok 43 rfl
theorem dX8_init_93 : decode cX8_init 93 = .ok (.aload_n 0, 1) := xdt tbX8_init_0_ok 44 rfl
theorem dX8_init_94 : decode cX8_init 94 = .ok (.getfield 43, 3) := xdt tbX8_init_0_ok 45 rfl
theorem dX8_init_97 : decode cX8_init 97 = .ok (.invokespecial 51, 3) := xdt tbX8_init_0_ok 46 rfl
theorem dX8_init_100 : decode cX8_init 100 = .ok (.putfield 54, 3) := xdt tbX8_init_0_ok 47 rfl
theorem dX8_init_103 : decode cX8_init 103 = .ok (.aload_n 0, 1) := xdt tbX8_init_0_ok 48 rfl
theorem dX8_init_104 : decode cX8_init 104 = .ok (.new 58, 3) := xdt tbX8_init_0_ok 49 rfl
theorem dX8_init_107 : decode cX8_init 107 = .ok (.dup, 1) := xdt tbX8_init_0_ok 50 rfl
theorem dX8_init_108 : decode cX8_init 108 = .ok (.invokespecial 60, 3) := xdt tbX8_init_0_ok 51 rfl
theorem dX8_init_111 : decode cX8_init 111 = .ok (.putfield 61, 3) := xdt tbX8_init_0_ok 52 rfl
theorem dX8_init_114 : decode cX8_init 114 = .ok (.aload_n 0, 1) := xdt tbX8_init_0_ok 53 rfl
theorem dX8_init_115 : decode cX8_init 115 = .ok (.iconst (-1), 1) := xdt tbX8_init_0_ok 54 rfl
theorem dX8_init_116 : decode cX8_init 116 = .ok (.putfield 65, 3) := xdt tbX8_init_0_ok 55 rfl
theorem dX8_init_119 : decode cX8_init 119 = .ok (.return_, 1) := xdt tbX8_init_0_ok 56 rfl
def tbX9_init_0 : List (Nat × Instr × Nat) := [(0, .aload_n 0, 1), (1, .invokespecial 3, 3), (4, .aload_n 0, 1), (5, .iconst 3, 1), (6, .newarray .int, 2), (8, .putfield 9, 3), (11, .aload_n 0, 1), (12, .iconst (-1), 1), (13, .putfield 13, 3), (16, .aload_n 0, 1), (17, .sipush 600, 3), (20, .newarray .int, 2), (22, .putfield 17, 3), (25, .aload_n 0, 1), (26, .sipush 3820, 3), (29, .newarray .int, 2), (31, .putfield 20, 3), (34, .aload_n 0, 1), (35, .sipush 3820, 3), (38, .newarray .int, 2), (40, .putfield 23, 3), (43, .aload_n 0, 1), (44, .bipush 84, 2), (46, .newarray .boolean, 2), (48, .putfield 26, 3), (51, .aload_n 0, 1), (52, .bipush 16, 2), (54, .newarray .int, 2), (56, .putfield 30, 3), (59, .aload_n 0, 1), (60, .bipush 16, 2), (62, .newarray .int, 2), (64, .putfield 33, 3), (67, .aload_n 0, 1), (68, .bipush 16, 2), (70, .newarray .int, 2), (72, .putfield 36, 3), (75, .aload_n 0, 1), (76, .bipush 7, 2), (78, .newarray .int, 2), (80, .putfield 39, 3), (83, .aload_n 0, 1), (84, .bipush 7, 2), (86, .newarray .int, 2), (88, .putfield 42, 3), (91, .aload_n 0, 1), (92, .bipush 84, 2), (94, .newarray .int, 2), (96, .putfield 45, 3), (99, .aload_n 0, 1), (100, .bipush 7, 2), (102, .newarray .int, 2), (104, .putfield 48, 3), (107, .aload_n 0, 1), (108, .bipush 7, 2), (110, .newarray .int, 2), (112, .putfield 51, 3), (115, .aload_n 0, 1), (116, .bipush 7, 2), (118, .newarray .int, 2)]
theorem tbX9_init_0_ok : tbX9_init_0.all (fun q => decide (decode cX9_init q.1 = .ok q.2)) = true := by decide +kernel
theorem dX9_init_0 : decode cX9_init 0 = .ok (.aload_n 0, 1) := xdt tbX9_init_0_ok 0 rfl
theorem dX9_init_1 : decode cX9_init 1 = .ok (.invokespecial 3, 3) := xdt tbX9_init_0_ok 1 rfl
theorem dX9_init_4 : decode cX9_init 4 = .ok (.aload_n 0, 1) := xdt tbX9_init_0_ok 2 rfl
theorem dX9_init_5 : decode cX9_init 5 = .ok (.iconst 3, 1) := xdt tbX9_init_0_ok 3 rfl
theorem dX9_init_6 : decode cX9_init 6 = .ok (.newarray .int, 2) := xdt tbX9_init_0_ok 4 rfl
theorem dX9_init_8 : decode cX9_init 8 = .ok (.putfield 9, 3) := xdt tbX9_init_0_ok 5 rfl
theorem dX9_init_11 : decode cX9_init 11 = .ok (.aload_n 0, 1) := xdt tbX9_init_0_ok 6 rfl
theorem dX9_init_12 : decode cX9_init 12 = .ok (.iconst (-1), 1) := xdt tbX9_init_0_ok 7 rfl
theorem dX9_init_13 : decode cX9_init 13 = .ok (.putfield 13, 3) := xdt tbX9_init_0_ok 8 rfl
theorem dX9_init_16 : decode cX9_init 16 = .ok (.aload_n 0, 1) := xdt tbX9_init_0_ok 9 rfl
theorem dX9_init_17 : decode cX9_init 17 = .ok (.sipush 600, 3) := xdt tbX9_init_0_ok 10 rfl
theorem dX9_init_20 : decode cX9_init 20 = .ok (.newarray .int, 2) := xdt tbX9_init_0_ok 11 rfl
theorem dX9_init_22 : decode cX9_init 22 = .ok (.putfield 17, 3) := xdt tbX9_init_0_ok 12 rfl
theorem dX9_init_25 : decode cX9_init 25 = .ok (.aload_n 0, 1) := xdt tbX9_init_0_ok 13 rfl
theorem dX9_init_26 : decode cX9_init 26 = .ok (.sipush 3820, 3) := xdt tbX9_init_0_ok 14 rfl
theorem dX9_init_29 : decode cX9_init 29 = .ok (.newarray .int, 2) := xdt tbX9_init_0_ok 15 rfl
theorem dX9_init_31 : decode cX9_init 31 = .ok (.putfield 20, 3) := xdt tbX9_init_0_ok 16 rfl
theorem dX9_init_34 : decode cX9_init 34 = .ok (.aload_n 0, 1) := xdt tbX9_init_0_ok 17 rfl
theorem dX9_init_35 : decode cX9_init 35 = .ok (.sipush 3820, 3) := xdt tbX9_init_0_ok 18 rfl
theorem dX9_init_38 : decode cX9_init 38 = .ok (.newarray .int, 2) := xdt tbX9_init_0_ok 19 rfl
theorem dX9_init_40 : decode cX9_init 40 = .ok (.putfield 23, 3) := xdt tbX9_init_0_ok 20 rfl
theorem dX9_init_43 : decode cX9_init 43 = .ok (.aload_n 0, 1) := xdt tbX9_init_0_ok 21 rfl
theorem dX9_init_44 : decode cX9_init 44 = .ok (.bipush 84, 2) := xdt tbX9_init_0_ok 22 rfl
theorem dX9_init_46 : decode cX9_init 46 = .ok (.newarray .boolean, 2) := xdt tbX9_init_0_ok 23 rfl
theorem dX9_init_48 : decode cX9_init 48 = .ok (.putfield 26, 3) := xdt tbX9_init_0_ok 24 rfl
theorem dX9_init_51 : decode cX9_init 51 = .ok (.aload_n 0, 1) := xdt tbX9_init_0_ok 25 rfl
theorem dX9_init_52 : decode cX9_init 52 = .ok (.bipush 16, 2) := xdt tbX9_init_0_ok 26 rfl
theorem dX9_init_54 : decode cX9_init 54 = .ok (.newarray .int, 2) := xdt tbX9_init_0_ok 27 rfl
theorem dX9_init_56 : decode cX9_init 56 = .ok (.putfield 30, 3) := xdt tbX9_init_0_ok 28 rfl
theorem dX9_init_59 : decode cX9_init 59 = .ok (.aload_n 0, 1) := xdt tbX9_init_0_ok 29 rfl
theorem dX9_init_60 : decode cX9_init 60 = .ok (.bipush 16, 2) := xdt tbX9_init_0_ok 30 rfl
theorem dX9_init_62 : decode cX9_init 62 = .ok (.newarray .int, 2) := xdt tbX9_init_0_ok 31 rfl
theorem dX9_init_64 : decode cX9_init 64 = .ok (.putfield 33, 3) := xdt tbX9_init_0_ok 32 rfl
theorem dX9_init_67 : decode cX9_init 67 = .ok (.aload_n 0, 1) := xdt tbX9_init_0_ok 33 rfl
theorem dX9_init_68 : decode cX9_init 68 = .ok (.bipush 16, 2) := xdt tbX9_init_0_ok 34 rfl
theorem dX9_init_70 : decode cX9_init 70 = .ok (.newarray .int, 2) := xdt tbX9_init_0_ok 35 rfl
theorem dX9_init_72 : decode cX9_init 72 = .ok (.putfield 36, 3) := xdt tbX9_init_0_ok 36 rfl
theorem dX9_init_75 : decode cX9_init 75 = .ok (.aload_n 0, 1) := xdt tbX9_init_0_ok 37 rfl
theorem dX9_init_76 : decode cX9_init 76 = .ok (.bipush 7, 2) := xdt tbX9_init_0_ok 38 rfl
theorem dX9_init_78 : decode cX9_init 78 = .ok (.newarray .int, 2) := xdt tbX9_init_0_ok 39 rfl
theorem dX9_init_80 : decode cX9_init 80 = .ok (.putfield 39, 3) := xdt tbX9_init_0_ok 40 rfl
theorem dX9_init_83 : decode cX9_init 83 = .ok (.aload_n 0, 1) := xdt tbX9_init_0_ok 41 rfl
theorem dX9_init_84 : decode cX9_init 84 = .ok (.bipush 7, 2) := xdt tbX9_init_0_ok 42 rfl
theorem dX9_init_86 : decode cX9_init 86 = .ok (.newarray .int, 2) := xdt tbX9_init_0_ok 43 rfl
theorem dX9_init_88 : decode cX9_init 88 = .ok (.putfield 42, 3) := xdt tbX9_init_0_ok 44 rfl
theorem dX9_init_91 : decode cX9_init 91 = .ok (.aload_n 0, 1) := xdt tbX9_init_0_ok 45 rfl
theorem dX9_init_92 : decode cX9_init 92 = .ok (.bipush 84, 2) := xdt tbX9_init_0_ok 46 rfl
theorem dX9_init_94 : decode cX9_init 94 = .ok (.newarray .int, 2) := xdt tbX9_init_0_ok 47 rfl
theorem dX9_init_96 : decode cX9_init 96 = .ok (.putfield 45, 3) := xdt tbX9_init_0_ok 48 rfl
theorem dX9_init_99 : decode cX9_init 99 = .ok (.aload_n 0, 1) := xdt tbX9_init_0_ok 49 rfl
theorem dX9_init_100 : decode cX9_init 100 = .ok (.bipush 7, 2) := xdt tbX9_init_0_ok 50 rfl
theorem dX9_init_102 : decode cX9_init 102 = .ok (.newarray .int, 2) := xdt tbX9_init_0_ok 51 rfl
theorem dX9_init_104 : decode cX9_init 104 = .ok (.putfield 48, 3) := xdt tbX9_init_0_ok 52 rfl
theorem dX9_init_107 : decode cX9_init 107 = .ok (.aload_n 0, 1) := xdt tbX9_init_0_ok 53 rfl
theorem dX9_init_108 : decode cX9_init 108 = .ok (.bipush 7, 2) := xdt tbX9_init_0_ok 54 rfl
theorem dX9_init_110 : decode cX9_init 110 = .ok (.newarray .int, 2) := xdt tbX9_init_0_ok 55 rfl
theorem dX9_init_112 : decode cX9_init 112 = .ok (.putfield 51, 3) := xdt tbX9_init_0_ok 56 rfl
theorem dX9_init_115 : decode cX9_init 115 = .ok (.aload_n 0, 1) := xdt tbX9_init_0_ok 57 rfl
theorem dX9_init_116 : decode cX9_init 116 = .ok (.bipush 7, 2) := xdt tbX9_init_0_ok 58 rfl
theorem dX9_init_118 : decode cX9_init 118 = .ok (.newarray .int, 2) := xdt tbX9_init_0_ok 59 rfl
def tbX9_init_60 : List (Nat × Instr × Nat) := [(120, .putfield 54, 3), (123, .aload_n 0, 1), (124, .bipush 21, 2), (126, .newarray .int, 2), (128, .putfield 57, 3), (131, .aload_n 0, 1), (132, .bipush 21, 2), (134, .newarray .int, 2), (136, .putfield 60, 3), (139, .aload_n 0, 1), (140, .bipush 84, 2), (142, .newarray .boolean, 2), (144, .putfield 63, 3), (147, .aload_n 0, 1), (148, .sipush 18006, 3), (151, .newarray .int, 2), (153, .putfield 66, 3), (156, .aload_n 0, 1), (157, .ldc 69, 2), (159, .newarray .int, 2), (161, .putfield 70, 3), (164, .aload_n 0, 1), (165, .ldc 69, 2), (167, .newarray .int, 2), (169, .putfield 73, 3), (172, .aload_n 0, 1), (173, .bipush 84, 2), (175, .newarray .int, 2), (177, .putfield 76, 3), (180, .aload_n 0, 1), (181, .bipush 7, 2), (183, .newarray .int, 2), (185, .putfield 79, 3), (188, .aload_n 0, 1), (189, .bipush 7, 2), (191, .newarray .int, 2), (193, .putfield 82, 3), (196, .aload_n 0, 1), (197, .bipush 84, 2), (199, .newarray .boolean, 2), (201, .putfield 85, 3), (204, .aload_n 0, 1), (205, .bipush 7, 2), (207, .newarray .int, 2), (209, .putfield 88, 3), (212, .return_, 1)]
theorem tbX9_init_60_ok : tbX9_init_60.all (fun q => decide (decode cX9_init q.1 = .ok q.2)) = true := by decide +kernel
theorem dX9_init_120 : decode cX9_init 120 = .ok (.putfield 54, 3) := xdt tbX9_init_60_ok 0 rfl
theorem dX9_init_123 : decode cX9_init 123 = .ok (.aload_n 0, 1) := xdt tbX9_init_60_ok 1 rfl
theorem dX9_init_124 : decode cX9_init 124 = .ok (.bipush 21, 2) := xdt tbX9_init_60_ok 2 rfl
theorem dX9_init_126 : decode cX9_init 126 = .ok (.newarray .int, 2) := xdt tbX9_init_60_ok 3 rfl
theorem dX9_init_128 : decode cX9_init 128 = .ok (.putfield 57, 3) := xdt tbX9_init_60_ok 4 rfl
theorem dX9_init_131 : decode cX9_init 131 = .ok (.aload_n 0, 1) := xdt tbX9_init_60_ok 5 rfl
theorem dX9_init_132 : decode cX9_init 132 = .ok (.bipush 21, 2) := xdt tbX9_init_60_ok 6 rfl
theorem dX9_init_134 : decode cX9_init 134 = .ok (.newarray .int, 2) := xdt tbX9_init_60_ok 7 rfl
theorem dX9_init_136 : decode cX9_init 136 = .ok (.putfield 60, 3) := xdt tbX9_init_60_ok 8 rfl
theorem dX9_init_139 : decode cX9_init 139 = .ok (.aload_n 0, 1) := xdt tbX9_init_60_ok 9 rfl
theorem dX9_init_140 : decode cX9_init 140 = .ok (.bipush 84, 2) := xdt tbX9_init_60_ok 10 rfl
theorem dX9_init_142 : decode cX9_init 142 = .ok (.newarray .boolean, 2) := xdt tbX9_init_60_ok 11 rfl
theorem dX9_init_144 : decode cX9_init 144 = .ok (.putfield 63, 3) := xdt tbX9_init_60_ok 12 rfl
theorem dX9_init_147 : decode cX9_init 147 = .ok (.aload_n 0, 1) := xdt tbX9_init_60_ok 13 rfl
theorem dX9_init_148 : decode cX9_init 148 = .ok (.sipush 18006, 3) := xdt tbX9_init_60_ok 14 rfl
theorem dX9_init_151 : decode cX9_init 151 = .ok (.newarray .int, 2) := xdt tbX9_init_60_ok 15 rfl
theorem dX9_init_153 : decode cX9_init 153 = .ok (.putfield 66, 3) := xdt tbX9_init_60_ok 16 rfl
theorem dX9_init_156 : decode cX9_init 156 = .ok (.aload_n 0, 1) := xdt tbX9_init_60_ok 17 rfl
theorem dX9_init_157 : decode cX9_init 157 = .ok (.ldc 69, 2) := xdt tbX9_init_60_ok 18 rfl
theorem dX9_init_159 : decode cX9_init 159 = .ok (.newarray .int, 2) := xdt tbX9_init_60_ok 19 rfl
theorem dX9_init_161 : decode cX9_init 161 = .ok (.putfield 70, 3) := xdt tbX9_init_60_ok 20 rfl
theorem dX9_init_164 : decode cX9_init 164 = .ok (.aload_n 0, 1) := xdt tbX9_init_60_ok 21 rfl
theorem dX9_init_165 : decode cX9_init 165 = .ok (.ldc 69, 2) := xdt tbX9_init_60_ok 22 rfl
theorem dX9_init_167 : decode cX9_init 167 = .ok (.newarray .int, 2) := xdt tbX9_init_60_ok 23 rfl
theorem dX9_init_169 : decode cX9_init 169 = .ok (.putfield 73, 3) := xdt tbX9_init_60_ok 24 rfl
theorem dX9_init_172 : decode cX9_init 172 = .ok (.aload_n 0, 1) := xdt tbX9_init_60_ok 25 rfl
theorem dX9_init_173 : decode cX9_init 173 = .ok (.bipush 84, 2) := xdt tbX9_init_60_ok 26 rfl
theorem dX9_init_175 : decode cX9_init 175 = .ok (.newarray .int, 2) := xdt tbX9_init_60_ok 27 rfl
theorem dX9_init_177 : decode cX9_init 177 = .ok (.putfield 76, 3) := xdt tbX9_init_60_ok 28 rfl
theorem dX9_init_180 : decode cX9_init 180 = .ok (.aload_n 0, 1) := xdt tbX9_init_60_ok 29 rfl
theorem dX9_init_181 : decode cX9_init 181 = .ok (.bipush 7, 2) := xdt tbX9_init_60_ok 30 rfl
theorem dX9_init_183 : decode cX9_init 183 = .ok (.newarray .int, 2) := xdt tbX9_init_60_ok 31 rfl
theorem dX9_init_185 : decode cX9_init 185 = .ok (.putfield 79, 3) := xdt tbX9_init_60_ok 32 rfl
theorem dX9_init_188 : decode cX9_init 188 = .ok (.aload_n 0, 1) := xdt tbX9_init_60_ok 33 rfl
theorem dX9_init_189 : decode cX9_init 189 = .ok (.bipush 7, 2) := xdt tbX9_init_60_ok 34 rfl
theorem dX9_init_191 : decode cX9_init 191 = .ok (.newarray .int, 2) := xdt tbX9_init_60_ok 35 rfl
theorem dX9_init_193 : decode cX9_init 193 = .ok (.putfield 82, 3) := xdt tbX9_init_60_ok 36 rfl
theorem dX9_init_196 : decode cX9_init 196 = .ok (.aload_n 0, 1) := xdt tbX9_init_60_ok 37 rfl
theorem dX9_init_197 : decode cX9_init 197 = .ok (.bipush 84, 2) := xdt tbX9_init_60_ok 38 rfl
theorem dX9_init_199 : decode cX9_init 199 = .ok (.newarray .boolean, 2) := xdt tbX9_init_60_ok 39 rfl
theorem dX9_init_201 : decode cX9_init 201 = .ok (.putfield 85, 3) := xdt tbX9_init_60_ok 40 rfl
theorem dX9_init_204 : decode cX9_init 204 = .ok (.aload_n 0, 1) := xdt tbX9_init_60_ok 41 rfl
theorem dX9_init_205 : decode cX9_init 205 = .ok (.bipush 7, 2) := xdt tbX9_init_60_ok 42 rfl
theorem dX9_init_207 : decode cX9_init 207 = .ok (.newarray .int, 2) := xdt tbX9_init_60_ok 43 rfl
theorem dX9_init_209 : decode cX9_init 209 = .ok (.putfield 88, 3) := xdt tbX9_init_60_ok 44 rfl
theorem dX9_init_212 : decode cX9_init 212 = .ok (.return_, 1) := xdt tbX9_init_60_ok 45 rfl
theorem q170 : (Cond.methodLink "BeginJudge" 3 ⟨"java/lang/Object", "<init>", "()V"⟩) ∈ xB := xmt1 28 rfl rfl
theorem q171 : (Cond.instanceMethod ⟨"java/lang/Object", "<init>", "()V"⟩) ∈ xB := xmt1 29 rfl rfl
theorem q172 : (Cond.code ⟨"java/lang/Object", "<init>", "()V"⟩ object_method_1_code 1 none) ∈ xB := xmt1 30 rfl rfl
theorem q173 : (Cond.classLink "BeginJudge" 13 "BeginJudge$Reader") ∈ xB := xmt1 31 rfl rfl
theorem q174 : (Cond.instantiable "BeginJudge$Reader" 14) ∈ xB := xmt1 32 rfl rfl
theorem q175 : (Cond.methodLink "BeginJudge" 15 ⟨"BeginJudge$Reader", "<init>", "()V"⟩) ∈ xB := xmt1 33 rfl rfl
theorem q176 : (Cond.instanceMethod ⟨"BeginJudge$Reader", "<init>", "()V"⟩) ∈ xB := xmt1 34 rfl rfl
theorem q177 : (Cond.code ⟨"BeginJudge$Reader", "<init>", "()V"⟩ prog_3_method_1_code 1 none) ∈ xB := xmt1 35 rfl rfl
theorem q178 : (Cond.methodLink "BeginJudge$Reader" 3 ⟨"java/lang/Object", "<init>", "()V"⟩) ∈ xB := xmt1 36 rfl rfl
theorem q179 : (Cond.classLink "BeginJudge$Reader" 9 "BeginJudge$Units") ∈ xB := xmt1 37 rfl rfl
theorem q180 : (Cond.instantiable "BeginJudge$Units" 14) ∈ xB := xmt1 38 rfl rfl
theorem q181 : (Cond.methodLink "BeginJudge$Reader" 11 ⟨"BeginJudge$Units", "<init>", "()V"⟩) ∈ xB := xmt1 39 rfl rfl
theorem q182 : (Cond.instanceMethod ⟨"BeginJudge$Units", "<init>", "()V"⟩) ∈ xB := xmt1 40 rfl rfl
theorem q183 : (Cond.code ⟨"BeginJudge$Units", "<init>", "()V"⟩ prog_8_method_1_code 1 none) ∈ xB := xmt1 41 rfl rfl
theorem q184 : (Cond.methodLink "BeginJudge$Units" 3 ⟨"java/lang/Object", "<init>", "()V"⟩) ∈ xB := xmt1 42 rfl rfl
theorem q185 : (Cond.classLink "BeginJudge$Units" 45 "BeginJudge$Sums") ∈ xB := xmt1 43 rfl rfl
theorem q186 : (Cond.instantiable "BeginJudge$Sums" 7) ∈ xB := xmt1 44 rfl rfl
theorem q187 : (Cond.methodLink "BeginJudge$Units" 47 ⟨"BeginJudge$Sums", "<init>", "()V"⟩) ∈ xB := xmt1 45 rfl rfl
theorem q188 : (Cond.instanceMethod ⟨"BeginJudge$Sums", "<init>", "()V"⟩) ∈ xB := xmt1 46 rfl rfl
theorem q189 : (Cond.code ⟨"BeginJudge$Sums", "<init>", "()V"⟩ prog_7_method_1_code 1 none) ∈ xB := xmt1 47 rfl rfl
theorem q190 : (Cond.methodLink "BeginJudge$Sums" 3 ⟨"java/lang/Object", "<init>", "()V"⟩) ∈ xB := xmt1 48 rfl rfl
theorem q197 : (Cond.fieldLink "BeginJudge$Sums" 15 "BeginJudge$Sums" "operand" "[I") ∈ xB := xmt1 55 rfl rfl
theorem q211 : (Cond.fieldLink "BeginJudge$Sums" 24 "BeginJudge$Sums" "target" "[I") ∈ xB := xmt1 69 rfl rfl
theorem q231 : (Cond.arrayClass .int) ∈ xB := xmt1 89 rfl rfl
theorem q275 : (Cond.fieldLink "BeginJudge$Units" 42 "BeginJudge$Units" "stepDeed" "[I") ∈ xB := xmt1 133 rfl rfl
theorem q354 : (Cond.classLink "BeginJudge" 20 "BeginJudge$Units") ∈ xB := xmt1 212 rfl rfl
theorem q355 : (Cond.methodLink "BeginJudge" 22 ⟨"BeginJudge$Units", "<init>", "()V"⟩) ∈ xB := xmt1 213 rfl rfl
theorem q356 : (Cond.classLink "BeginJudge" 27 "BeginJudge$Changes") ∈ xB := xmt1 214 rfl rfl
theorem q357 : (Cond.instantiable "BeginJudge$Changes" 5) ∈ xB := xmt1 215 rfl rfl
theorem q358 : (Cond.methodLink "BeginJudge" 29 ⟨"BeginJudge$Changes", "<init>", "()V"⟩) ∈ xB := xmt1 216 rfl rfl
theorem q359 : (Cond.instanceMethod ⟨"BeginJudge$Changes", "<init>", "()V"⟩) ∈ xB := xmt1 217 rfl rfl
theorem q360 : (Cond.code ⟨"BeginJudge$Changes", "<init>", "()V"⟩ prog_2_method_1_code 1 none) ∈ xB := xmt1 218 rfl rfl
theorem q361 : (Cond.methodLink "BeginJudge$Changes" 3 ⟨"java/lang/Object", "<init>", "()V"⟩) ∈ xB := xmt1 219 rfl rfl
theorem q379 : (Cond.classLink "BeginJudge" 34 "BeginJudge$Run") ∈ xB := xmt1 237 rfl rfl
theorem q380 : (Cond.instantiable "BeginJudge$Run" 18) ∈ xB := xmt1 238 rfl rfl
theorem q381 : (Cond.methodLink "BeginJudge" 36 ⟨"BeginJudge$Run", "<init>", "(LBeginJudge$Units;)V"⟩) ∈ xB := xmt1 239 rfl rfl
theorem q382 : (Cond.instanceMethod ⟨"BeginJudge$Run", "<init>", "(LBeginJudge$Units;)V"⟩) ∈ xB := xmt2 0 rfl rfl
theorem q383 : (Cond.code ⟨"BeginJudge$Run", "<init>", "(LBeginJudge$Units;)V"⟩ prog_4_method_1_code 2 none) ∈ xB := xmt2 1 rfl rfl
theorem q384 : (Cond.methodLink "BeginJudge$Run" 3 ⟨"java/lang/Object", "<init>", "()V"⟩) ∈ xB := xmt2 2 rfl rfl
theorem q385 : (Cond.classLink "BeginJudge$Run" 28 "[[I") ∈ xB := xmt2 3 rfl rfl
theorem q387 : (Cond.classLink "BeginJudge$Run" 39 "BeginJudge$Sight") ∈ xB := xmt2 5 rfl rfl
theorem q388 : (Cond.instantiable "BeginJudge$Sight" 8) ∈ xB := xmt2 6 rfl rfl
theorem q389 : (Cond.methodLink "BeginJudge$Run" 41 ⟨"BeginJudge$Sight", "<init>", "()V"⟩) ∈ xB := xmt2 7 rfl rfl
theorem q390 : (Cond.instanceMethod ⟨"BeginJudge$Sight", "<init>", "()V"⟩) ∈ xB := xmt2 8 rfl rfl
theorem q391 : (Cond.code ⟨"BeginJudge$Sight", "<init>", "()V"⟩ prog_6_method_1_code 1 none) ∈ xB := xmt2 9 rfl rfl
theorem q392 : (Cond.methodLink "BeginJudge$Sight" 3 ⟨"java/lang/Object", "<init>", "()V"⟩) ∈ xB := xmt2 10 rfl rfl
theorem q393 : (Cond.fieldLink "BeginJudge$Sight" 9 "BeginJudge$Sight" "wanted" "I") ∈ xB := xmt2 11 rfl rfl
theorem q495 : (Cond.classLink "BeginJudge" 49 "BeginJudge$Search") ∈ xB := xmt2 113 rfl rfl
theorem q496 : (Cond.instantiable "BeginJudge$Search" 7) ∈ xB := xmt2 114 rfl rfl
theorem q497 : (Cond.methodLink "BeginJudge" 51 ⟨"BeginJudge$Search", "<init>", "(LBeginJudge$Units;LBeginJudge$Run;)V"⟩) ∈ xB := xmt2 115 rfl rfl
theorem q498 : (Cond.instanceMethod ⟨"BeginJudge$Search", "<init>", "(LBeginJudge$Units;LBeginJudge$Run;)V"⟩) ∈ xB := xmt2 116 rfl rfl
theorem q499 : (Cond.code ⟨"BeginJudge$Search", "<init>", "(LBeginJudge$Units;LBeginJudge$Run;)V"⟩ prog_5_method_1_code 3 none) ∈ xB := xmt2 117 rfl rfl
theorem q500 : (Cond.methodLink "BeginJudge$Search" 3 ⟨"java/lang/Object", "<init>", "()V"⟩) ∈ xB := xmt2 118 rfl rfl
theorem q527 : (Cond.arrayClass .long) ∈ xB := xmt2 145 rfl rfl
theorem q528 : (Cond.classLink "BeginJudge" 58 "BeginJudge$Web") ∈ xB := xmt2 146 rfl rfl
theorem q529 : (Cond.instantiable "BeginJudge$Web" 8) ∈ xB := xmt2 147 rfl rfl
theorem q530 : (Cond.methodLink "BeginJudge" 60 ⟨"BeginJudge$Web", "<init>", "()V"⟩) ∈ xB := xmt2 148 rfl rfl
theorem q531 : (Cond.instanceMethod ⟨"BeginJudge$Web", "<init>", "()V"⟩) ∈ xB := xmt2 149 rfl rfl
theorem q532 : (Cond.code ⟨"BeginJudge$Web", "<init>", "()V"⟩ prog_9_method_1_code 1 none) ∈ xB := xmt2 150 rfl rfl
theorem q533 : (Cond.methodLink "BeginJudge$Web" 3 ⟨"java/lang/Object", "<init>", "()V"⟩) ∈ xB := xmt2 151 rfl rfl
theorem q1389 : (Cond.methodLink "BeginJudgeModel" 3 ⟨"java/lang/Object", "<init>", "()V"⟩) ∈ xB := xmt6 47 rfl rfl
theorem q1390 : (Cond.constant "BeginJudgeModel" 69 60020) ∈ xB := xmt6 48 rfl rfl
theorem q1533 : (Cond.arrayClass .boolean) ∈ xB := xmt6 191 rfl rfl
theorem xdf0 : ∀ j, j < 5 → ∃ t, (xtab.getD 0 [])[j]? = some t ∧ defaultValue (tyX0 j) = if t = 0 then .int 0 else .null := by
  intro j hj
  have h : ∀ j, j < 5 → (xtab.getD 0 [])[j]? = some ((xtab.getD 0 []).getD j 0) ∧ defaultValue (tyX0 j) = if (xtab.getD 0 []).getD j 0 = 0 then .int 0 else .null := by decide +kernel
  exact ⟨_, (h j hj).1, (h j hj).2⟩
theorem xdf1 : ∀ j, j < 14 → ∃ t, (xtab.getD 1 [])[j]? = some t ∧ defaultValue (tyX1 j) = if t = 0 then .int 0 else .null := by
  intro j hj
  have h : ∀ j, j < 14 → (xtab.getD 1 [])[j]? = some ((xtab.getD 1 []).getD j 0) ∧ defaultValue (tyX1 j) = if (xtab.getD 1 []).getD j 0 = 0 then .int 0 else .null := by decide +kernel
  exact ⟨_, (h j hj).1, (h j hj).2⟩
theorem xdf2 : ∀ j, j < 18 → ∃ t, (xtab.getD 2 [])[j]? = some t ∧ defaultValue (tyX2 j) = if t = 0 then .int 0 else .null := by
  intro j hj
  have h : ∀ j, j < 18 → (xtab.getD 2 [])[j]? = some ((xtab.getD 2 []).getD j 0) ∧ defaultValue (tyX2 j) = if (xtab.getD 2 []).getD j 0 = 0 then .int 0 else .null := by decide +kernel
  exact ⟨_, (h j hj).1, (h j hj).2⟩
theorem xdf3 : ∀ j, j < 7 → ∃ t, (xtab.getD 3 [])[j]? = some t ∧ defaultValue (tyX3 j) = if t = 0 then .int 0 else .null := by
  intro j hj
  have h : ∀ j, j < 7 → (xtab.getD 3 [])[j]? = some ((xtab.getD 3 []).getD j 0) ∧ defaultValue (tyX3 j) = if (xtab.getD 3 []).getD j 0 = 0 then .int 0 else .null := by decide +kernel
  exact ⟨_, (h j hj).1, (h j hj).2⟩
theorem xdf4 : ∀ j, j < 8 → ∃ t, (xtab.getD 4 [])[j]? = some t ∧ defaultValue (tyX4 j) = if t = 0 then .int 0 else .null := by
  intro j hj
  have h : ∀ j, j < 8 → (xtab.getD 4 [])[j]? = some ((xtab.getD 4 []).getD j 0) ∧ defaultValue (tyX4 j) = if (xtab.getD 4 []).getD j 0 = 0 then .int 0 else .null := by decide +kernel
  exact ⟨_, (h j hj).1, (h j hj).2⟩
theorem xdf5 : ∀ j, j < 7 → ∃ t, (xtab.getD 5 [])[j]? = some t ∧ defaultValue (tyX5 j) = if t = 0 then .int 0 else .null := by
  intro j hj
  have h : ∀ j, j < 7 → (xtab.getD 5 [])[j]? = some ((xtab.getD 5 []).getD j 0) ∧ defaultValue (tyX5 j) = if (xtab.getD 5 []).getD j 0 = 0 then .int 0 else .null := by decide +kernel
  exact ⟨_, (h j hj).1, (h j hj).2⟩
theorem xdf6 : ∀ j, j < 14 → ∃ t, (xtab.getD 6 [])[j]? = some t ∧ defaultValue (tyX6 j) = if t = 0 then .int 0 else .null := by
  intro j hj
  have h : ∀ j, j < 14 → (xtab.getD 6 [])[j]? = some ((xtab.getD 6 []).getD j 0) ∧ defaultValue (tyX6 j) = if (xtab.getD 6 []).getD j 0 = 0 then .int 0 else .null := by decide +kernel
  exact ⟨_, (h j hj).1, (h j hj).2⟩
theorem xdf7 : ∀ j, j < 8 → ∃ t, (xtab.getD 7 [])[j]? = some t ∧ defaultValue (tyX7 j) = if t = 0 then .int 0 else .null := by
  intro j hj
  have h : ∀ j, j < 8 → (xtab.getD 7 [])[j]? = some ((xtab.getD 7 []).getD j 0) ∧ defaultValue (tyX7 j) = if (xtab.getD 7 []).getD j 0 = 0 then .int 0 else .null := by decide +kernel
  exact ⟨_, (h j hj).1, (h j hj).2⟩
theorem xdf8 : ∀ j, j < 14 → ∃ t, (xtab.getD 8 [])[j]? = some t ∧ defaultValue (tyX8 j) = if t = 0 then .int 0 else .null := by
  intro j hj
  have h : ∀ j, j < 14 → (xtab.getD 8 [])[j]? = some ((xtab.getD 8 []).getD j 0) ∧ defaultValue (tyX8 j) = if (xtab.getD 8 []).getD j 0 = 0 then .int 0 else .null := by decide +kernel
  exact ⟨_, (h j hj).1, (h j hj).2⟩
theorem xdf9 : ∀ j, j < 47 → ∃ t, (xtab.getD 9 [])[j]? = some t ∧ defaultValue (tyX9 j) = if t = 0 then .int 0 else .null := by
  intro j hj
  have h : ∀ j, j < 47 → (xtab.getD 9 [])[j]? = some ((xtab.getD 9 []).getD j 0) ∧ defaultValue (tyX9 j) = if (xtab.getD 9 []).getD j 0 = 0 then .int 0 else .null := by decide +kernel
  exact ⟨_, (h j hj).1, (h j hj).2⟩
abbrev mX5_init : XD := (yX5_init, cX5_init, 1, none, 0)
abbrev mX6_init : XD := (yX6_init, cX6_init, 1, none, 0)
abbrev mX4_init : XD := (yX4_init, cX4_init, 1, none, 0)
abbrev mX0_init : XD := (yX0_init, cX0_init, 1, none, 0)
abbrev mX1_init : XD := (yX1_init, cX1_init, 1, none, 0)
abbrev mX2_init : XD := (yX2_init, cX2_init, 2, none, 0)
abbrev mX3_init : XD := (yX3_init, cX3_init, 3, none, 0)
abbrev mX7_init : XD := (yX7_init, cX7_init, 1, none, 0)
abbrev mX8_init : XD := (yX8_init, cX8_init, 1, none, 0)
abbrev mX9_init : XD := (yX9_init, cX9_init, 1, none, 0)
theorem lcX9_69 : Cond.constant RX9 69 (60020) ∈ xB := q1390
theorem lfX0_15 : xpF RX0 15 0 3 10 := ⟨by decide, rfl, RX0, TX0, 5, tyX0, (.array .int), rfl, by decide, xin0, q366, tyX0_ok, nmX0, rfl, rfl, by decide +kernel, fun _ => rfl, fun _ => rfl⟩
theorem lfX0_18 : xpF RX0 18 0 4 10 := ⟨by decide, rfl, RX0, TX0, 5, tyX0, (.array .int), rfl, by decide, xin0, q367, tyX0_ok, nmX0, rfl, rfl, by decide +kernel, fun _ => rfl, fun _ => rfl⟩
theorem lfX0_9 : xpF RX0 9 0 2 10 := ⟨by decide, rfl, RX0, TX0, 5, tyX0, (.array .int), rfl, by decide, xin0, q365, tyX0_ok, nmX0, rfl, rfl, by decide +kernel, fun _ => rfl, fun _ => rfl⟩
theorem lfX1_18 : xpF RX1 18 1 1 10 := ⟨by decide, rfl, RX1, TX1, 14, tyX1, (.array .int), rfl, by decide, xin1, q312, tyX1_ok, nmX1, rfl, rfl, by decide +kernel, fun _ => rfl, fun _ => rfl⟩
theorem lfX1_22 : xpF RX1 22 1 2 10 := ⟨by decide, rfl, RX1, TX1, 14, tyX1, (.array .int), rfl, by decide, xin1, q313, tyX1_ok, nmX1, rfl, rfl, by decide +kernel, fun _ => rfl, fun _ => rfl⟩
theorem lfX1_25 : xpF RX1 25 1 3 10 := ⟨by decide, rfl, RX1, TX1, 14, tyX1, (.array .int), rfl, by decide, xin1, q314, tyX1_ok, nmX1, rfl, rfl, by decide +kernel, fun _ => rfl, fun _ => rfl⟩
theorem lfX1_31 : xpF RX1 31 1 7 10 := ⟨by decide, rfl, RX1, TX1, 14, tyX1, (.array .int), rfl, by decide, xin1, q318, tyX1_ok, nmX1, rfl, rfl, by decide +kernel, fun _ => rfl, fun _ => rfl⟩
theorem lfX1_34 : xpF RX1 34 1 8 10 := ⟨by decide, rfl, RX1, TX1, 14, tyX1, (.array .int), rfl, by decide, xin1, q319, tyX1_ok, nmX1, rfl, rfl, by decide +kernel, fun _ => rfl, fun _ => rfl⟩
theorem lfX1_37 : xpF RX1 37 1 9 10 := ⟨by decide, rfl, RX1, TX1, 14, tyX1, (.array .int), rfl, by decide, xin1, q320, tyX1_ok, nmX1, rfl, rfl, by decide +kernel, fun _ => rfl, fun _ => rfl⟩
theorem lfX2_15 : xpF RX2 15 2 1 10 := ⟨by decide, rfl, RX2, TX2, 18, tyX2, (.array .int), rfl, by decide, xin2, q424, tyX2_ok, nmX2, rfl, rfl, by decide +kernel, fun _ => rfl, fun _ => rfl⟩
theorem lfX2_19 : xpF RX2 19 2 2 10 := ⟨by decide, rfl, RX2, TX2, 18, tyX2, (.array .int), rfl, by decide, xin2, q427, tyX2_ok, nmX2, rfl, rfl, by decide +kernel, fun _ => rfl, fun _ => rfl⟩
theorem lfX2_22 : xpF RX2 22 2 3 10 := ⟨by decide, rfl, RX2, TX2, 18, tyX2, (.array .int), rfl, by decide, xin2, q430, tyX2_ok, nmX2, rfl, rfl, by decide +kernel, fun _ => rfl, fun _ => rfl⟩
theorem lfX2_25 : xpF RX2 25 2 5 10 := ⟨by decide, rfl, RX2, TX2, 18, tyX2, (.array .int), rfl, by decide, xin2, q433, tyX2_ok, nmX2, rfl, rfl, by decide +kernel, fun _ => rfl, fun _ => rfl⟩
theorem lfX2_30 : xpF RX2 30 2 6 13 := ⟨by decide, rfl, RX2, TX2, 18, tyX2, (.array (.array .int)), rfl, by decide, xin2, q435, tyX2_ok, nmX2, rfl, rfl, by decide +kernel, fun _ => rfl, fun _ => rfl⟩
theorem lfX2_33 : xpF RX2 33 2 8 10 := ⟨by decide, rfl, RX2, TX2, 18, tyX2, (.array .int), rfl, by decide, xin2, q439, tyX2_ok, nmX2, rfl, rfl, by decide +kernel, fun _ => rfl, fun _ => rfl⟩
theorem lfX2_36 : xpF RX2 36 2 9 10 := ⟨by decide, rfl, RX2, TX2, 18, tyX2, (.array .int), rfl, by decide, xin2, q441, tyX2_ok, nmX2, rfl, rfl, by decide +kernel, fun _ => rfl, fun _ => rfl⟩
theorem lfX2_42 : xpF RX2 42 2 17 4 := ⟨by decide, rfl, RX2, TX2, 18, tyX2, (.object "BeginJudge$Sight"), rfl, by decide, xin2, q456, tyX2_ok, nmX2, rfl, rfl, by decide +kernel, fun _ => rfl, fun _ => rfl⟩
theorem lfX3_15 : xpF RX3 15 3 4 2 := ⟨by decide, rfl, RX3, TX3, 7, tyX3, (.object "BeginJudge$Run"), rfl, by decide, xin3, q509, tyX3_ok, nmX3, rfl, rfl, by decide +kernel, fun _ => rfl, fun _ => rfl⟩
theorem lfX3_19 : xpF RX3 19 3 6 11 := ⟨by decide, rfl, RX3, TX3, 7, tyX3, (.array .long), rfl, by decide, xin3, q511, tyX3_ok, nmX3, rfl, rfl, by decide +kernel, fun _ => rfl, fun _ => rfl⟩
theorem lfX4_15 : xpF RX4 15 4 2 10 := ⟨by decide, rfl, RX4, TX4, 8, tyX4, (.array .int), rfl, by decide, xin4, q398, tyX4_ok, nmX4, rfl, rfl, by decide +kernel, fun _ => rfl, fun _ => rfl⟩
theorem lfX5_15 : xpF RX5 15 5 2 10 := ⟨by decide, rfl, RX5, TX5, 7, tyX5, (.array .int), rfl, by decide, xin5, q197, tyX5_ok, nmX5, rfl, rfl, by decide +kernel, fun _ => rfl, fun _ => rfl⟩
theorem lfX5_18 : xpF RX5 18 5 4 10 := ⟨by decide, rfl, RX5, TX5, 7, tyX5, (.array .int), rfl, by decide, xin5, q203, tyX5_ok, nmX5, rfl, rfl, by decide +kernel, fun _ => rfl, fun _ => rfl⟩
theorem lfX5_21 : xpF RX5 21 5 5 10 := ⟨by decide, rfl, RX5, TX5, 7, tyX5, (.array .int), rfl, by decide, xin5, q207, tyX5_ok, nmX5, rfl, rfl, by decide +kernel, fun _ => rfl, fun _ => rfl⟩
theorem lfX5_24 : xpF RX5 24 5 6 10 := ⟨by decide, rfl, RX5, TX5, 7, tyX5, (.array .int), rfl, by decide, xin5, q211, tyX5_ok, nmX5, rfl, rfl, by decide +kernel, fun _ => rfl, fun _ => rfl⟩
theorem lfX5_9 : xpF RX5 9 5 1 10 := ⟨by decide, rfl, RX5, TX5, 7, tyX5, (.array .int), rfl, by decide, xin5, q193, tyX5_ok, nmX5, rfl, rfl, by decide +kernel, fun _ => rfl, fun _ => rfl⟩
theorem lfX6_15 : xpF RX6 15 6 2 10 := ⟨by decide, rfl, RX6, TX6, 14, tyX6, (.array .int), rfl, by decide, xin6, q239, tyX6_ok, nmX6, rfl, rfl, by decide +kernel, fun _ => rfl, fun _ => rfl⟩
theorem lfX6_18 : xpF RX6 18 6 3 10 := ⟨by decide, rfl, RX6, TX6, 14, tyX6, (.array .int), rfl, by decide, xin6, q243, tyX6_ok, nmX6, rfl, rfl, by decide +kernel, fun _ => rfl, fun _ => rfl⟩
theorem lfX6_21 : xpF RX6 21 6 4 10 := ⟨by decide, rfl, RX6, TX6, 14, tyX6, (.array .int), rfl, by decide, xin6, q247, tyX6_ok, nmX6, rfl, rfl, by decide +kernel, fun _ => rfl, fun _ => rfl⟩
theorem lfX6_24 : xpF RX6 24 6 5 10 := ⟨by decide, rfl, RX6, TX6, 14, tyX6, (.array .int), rfl, by decide, xin6, q252, tyX6_ok, nmX6, rfl, rfl, by decide +kernel, fun _ => rfl, fun _ => rfl⟩
theorem lfX6_27 : xpF RX6 27 6 6 10 := ⟨by decide, rfl, RX6, TX6, 14, tyX6, (.array .int), rfl, by decide, xin6, q256, tyX6_ok, nmX6, rfl, rfl, by decide +kernel, fun _ => rfl, fun _ => rfl⟩
theorem lfX6_30 : xpF RX6 30 6 7 10 := ⟨by decide, rfl, RX6, TX6, 14, tyX6, (.array .int), rfl, by decide, xin6, q260, tyX6_ok, nmX6, rfl, rfl, by decide +kernel, fun _ => rfl, fun _ => rfl⟩
theorem lfX6_33 : xpF RX6 33 6 8 10 := ⟨by decide, rfl, RX6, TX6, 14, tyX6, (.array .int), rfl, by decide, xin6, q264, tyX6_ok, nmX6, rfl, rfl, by decide +kernel, fun _ => rfl, fun _ => rfl⟩
theorem lfX6_36 : xpF RX6 36 6 9 10 := ⟨by decide, rfl, RX6, TX6, 14, tyX6, (.array .int), rfl, by decide, xin6, q268, tyX6_ok, nmX6, rfl, rfl, by decide +kernel, fun _ => rfl, fun _ => rfl⟩
theorem lfX6_39 : xpF RX6 39 6 10 10 := ⟨by decide, rfl, RX6, TX6, 14, tyX6, (.array .int), rfl, by decide, xin6, q269, tyX6_ok, nmX6, rfl, rfl, by decide +kernel, fun _ => rfl, fun _ => rfl⟩
theorem lfX6_42 : xpF RX6 42 6 12 10 := ⟨by decide, rfl, RX6, TX6, 14, tyX6, (.array .int), rfl, by decide, xin6, q275, tyX6_ok, nmX6, rfl, rfl, by decide +kernel, fun _ => rfl, fun _ => rfl⟩
theorem lfX6_48 : xpF RX6 48 6 13 5 := ⟨by decide, rfl, RX6, TX6, 14, tyX6, (.object "BeginJudge$Sums"), rfl, by decide, xin6, q278, tyX6_ok, nmX6, rfl, rfl, by decide +kernel, fun _ => rfl, fun _ => rfl⟩
theorem lfX6_9 : xpF RX6 9 6 1 10 := ⟨by decide, rfl, RX6, TX6, 14, tyX6, (.array .int), rfl, by decide, xin6, q237, tyX6_ok, nmX6, rfl, rfl, by decide +kernel, fun _ => rfl, fun _ => rfl⟩
theorem lfX7_15 : xpF RX7 15 7 1 10 := ⟨by decide, rfl, RX7, TX7, 8, tyX7, (.array .int), rfl, by decide, xin7, q536, tyX7_ok, nmX7, rfl, rfl, by decide +kernel, fun _ => rfl, fun _ => rfl⟩
theorem lfX7_18 : xpF RX7 18 7 5 10 := ⟨by decide, rfl, RX7, TX7, 8, tyX7, (.array .int), rfl, by decide, xin7, q541, tyX7_ok, nmX7, rfl, rfl, by decide +kernel, fun _ => rfl, fun _ => rfl⟩
theorem lfX7_21 : xpF RX7 21 7 6 10 := ⟨by decide, rfl, RX7, TX7, 8, tyX7, (.array .int), rfl, by decide, xin7, q542, tyX7_ok, nmX7, rfl, rfl, by decide +kernel, fun _ => rfl, fun _ => rfl⟩
theorem lfX7_24 : xpF RX7 24 7 7 10 := ⟨by decide, rfl, RX7, TX7, 8, tyX7, (.array .int), rfl, by decide, xin7, q543, tyX7_ok, nmX7, rfl, rfl, by decide +kernel, fun _ => rfl, fun _ => rfl⟩
theorem lfX7_9 : xpF RX7 9 7 0 10 := ⟨by decide, rfl, RX7, TX7, 8, tyX7, (.array .int), rfl, by decide, xin7, q534, tyX7_ok, nmX7, rfl, rfl, by decide +kernel, fun _ => rfl, fun _ => rfl⟩
theorem lfX8_16 : xpF RX8 16 8 2 1 := ⟨by decide, rfl, RX8, TX8, 14, tyX8, (.object "BeginJudge$Reader"), rfl, by decide, xin8, q563, tyX8_ok, nmX8, rfl, rfl, by decide +kernel, fun _ => rfl, fun _ => rfl⟩
theorem lfX8_30 : xpF RX8 30 8 4 0 := ⟨by decide, rfl, RX8, TX8, 14, tyX8, (.object "BeginJudge$Changes"), rfl, by decide, xin8, q565, tyX8_ok, nmX8, rfl, rfl, by decide +kernel, fun _ => rfl, fun _ => rfl⟩
theorem lfX8_39 : xpF RX8 39 8 5 2 := ⟨by decide, rfl, RX8, TX8, 14, tyX8, (.object "BeginJudge$Run"), rfl, by decide, xin8, q566, tyX8_ok, nmX8, rfl, rfl, by decide +kernel, fun _ => rfl, fun _ => rfl⟩
theorem lfX8_43 : xpF RX8 43 8 7 2 := ⟨by decide, rfl, RX8, TX8, 14, tyX8, (.object "BeginJudge$Run"), rfl, by decide, xin8, q568, tyX8_ok, nmX8, rfl, rfl, by decide +kernel, fun _ => rfl, fun _ => rfl⟩
theorem lfX8_46 : xpF RX8 46 8 8 10 := ⟨by decide, rfl, RX8, TX8, 14, tyX8, (.array .int), rfl, by decide, xin8, q569, tyX8_ok, nmX8, rfl, rfl, by decide +kernel, fun _ => rfl, fun _ => rfl⟩
theorem lfX8_54 : xpF RX8 54 8 9 3 := ⟨by decide, rfl, RX8, TX8, 14, tyX8, (.object "BeginJudge$Search"), rfl, by decide, xin8, q570, tyX8_ok, nmX8, rfl, rfl, by decide +kernel, fun _ => rfl, fun _ => rfl⟩
theorem lfX8_61 : xpF RX8 61 8 10 7 := ⟨by decide, rfl, RX8, TX8, 14, tyX8, (.object "BeginJudge$Web"), rfl, by decide, xin8, q571, tyX8_ok, nmX8, rfl, rfl, by decide +kernel, fun _ => rfl, fun _ => rfl⟩
theorem lfX8_9 : xpF RX8 9 8 0 10 := ⟨by decide, rfl, RX8, TX8, 14, tyX8, (.array .int), rfl, by decide, xin8, q561, tyX8_ok, nmX8, rfl, rfl, by decide +kernel, fun _ => rfl, fun _ => rfl⟩
theorem lfX9_17 : xpF RX9 17 9 8 10 := ⟨by decide, rfl, RX9, TX9, 47, tyX9, (.array .int), rfl, by decide, xin9, q1399, tyX9_ok, nmX9, rfl, rfl, by decide +kernel, fun _ => rfl, fun _ => rfl⟩
theorem lfX9_20 : xpF RX9 20 9 9 10 := ⟨by decide, rfl, RX9, TX9, 47, tyX9, (.array .int), rfl, by decide, xin9, q1400, tyX9_ok, nmX9, rfl, rfl, by decide +kernel, fun _ => rfl, fun _ => rfl⟩
theorem lfX9_23 : xpF RX9 23 9 10 10 := ⟨by decide, rfl, RX9, TX9, 47, tyX9, (.array .int), rfl, by decide, xin9, q1401, tyX9_ok, nmX9, rfl, rfl, by decide +kernel, fun _ => rfl, fun _ => rfl⟩
theorem lfX9_26 : xpF RX9 26 9 11 12 := ⟨by decide, rfl, RX9, TX9, 47, tyX9, (.array .boolean), rfl, by decide, xin9, q1402, tyX9_ok, nmX9, rfl, rfl, by decide +kernel, fun _ => rfl, fun _ => rfl⟩
theorem lfX9_30 : xpF RX9 30 9 12 10 := ⟨by decide, rfl, RX9, TX9, 47, tyX9, (.array .int), rfl, by decide, xin9, q1403, tyX9_ok, nmX9, rfl, rfl, by decide +kernel, fun _ => rfl, fun _ => rfl⟩
theorem lfX9_33 : xpF RX9 33 9 13 10 := ⟨by decide, rfl, RX9, TX9, 47, tyX9, (.array .int), rfl, by decide, xin9, q1404, tyX9_ok, nmX9, rfl, rfl, by decide +kernel, fun _ => rfl, fun _ => rfl⟩
theorem lfX9_36 : xpF RX9 36 9 14 10 := ⟨by decide, rfl, RX9, TX9, 47, tyX9, (.array .int), rfl, by decide, xin9, q1405, tyX9_ok, nmX9, rfl, rfl, by decide +kernel, fun _ => rfl, fun _ => rfl⟩
theorem lfX9_39 : xpF RX9 39 9 18 10 := ⟨by decide, rfl, RX9, TX9, 47, tyX9, (.array .int), rfl, by decide, xin9, q1409, tyX9_ok, nmX9, rfl, rfl, by decide +kernel, fun _ => rfl, fun _ => rfl⟩
theorem lfX9_42 : xpF RX9 42 9 19 10 := ⟨by decide, rfl, RX9, TX9, 47, tyX9, (.array .int), rfl, by decide, xin9, q1410, tyX9_ok, nmX9, rfl, rfl, by decide +kernel, fun _ => rfl, fun _ => rfl⟩
theorem lfX9_45 : xpF RX9 45 9 20 10 := ⟨by decide, rfl, RX9, TX9, 47, tyX9, (.array .int), rfl, by decide, xin9, q1411, tyX9_ok, nmX9, rfl, rfl, by decide +kernel, fun _ => rfl, fun _ => rfl⟩
theorem lfX9_48 : xpF RX9 48 9 21 10 := ⟨by decide, rfl, RX9, TX9, 47, tyX9, (.array .int), rfl, by decide, xin9, q1412, tyX9_ok, nmX9, rfl, rfl, by decide +kernel, fun _ => rfl, fun _ => rfl⟩
theorem lfX9_51 : xpF RX9 51 9 22 10 := ⟨by decide, rfl, RX9, TX9, 47, tyX9, (.array .int), rfl, by decide, xin9, q1413, tyX9_ok, nmX9, rfl, rfl, by decide +kernel, fun _ => rfl, fun _ => rfl⟩
theorem lfX9_54 : xpF RX9 54 9 23 10 := ⟨by decide, rfl, RX9, TX9, 47, tyX9, (.array .int), rfl, by decide, xin9, q1414, tyX9_ok, nmX9, rfl, rfl, by decide +kernel, fun _ => rfl, fun _ => rfl⟩
theorem lfX9_57 : xpF RX9 57 9 24 10 := ⟨by decide, rfl, RX9, TX9, 47, tyX9, (.array .int), rfl, by decide, xin9, q1415, tyX9_ok, nmX9, rfl, rfl, by decide +kernel, fun _ => rfl, fun _ => rfl⟩
theorem lfX9_60 : xpF RX9 60 9 25 10 := ⟨by decide, rfl, RX9, TX9, 47, tyX9, (.array .int), rfl, by decide, xin9, q1416, tyX9_ok, nmX9, rfl, rfl, by decide +kernel, fun _ => rfl, fun _ => rfl⟩
theorem lfX9_63 : xpF RX9 63 9 26 12 := ⟨by decide, rfl, RX9, TX9, 47, tyX9, (.array .boolean), rfl, by decide, xin9, q1417, tyX9_ok, nmX9, rfl, rfl, by decide +kernel, fun _ => rfl, fun _ => rfl⟩
theorem lfX9_66 : xpF RX9 66 9 38 10 := ⟨by decide, rfl, RX9, TX9, 47, tyX9, (.array .int), rfl, by decide, xin9, q1429, tyX9_ok, nmX9, rfl, rfl, by decide +kernel, fun _ => rfl, fun _ => rfl⟩
theorem lfX9_70 : xpF RX9 70 9 39 10 := ⟨by decide, rfl, RX9, TX9, 47, tyX9, (.array .int), rfl, by decide, xin9, q1430, tyX9_ok, nmX9, rfl, rfl, by decide +kernel, fun _ => rfl, fun _ => rfl⟩
theorem lfX9_73 : xpF RX9 73 9 40 10 := ⟨by decide, rfl, RX9, TX9, 47, tyX9, (.array .int), rfl, by decide, xin9, q1431, tyX9_ok, nmX9, rfl, rfl, by decide +kernel, fun _ => rfl, fun _ => rfl⟩
theorem lfX9_76 : xpF RX9 76 9 42 10 := ⟨by decide, rfl, RX9, TX9, 47, tyX9, (.array .int), rfl, by decide, xin9, q1433, tyX9_ok, nmX9, rfl, rfl, by decide +kernel, fun _ => rfl, fun _ => rfl⟩
theorem lfX9_79 : xpF RX9 79 9 43 10 := ⟨by decide, rfl, RX9, TX9, 47, tyX9, (.array .int), rfl, by decide, xin9, q1434, tyX9_ok, nmX9, rfl, rfl, by decide +kernel, fun _ => rfl, fun _ => rfl⟩
theorem lfX9_82 : xpF RX9 82 9 44 10 := ⟨by decide, rfl, RX9, TX9, 47, tyX9, (.array .int), rfl, by decide, xin9, q1435, tyX9_ok, nmX9, rfl, rfl, by decide +kernel, fun _ => rfl, fun _ => rfl⟩
theorem lfX9_85 : xpF RX9 85 9 45 12 := ⟨by decide, rfl, RX9, TX9, 47, tyX9, (.array .boolean), rfl, by decide, xin9, q1436, tyX9_ok, nmX9, rfl, rfl, by decide +kernel, fun _ => rfl, fun _ => rfl⟩
theorem lfX9_88 : xpF RX9 88 9 46 10 := ⟨by decide, rfl, RX9, TX9, 47, tyX9, (.array .int), rfl, by decide, xin9, q1437, tyX9_ok, nmX9, rfl, rfl, by decide +kernel, fun _ => rfl, fun _ => rfl⟩
theorem lfX9_9 : xpF RX9 9 9 1 10 := ⟨by decide, rfl, RX9, TX9, 47, tyX9, (.array .int), rfl, by decide, xin9, q1392, tyX9_ok, nmX9, rfl, rfl, by decide +kernel, fun _ => rfl, fun _ => rfl⟩
theorem lmX1_11 : xml RX1 11 mX6_init 0 := ⟨q181, q183, q145, by decide +kernel, by decide⟩
theorem lmX2_41 : xml RX2 41 mX4_init 0 := ⟨q389, q391, q149, by decide +kernel, by decide⟩
theorem lmX6_47 : xml RX6 47 mX5_init 0 := ⟨q187, q189, q146, by decide +kernel, by decide⟩
theorem lmX8_15 : xml RX8 15 mX1_init 0 := ⟨q175, q177, q144, by decide +kernel, by decide⟩
theorem lmX8_22 : xml RX8 22 mX6_init 0 := ⟨q355, q183, q145, by decide +kernel, by decide⟩
theorem lmX8_29 : xml RX8 29 mX0_init 0 := ⟨q358, q360, q147, by decide +kernel, by decide⟩
theorem lmX8_36 : xml RX8 36 mX2_init 1 := ⟨q381, q383, q148, by decide +kernel, by decide⟩
theorem lmX8_51 : xml RX8 51 mX3_init 2 := ⟨q497, q499, q150, by decide +kernel, by decide⟩
theorem lmX8_60 : xml RX8 60 mX7_init 0 := ⟨q530, q532, q151, by decide +kernel, by decide⟩
theorem lnX1_9 : xnc RX1 9 6 14 := ⟨by decide, RX6, TX6, tyX6, rfl, xin6, tyX6_ok, xdf6, q179, q180, q145⟩
theorem lnX2_39 : xnc RX2 39 4 8 := ⟨by decide, RX4, TX4, tyX4, rfl, xin4, tyX4_ok, xdf4, q387, q388, q149⟩
theorem lnX6_45 : xnc RX6 45 5 7 := ⟨by decide, RX5, TX5, tyX5, rfl, xin5, tyX5_ok, xdf5, q185, q186, q146⟩
theorem lnX8_13 : xnc RX8 13 1 14 := ⟨by decide, RX1, TX1, tyX1, rfl, xin1, tyX1_ok, xdf1, q173, q174, q144⟩
theorem lnX8_20 : xnc RX8 20 6 14 := ⟨by decide, RX6, TX6, tyX6, rfl, xin6, tyX6_ok, xdf6, q354, q180, q145⟩
theorem lnX8_27 : xnc RX8 27 0 5 := ⟨by decide, RX0, TX0, tyX0, rfl, xin0, tyX0_ok, xdf0, q356, q357, q147⟩
theorem lnX8_34 : xnc RX8 34 2 18 := ⟨by decide, RX2, TX2, tyX2, rfl, xin2, tyX2_ok, xdf2, q379, q380, q148⟩
theorem lnX8_49 : xnc RX8 49 3 7 := ⟨by decide, RX3, TX3, tyX3, rfl, xin3, tyX3_ok, xdf3, q495, q496, q150⟩
theorem lnX8_58 : xnc RX8 58 7 8 := ⟨by decide, RX7, TX7, tyX7, rfl, xin7, tyX7_ok, xdf7, q528, q529, q151⟩
theorem lpX4_9 : xpI RX4 9 4 0 .int := ⟨⟨RX4, TX4, 8, tyX4, rfl, by decide, xin4, q393, tyX4_ok, nmX4, rfl, by decide +kernel⟩, by decide, rfl⟩
abbrev ksX5_init : List (Nat × Nat) := [(10, 600), (10, 600), (10, 300), (10, 300), (10, 300)]
def ccX5_init (n : Nat) (a0 : Nat) (m0 : XM) : Option XM :=
    xv (sr (xz m0 n) a0 1 (some n)) fun m1 => xv (sr (xz m1 (n + 1)) a0 2 (some (n + 1))) fun m2 => xv (sr (xz m2 (n + 2)) a0 4 (some (n + 2))) fun m3 => xv (sr (xz m3 (n + 3)) a0 5 (some (n + 3))) fun m4 => xv (sr (xz m4 (n + 4)) a0 6 (some (n + 4))) fun m5 => some m5
abbrev ksX6_init : List (Nat × Nat) := [(10, 7), (10, 7), (10, 7), (10, 84), (10, 84), (10, 84), (10, 84), (10, 84), (10, 84), (10, 182), (10, 10), (5, 0), (10, 600), (10, 600), (10, 300), (10, 300), (10, 300)]
def ccX6_init (n : Nat) (a0 : Nat) (m0 : XM) : Option XM :=
    xv (sr (xz m0 n) a0 1 (some n)) fun m1 => xv (sr (xz m1 (n + 1)) a0 2 (some (n + 1))) fun m2 => xv (sr (xz m2 (n + 2)) a0 3 (some (n + 2))) fun m3 => xv (sr (xz m3 (n + 3)) a0 4 (some (n + 3))) fun m4 => xv (sr (xz m4 (n + 4)) a0 5 (some (n + 4))) fun m5 => xv (sr (xz m5 (n + 5)) a0 6 (some (n + 5))) fun m6 => xv (sr (xz m6 (n + 6)) a0 7 (some (n + 6))) fun m7 => xv (sr (xz m7 (n + 7)) a0 8 (some (n + 7))) fun m8 => xv (sr (xz m8 (n + 8)) a0 9 (some (n + 8))) fun m9 => xv (sr (xz m9 (n + 9)) a0 10 (some (n + 9))) fun m10 => xv (sr (xz m10 (n + 10)) a0 12 (some (n + 10))) fun m11 => xcv (ccX5_init (n + 12) (n + 11) (xz m11 (n + 11))) fun m12 => xv (sr m12 a0 13 (some (n + 11))) fun m13 => some m13
abbrev ksX4_init : List (Nat × Nat) := [(10, 20)]
def ccX4_init (n : Nat) (a0 : Nat) (m0 : XM) : Option XM :=
    xv (si m0 a0 0 (-1)) fun m1 => xv (sr (xz m1 n) a0 2 (some n)) fun m2 => some m2
abbrev ksX0_init : List (Nat × Nat) := [(10, 16), (10, 16), (10, 16)]
def ccX0_init (n : Nat) (a0 : Nat) (m0 : XM) : Option XM :=
    xv (sr (xz m0 n) a0 2 (some n)) fun m1 => xv (sr (xz m1 (n + 1)) a0 3 (some (n + 1))) fun m2 => xv (sr (xz m2 (n + 2)) a0 4 (some (n + 2))) fun m3 => some m3
abbrev ksX1_init : List (Nat × Nat) := [(6, 0), (10, 7), (10, 7), (10, 7), (10, 84), (10, 84), (10, 84), (10, 84), (10, 84), (10, 84), (10, 182), (10, 10), (5, 0), (10, 600), (10, 600), (10, 300), (10, 300), (10, 300), (10, 7), (10, 600), (10, 300), (10, 0), (10, 602), (10, 602), (10, 602)]
def ccX1_init (n : Nat) (a0 : Nat) (m0 : XM) : Option XM :=
    xcv (ccX6_init (n + 1) n (xz m0 n)) fun m1 => xv (sr m1 a0 0 (some n)) fun m2 => xv (sr (xz m2 (n + 18)) a0 1 (some (n + 18))) fun m3 => xv (sr (xz m3 (n + 19)) a0 2 (some (n + 19))) fun m4 => xv (sr (xz m4 (n + 20)) a0 3 (some (n + 20))) fun m5 => xv (sr (xz m5 (n + 21)) a0 4 (some (n + 21))) fun m6 => xv (sr (xz m6 (n + 22)) a0 7 (some (n + 22))) fun m7 => xv (sr (xz m7 (n + 23)) a0 8 (some (n + 23))) fun m8 => xv (sr (xz m8 (n + 24)) a0 9 (some (n + 24))) fun m9 => some m9
abbrev ksX2_init : List (Nat × Nat) := [(10, 7), (10, 84), (10, 84), (10, 7), (13, 3), (10, 7), (10, 7), (10, 7), (10, 20), (10, 168), (4, 0), (10, 20)]
def ccX2_init (n : Nat) (a0 : Nat) (a1 : Nat) (m0 : XM) : Option XM :=
    xv (sr m0 a0 0 (some a1)) fun m1 => xv (sr (xz m1 n) a0 1 (some n)) fun m2 => xv (sr (xz m2 (n + 1)) a0 2 (some (n + 1))) fun m3 => xv (sr (xz m3 (n + 2)) a0 3 (some (n + 2))) fun m4 => xv (sr (xz m4 (n + 3)) a0 5 (some (n + 3))) fun m5 => xv (sr (xmna m5 (n + 4)) a0 6 (some (n + 4))) fun m6 => xv (sr (xz m6 (n + 8)) a0 8 (some (n + 8))) fun m7 => xv (sr (xz m7 (n + 9)) a0 9 (some (n + 9))) fun m8 => xcv (ccX4_init (n + 11) (n + 10) (xz m8 (n + 10))) fun m9 => xv (sr m9 a0 17 (some (n + 10))) fun m10 => some m10
abbrev ksX3_init : List (Nat × Nat) := [(11, 17496)]
def ccX3_init (n : Nat) (a0 : Nat) (a1 : Nat) (a2 : Nat) (m0 : XM) : Option XM :=
    xv (sr m0 a0 5 (some a1)) fun m1 => xv (sr m1 a0 4 (some a2)) fun m2 => xv (sr (xz m2 n) a0 6 (some n)) fun m3 => some m3
abbrev ksX7_init : List (Nat × Nat) := [(10, 7), (10, 7), (10, 84), (10, 84), (10, 128)]
def ccX7_init (n : Nat) (a0 : Nat) (m0 : XM) : Option XM :=
    xv (sr (xz m0 n) a0 0 (some n)) fun m1 => xv (sr (xz m1 (n + 1)) a0 1 (some (n + 1))) fun m2 => xv (sr (xz m2 (n + 2)) a0 5 (some (n + 2))) fun m3 => xv (sr (xz m3 (n + 3)) a0 6 (some (n + 3))) fun m4 => xv (sr (xz m4 (n + 4)) a0 7 (some (n + 4))) fun m5 => some m5
abbrev ksX8_init : List (Nat × Nat) := [(10, 600), (1, 0), (6, 0), (10, 7), (10, 7), (10, 7), (10, 84), (10, 84), (10, 84), (10, 84), (10, 84), (10, 84), (10, 182), (10, 10), (5, 0), (10, 600), (10, 600), (10, 300), (10, 300), (10, 300), (10, 7), (10, 600), (10, 300), (10, 0), (10, 602), (10, 602), (10, 602), (6, 0), (10, 7), (10, 7), (10, 7), (10, 84), (10, 84), (10, 84), (10, 84), (10, 84), (10, 84), (10, 182), (10, 10), (5, 0), (10, 600), (10, 600), (10, 300), (10, 300), (10, 300), (0, 0), (10, 16), (10, 16), (10, 16), (2, 0), (10, 7), (10, 84), (10, 84), (10, 7), (13, 3), (10, 7), (10, 7), (10, 7), (10, 20), (10, 168), (4, 0), (10, 20), (2, 0), (10, 7), (10, 84), (10, 84), (10, 7), (13, 3), (10, 7), (10, 7), (10, 7), (10, 20), (10, 168), (4, 0), (10, 20), (10, 7), (3, 0), (11, 17496), (7, 0), (10, 7), (10, 7), (10, 84), (10, 84), (10, 128)]
def ccX8_init (n : Nat) (a0 : Nat) (m0 : XM) : Option XM :=
    xv (sr (xz m0 n) a0 0 (some n)) fun m1 => xcv (ccX1_init (n + 2) (n + 1) (xz m1 (n + 1))) fun m2 => xv (sr m2 a0 2 (some (n + 1))) fun m3 => xcv (ccX6_init (n + 28) (n + 27) (xz m3 (n + 27))) fun m4 => xv (sr m4 a0 3 (some (n + 27))) fun m5 => xcv (ccX0_init (n + 46) (n + 45) (xz m5 (n + 45))) fun m6 => xv (sr m6 a0 4 (some (n + 45))) fun m7 => xgr (xz m7 (n + 49)) a0 3 fun u8 => xcv (ccX2_init (n + 50) (n + 49) u8 (xz m7 (n + 49))) fun m9 => xv (sr m9 a0 5 (some (n + 49))) fun m10 => xgr (xz m10 (n + 62)) a0 3 fun u11 => xcv (ccX2_init (n + 63) (n + 62) u11 (xz m10 (n + 62))) fun m12 => xv (sr m12 a0 7 (some (n + 62))) fun m13 => xv (sr (xz m13 (n + 75)) a0 8 (some (n + 75))) fun m14 => xgr (xz m14 (n + 76)) a0 3 fun u15 => xgr (xz m14 (n + 76)) a0 7 fun u16 => xcv (ccX3_init (n + 77) (n + 76) u15 u16 (xz m14 (n + 76))) fun m17 => xv (sr m17 a0 9 (some (n + 76))) fun m18 => xcv (ccX7_init (n + 79) (n + 78) (xz m18 (n + 78))) fun m19 => xv (sr m19 a0 10 (some (n + 78))) fun m20 => xv (si m20 a0 11 (-1)) fun m21 => some m21
abbrev ksX9_init : List (Nat × Nat) := [(10, 3), (10, 600), (10, 3820), (10, 3820), (12, 84), (10, 16), (10, 16), (10, 16), (10, 7), (10, 7), (10, 84), (10, 7), (10, 7), (10, 7), (10, 21), (10, 21), (12, 84), (10, 18006), (10, 60020), (10, 60020), (10, 84), (10, 7), (10, 7), (12, 84), (10, 7)]
def ccX9_init (n : Nat) (a0 : Nat) (m0 : XM) : Option XM :=
    xv (sr (xz m0 n) a0 1 (some n)) fun m1 => xv (si m1 a0 5 (-1)) fun m2 => xv (sr (xz m2 (n + 1)) a0 8 (some (n + 1))) fun m3 => xv (sr (xz m3 (n + 2)) a0 9 (some (n + 2))) fun m4 => xv (sr (xz m4 (n + 3)) a0 10 (some (n + 3))) fun m5 => xv (sr (xz m5 (n + 4)) a0 11 (some (n + 4))) fun m6 => xv (sr (xz m6 (n + 5)) a0 12 (some (n + 5))) fun m7 => xv (sr (xz m7 (n + 6)) a0 13 (some (n + 6))) fun m8 => xv (sr (xz m8 (n + 7)) a0 14 (some (n + 7))) fun m9 => xv (sr (xz m9 (n + 8)) a0 18 (some (n + 8))) fun m10 => xv (sr (xz m10 (n + 9)) a0 19 (some (n + 9))) fun m11 => xv (sr (xz m11 (n + 10)) a0 20 (some (n + 10))) fun m12 => xv (sr (xz m12 (n + 11)) a0 21 (some (n + 11))) fun m13 => xv (sr (xz m13 (n + 12)) a0 22 (some (n + 12))) fun m14 => xv (sr (xz m14 (n + 13)) a0 23 (some (n + 13))) fun m15 => xv (sr (xz m15 (n + 14)) a0 24 (some (n + 14))) fun m16 => xv (sr (xz m16 (n + 15)) a0 25 (some (n + 15))) fun m17 => xv (sr (xz m17 (n + 16)) a0 26 (some (n + 16))) fun m18 => xv (sr (xz m18 (n + 17)) a0 38 (some (n + 17))) fun m19 => xv (sr (xz m19 (n + 18)) a0 39 (some (n + 18))) fun m20 => xv (sr (xz m20 (n + 19)) a0 40 (some (n + 19))) fun m21 => xv (sr (xz m21 (n + 20)) a0 42 (some (n + 20))) fun m22 => xv (sr (xz m22 (n + 21)) a0 43 (some (n + 21))) fun m23 => xv (sr (xz m23 (n + 22)) a0 44 (some (n + 22))) fun m24 => xv (sr (xz m24 (n + 23)) a0 45 (some (n + 23))) fun m25 => xv (sr (xz m25 (n + 24)) a0 46 (some (n + 24))) fun m26 => some m26
set_option maxRecDepth 20000 in
set_option maxHeartbeats 4000000 in
theorem wcX5_init {G : XG} {l : Launch} (hn : xN G) {m0 : XM} (hT : xT G m0) {a0 : Nat} (ha0 : isa G a0 5) : ∀ z, ccX5_init G.2.2.1 a0 m0 = some z → xCMet G l mX5_init 1 5 2100 [.ref (xad G a0)] m0 ksX5_init z := by
  refine xCMet_of (by decide +kernel) hn hT (Nat.le_of_ble_eq_true rfl) rfl (fun X sz hsz hin F => ?_)
  subst hsz
  have hA : ∀ q, X.2.2.1.heap.size ≤ q → xAn G X.2.2.1.heap.size q := fun q h => Or.inr h
  refine xj_sub (lv' := [(0, .ref (xad G a0))]) [0] rfl ?_
  unfold ccX5_init
  refine xj_aload_n F 0 dX5_init_0 rfl ?_
  refine xj_objInit F q190 q171 q172 dX5_init_1 ⟨Nat.le_of_ble_eq_true rfl, Nat.le_of_ble_eq_true rfl⟩ ?_
  refine xj_aload_n F 0 dX5_init_4 rfl ?_
  refine xj_sipush F 600 dX5_init_5 (by decide) ?_
  refine xj_newA_I (lvf := fun Γ => [(0, .ref (xad Γ a0))]) (stf := fun Γ => [.ref (xad Γ a0)]) (len := 600) (n := G.2.2.1) F hA q231 (by decide) (by decide) (by decide) (show 0 + 1 ≤ 5 from Nat.le_of_ble_eq_true rfl) (show 0 + 600 ≤ 2100 from Nat.le_of_ble_eq_true rfl) dX5_init_8 rfl (fun G' e => ⟨by simp only [e _ ha0.1], by simp only [e _ ha0.1]⟩) (fun G1 g1 n1 i1 F1 => ?_)
  have ha0 := isa_grow g1 ha0
  have n1 : G1.2.2.1 = (G.2.2.1 + 1) := n1
  refine xj_putF1 F1 hin ha0 lfX5_9 i1 dX5_init_10 (fun m1 => ?_)
  refine xj_aload_n F1 0 dX5_init_13 rfl ?_
  refine xj_sipush F1 600 dX5_init_14 (by decide) ?_
  refine xj_newA_I (lvf := fun Γ => [(0, .ref (xad Γ a0))]) (stf := fun Γ => [.ref (xad Γ a0)]) (len := 600) (n := (G.2.2.1 + 1)) F1 hA q231 (by decide) (by decide) (by decide) (show 1 + 1 ≤ 5 from Nat.le_of_ble_eq_true rfl) (show 600 + 600 ≤ 2100 from Nat.le_of_ble_eq_true rfl) dX5_init_17 n1 (fun G' e => ⟨by simp only [e _ ha0.1], by simp only [e _ ha0.1]⟩) (fun G2 g2 n2 i2 F2 => ?_)
  have ha0 := isa_grow g2 ha0
  have n2 : G2.2.2.1 = (G.2.2.1 + 2) := n2
  refine xj_putF1 F2 hin ha0 lfX5_15 i2 dX5_init_19 (fun m2 => ?_)
  refine xj_aload_n F2 0 dX5_init_22 rfl ?_
  refine xj_sipush F2 300 dX5_init_23 (by decide) ?_
  refine xj_newA_I (lvf := fun Γ => [(0, .ref (xad Γ a0))]) (stf := fun Γ => [.ref (xad Γ a0)]) (len := 300) (n := (G.2.2.1 + 2)) F2 hA q231 (by decide) (by decide) (by decide) (show 2 + 1 ≤ 5 from Nat.le_of_ble_eq_true rfl) (show 1200 + 300 ≤ 2100 from Nat.le_of_ble_eq_true rfl) dX5_init_26 n2 (fun G' e => ⟨by simp only [e _ ha0.1], by simp only [e _ ha0.1]⟩) (fun G3 g3 n3 i3 F3 => ?_)
  have ha0 := isa_grow g3 ha0
  have n3 : G3.2.2.1 = (G.2.2.1 + 3) := n3
  refine xj_putF1 F3 hin ha0 lfX5_18 i3 dX5_init_28 (fun m3 => ?_)
  refine xj_aload_n F3 0 dX5_init_31 rfl ?_
  refine xj_sipush F3 300 dX5_init_32 (by decide) ?_
  refine xj_newA_I (lvf := fun Γ => [(0, .ref (xad Γ a0))]) (stf := fun Γ => [.ref (xad Γ a0)]) (len := 300) (n := (G.2.2.1 + 3)) F3 hA q231 (by decide) (by decide) (by decide) (show 3 + 1 ≤ 5 from Nat.le_of_ble_eq_true rfl) (show 1500 + 300 ≤ 2100 from Nat.le_of_ble_eq_true rfl) dX5_init_35 n3 (fun G' e => ⟨by simp only [e _ ha0.1], by simp only [e _ ha0.1]⟩) (fun G4 g4 n4 i4 F4 => ?_)
  have ha0 := isa_grow g4 ha0
  have n4 : G4.2.2.1 = (G.2.2.1 + 4) := n4
  refine xj_putF1 F4 hin ha0 lfX5_21 i4 dX5_init_37 (fun m4 => ?_)
  refine xj_aload_n F4 0 dX5_init_40 rfl ?_
  refine xj_sipush F4 300 dX5_init_41 (by decide) ?_
  refine xj_newA_I (lvf := fun Γ => [(0, .ref (xad Γ a0))]) (stf := fun Γ => [.ref (xad Γ a0)]) (len := 300) (n := (G.2.2.1 + 4)) F4 hA q231 (by decide) (by decide) (by decide) (show 4 + 1 ≤ 5 from Nat.le_of_ble_eq_true rfl) (show 1800 + 300 ≤ 2100 from Nat.le_of_ble_eq_true rfl) dX5_init_44 n4 (fun G' e => ⟨by simp only [e _ ha0.1], by simp only [e _ ha0.1]⟩) (fun G5 g5 n5 i5 F5 => ?_)
  have ha0 := isa_grow g5 ha0
  have n5 : G5.2.2.1 = (G.2.2.1 + 5) := n5
  refine xj_putF1 F5 hin ha0 lfX5_24 i5 dX5_init_46 (fun m5 => ?_)
  exact xj_retC F5 (xgrow_tr (Nat.le_refl _) (xgrow_tr (Nat.le_refl _) (xgrow_tr (Nat.le_refl _) (xgrow_tr (Nat.le_refl _) g1 g2) g3) g4) g5) rfl dX5_init_49
set_option maxRecDepth 20000 in
set_option maxHeartbeats 4000000 in
theorem wcX6_init {G : XG} {l : Launch} (hn : xN G) {m0 : XM} (hT : xT G m0) {a0 : Nat} (ha0 : isa G a0 6) : ∀ z, ccX6_init G.2.2.1 a0 m0 = some z → xCMet G l mX6_init 2 17 2824 [.ref (xad G a0)] m0 ksX6_init z := by
  refine xCMet_of (by decide +kernel) hn hT (Nat.le_of_ble_eq_true rfl) rfl (fun X sz hsz hin F => ?_)
  subst hsz
  have hA : ∀ q, X.2.2.1.heap.size ≤ q → xAn G X.2.2.1.heap.size q := fun q h => Or.inr h
  refine xj_sub (lv' := [(0, .ref (xad G a0))]) [0] rfl ?_
  unfold ccX6_init
  refine xj_aload_n F 0 dX6_init_0 rfl ?_
  refine xj_objInit F q184 q171 q172 dX6_init_1 ⟨Nat.le_of_ble_eq_true rfl, Nat.le_of_ble_eq_true rfl⟩ ?_
  refine xj_aload_n F 0 dX6_init_4 rfl ?_
  refine xj_bipush F 7 dX6_init_5 (by decide) ?_
  refine xj_newA_I (lvf := fun Γ => [(0, .ref (xad Γ a0))]) (stf := fun Γ => [.ref (xad Γ a0)]) (len := 7) (n := G.2.2.1) F hA q231 (by decide) (by decide) (by decide) (show 0 + 1 ≤ 17 from Nat.le_of_ble_eq_true rfl) (show 0 + 7 ≤ 2824 from Nat.le_of_ble_eq_true rfl) dX6_init_7 rfl (fun G' e => ⟨by simp only [e _ ha0.1], by simp only [e _ ha0.1]⟩) (fun G1 g1 n1 i1 F1 => ?_)
  have ha0 := isa_grow g1 ha0
  have n1 : G1.2.2.1 = (G.2.2.1 + 1) := n1
  refine xj_putF1 F1 hin ha0 lfX6_9 i1 dX6_init_9 (fun m1 => ?_)
  refine xj_aload_n F1 0 dX6_init_12 rfl ?_
  refine xj_bipush F1 7 dX6_init_13 (by decide) ?_
  refine xj_newA_I (lvf := fun Γ => [(0, .ref (xad Γ a0))]) (stf := fun Γ => [.ref (xad Γ a0)]) (len := 7) (n := (G.2.2.1 + 1)) F1 hA q231 (by decide) (by decide) (by decide) (show 1 + 1 ≤ 17 from Nat.le_of_ble_eq_true rfl) (show 7 + 7 ≤ 2824 from Nat.le_of_ble_eq_true rfl) dX6_init_15 n1 (fun G' e => ⟨by simp only [e _ ha0.1], by simp only [e _ ha0.1]⟩) (fun G2 g2 n2 i2 F2 => ?_)
  have ha0 := isa_grow g2 ha0
  have n2 : G2.2.2.1 = (G.2.2.1 + 2) := n2
  refine xj_putF1 F2 hin ha0 lfX6_15 i2 dX6_init_17 (fun m2 => ?_)
  refine xj_aload_n F2 0 dX6_init_20 rfl ?_
  refine xj_bipush F2 7 dX6_init_21 (by decide) ?_
  refine xj_newA_I (lvf := fun Γ => [(0, .ref (xad Γ a0))]) (stf := fun Γ => [.ref (xad Γ a0)]) (len := 7) (n := (G.2.2.1 + 2)) F2 hA q231 (by decide) (by decide) (by decide) (show 2 + 1 ≤ 17 from Nat.le_of_ble_eq_true rfl) (show 14 + 7 ≤ 2824 from Nat.le_of_ble_eq_true rfl) dX6_init_23 n2 (fun G' e => ⟨by simp only [e _ ha0.1], by simp only [e _ ha0.1]⟩) (fun G3 g3 n3 i3 F3 => ?_)
  have ha0 := isa_grow g3 ha0
  have n3 : G3.2.2.1 = (G.2.2.1 + 3) := n3
  refine xj_putF1 F3 hin ha0 lfX6_18 i3 dX6_init_25 (fun m3 => ?_)
  refine xj_aload_n F3 0 dX6_init_28 rfl ?_
  refine xj_bipush F3 84 dX6_init_29 (by decide) ?_
  refine xj_newA_I (lvf := fun Γ => [(0, .ref (xad Γ a0))]) (stf := fun Γ => [.ref (xad Γ a0)]) (len := 84) (n := (G.2.2.1 + 3)) F3 hA q231 (by decide) (by decide) (by decide) (show 3 + 1 ≤ 17 from Nat.le_of_ble_eq_true rfl) (show 21 + 84 ≤ 2824 from Nat.le_of_ble_eq_true rfl) dX6_init_31 n3 (fun G' e => ⟨by simp only [e _ ha0.1], by simp only [e _ ha0.1]⟩) (fun G4 g4 n4 i4 F4 => ?_)
  have ha0 := isa_grow g4 ha0
  have n4 : G4.2.2.1 = (G.2.2.1 + 4) := n4
  refine xj_putF1 F4 hin ha0 lfX6_21 i4 dX6_init_33 (fun m4 => ?_)
  refine xj_aload_n F4 0 dX6_init_36 rfl ?_
  refine xj_bipush F4 84 dX6_init_37 (by decide) ?_
  refine xj_newA_I (lvf := fun Γ => [(0, .ref (xad Γ a0))]) (stf := fun Γ => [.ref (xad Γ a0)]) (len := 84) (n := (G.2.2.1 + 4)) F4 hA q231 (by decide) (by decide) (by decide) (show 4 + 1 ≤ 17 from Nat.le_of_ble_eq_true rfl) (show 105 + 84 ≤ 2824 from Nat.le_of_ble_eq_true rfl) dX6_init_39 n4 (fun G' e => ⟨by simp only [e _ ha0.1], by simp only [e _ ha0.1]⟩) (fun G5 g5 n5 i5 F5 => ?_)
  have ha0 := isa_grow g5 ha0
  have n5 : G5.2.2.1 = (G.2.2.1 + 5) := n5
  refine xj_putF1 F5 hin ha0 lfX6_24 i5 dX6_init_41 (fun m5 => ?_)
  refine xj_aload_n F5 0 dX6_init_44 rfl ?_
  refine xj_bipush F5 84 dX6_init_45 (by decide) ?_
  refine xj_newA_I (lvf := fun Γ => [(0, .ref (xad Γ a0))]) (stf := fun Γ => [.ref (xad Γ a0)]) (len := 84) (n := (G.2.2.1 + 5)) F5 hA q231 (by decide) (by decide) (by decide) (show 5 + 1 ≤ 17 from Nat.le_of_ble_eq_true rfl) (show 189 + 84 ≤ 2824 from Nat.le_of_ble_eq_true rfl) dX6_init_47 n5 (fun G' e => ⟨by simp only [e _ ha0.1], by simp only [e _ ha0.1]⟩) (fun G6 g6 n6 i6 F6 => ?_)
  have ha0 := isa_grow g6 ha0
  have n6 : G6.2.2.1 = (G.2.2.1 + 6) := n6
  refine xj_putF1 F6 hin ha0 lfX6_27 i6 dX6_init_49 (fun m6 => ?_)
  refine xj_aload_n F6 0 dX6_init_52 rfl ?_
  refine xj_bipush F6 84 dX6_init_53 (by decide) ?_
  refine xj_newA_I (lvf := fun Γ => [(0, .ref (xad Γ a0))]) (stf := fun Γ => [.ref (xad Γ a0)]) (len := 84) (n := (G.2.2.1 + 6)) F6 hA q231 (by decide) (by decide) (by decide) (show 6 + 1 ≤ 17 from Nat.le_of_ble_eq_true rfl) (show 273 + 84 ≤ 2824 from Nat.le_of_ble_eq_true rfl) dX6_init_55 n6 (fun G' e => ⟨by simp only [e _ ha0.1], by simp only [e _ ha0.1]⟩) (fun G7 g7 n7 i7 F7 => ?_)
  have ha0 := isa_grow g7 ha0
  have n7 : G7.2.2.1 = (G.2.2.1 + 7) := n7
  refine xj_putF1 F7 hin ha0 lfX6_30 i7 dX6_init_57 (fun m7 => ?_)
  refine xj_aload_n F7 0 dX6_init_60 rfl ?_
  refine xj_bipush F7 84 dX6_init_61 (by decide) ?_
  refine xj_newA_I (lvf := fun Γ => [(0, .ref (xad Γ a0))]) (stf := fun Γ => [.ref (xad Γ a0)]) (len := 84) (n := (G.2.2.1 + 7)) F7 hA q231 (by decide) (by decide) (by decide) (show 7 + 1 ≤ 17 from Nat.le_of_ble_eq_true rfl) (show 357 + 84 ≤ 2824 from Nat.le_of_ble_eq_true rfl) dX6_init_63 n7 (fun G' e => ⟨by simp only [e _ ha0.1], by simp only [e _ ha0.1]⟩) (fun G8 g8 n8 i8 F8 => ?_)
  have ha0 := isa_grow g8 ha0
  have n8 : G8.2.2.1 = (G.2.2.1 + 8) := n8
  refine xj_putF1 F8 hin ha0 lfX6_33 i8 dX6_init_65 (fun m8 => ?_)
  refine xj_aload_n F8 0 dX6_init_68 rfl ?_
  refine xj_bipush F8 84 dX6_init_69 (by decide) ?_
  refine xj_newA_I (lvf := fun Γ => [(0, .ref (xad Γ a0))]) (stf := fun Γ => [.ref (xad Γ a0)]) (len := 84) (n := (G.2.2.1 + 8)) F8 hA q231 (by decide) (by decide) (by decide) (show 8 + 1 ≤ 17 from Nat.le_of_ble_eq_true rfl) (show 441 + 84 ≤ 2824 from Nat.le_of_ble_eq_true rfl) dX6_init_71 n8 (fun G' e => ⟨by simp only [e _ ha0.1], by simp only [e _ ha0.1]⟩) (fun G9 g9 n9 i9 F9 => ?_)
  have ha0 := isa_grow g9 ha0
  have n9 : G9.2.2.1 = (G.2.2.1 + 9) := n9
  refine xj_putF1 F9 hin ha0 lfX6_36 i9 dX6_init_73 (fun m9 => ?_)
  refine xj_aload_n F9 0 dX6_init_76 rfl ?_
  refine xj_sipush F9 182 dX6_init_77 (by decide) ?_
  refine xj_newA_I (lvf := fun Γ => [(0, .ref (xad Γ a0))]) (stf := fun Γ => [.ref (xad Γ a0)]) (len := 182) (n := (G.2.2.1 + 9)) F9 hA q231 (by decide) (by decide) (by decide) (show 9 + 1 ≤ 17 from Nat.le_of_ble_eq_true rfl) (show 525 + 182 ≤ 2824 from Nat.le_of_ble_eq_true rfl) dX6_init_80 n9 (fun G' e => ⟨by simp only [e _ ha0.1], by simp only [e _ ha0.1]⟩) (fun G10 g10 n10 i10 F10 => ?_)
  have ha0 := isa_grow g10 ha0
  have n10 : G10.2.2.1 = (G.2.2.1 + 10) := n10
  refine xj_putF1 F10 hin ha0 lfX6_39 i10 dX6_init_82 (fun m10 => ?_)
  refine xj_aload_n F10 0 dX6_init_85 rfl ?_
  refine xj_bipush F10 10 dX6_init_86 (by decide) ?_
  refine xj_newA_I (lvf := fun Γ => [(0, .ref (xad Γ a0))]) (stf := fun Γ => [.ref (xad Γ a0)]) (len := 10) (n := (G.2.2.1 + 10)) F10 hA q231 (by decide) (by decide) (by decide) (show 10 + 1 ≤ 17 from Nat.le_of_ble_eq_true rfl) (show 707 + 10 ≤ 2824 from Nat.le_of_ble_eq_true rfl) dX6_init_88 n10 (fun G' e => ⟨by simp only [e _ ha0.1], by simp only [e _ ha0.1]⟩) (fun G11 g11 n11 i11 F11 => ?_)
  have ha0 := isa_grow g11 ha0
  have n11 : G11.2.2.1 = (G.2.2.1 + 11) := n11
  refine xj_putF1 F11 hin ha0 lfX6_42 i11 dX6_init_90 (fun m11 => ?_)
  refine xj_aload_n F11 0 dX6_init_93 rfl ?_
  refine xj_newC1 (lvf := fun Γ => [(0, .ref (xad Γ a0))]) (stf := fun Γ => [.ref (xad Γ a0)]) (n := (G.2.2.1 + 11)) F11 hA lnX6_45 (show 11 + 1 ≤ 17 from Nat.le_of_ble_eq_true rfl) (show 717 + 7 ≤ 2824 from Nat.le_of_ble_eq_true rfl) dX6_init_94 n11 (fun G' e => ⟨by simp only [e _ ha0.1], by simp only [e _ ha0.1]⟩) (fun G12 g12 n12 i12 F12 => ?_)
  have ha0 := isa_grow g12 ha0
  have n12 : G12.2.2.1 = (G.2.2.1 + 12) := n12
  refine xj_dup F12 dX6_init_97 rfl ?_
  refine xj_callN (lvf := fun Γ => [(0, .ref (xad Γ a0))]) (stf := fun Γ => [.ref (xad Γ (G.2.2.1 + 11)), .ref (xad Γ a0)]) (b := (G.2.2.1 + 11)) (As := []) (ks := ksX5_init) (d' := 1) (mc := 5) (ms := 2100) (n := (G.2.2.1 + 12)) F12 hA lmX6_47 q188 rfl rfl rfl rfl (Nat.le_of_ble_eq_true rfl) ⟨Nat.le_of_ble_eq_true rfl, Nat.le_of_ble_eq_true rfl⟩ ⟨show 12 + 5 ≤ 17 from Nat.le_of_ble_eq_true rfl, show 724 + 2100 ≤ 2824 from Nat.le_of_ble_eq_true rfl⟩ dX6_init_98 (fun hT z hz => wcX5_init (xnd F12) hT i12 z (by rw [n12]; exact hz)) n12 (fun G' e => ⟨by simp only [e _ ha0.1], by simp only [e _ i12.1, e _ ha0.1]⟩) (fun G13 m12 g13 n13 F13 => ?_)
  have ha0 := isa_grow g13 ha0
  have i12 := isa_grow g13 i12
  have n13 : G13.2.2.1 = (G.2.2.1 + 17) := n13
  refine xj_putF1 F13 hin ha0 lfX6_48 i12 dX6_init_101 (fun m13 => ?_)
  exact xj_retC F13 (xgrow_tr (Nat.le_refl _) (xgrow_tr (Nat.le_refl _) (xgrow_tr (Nat.le_refl _) (xgrow_tr (Nat.le_refl _) (xgrow_tr (Nat.le_refl _) (xgrow_tr (Nat.le_refl _) (xgrow_tr (Nat.le_refl _) (xgrow_tr (Nat.le_refl _) (xgrow_tr (Nat.le_refl _) (xgrow_tr (Nat.le_refl _) (xgrow_tr (Nat.le_refl _) (xgrow_tr (Nat.le_refl _) g1 g2) g3) g4) g5) g6) g7) g8) g9) g10) g11) g12) g13) rfl dX6_init_104
set_option maxRecDepth 20000 in
set_option maxHeartbeats 4000000 in
theorem wcX4_init {G : XG} {l : Launch} (hn : xN G) {m0 : XM} (hT : xT G m0) {a0 : Nat} (ha0 : isa G a0 4) : ∀ z, ccX4_init G.2.2.1 a0 m0 = some z → xCMet G l mX4_init 1 1 20 [.ref (xad G a0)] m0 ksX4_init z := by
  refine xCMet_of (by decide +kernel) hn hT (Nat.le_of_ble_eq_true rfl) rfl (fun X sz hsz hin F => ?_)
  subst hsz
  have hA : ∀ q, X.2.2.1.heap.size ≤ q → xAn G X.2.2.1.heap.size q := fun q h => Or.inr h
  refine xj_sub (lv' := [(0, .ref (xad G a0))]) [0] rfl ?_
  unfold ccX4_init
  refine xj_aload_n F 0 dX4_init_0 rfl ?_
  refine xj_objInit F q392 q171 q172 dX4_init_1 ⟨Nat.le_of_ble_eq_true rfl, Nat.le_of_ble_eq_true rfl⟩ ?_
  refine xj_aload_n F 0 dX4_init_4 rfl ?_
  refine xj_iconst F (-1) dX4_init_5 (by decide) ?_
  refine xj_put F ha0 lpX4_9 dX4_init_6 (fun m1 => ?_)
  refine xj_aload_n F 0 dX4_init_9 rfl ?_
  refine xj_bipush F 20 dX4_init_10 (by decide) ?_
  refine xj_newA_I (lvf := fun Γ => [(0, .ref (xad Γ a0))]) (stf := fun Γ => [.ref (xad Γ a0)]) (len := 20) (n := G.2.2.1) F hA q231 (by decide) (by decide) (by decide) (show 0 + 1 ≤ 1 from Nat.le_of_ble_eq_true rfl) (show 0 + 20 ≤ 20 from Nat.le_of_ble_eq_true rfl) dX4_init_12 rfl (fun G' e => ⟨by simp only [e _ ha0.1], by simp only [e _ ha0.1]⟩) (fun G1 g1 n1 i1 F1 => ?_)
  have ha0 := isa_grow g1 ha0
  have n1 : G1.2.2.1 = (G.2.2.1 + 1) := n1
  refine xj_putF1 F1 hin ha0 lfX4_15 i1 dX4_init_14 (fun m2 => ?_)
  exact xj_retC F1 g1 rfl dX4_init_17
set_option maxRecDepth 20000 in
set_option maxHeartbeats 4000000 in
theorem wcX0_init {G : XG} {l : Launch} (hn : xN G) {m0 : XM} (hT : xT G m0) {a0 : Nat} (ha0 : isa G a0 0) : ∀ z, ccX0_init G.2.2.1 a0 m0 = some z → xCMet G l mX0_init 1 3 48 [.ref (xad G a0)] m0 ksX0_init z := by
  refine xCMet_of (by decide +kernel) hn hT (Nat.le_of_ble_eq_true rfl) rfl (fun X sz hsz hin F => ?_)
  subst hsz
  have hA : ∀ q, X.2.2.1.heap.size ≤ q → xAn G X.2.2.1.heap.size q := fun q h => Or.inr h
  refine xj_sub (lv' := [(0, .ref (xad G a0))]) [0] rfl ?_
  unfold ccX0_init
  refine xj_aload_n F 0 dX0_init_0 rfl ?_
  refine xj_objInit F q361 q171 q172 dX0_init_1 ⟨Nat.le_of_ble_eq_true rfl, Nat.le_of_ble_eq_true rfl⟩ ?_
  refine xj_aload_n F 0 dX0_init_4 rfl ?_
  refine xj_bipush F 16 dX0_init_5 (by decide) ?_
  refine xj_newA_I (lvf := fun Γ => [(0, .ref (xad Γ a0))]) (stf := fun Γ => [.ref (xad Γ a0)]) (len := 16) (n := G.2.2.1) F hA q231 (by decide) (by decide) (by decide) (show 0 + 1 ≤ 3 from Nat.le_of_ble_eq_true rfl) (show 0 + 16 ≤ 48 from Nat.le_of_ble_eq_true rfl) dX0_init_7 rfl (fun G' e => ⟨by simp only [e _ ha0.1], by simp only [e _ ha0.1]⟩) (fun G1 g1 n1 i1 F1 => ?_)
  have ha0 := isa_grow g1 ha0
  have n1 : G1.2.2.1 = (G.2.2.1 + 1) := n1
  refine xj_putF1 F1 hin ha0 lfX0_9 i1 dX0_init_9 (fun m1 => ?_)
  refine xj_aload_n F1 0 dX0_init_12 rfl ?_
  refine xj_bipush F1 16 dX0_init_13 (by decide) ?_
  refine xj_newA_I (lvf := fun Γ => [(0, .ref (xad Γ a0))]) (stf := fun Γ => [.ref (xad Γ a0)]) (len := 16) (n := (G.2.2.1 + 1)) F1 hA q231 (by decide) (by decide) (by decide) (show 1 + 1 ≤ 3 from Nat.le_of_ble_eq_true rfl) (show 16 + 16 ≤ 48 from Nat.le_of_ble_eq_true rfl) dX0_init_15 n1 (fun G' e => ⟨by simp only [e _ ha0.1], by simp only [e _ ha0.1]⟩) (fun G2 g2 n2 i2 F2 => ?_)
  have ha0 := isa_grow g2 ha0
  have n2 : G2.2.2.1 = (G.2.2.1 + 2) := n2
  refine xj_putF1 F2 hin ha0 lfX0_15 i2 dX0_init_17 (fun m2 => ?_)
  refine xj_aload_n F2 0 dX0_init_20 rfl ?_
  refine xj_bipush F2 16 dX0_init_21 (by decide) ?_
  refine xj_newA_I (lvf := fun Γ => [(0, .ref (xad Γ a0))]) (stf := fun Γ => [.ref (xad Γ a0)]) (len := 16) (n := (G.2.2.1 + 2)) F2 hA q231 (by decide) (by decide) (by decide) (show 2 + 1 ≤ 3 from Nat.le_of_ble_eq_true rfl) (show 32 + 16 ≤ 48 from Nat.le_of_ble_eq_true rfl) dX0_init_23 n2 (fun G' e => ⟨by simp only [e _ ha0.1], by simp only [e _ ha0.1]⟩) (fun G3 g3 n3 i3 F3 => ?_)
  have ha0 := isa_grow g3 ha0
  have n3 : G3.2.2.1 = (G.2.2.1 + 3) := n3
  refine xj_putF1 F3 hin ha0 lfX0_18 i3 dX0_init_25 (fun m3 => ?_)
  exact xj_retC F3 (xgrow_tr (Nat.le_refl _) (xgrow_tr (Nat.le_refl _) g1 g2) g3) rfl dX0_init_28
set_option maxRecDepth 20000 in
set_option maxHeartbeats 4000000 in
theorem wcX1_init {G : XG} {l : Launch} (hn : xN G) {m0 : XM} (hT : xT G m0) {a0 : Nat} (ha0 : isa G a0 1) : ∀ z, ccX1_init G.2.2.1 a0 m0 = some z → xCMet G l mX1_init 3 25 5551 [.ref (xad G a0)] m0 ksX1_init z := by
  refine xCMet_of (by decide +kernel) hn hT (Nat.le_of_ble_eq_true rfl) rfl (fun X sz hsz hin F => ?_)
  subst hsz
  have hA : ∀ q, X.2.2.1.heap.size ≤ q → xAn G X.2.2.1.heap.size q := fun q h => Or.inr h
  refine xj_sub (lv' := [(0, .ref (xad G a0))]) [0] rfl ?_
  unfold ccX1_init
  refine xj_aload_n F 0 dX1_init_0 rfl ?_
  refine xj_objInit F q178 q171 q172 dX1_init_1 ⟨Nat.le_of_ble_eq_true rfl, Nat.le_of_ble_eq_true rfl⟩ ?_
  refine xj_aload_n F 0 dX1_init_4 rfl ?_
  refine xj_newC1 (lvf := fun Γ => [(0, .ref (xad Γ a0))]) (stf := fun Γ => [.ref (xad Γ a0)]) (n := G.2.2.1) F hA lnX1_9 (show 0 + 1 ≤ 25 from Nat.le_of_ble_eq_true rfl) (show 0 + 14 ≤ 5551 from Nat.le_of_ble_eq_true rfl) dX1_init_5 rfl (fun G' e => ⟨by simp only [e _ ha0.1], by simp only [e _ ha0.1]⟩) (fun G1 g1 n1 i1 F1 => ?_)
  have ha0 := isa_grow g1 ha0
  have n1 : G1.2.2.1 = (G.2.2.1 + 1) := n1
  refine xj_dup F1 dX1_init_8 rfl ?_
  refine xj_callN (lvf := fun Γ => [(0, .ref (xad Γ a0))]) (stf := fun Γ => [.ref (xad Γ G.2.2.1), .ref (xad Γ a0)]) (b := G.2.2.1) (As := []) (ks := ksX6_init) (d' := 2) (mc := 17) (ms := 2824) (n := (G.2.2.1 + 1)) F1 hA lmX1_11 q182 rfl rfl rfl rfl (Nat.le_of_ble_eq_true rfl) ⟨Nat.le_of_ble_eq_true rfl, Nat.le_of_ble_eq_true rfl⟩ ⟨show 1 + 17 ≤ 25 from Nat.le_of_ble_eq_true rfl, show 14 + 2824 ≤ 5551 from Nat.le_of_ble_eq_true rfl⟩ dX1_init_9 (fun hT z hz => wcX6_init (xnd F1) hT i1 z (by rw [n1]; exact hz)) n1 (fun G' e => ⟨by simp only [e _ ha0.1], by simp only [e _ i1.1, e _ ha0.1]⟩) (fun G2 m1 g2 n2 F2 => ?_)
  have ha0 := isa_grow g2 ha0
  have i1 := isa_grow g2 i1
  have n2 : G2.2.2.1 = (G.2.2.1 + 18) := n2
  refine xj_putR F2 ha0 lpX1_12 i1 dX1_init_12 (fun m2 => ?_)
  refine xj_aload_n F2 0 dX1_init_15 rfl ?_
  refine xj_bipush F2 7 dX1_init_16 (by decide) ?_
  refine xj_newA_I (lvf := fun Γ => [(0, .ref (xad Γ a0))]) (stf := fun Γ => [.ref (xad Γ a0)]) (len := 7) (n := (G.2.2.1 + 18)) F2 hA q231 (by decide) (by decide) (by decide) (show 18 + 1 ≤ 25 from Nat.le_of_ble_eq_true rfl) (show 2838 + 7 ≤ 5551 from Nat.le_of_ble_eq_true rfl) dX1_init_18 n2 (fun G' e => ⟨by simp only [e _ ha0.1], by simp only [e _ ha0.1]⟩) (fun G3 g3 n3 i3 F3 => ?_)
  have ha0 := isa_grow g3 ha0
  have n3 : G3.2.2.1 = (G.2.2.1 + 19) := n3
  refine xj_putF1 F3 hin ha0 lfX1_18 i3 dX1_init_20 (fun m3 => ?_)
  refine xj_aload_n F3 0 dX1_init_23 rfl ?_
  refine xj_sipush F3 600 dX1_init_24 (by decide) ?_
  refine xj_newA_I (lvf := fun Γ => [(0, .ref (xad Γ a0))]) (stf := fun Γ => [.ref (xad Γ a0)]) (len := 600) (n := (G.2.2.1 + 19)) F3 hA q231 (by decide) (by decide) (by decide) (show 19 + 1 ≤ 25 from Nat.le_of_ble_eq_true rfl) (show 2845 + 600 ≤ 5551 from Nat.le_of_ble_eq_true rfl) dX1_init_27 n3 (fun G' e => ⟨by simp only [e _ ha0.1], by simp only [e _ ha0.1]⟩) (fun G4 g4 n4 i4 F4 => ?_)
  have ha0 := isa_grow g4 ha0
  have n4 : G4.2.2.1 = (G.2.2.1 + 20) := n4
  refine xj_putF1 F4 hin ha0 lfX1_22 i4 dX1_init_29 (fun m4 => ?_)
  refine xj_aload_n F4 0 dX1_init_32 rfl ?_
  refine xj_sipush F4 300 dX1_init_33 (by decide) ?_
  refine xj_newA_I (lvf := fun Γ => [(0, .ref (xad Γ a0))]) (stf := fun Γ => [.ref (xad Γ a0)]) (len := 300) (n := (G.2.2.1 + 20)) F4 hA q231 (by decide) (by decide) (by decide) (show 20 + 1 ≤ 25 from Nat.le_of_ble_eq_true rfl) (show 3445 + 300 ≤ 5551 from Nat.le_of_ble_eq_true rfl) dX1_init_36 n4 (fun G' e => ⟨by simp only [e _ ha0.1], by simp only [e _ ha0.1]⟩) (fun G5 g5 n5 i5 F5 => ?_)
  have ha0 := isa_grow g5 ha0
  have n5 : G5.2.2.1 = (G.2.2.1 + 21) := n5
  refine xj_putF1 F5 hin ha0 lfX1_25 i5 dX1_init_38 (fun m5 => ?_)
  refine xj_aload_n F5 0 dX1_init_41 rfl ?_
  refine xj_iconst F5 0 dX1_init_42 (by decide) ?_
  refine xj_newA_I (lvf := fun Γ => [(0, .ref (xad Γ a0))]) (stf := fun Γ => [.ref (xad Γ a0)]) (len := 0) (n := (G.2.2.1 + 21)) F5 hA q231 (by decide) (by decide) (by decide) (show 21 + 1 ≤ 25 from Nat.le_of_ble_eq_true rfl) (show 3745 + 0 ≤ 5551 from Nat.le_of_ble_eq_true rfl) dX1_init_43 n5 (fun G' e => ⟨by simp only [e _ ha0.1], by simp only [e _ ha0.1]⟩) (fun G6 g6 n6 i6 F6 => ?_)
  have ha0 := isa_grow g6 ha0
  have n6 : G6.2.2.1 = (G.2.2.1 + 22) := n6
  refine xj_putR F6 ha0 lpX1_28 i6 dX1_init_45 (fun m6 => ?_)
  refine xj_aload_n F6 0 dX1_init_48 rfl ?_
  refine xj_sipush F6 602 dX1_init_49 (by decide) ?_
  refine xj_newA_I (lvf := fun Γ => [(0, .ref (xad Γ a0))]) (stf := fun Γ => [.ref (xad Γ a0)]) (len := 602) (n := (G.2.2.1 + 22)) F6 hA q231 (by decide) (by decide) (by decide) (show 22 + 1 ≤ 25 from Nat.le_of_ble_eq_true rfl) (show 3745 + 602 ≤ 5551 from Nat.le_of_ble_eq_true rfl) dX1_init_52 n6 (fun G' e => ⟨by simp only [e _ ha0.1], by simp only [e _ ha0.1]⟩) (fun G7 g7 n7 i7 F7 => ?_)
  have ha0 := isa_grow g7 ha0
  have n7 : G7.2.2.1 = (G.2.2.1 + 23) := n7
  refine xj_putF1 F7 hin ha0 lfX1_31 i7 dX1_init_54 (fun m7 => ?_)
  refine xj_aload_n F7 0 dX1_init_57 rfl ?_
  refine xj_sipush F7 602 dX1_init_58 (by decide) ?_
  refine xj_newA_I (lvf := fun Γ => [(0, .ref (xad Γ a0))]) (stf := fun Γ => [.ref (xad Γ a0)]) (len := 602) (n := (G.2.2.1 + 23)) F7 hA q231 (by decide) (by decide) (by decide) (show 23 + 1 ≤ 25 from Nat.le_of_ble_eq_true rfl) (show 4347 + 602 ≤ 5551 from Nat.le_of_ble_eq_true rfl) dX1_init_61 n7 (fun G' e => ⟨by simp only [e _ ha0.1], by simp only [e _ ha0.1]⟩) (fun G8 g8 n8 i8 F8 => ?_)
  have ha0 := isa_grow g8 ha0
  have n8 : G8.2.2.1 = (G.2.2.1 + 24) := n8
  refine xj_putF1 F8 hin ha0 lfX1_34 i8 dX1_init_63 (fun m8 => ?_)
  refine xj_aload_n F8 0 dX1_init_66 rfl ?_
  refine xj_sipush F8 602 dX1_init_67 (by decide) ?_
  refine xj_newA_I (lvf := fun Γ => [(0, .ref (xad Γ a0))]) (stf := fun Γ => [.ref (xad Γ a0)]) (len := 602) (n := (G.2.2.1 + 24)) F8 hA q231 (by decide) (by decide) (by decide) (show 24 + 1 ≤ 25 from Nat.le_of_ble_eq_true rfl) (show 4949 + 602 ≤ 5551 from Nat.le_of_ble_eq_true rfl) dX1_init_70 n8 (fun G' e => ⟨by simp only [e _ ha0.1], by simp only [e _ ha0.1]⟩) (fun G9 g9 n9 i9 F9 => ?_)
  have ha0 := isa_grow g9 ha0
  have n9 : G9.2.2.1 = (G.2.2.1 + 25) := n9
  refine xj_putF1 F9 hin ha0 lfX1_37 i9 dX1_init_72 (fun m9 => ?_)
  exact xj_retC F9 (xgrow_tr (Nat.le_refl _) (xgrow_tr (Nat.le_refl _) (xgrow_tr (Nat.le_refl _) (xgrow_tr (Nat.le_refl _) (xgrow_tr (Nat.le_refl _) (xgrow_tr (Nat.le_refl _) (xgrow_tr (Nat.le_refl _) (xgrow_tr (Nat.le_refl _) g1 g2) g3) g4) g5) g6) g7) g8) g9) rfl dX1_init_75
set_option maxRecDepth 20000 in
set_option maxHeartbeats 4000000 in
theorem wcX2_init {G : XG} {l : Launch} (hn : xN G) {m0 : XM} (hT : xT G m0) {a0 a1 : Nat} (ha0 : isa G a0 2) (ha1 : isa G a1 6) : ∀ z, ccX2_init G.2.2.1 a0 a1 m0 = some z → xCMet G l mX2_init 2 12 422 [.ref (xad G a0), .ref (xad G a1)] m0 ksX2_init z := by
  refine xCMet_of (by decide +kernel) hn hT (Nat.le_of_ble_eq_true rfl) rfl (fun X sz hsz hin F => ?_)
  subst hsz
  have hA : ∀ q, X.2.2.1.heap.size ≤ q → xAn G X.2.2.1.heap.size q := fun q h => Or.inr h
  refine xj_sub (lv' := [(0, .ref (xad G a0)), (1, .ref (xad G a1))]) [0, 1] rfl ?_
  unfold ccX2_init
  refine xj_aload_n F 0 dX2_init_0 rfl ?_
  refine xj_objInit F q384 q171 q172 dX2_init_1 ⟨Nat.le_of_ble_eq_true rfl, Nat.le_of_ble_eq_true rfl⟩ ?_
  refine xj_aload_n F 0 dX2_init_4 rfl ?_
  refine xj_aload_n F 1 dX2_init_5 rfl ?_
  refine xj_putR F ha0 lpX2_9 ha1 dX2_init_6 (fun m1 => ?_)
  refine xj_aload_n F 0 dX2_init_9 rfl ?_
  refine xj_bipush F 7 dX2_init_10 (by decide) ?_
  refine xj_newA_I (lvf := fun Γ => [(0, .ref (xad Γ a0)), (1, .ref (xad Γ a1))]) (stf := fun Γ => [.ref (xad Γ a0)]) (len := 7) (n := G.2.2.1) F hA q231 (by decide) (by decide) (by decide) (show 0 + 1 ≤ 12 from Nat.le_of_ble_eq_true rfl) (show 0 + 7 ≤ 422 from Nat.le_of_ble_eq_true rfl) dX2_init_12 rfl (fun G' e => ⟨by simp only [e _ ha0.1, e _ ha1.1], by simp only [e _ ha0.1]⟩) (fun G1 g1 n1 i1 F1 => ?_)
  have ha0 := isa_grow g1 ha0
  have ha1 := isa_grow g1 ha1
  have n1 : G1.2.2.1 = (G.2.2.1 + 1) := n1
  refine xj_putF1 F1 hin ha0 lfX2_15 i1 dX2_init_14 (fun m2 => ?_)
  refine xj_aload_n F1 0 dX2_init_17 rfl ?_
  refine xj_bipush F1 84 dX2_init_18 (by decide) ?_
  refine xj_newA_I (lvf := fun Γ => [(0, .ref (xad Γ a0)), (1, .ref (xad Γ a1))]) (stf := fun Γ => [.ref (xad Γ a0)]) (len := 84) (n := (G.2.2.1 + 1)) F1 hA q231 (by decide) (by decide) (by decide) (show 1 + 1 ≤ 12 from Nat.le_of_ble_eq_true rfl) (show 7 + 84 ≤ 422 from Nat.le_of_ble_eq_true rfl) dX2_init_20 n1 (fun G' e => ⟨by simp only [e _ ha0.1, e _ ha1.1], by simp only [e _ ha0.1]⟩) (fun G2 g2 n2 i2 F2 => ?_)
  have ha0 := isa_grow g2 ha0
  have ha1 := isa_grow g2 ha1
  have n2 : G2.2.2.1 = (G.2.2.1 + 2) := n2
  refine xj_putF1 F2 hin ha0 lfX2_19 i2 dX2_init_22 (fun m3 => ?_)
  refine xj_aload_n F2 0 dX2_init_25 rfl ?_
  refine xj_bipush F2 84 dX2_init_26 (by decide) ?_
  refine xj_newA_I (lvf := fun Γ => [(0, .ref (xad Γ a0)), (1, .ref (xad Γ a1))]) (stf := fun Γ => [.ref (xad Γ a0)]) (len := 84) (n := (G.2.2.1 + 2)) F2 hA q231 (by decide) (by decide) (by decide) (show 2 + 1 ≤ 12 from Nat.le_of_ble_eq_true rfl) (show 91 + 84 ≤ 422 from Nat.le_of_ble_eq_true rfl) dX2_init_28 n2 (fun G' e => ⟨by simp only [e _ ha0.1, e _ ha1.1], by simp only [e _ ha0.1]⟩) (fun G3 g3 n3 i3 F3 => ?_)
  have ha0 := isa_grow g3 ha0
  have ha1 := isa_grow g3 ha1
  have n3 : G3.2.2.1 = (G.2.2.1 + 3) := n3
  refine xj_putF1 F3 hin ha0 lfX2_22 i3 dX2_init_30 (fun m4 => ?_)
  refine xj_aload_n F3 0 dX2_init_33 rfl ?_
  refine xj_bipush F3 7 dX2_init_34 (by decide) ?_
  refine xj_newA_I (lvf := fun Γ => [(0, .ref (xad Γ a0)), (1, .ref (xad Γ a1))]) (stf := fun Γ => [.ref (xad Γ a0)]) (len := 7) (n := (G.2.2.1 + 3)) F3 hA q231 (by decide) (by decide) (by decide) (show 3 + 1 ≤ 12 from Nat.le_of_ble_eq_true rfl) (show 175 + 7 ≤ 422 from Nat.le_of_ble_eq_true rfl) dX2_init_36 n3 (fun G' e => ⟨by simp only [e _ ha0.1, e _ ha1.1], by simp only [e _ ha0.1]⟩) (fun G4 g4 n4 i4 F4 => ?_)
  have ha0 := isa_grow g4 ha0
  have ha1 := isa_grow g4 ha1
  have n4 : G4.2.2.1 = (G.2.2.1 + 4) := n4
  refine xj_putF1 F4 hin ha0 lfX2_25 i4 dX2_init_38 (fun m5 => ?_)
  refine xj_aload_n F4 0 dX2_init_41 rfl ?_
  refine xj_iconst F4 3 dX2_init_42 (by decide) ?_
  refine xj_bipush F4 7 dX2_init_43 (by decide) ?_
  refine xj_mna (lvf := fun Γ => [(0, .ref (xad Γ a0)), (1, .ref (xad Γ a1))]) (stf := fun Γ => [.ref (xad Γ a0)]) (n := (G.2.2.1 + 4)) F4 hA q385 q231 (show 4 + 4 ≤ 12 from Nat.le_of_ble_eq_true rfl) (show 182 + 24 ≤ 422 from Nat.le_of_ble_eq_true rfl) dX2_init_45 n4 (fun G' e => ⟨by simp only [e _ ha0.1, e _ ha1.1], by simp only [e _ ha0.1]⟩) (fun G5 g5 n5 i5 F5 => ?_)
  have ha0 := isa_grow g5 ha0
  have ha1 := isa_grow g5 ha1
  have n5 : G5.2.2.1 = (G.2.2.1 + 8) := n5
  refine xj_putF1 F5 hin ha0 lfX2_30 i5 dX2_init_49 (fun m6 => ?_)
  refine xj_aload_n F5 0 dX2_init_52 rfl ?_
  refine xj_bipush F5 20 dX2_init_53 (by decide) ?_
  refine xj_newA_I (lvf := fun Γ => [(0, .ref (xad Γ a0)), (1, .ref (xad Γ a1))]) (stf := fun Γ => [.ref (xad Γ a0)]) (len := 20) (n := (G.2.2.1 + 8)) F5 hA q231 (by decide) (by decide) (by decide) (show 8 + 1 ≤ 12 from Nat.le_of_ble_eq_true rfl) (show 206 + 20 ≤ 422 from Nat.le_of_ble_eq_true rfl) dX2_init_55 n5 (fun G' e => ⟨by simp only [e _ ha0.1, e _ ha1.1], by simp only [e _ ha0.1]⟩) (fun G6 g6 n6 i6 F6 => ?_)
  have ha0 := isa_grow g6 ha0
  have ha1 := isa_grow g6 ha1
  have n6 : G6.2.2.1 = (G.2.2.1 + 9) := n6
  refine xj_putF1 F6 hin ha0 lfX2_33 i6 dX2_init_57 (fun m7 => ?_)
  refine xj_aload_n F6 0 dX2_init_60 rfl ?_
  refine xj_sipush F6 168 dX2_init_61 (by decide) ?_
  refine xj_newA_I (lvf := fun Γ => [(0, .ref (xad Γ a0)), (1, .ref (xad Γ a1))]) (stf := fun Γ => [.ref (xad Γ a0)]) (len := 168) (n := (G.2.2.1 + 9)) F6 hA q231 (by decide) (by decide) (by decide) (show 9 + 1 ≤ 12 from Nat.le_of_ble_eq_true rfl) (show 226 + 168 ≤ 422 from Nat.le_of_ble_eq_true rfl) dX2_init_64 n6 (fun G' e => ⟨by simp only [e _ ha0.1, e _ ha1.1], by simp only [e _ ha0.1]⟩) (fun G7 g7 n7 i7 F7 => ?_)
  have ha0 := isa_grow g7 ha0
  have ha1 := isa_grow g7 ha1
  have n7 : G7.2.2.1 = (G.2.2.1 + 10) := n7
  refine xj_putF1 F7 hin ha0 lfX2_36 i7 dX2_init_66 (fun m8 => ?_)
  refine xj_aload_n F7 0 dX2_init_69 rfl ?_
  refine xj_newC1 (lvf := fun Γ => [(0, .ref (xad Γ a0)), (1, .ref (xad Γ a1))]) (stf := fun Γ => [.ref (xad Γ a0)]) (n := (G.2.2.1 + 10)) F7 hA lnX2_39 (show 10 + 1 ≤ 12 from Nat.le_of_ble_eq_true rfl) (show 394 + 8 ≤ 422 from Nat.le_of_ble_eq_true rfl) dX2_init_70 n7 (fun G' e => ⟨by simp only [e _ ha0.1, e _ ha1.1], by simp only [e _ ha0.1]⟩) (fun G8 g8 n8 i8 F8 => ?_)
  have ha0 := isa_grow g8 ha0
  have ha1 := isa_grow g8 ha1
  have n8 : G8.2.2.1 = (G.2.2.1 + 11) := n8
  refine xj_dup F8 dX2_init_73 rfl ?_
  refine xj_callN (lvf := fun Γ => [(0, .ref (xad Γ a0)), (1, .ref (xad Γ a1))]) (stf := fun Γ => [.ref (xad Γ (G.2.2.1 + 10)), .ref (xad Γ a0)]) (b := (G.2.2.1 + 10)) (As := []) (ks := ksX4_init) (d' := 1) (mc := 1) (ms := 20) (n := (G.2.2.1 + 11)) F8 hA lmX2_41 q390 rfl rfl rfl rfl (Nat.le_of_ble_eq_true rfl) ⟨Nat.le_of_ble_eq_true rfl, Nat.le_of_ble_eq_true rfl⟩ ⟨show 11 + 1 ≤ 12 from Nat.le_of_ble_eq_true rfl, show 402 + 20 ≤ 422 from Nat.le_of_ble_eq_true rfl⟩ dX2_init_74 (fun hT z hz => wcX4_init (xnd F8) hT i8 z (by rw [n8]; exact hz)) n8 (fun G' e => ⟨by simp only [e _ ha0.1, e _ ha1.1], by simp only [e _ i8.1, e _ ha0.1]⟩) (fun G9 m9 g9 n9 F9 => ?_)
  have ha0 := isa_grow g9 ha0
  have ha1 := isa_grow g9 ha1
  have i8 := isa_grow g9 i8
  have n9 : G9.2.2.1 = (G.2.2.1 + 12) := n9
  refine xj_putF1 F9 hin ha0 lfX2_42 i8 dX2_init_77 (fun m10 => ?_)
  exact xj_retC F9 (xgrow_tr (Nat.le_refl _) (xgrow_tr (Nat.le_refl _) (xgrow_tr (Nat.le_refl _) (xgrow_tr (Nat.le_refl _) (xgrow_tr (Nat.le_refl _) (xgrow_tr (Nat.le_refl _) (xgrow_tr (Nat.le_refl _) (xgrow_tr (Nat.le_refl _) g1 g2) g3) g4) g5) g6) g7) g8) g9) rfl dX2_init_80
set_option maxRecDepth 20000 in
set_option maxHeartbeats 4000000 in
theorem wcX3_init {G : XG} {l : Launch} (hn : xN G) {m0 : XM} (hT : xT G m0) {a0 a1 a2 : Nat} (ha0 : isa G a0 3) (ha1 : isa G a1 6) (ha2 : isa G a2 2) : ∀ z, ccX3_init G.2.2.1 a0 a1 a2 m0 = some z → xCMet G l mX3_init 1 1 17496 [.ref (xad G a0), .ref (xad G a1), .ref (xad G a2)] m0 ksX3_init z := by
  refine xCMet_of (by decide +kernel) hn hT (Nat.le_of_ble_eq_true rfl) rfl (fun X sz hsz hin F => ?_)
  subst hsz
  have hA : ∀ q, X.2.2.1.heap.size ≤ q → xAn G X.2.2.1.heap.size q := fun q h => Or.inr h
  refine xj_sub (lv' := [(0, .ref (xad G a0)), (1, .ref (xad G a1)), (2, .ref (xad G a2))]) [0, 1, 2] rfl ?_
  unfold ccX3_init
  refine xj_aload_n F 0 dX3_init_0 rfl ?_
  refine xj_objInit F q500 q171 q172 dX3_init_1 ⟨Nat.le_of_ble_eq_true rfl, Nat.le_of_ble_eq_true rfl⟩ ?_
  refine xj_aload_n F 0 dX3_init_4 rfl ?_
  refine xj_aload_n F 1 dX3_init_5 rfl ?_
  refine xj_putR F ha0 lpX3_9 ha1 dX3_init_6 (fun m1 => ?_)
  refine xj_aload_n F 0 dX3_init_9 rfl ?_
  refine xj_aload_n F 2 dX3_init_10 rfl ?_
  refine xj_putF1 F hin ha0 lfX3_15 ha2 dX3_init_11 (fun m2 => ?_)
  refine xj_aload_n F 0 dX3_init_14 rfl ?_
  refine xj_sipush F 17496 dX3_init_15 (by decide) ?_
  refine xj_newA_J (lvf := fun Γ => [(0, .ref (xad Γ a0)), (1, .ref (xad Γ a1)), (2, .ref (xad Γ a2))]) (stf := fun Γ => [.ref (xad Γ a0)]) (len := 17496) (n := G.2.2.1) F hA q527 (by decide) (by decide) (by decide) (show 0 + 1 ≤ 1 from Nat.le_of_ble_eq_true rfl) (show 0 + 17496 ≤ 17496 from Nat.le_of_ble_eq_true rfl) dX3_init_18 rfl (fun G' e => ⟨by simp only [e _ ha0.1, e _ ha1.1, e _ ha2.1], by simp only [e _ ha0.1]⟩) (fun G1 g1 n1 i1 F1 => ?_)
  have ha0 := isa_grow g1 ha0
  have ha1 := isa_grow g1 ha1
  have ha2 := isa_grow g1 ha2
  have n1 : G1.2.2.1 = (G.2.2.1 + 1) := n1
  refine xj_putF1 F1 hin ha0 lfX3_19 i1 dX3_init_20 (fun m3 => ?_)
  exact xj_retC F1 g1 rfl dX3_init_23
set_option maxRecDepth 20000 in
set_option maxHeartbeats 4000000 in
theorem wcX7_init {G : XG} {l : Launch} (hn : xN G) {m0 : XM} (hT : xT G m0) {a0 : Nat} (ha0 : isa G a0 7) : ∀ z, ccX7_init G.2.2.1 a0 m0 = some z → xCMet G l mX7_init 1 5 310 [.ref (xad G a0)] m0 ksX7_init z := by
  refine xCMet_of (by decide +kernel) hn hT (Nat.le_of_ble_eq_true rfl) rfl (fun X sz hsz hin F => ?_)
  subst hsz
  have hA : ∀ q, X.2.2.1.heap.size ≤ q → xAn G X.2.2.1.heap.size q := fun q h => Or.inr h
  refine xj_sub (lv' := [(0, .ref (xad G a0))]) [0] rfl ?_
  unfold ccX7_init
  refine xj_aload_n F 0 dX7_init_0 rfl ?_
  refine xj_objInit F q533 q171 q172 dX7_init_1 ⟨Nat.le_of_ble_eq_true rfl, Nat.le_of_ble_eq_true rfl⟩ ?_
  refine xj_aload_n F 0 dX7_init_4 rfl ?_
  refine xj_bipush F 7 dX7_init_5 (by decide) ?_
  refine xj_newA_I (lvf := fun Γ => [(0, .ref (xad Γ a0))]) (stf := fun Γ => [.ref (xad Γ a0)]) (len := 7) (n := G.2.2.1) F hA q231 (by decide) (by decide) (by decide) (show 0 + 1 ≤ 5 from Nat.le_of_ble_eq_true rfl) (show 0 + 7 ≤ 310 from Nat.le_of_ble_eq_true rfl) dX7_init_7 rfl (fun G' e => ⟨by simp only [e _ ha0.1], by simp only [e _ ha0.1]⟩) (fun G1 g1 n1 i1 F1 => ?_)
  have ha0 := isa_grow g1 ha0
  have n1 : G1.2.2.1 = (G.2.2.1 + 1) := n1
  refine xj_putF1 F1 hin ha0 lfX7_9 i1 dX7_init_9 (fun m1 => ?_)
  refine xj_aload_n F1 0 dX7_init_12 rfl ?_
  refine xj_bipush F1 7 dX7_init_13 (by decide) ?_
  refine xj_newA_I (lvf := fun Γ => [(0, .ref (xad Γ a0))]) (stf := fun Γ => [.ref (xad Γ a0)]) (len := 7) (n := (G.2.2.1 + 1)) F1 hA q231 (by decide) (by decide) (by decide) (show 1 + 1 ≤ 5 from Nat.le_of_ble_eq_true rfl) (show 7 + 7 ≤ 310 from Nat.le_of_ble_eq_true rfl) dX7_init_15 n1 (fun G' e => ⟨by simp only [e _ ha0.1], by simp only [e _ ha0.1]⟩) (fun G2 g2 n2 i2 F2 => ?_)
  have ha0 := isa_grow g2 ha0
  have n2 : G2.2.2.1 = (G.2.2.1 + 2) := n2
  refine xj_putF1 F2 hin ha0 lfX7_15 i2 dX7_init_17 (fun m2 => ?_)
  refine xj_aload_n F2 0 dX7_init_20 rfl ?_
  refine xj_bipush F2 84 dX7_init_21 (by decide) ?_
  refine xj_newA_I (lvf := fun Γ => [(0, .ref (xad Γ a0))]) (stf := fun Γ => [.ref (xad Γ a0)]) (len := 84) (n := (G.2.2.1 + 2)) F2 hA q231 (by decide) (by decide) (by decide) (show 2 + 1 ≤ 5 from Nat.le_of_ble_eq_true rfl) (show 14 + 84 ≤ 310 from Nat.le_of_ble_eq_true rfl) dX7_init_23 n2 (fun G' e => ⟨by simp only [e _ ha0.1], by simp only [e _ ha0.1]⟩) (fun G3 g3 n3 i3 F3 => ?_)
  have ha0 := isa_grow g3 ha0
  have n3 : G3.2.2.1 = (G.2.2.1 + 3) := n3
  refine xj_putF1 F3 hin ha0 lfX7_18 i3 dX7_init_25 (fun m3 => ?_)
  refine xj_aload_n F3 0 dX7_init_28 rfl ?_
  refine xj_bipush F3 84 dX7_init_29 (by decide) ?_
  refine xj_newA_I (lvf := fun Γ => [(0, .ref (xad Γ a0))]) (stf := fun Γ => [.ref (xad Γ a0)]) (len := 84) (n := (G.2.2.1 + 3)) F3 hA q231 (by decide) (by decide) (by decide) (show 3 + 1 ≤ 5 from Nat.le_of_ble_eq_true rfl) (show 98 + 84 ≤ 310 from Nat.le_of_ble_eq_true rfl) dX7_init_31 n3 (fun G' e => ⟨by simp only [e _ ha0.1], by simp only [e _ ha0.1]⟩) (fun G4 g4 n4 i4 F4 => ?_)
  have ha0 := isa_grow g4 ha0
  have n4 : G4.2.2.1 = (G.2.2.1 + 4) := n4
  refine xj_putF1 F4 hin ha0 lfX7_21 i4 dX7_init_33 (fun m4 => ?_)
  refine xj_aload_n F4 0 dX7_init_36 rfl ?_
  refine xj_sipush F4 128 dX7_init_37 (by decide) ?_
  refine xj_newA_I (lvf := fun Γ => [(0, .ref (xad Γ a0))]) (stf := fun Γ => [.ref (xad Γ a0)]) (len := 128) (n := (G.2.2.1 + 4)) F4 hA q231 (by decide) (by decide) (by decide) (show 4 + 1 ≤ 5 from Nat.le_of_ble_eq_true rfl) (show 182 + 128 ≤ 310 from Nat.le_of_ble_eq_true rfl) dX7_init_40 n4 (fun G' e => ⟨by simp only [e _ ha0.1], by simp only [e _ ha0.1]⟩) (fun G5 g5 n5 i5 F5 => ?_)
  have ha0 := isa_grow g5 ha0
  have n5 : G5.2.2.1 = (G.2.2.1 + 5) := n5
  refine xj_putF1 F5 hin ha0 lfX7_24 i5 dX7_init_42 (fun m5 => ?_)
  exact xj_retC F5 (xgrow_tr (Nat.le_refl _) (xgrow_tr (Nat.le_refl _) (xgrow_tr (Nat.le_refl _) (xgrow_tr (Nat.le_refl _) g1 g2) g3) g4) g5) rfl dX7_init_45
set_option maxRecDepth 20000 in
set_option maxHeartbeats 4000000 in
theorem wcX8_init {G : XG} {l : Launch} (hn : xN G) {m0 : XM} (hT : xT G m0) {a0 : Nat} (ha0 : isa G a0 8) : ∀ z, ccX8_init G.2.2.1 a0 m0 = some z → xCMet G l mX8_init 4 84 27764 [.ref (xad G a0)] m0 ksX8_init z := by
  refine xCMet_of (by decide +kernel) hn hT (Nat.le_of_ble_eq_true rfl) rfl (fun X sz hsz hin F => ?_)
  subst hsz
  have hA : ∀ q, X.2.2.1.heap.size ≤ q → xAn G X.2.2.1.heap.size q := fun q h => Or.inr h
  refine xj_sub (lv' := [(0, .ref (xad G a0))]) [0] rfl ?_
  unfold ccX8_init
  refine xj_aload_n F 0 dX8_init_0 rfl ?_
  refine xj_objInit F q170 q171 q172 dX8_init_1 ⟨Nat.le_of_ble_eq_true rfl, Nat.le_of_ble_eq_true rfl⟩ ?_
  refine xj_aload_n F 0 dX8_init_4 rfl ?_
  refine xj_sipush F 600 dX8_init_5 (by decide) ?_
  refine xj_newA_I (lvf := fun Γ => [(0, .ref (xad Γ a0))]) (stf := fun Γ => [.ref (xad Γ a0)]) (len := 600) (n := G.2.2.1) F hA q231 (by decide) (by decide) (by decide) (show 0 + 1 ≤ 84 from Nat.le_of_ble_eq_true rfl) (show 0 + 600 ≤ 27764 from Nat.le_of_ble_eq_true rfl) dX8_init_8 rfl (fun G' e => ⟨by simp only [e _ ha0.1], by simp only [e _ ha0.1]⟩) (fun G1 g1 n1 i1 F1 => ?_)
  have ha0 := isa_grow g1 ha0
  have n1 : G1.2.2.1 = (G.2.2.1 + 1) := n1
  refine xj_putF1 F1 hin ha0 lfX8_9 i1 dX8_init_10 (fun m1 => ?_)
  refine xj_aload_n F1 0 dX8_init_13 rfl ?_
  refine xj_newC1 (lvf := fun Γ => [(0, .ref (xad Γ a0))]) (stf := fun Γ => [.ref (xad Γ a0)]) (n := (G.2.2.1 + 1)) F1 hA lnX8_13 (show 1 + 1 ≤ 84 from Nat.le_of_ble_eq_true rfl) (show 600 + 14 ≤ 27764 from Nat.le_of_ble_eq_true rfl) dX8_init_14 n1 (fun G' e => ⟨by simp only [e _ ha0.1], by simp only [e _ ha0.1]⟩) (fun G2 g2 n2 i2 F2 => ?_)
  have ha0 := isa_grow g2 ha0
  have n2 : G2.2.2.1 = (G.2.2.1 + 2) := n2
  refine xj_dup F2 dX8_init_17 rfl ?_
  refine xj_callN (lvf := fun Γ => [(0, .ref (xad Γ a0))]) (stf := fun Γ => [.ref (xad Γ (G.2.2.1 + 1)), .ref (xad Γ a0)]) (b := (G.2.2.1 + 1)) (As := []) (ks := ksX1_init) (d' := 3) (mc := 25) (ms := 5551) (n := (G.2.2.1 + 2)) F2 hA lmX8_15 q176 rfl rfl rfl rfl (Nat.le_of_ble_eq_true rfl) ⟨Nat.le_of_ble_eq_true rfl, Nat.le_of_ble_eq_true rfl⟩ ⟨show 2 + 25 ≤ 84 from Nat.le_of_ble_eq_true rfl, show 614 + 5551 ≤ 27764 from Nat.le_of_ble_eq_true rfl⟩ dX8_init_18 (fun hT z hz => wcX1_init (xnd F2) hT i2 z (by rw [n2]; exact hz)) n2 (fun G' e => ⟨by simp only [e _ ha0.1], by simp only [e _ i2.1, e _ ha0.1]⟩) (fun G3 m2 g3 n3 F3 => ?_)
  have ha0 := isa_grow g3 ha0
  have i2 := isa_grow g3 i2
  have n3 : G3.2.2.1 = (G.2.2.1 + 27) := n3
  refine xj_putF1 F3 hin ha0 lfX8_16 i2 dX8_init_21 (fun m3 => ?_)
  refine xj_aload_n F3 0 dX8_init_24 rfl ?_
  refine xj_newC1 (lvf := fun Γ => [(0, .ref (xad Γ a0))]) (stf := fun Γ => [.ref (xad Γ a0)]) (n := (G.2.2.1 + 27)) F3 hA lnX8_20 (show 27 + 1 ≤ 84 from Nat.le_of_ble_eq_true rfl) (show 6165 + 14 ≤ 27764 from Nat.le_of_ble_eq_true rfl) dX8_init_25 n3 (fun G' e => ⟨by simp only [e _ ha0.1], by simp only [e _ ha0.1]⟩) (fun G4 g4 n4 i4 F4 => ?_)
  have ha0 := isa_grow g4 ha0
  have n4 : G4.2.2.1 = (G.2.2.1 + 28) := n4
  refine xj_dup F4 dX8_init_28 rfl ?_
  refine xj_callN (lvf := fun Γ => [(0, .ref (xad Γ a0))]) (stf := fun Γ => [.ref (xad Γ (G.2.2.1 + 27)), .ref (xad Γ a0)]) (b := (G.2.2.1 + 27)) (As := []) (ks := ksX6_init) (d' := 2) (mc := 17) (ms := 2824) (n := (G.2.2.1 + 28)) F4 hA lmX8_22 q182 rfl rfl rfl rfl (Nat.le_of_ble_eq_true rfl) ⟨Nat.le_of_ble_eq_true rfl, Nat.le_of_ble_eq_true rfl⟩ ⟨show 28 + 17 ≤ 84 from Nat.le_of_ble_eq_true rfl, show 6179 + 2824 ≤ 27764 from Nat.le_of_ble_eq_true rfl⟩ dX8_init_29 (fun hT z hz => wcX6_init (xnd F4) hT i4 z (by rw [n4]; exact hz)) n4 (fun G' e => ⟨by simp only [e _ ha0.1], by simp only [e _ i4.1, e _ ha0.1]⟩) (fun G5 m4 g5 n5 F5 => ?_)
  have ha0 := isa_grow g5 ha0
  have i4 := isa_grow g5 i4
  have n5 : G5.2.2.1 = (G.2.2.1 + 45) := n5
  refine xj_putR F5 ha0 lpX8_23 i4 dX8_init_32 (fun m5 => ?_)
  refine xj_aload_n F5 0 dX8_init_35 rfl ?_
  refine xj_newC1 (lvf := fun Γ => [(0, .ref (xad Γ a0))]) (stf := fun Γ => [.ref (xad Γ a0)]) (n := (G.2.2.1 + 45)) F5 hA lnX8_27 (show 45 + 1 ≤ 84 from Nat.le_of_ble_eq_true rfl) (show 9003 + 5 ≤ 27764 from Nat.le_of_ble_eq_true rfl) dX8_init_36 n5 (fun G' e => ⟨by simp only [e _ ha0.1], by simp only [e _ ha0.1]⟩) (fun G6 g6 n6 i6 F6 => ?_)
  have ha0 := isa_grow g6 ha0
  have n6 : G6.2.2.1 = (G.2.2.1 + 46) := n6
  refine xj_dup F6 dX8_init_39 rfl ?_
  refine xj_callN (lvf := fun Γ => [(0, .ref (xad Γ a0))]) (stf := fun Γ => [.ref (xad Γ (G.2.2.1 + 45)), .ref (xad Γ a0)]) (b := (G.2.2.1 + 45)) (As := []) (ks := ksX0_init) (d' := 1) (mc := 3) (ms := 48) (n := (G.2.2.1 + 46)) F6 hA lmX8_29 q359 rfl rfl rfl rfl (Nat.le_of_ble_eq_true rfl) ⟨Nat.le_of_ble_eq_true rfl, Nat.le_of_ble_eq_true rfl⟩ ⟨show 46 + 3 ≤ 84 from Nat.le_of_ble_eq_true rfl, show 9008 + 48 ≤ 27764 from Nat.le_of_ble_eq_true rfl⟩ dX8_init_40 (fun hT z hz => wcX0_init (xnd F6) hT i6 z (by rw [n6]; exact hz)) n6 (fun G' e => ⟨by simp only [e _ ha0.1], by simp only [e _ i6.1, e _ ha0.1]⟩) (fun G7 m6 g7 n7 F7 => ?_)
  have ha0 := isa_grow g7 ha0
  have i6 := isa_grow g7 i6
  have n7 : G7.2.2.1 = (G.2.2.1 + 49) := n7
  refine xj_putF1 F7 hin ha0 lfX8_30 i6 dX8_init_43 (fun m7 => ?_)
  refine xj_aload_n F7 0 dX8_init_46 rfl ?_
  refine xj_newC1 (lvf := fun Γ => [(0, .ref (xad Γ a0))]) (stf := fun Γ => [.ref (xad Γ a0)]) (n := (G.2.2.1 + 49)) F7 hA lnX8_34 (show 49 + 1 ≤ 84 from Nat.le_of_ble_eq_true rfl) (show 9056 + 18 ≤ 27764 from Nat.le_of_ble_eq_true rfl) dX8_init_47 n7 (fun G' e => ⟨by simp only [e _ ha0.1], by simp only [e _ ha0.1]⟩) (fun G8 g8 n8 i8 F8 => ?_)
  have ha0 := isa_grow g8 ha0
  have n8 : G8.2.2.1 = (G.2.2.1 + 50) := n8
  refine xj_dup F8 dX8_init_50 rfl ?_
  refine xj_aload_n F8 0 dX8_init_51 rfl ?_
  refine xj_getR F8 ha0 lgX8_23 dX8_init_52 (fun u8 hu8 => ?_)
  refine xj_callN (lvf := fun Γ => [(0, .ref (xad Γ a0))]) (stf := fun Γ => [.ref (xad Γ (G.2.2.1 + 49)), .ref (xad Γ a0)]) (b := (G.2.2.1 + 49)) (As := [.ref (xad G8 u8)]) (ks := ksX2_init) (d' := 2) (mc := 12) (ms := 422) (n := (G.2.2.1 + 50)) F8 hA lmX8_36 q382 rfl rfl rfl rfl (Nat.le_of_ble_eq_true rfl) ⟨Nat.le_of_ble_eq_true rfl, Nat.le_of_ble_eq_true rfl⟩ ⟨show 50 + 12 ≤ 84 from Nat.le_of_ble_eq_true rfl, show 9074 + 422 ≤ 27764 from Nat.le_of_ble_eq_true rfl⟩ dX8_init_55 (fun hT z hz => wcX2_init (xnd F8) hT i8 hu8 z (by rw [n8]; exact hz)) n8 (fun G' e => ⟨by simp only [e _ ha0.1], by simp only [e _ i8.1, e _ ha0.1]⟩) (fun G9 m9 g9 n9 F9 => ?_)
  have ha0 := isa_grow g9 ha0
  have i8 := isa_grow g9 i8
  have n9 : G9.2.2.1 = (G.2.2.1 + 62) := n9
  refine xj_putF1 F9 hin ha0 lfX8_39 i8 dX8_init_58 (fun m10 => ?_)
  refine xj_aload_n F9 0 dX8_init_61 rfl ?_
  refine xj_newC1 (lvf := fun Γ => [(0, .ref (xad Γ a0))]) (stf := fun Γ => [.ref (xad Γ a0)]) (n := (G.2.2.1 + 62)) F9 hA lnX8_34 (show 62 + 1 ≤ 84 from Nat.le_of_ble_eq_true rfl) (show 9496 + 18 ≤ 27764 from Nat.le_of_ble_eq_true rfl) dX8_init_62 n9 (fun G' e => ⟨by simp only [e _ ha0.1], by simp only [e _ ha0.1]⟩) (fun G10 g10 n10 i10 F10 => ?_)
  have ha0 := isa_grow g10 ha0
  have n10 : G10.2.2.1 = (G.2.2.1 + 63) := n10
  refine xj_dup F10 dX8_init_65 rfl ?_
  refine xj_aload_n F10 0 dX8_init_66 rfl ?_
  refine xj_getR F10 ha0 lgX8_23 dX8_init_67 (fun u11 hu11 => ?_)
  refine xj_callN (lvf := fun Γ => [(0, .ref (xad Γ a0))]) (stf := fun Γ => [.ref (xad Γ (G.2.2.1 + 62)), .ref (xad Γ a0)]) (b := (G.2.2.1 + 62)) (As := [.ref (xad G10 u11)]) (ks := ksX2_init) (d' := 2) (mc := 12) (ms := 422) (n := (G.2.2.1 + 63)) F10 hA lmX8_36 q382 rfl rfl rfl rfl (Nat.le_of_ble_eq_true rfl) ⟨Nat.le_of_ble_eq_true rfl, Nat.le_of_ble_eq_true rfl⟩ ⟨show 63 + 12 ≤ 84 from Nat.le_of_ble_eq_true rfl, show 9514 + 422 ≤ 27764 from Nat.le_of_ble_eq_true rfl⟩ dX8_init_70 (fun hT z hz => wcX2_init (xnd F10) hT i10 hu11 z (by rw [n10]; exact hz)) n10 (fun G' e => ⟨by simp only [e _ ha0.1], by simp only [e _ i10.1, e _ ha0.1]⟩) (fun G11 m12 g11 n11 F11 => ?_)
  have ha0 := isa_grow g11 ha0
  have i10 := isa_grow g11 i10
  have n11 : G11.2.2.1 = (G.2.2.1 + 75) := n11
  refine xj_putF1 F11 hin ha0 lfX8_43 i10 dX8_init_73 (fun m13 => ?_)
  refine xj_aload_n F11 0 dX8_init_76 rfl ?_
  refine xj_bipush F11 7 dX8_init_77 (by decide) ?_
  refine xj_newA_I (lvf := fun Γ => [(0, .ref (xad Γ a0))]) (stf := fun Γ => [.ref (xad Γ a0)]) (len := 7) (n := (G.2.2.1 + 75)) F11 hA q231 (by decide) (by decide) (by decide) (show 75 + 1 ≤ 84 from Nat.le_of_ble_eq_true rfl) (show 9936 + 7 ≤ 27764 from Nat.le_of_ble_eq_true rfl) dX8_init_79 n11 (fun G' e => ⟨by simp only [e _ ha0.1], by simp only [e _ ha0.1]⟩) (fun G12 g12 n12 i12 F12 => ?_)
  have ha0 := isa_grow g12 ha0
  have n12 : G12.2.2.1 = (G.2.2.1 + 76) := n12
  refine xj_putF1 F12 hin ha0 lfX8_46 i12 dX8_init_81 (fun m14 => ?_)
  refine xj_aload_n F12 0 dX8_init_84 rfl ?_
  refine xj_newC1 (lvf := fun Γ => [(0, .ref (xad Γ a0))]) (stf := fun Γ => [.ref (xad Γ a0)]) (n := (G.2.2.1 + 76)) F12 hA lnX8_49 (show 76 + 1 ≤ 84 from Nat.le_of_ble_eq_true rfl) (show 9943 + 7 ≤ 27764 from Nat.le_of_ble_eq_true rfl) dX8_init_85 n12 (fun G' e => ⟨by simp only [e _ ha0.1], by simp only [e _ ha0.1]⟩) (fun G13 g13 n13 i13 F13 => ?_)
  have ha0 := isa_grow g13 ha0
  have n13 : G13.2.2.1 = (G.2.2.1 + 77) := n13
  refine xj_dup F13 dX8_init_88 rfl ?_
  refine xj_aload_n F13 0 dX8_init_89 rfl ?_
  refine xj_getR F13 ha0 lgX8_23 dX8_init_90 (fun u15 hu15 => ?_)
  refine xj_aload_n F13 0 dX8_init_93 rfl ?_
  refine xj_getR F13 ha0 lgX8_43 dX8_init_94 (fun u16 hu16 => ?_)
  refine xj_callN (lvf := fun Γ => [(0, .ref (xad Γ a0))]) (stf := fun Γ => [.ref (xad Γ (G.2.2.1 + 76)), .ref (xad Γ a0)]) (b := (G.2.2.1 + 76)) (As := [.ref (xad G13 u15), .ref (xad G13 u16)]) (ks := ksX3_init) (d' := 1) (mc := 1) (ms := 17496) (n := (G.2.2.1 + 77)) F13 hA lmX8_51 q498 rfl rfl rfl rfl (Nat.le_of_ble_eq_true rfl) ⟨Nat.le_of_ble_eq_true rfl, Nat.le_of_ble_eq_true rfl⟩ ⟨show 77 + 1 ≤ 84 from Nat.le_of_ble_eq_true rfl, show 9950 + 17496 ≤ 27764 from Nat.le_of_ble_eq_true rfl⟩ dX8_init_97 (fun hT z hz => wcX3_init (xnd F13) hT i13 hu15 hu16 z (by rw [n13]; exact hz)) n13 (fun G' e => ⟨by simp only [e _ ha0.1], by simp only [e _ i13.1, e _ ha0.1]⟩) (fun G14 m17 g14 n14 F14 => ?_)
  have ha0 := isa_grow g14 ha0
  have i13 := isa_grow g14 i13
  have n14 : G14.2.2.1 = (G.2.2.1 + 78) := n14
  refine xj_putF1 F14 hin ha0 lfX8_54 i13 dX8_init_100 (fun m18 => ?_)
  refine xj_aload_n F14 0 dX8_init_103 rfl ?_
  refine xj_newC1 (lvf := fun Γ => [(0, .ref (xad Γ a0))]) (stf := fun Γ => [.ref (xad Γ a0)]) (n := (G.2.2.1 + 78)) F14 hA lnX8_58 (show 78 + 1 ≤ 84 from Nat.le_of_ble_eq_true rfl) (show 27446 + 8 ≤ 27764 from Nat.le_of_ble_eq_true rfl) dX8_init_104 n14 (fun G' e => ⟨by simp only [e _ ha0.1], by simp only [e _ ha0.1]⟩) (fun G15 g15 n15 i15 F15 => ?_)
  have ha0 := isa_grow g15 ha0
  have n15 : G15.2.2.1 = (G.2.2.1 + 79) := n15
  refine xj_dup F15 dX8_init_107 rfl ?_
  refine xj_callN (lvf := fun Γ => [(0, .ref (xad Γ a0))]) (stf := fun Γ => [.ref (xad Γ (G.2.2.1 + 78)), .ref (xad Γ a0)]) (b := (G.2.2.1 + 78)) (As := []) (ks := ksX7_init) (d' := 1) (mc := 5) (ms := 310) (n := (G.2.2.1 + 79)) F15 hA lmX8_60 q531 rfl rfl rfl rfl (Nat.le_of_ble_eq_true rfl) ⟨Nat.le_of_ble_eq_true rfl, Nat.le_of_ble_eq_true rfl⟩ ⟨show 79 + 5 ≤ 84 from Nat.le_of_ble_eq_true rfl, show 27454 + 310 ≤ 27764 from Nat.le_of_ble_eq_true rfl⟩ dX8_init_108 (fun hT z hz => wcX7_init (xnd F15) hT i15 z (by rw [n15]; exact hz)) n15 (fun G' e => ⟨by simp only [e _ ha0.1], by simp only [e _ i15.1, e _ ha0.1]⟩) (fun G16 m19 g16 n16 F16 => ?_)
  have ha0 := isa_grow g16 ha0
  have i15 := isa_grow g16 i15
  have n16 : G16.2.2.1 = (G.2.2.1 + 84) := n16
  refine xj_putF1 F16 hin ha0 lfX8_61 i15 dX8_init_111 (fun m20 => ?_)
  refine xj_aload_n F16 0 dX8_init_114 rfl ?_
  refine xj_iconst F16 (-1) dX8_init_115 (by decide) ?_
  refine xj_put F16 ha0 lpX8_65 dX8_init_116 (fun m21 => ?_)
  exact xj_retC F16 (xgrow_tr (Nat.le_refl _) (xgrow_tr (Nat.le_refl _) (xgrow_tr (Nat.le_refl _) (xgrow_tr (Nat.le_refl _) (xgrow_tr (Nat.le_refl _) (xgrow_tr (Nat.le_refl _) (xgrow_tr (Nat.le_refl _) (xgrow_tr (Nat.le_refl _) (xgrow_tr (Nat.le_refl _) (xgrow_tr (Nat.le_refl _) (xgrow_tr (Nat.le_refl _) (xgrow_tr (Nat.le_refl _) (xgrow_tr (Nat.le_refl _) (xgrow_tr (Nat.le_refl _) (xgrow_tr (Nat.le_refl _) g1 g2) g3) g4) g5) g6) g7) g8) g9) g10) g11) g12) g13) g14) g15) g16) rfl dX8_init_119
set_option maxRecDepth 20000 in
set_option maxHeartbeats 4000000 in
theorem wcX9_init {G : XG} {l : Launch} (hn : xN G) {m0 : XM} (hT : xT G m0) {a0 : Nat} (ha0 : isa G a0 9) : ∀ z, ccX9_init G.2.2.1 a0 m0 = some z → xCMet G l mX9_init 1 25 146855 [.ref (xad G a0)] m0 ksX9_init z := by
  refine xCMet_of (by decide +kernel) hn hT (Nat.le_of_ble_eq_true rfl) rfl (fun X sz hsz hin F => ?_)
  subst hsz
  have hA : ∀ q, X.2.2.1.heap.size ≤ q → xAn G X.2.2.1.heap.size q := fun q h => Or.inr h
  refine xj_sub (lv' := [(0, .ref (xad G a0))]) [0] rfl ?_
  unfold ccX9_init
  refine xj_aload_n F 0 dX9_init_0 rfl ?_
  refine xj_objInit F q1389 q171 q172 dX9_init_1 ⟨Nat.le_of_ble_eq_true rfl, Nat.le_of_ble_eq_true rfl⟩ ?_
  refine xj_aload_n F 0 dX9_init_4 rfl ?_
  refine xj_iconst F 3 dX9_init_5 (by decide) ?_
  refine xj_newA_I (lvf := fun Γ => [(0, .ref (xad Γ a0))]) (stf := fun Γ => [.ref (xad Γ a0)]) (len := 3) (n := G.2.2.1) F hA q231 (by decide) (by decide) (by decide) (show 0 + 1 ≤ 25 from Nat.le_of_ble_eq_true rfl) (show 0 + 3 ≤ 146855 from Nat.le_of_ble_eq_true rfl) dX9_init_6 rfl (fun G' e => ⟨by simp only [e _ ha0.1], by simp only [e _ ha0.1]⟩) (fun G1 g1 n1 i1 F1 => ?_)
  have ha0 := isa_grow g1 ha0
  have n1 : G1.2.2.1 = (G.2.2.1 + 1) := n1
  refine xj_putF1 F1 hin ha0 lfX9_9 i1 dX9_init_8 (fun m1 => ?_)
  refine xj_aload_n F1 0 dX9_init_11 rfl ?_
  refine xj_iconst F1 (-1) dX9_init_12 (by decide) ?_
  refine xj_put F1 ha0 lpX9_13 dX9_init_13 (fun m2 => ?_)
  refine xj_aload_n F1 0 dX9_init_16 rfl ?_
  refine xj_sipush F1 600 dX9_init_17 (by decide) ?_
  refine xj_newA_I (lvf := fun Γ => [(0, .ref (xad Γ a0))]) (stf := fun Γ => [.ref (xad Γ a0)]) (len := 600) (n := (G.2.2.1 + 1)) F1 hA q231 (by decide) (by decide) (by decide) (show 1 + 1 ≤ 25 from Nat.le_of_ble_eq_true rfl) (show 3 + 600 ≤ 146855 from Nat.le_of_ble_eq_true rfl) dX9_init_20 n1 (fun G' e => ⟨by simp only [e _ ha0.1], by simp only [e _ ha0.1]⟩) (fun G2 g2 n2 i2 F2 => ?_)
  have ha0 := isa_grow g2 ha0
  have n2 : G2.2.2.1 = (G.2.2.1 + 2) := n2
  refine xj_putF1 F2 hin ha0 lfX9_17 i2 dX9_init_22 (fun m3 => ?_)
  refine xj_aload_n F2 0 dX9_init_25 rfl ?_
  refine xj_sipush F2 3820 dX9_init_26 (by decide) ?_
  refine xj_newA_I (lvf := fun Γ => [(0, .ref (xad Γ a0))]) (stf := fun Γ => [.ref (xad Γ a0)]) (len := 3820) (n := (G.2.2.1 + 2)) F2 hA q231 (by decide) (by decide) (by decide) (show 2 + 1 ≤ 25 from Nat.le_of_ble_eq_true rfl) (show 603 + 3820 ≤ 146855 from Nat.le_of_ble_eq_true rfl) dX9_init_29 n2 (fun G' e => ⟨by simp only [e _ ha0.1], by simp only [e _ ha0.1]⟩) (fun G3 g3 n3 i3 F3 => ?_)
  have ha0 := isa_grow g3 ha0
  have n3 : G3.2.2.1 = (G.2.2.1 + 3) := n3
  refine xj_putF1 F3 hin ha0 lfX9_20 i3 dX9_init_31 (fun m4 => ?_)
  refine xj_aload_n F3 0 dX9_init_34 rfl ?_
  refine xj_sipush F3 3820 dX9_init_35 (by decide) ?_
  refine xj_newA_I (lvf := fun Γ => [(0, .ref (xad Γ a0))]) (stf := fun Γ => [.ref (xad Γ a0)]) (len := 3820) (n := (G.2.2.1 + 3)) F3 hA q231 (by decide) (by decide) (by decide) (show 3 + 1 ≤ 25 from Nat.le_of_ble_eq_true rfl) (show 4423 + 3820 ≤ 146855 from Nat.le_of_ble_eq_true rfl) dX9_init_38 n3 (fun G' e => ⟨by simp only [e _ ha0.1], by simp only [e _ ha0.1]⟩) (fun G4 g4 n4 i4 F4 => ?_)
  have ha0 := isa_grow g4 ha0
  have n4 : G4.2.2.1 = (G.2.2.1 + 4) := n4
  refine xj_putF1 F4 hin ha0 lfX9_23 i4 dX9_init_40 (fun m5 => ?_)
  refine xj_aload_n F4 0 dX9_init_43 rfl ?_
  refine xj_bipush F4 84 dX9_init_44 (by decide) ?_
  refine xj_newA_Z (lvf := fun Γ => [(0, .ref (xad Γ a0))]) (stf := fun Γ => [.ref (xad Γ a0)]) (len := 84) (n := (G.2.2.1 + 4)) F4 hA q1533 (by decide) (by decide) (by decide) (show 4 + 1 ≤ 25 from Nat.le_of_ble_eq_true rfl) (show 8243 + 84 ≤ 146855 from Nat.le_of_ble_eq_true rfl) dX9_init_46 n4 (fun G' e => ⟨by simp only [e _ ha0.1], by simp only [e _ ha0.1]⟩) (fun G5 g5 n5 i5 F5 => ?_)
  have ha0 := isa_grow g5 ha0
  have n5 : G5.2.2.1 = (G.2.2.1 + 5) := n5
  refine xj_putF1 F5 hin ha0 lfX9_26 i5 dX9_init_48 (fun m6 => ?_)
  refine xj_aload_n F5 0 dX9_init_51 rfl ?_
  refine xj_bipush F5 16 dX9_init_52 (by decide) ?_
  refine xj_newA_I (lvf := fun Γ => [(0, .ref (xad Γ a0))]) (stf := fun Γ => [.ref (xad Γ a0)]) (len := 16) (n := (G.2.2.1 + 5)) F5 hA q231 (by decide) (by decide) (by decide) (show 5 + 1 ≤ 25 from Nat.le_of_ble_eq_true rfl) (show 8327 + 16 ≤ 146855 from Nat.le_of_ble_eq_true rfl) dX9_init_54 n5 (fun G' e => ⟨by simp only [e _ ha0.1], by simp only [e _ ha0.1]⟩) (fun G6 g6 n6 i6 F6 => ?_)
  have ha0 := isa_grow g6 ha0
  have n6 : G6.2.2.1 = (G.2.2.1 + 6) := n6
  refine xj_putF1 F6 hin ha0 lfX9_30 i6 dX9_init_56 (fun m7 => ?_)
  refine xj_aload_n F6 0 dX9_init_59 rfl ?_
  refine xj_bipush F6 16 dX9_init_60 (by decide) ?_
  refine xj_newA_I (lvf := fun Γ => [(0, .ref (xad Γ a0))]) (stf := fun Γ => [.ref (xad Γ a0)]) (len := 16) (n := (G.2.2.1 + 6)) F6 hA q231 (by decide) (by decide) (by decide) (show 6 + 1 ≤ 25 from Nat.le_of_ble_eq_true rfl) (show 8343 + 16 ≤ 146855 from Nat.le_of_ble_eq_true rfl) dX9_init_62 n6 (fun G' e => ⟨by simp only [e _ ha0.1], by simp only [e _ ha0.1]⟩) (fun G7 g7 n7 i7 F7 => ?_)
  have ha0 := isa_grow g7 ha0
  have n7 : G7.2.2.1 = (G.2.2.1 + 7) := n7
  refine xj_putF1 F7 hin ha0 lfX9_33 i7 dX9_init_64 (fun m8 => ?_)
  refine xj_aload_n F7 0 dX9_init_67 rfl ?_
  refine xj_bipush F7 16 dX9_init_68 (by decide) ?_
  refine xj_newA_I (lvf := fun Γ => [(0, .ref (xad Γ a0))]) (stf := fun Γ => [.ref (xad Γ a0)]) (len := 16) (n := (G.2.2.1 + 7)) F7 hA q231 (by decide) (by decide) (by decide) (show 7 + 1 ≤ 25 from Nat.le_of_ble_eq_true rfl) (show 8359 + 16 ≤ 146855 from Nat.le_of_ble_eq_true rfl) dX9_init_70 n7 (fun G' e => ⟨by simp only [e _ ha0.1], by simp only [e _ ha0.1]⟩) (fun G8 g8 n8 i8 F8 => ?_)
  have ha0 := isa_grow g8 ha0
  have n8 : G8.2.2.1 = (G.2.2.1 + 8) := n8
  refine xj_putF1 F8 hin ha0 lfX9_36 i8 dX9_init_72 (fun m9 => ?_)
  refine xj_aload_n F8 0 dX9_init_75 rfl ?_
  refine xj_bipush F8 7 dX9_init_76 (by decide) ?_
  refine xj_newA_I (lvf := fun Γ => [(0, .ref (xad Γ a0))]) (stf := fun Γ => [.ref (xad Γ a0)]) (len := 7) (n := (G.2.2.1 + 8)) F8 hA q231 (by decide) (by decide) (by decide) (show 8 + 1 ≤ 25 from Nat.le_of_ble_eq_true rfl) (show 8375 + 7 ≤ 146855 from Nat.le_of_ble_eq_true rfl) dX9_init_78 n8 (fun G' e => ⟨by simp only [e _ ha0.1], by simp only [e _ ha0.1]⟩) (fun G9 g9 n9 i9 F9 => ?_)
  have ha0 := isa_grow g9 ha0
  have n9 : G9.2.2.1 = (G.2.2.1 + 9) := n9
  refine xj_putF1 F9 hin ha0 lfX9_39 i9 dX9_init_80 (fun m10 => ?_)
  refine xj_aload_n F9 0 dX9_init_83 rfl ?_
  refine xj_bipush F9 7 dX9_init_84 (by decide) ?_
  refine xj_newA_I (lvf := fun Γ => [(0, .ref (xad Γ a0))]) (stf := fun Γ => [.ref (xad Γ a0)]) (len := 7) (n := (G.2.2.1 + 9)) F9 hA q231 (by decide) (by decide) (by decide) (show 9 + 1 ≤ 25 from Nat.le_of_ble_eq_true rfl) (show 8382 + 7 ≤ 146855 from Nat.le_of_ble_eq_true rfl) dX9_init_86 n9 (fun G' e => ⟨by simp only [e _ ha0.1], by simp only [e _ ha0.1]⟩) (fun G10 g10 n10 i10 F10 => ?_)
  have ha0 := isa_grow g10 ha0
  have n10 : G10.2.2.1 = (G.2.2.1 + 10) := n10
  refine xj_putF1 F10 hin ha0 lfX9_42 i10 dX9_init_88 (fun m11 => ?_)
  refine xj_aload_n F10 0 dX9_init_91 rfl ?_
  refine xj_bipush F10 84 dX9_init_92 (by decide) ?_
  refine xj_newA_I (lvf := fun Γ => [(0, .ref (xad Γ a0))]) (stf := fun Γ => [.ref (xad Γ a0)]) (len := 84) (n := (G.2.2.1 + 10)) F10 hA q231 (by decide) (by decide) (by decide) (show 10 + 1 ≤ 25 from Nat.le_of_ble_eq_true rfl) (show 8389 + 84 ≤ 146855 from Nat.le_of_ble_eq_true rfl) dX9_init_94 n10 (fun G' e => ⟨by simp only [e _ ha0.1], by simp only [e _ ha0.1]⟩) (fun G11 g11 n11 i11 F11 => ?_)
  have ha0 := isa_grow g11 ha0
  have n11 : G11.2.2.1 = (G.2.2.1 + 11) := n11
  refine xj_putF1 F11 hin ha0 lfX9_45 i11 dX9_init_96 (fun m12 => ?_)
  refine xj_aload_n F11 0 dX9_init_99 rfl ?_
  refine xj_bipush F11 7 dX9_init_100 (by decide) ?_
  refine xj_newA_I (lvf := fun Γ => [(0, .ref (xad Γ a0))]) (stf := fun Γ => [.ref (xad Γ a0)]) (len := 7) (n := (G.2.2.1 + 11)) F11 hA q231 (by decide) (by decide) (by decide) (show 11 + 1 ≤ 25 from Nat.le_of_ble_eq_true rfl) (show 8473 + 7 ≤ 146855 from Nat.le_of_ble_eq_true rfl) dX9_init_102 n11 (fun G' e => ⟨by simp only [e _ ha0.1], by simp only [e _ ha0.1]⟩) (fun G12 g12 n12 i12 F12 => ?_)
  have ha0 := isa_grow g12 ha0
  have n12 : G12.2.2.1 = (G.2.2.1 + 12) := n12
  refine xj_putF1 F12 hin ha0 lfX9_48 i12 dX9_init_104 (fun m13 => ?_)
  refine xj_aload_n F12 0 dX9_init_107 rfl ?_
  refine xj_bipush F12 7 dX9_init_108 (by decide) ?_
  refine xj_newA_I (lvf := fun Γ => [(0, .ref (xad Γ a0))]) (stf := fun Γ => [.ref (xad Γ a0)]) (len := 7) (n := (G.2.2.1 + 12)) F12 hA q231 (by decide) (by decide) (by decide) (show 12 + 1 ≤ 25 from Nat.le_of_ble_eq_true rfl) (show 8480 + 7 ≤ 146855 from Nat.le_of_ble_eq_true rfl) dX9_init_110 n12 (fun G' e => ⟨by simp only [e _ ha0.1], by simp only [e _ ha0.1]⟩) (fun G13 g13 n13 i13 F13 => ?_)
  have ha0 := isa_grow g13 ha0
  have n13 : G13.2.2.1 = (G.2.2.1 + 13) := n13
  refine xj_putF1 F13 hin ha0 lfX9_51 i13 dX9_init_112 (fun m14 => ?_)
  refine xj_aload_n F13 0 dX9_init_115 rfl ?_
  refine xj_bipush F13 7 dX9_init_116 (by decide) ?_
  refine xj_newA_I (lvf := fun Γ => [(0, .ref (xad Γ a0))]) (stf := fun Γ => [.ref (xad Γ a0)]) (len := 7) (n := (G.2.2.1 + 13)) F13 hA q231 (by decide) (by decide) (by decide) (show 13 + 1 ≤ 25 from Nat.le_of_ble_eq_true rfl) (show 8487 + 7 ≤ 146855 from Nat.le_of_ble_eq_true rfl) dX9_init_118 n13 (fun G' e => ⟨by simp only [e _ ha0.1], by simp only [e _ ha0.1]⟩) (fun G14 g14 n14 i14 F14 => ?_)
  have ha0 := isa_grow g14 ha0
  have n14 : G14.2.2.1 = (G.2.2.1 + 14) := n14
  refine xj_putF1 F14 hin ha0 lfX9_54 i14 dX9_init_120 (fun m15 => ?_)
  refine xj_aload_n F14 0 dX9_init_123 rfl ?_
  refine xj_bipush F14 21 dX9_init_124 (by decide) ?_
  refine xj_newA_I (lvf := fun Γ => [(0, .ref (xad Γ a0))]) (stf := fun Γ => [.ref (xad Γ a0)]) (len := 21) (n := (G.2.2.1 + 14)) F14 hA q231 (by decide) (by decide) (by decide) (show 14 + 1 ≤ 25 from Nat.le_of_ble_eq_true rfl) (show 8494 + 21 ≤ 146855 from Nat.le_of_ble_eq_true rfl) dX9_init_126 n14 (fun G' e => ⟨by simp only [e _ ha0.1], by simp only [e _ ha0.1]⟩) (fun G15 g15 n15 i15 F15 => ?_)
  have ha0 := isa_grow g15 ha0
  have n15 : G15.2.2.1 = (G.2.2.1 + 15) := n15
  refine xj_putF1 F15 hin ha0 lfX9_57 i15 dX9_init_128 (fun m16 => ?_)
  refine xj_aload_n F15 0 dX9_init_131 rfl ?_
  refine xj_bipush F15 21 dX9_init_132 (by decide) ?_
  refine xj_newA_I (lvf := fun Γ => [(0, .ref (xad Γ a0))]) (stf := fun Γ => [.ref (xad Γ a0)]) (len := 21) (n := (G.2.2.1 + 15)) F15 hA q231 (by decide) (by decide) (by decide) (show 15 + 1 ≤ 25 from Nat.le_of_ble_eq_true rfl) (show 8515 + 21 ≤ 146855 from Nat.le_of_ble_eq_true rfl) dX9_init_134 n15 (fun G' e => ⟨by simp only [e _ ha0.1], by simp only [e _ ha0.1]⟩) (fun G16 g16 n16 i16 F16 => ?_)
  have ha0 := isa_grow g16 ha0
  have n16 : G16.2.2.1 = (G.2.2.1 + 16) := n16
  refine xj_putF1 F16 hin ha0 lfX9_60 i16 dX9_init_136 (fun m17 => ?_)
  refine xj_aload_n F16 0 dX9_init_139 rfl ?_
  refine xj_bipush F16 84 dX9_init_140 (by decide) ?_
  refine xj_newA_Z (lvf := fun Γ => [(0, .ref (xad Γ a0))]) (stf := fun Γ => [.ref (xad Γ a0)]) (len := 84) (n := (G.2.2.1 + 16)) F16 hA q1533 (by decide) (by decide) (by decide) (show 16 + 1 ≤ 25 from Nat.le_of_ble_eq_true rfl) (show 8536 + 84 ≤ 146855 from Nat.le_of_ble_eq_true rfl) dX9_init_142 n16 (fun G' e => ⟨by simp only [e _ ha0.1], by simp only [e _ ha0.1]⟩) (fun G17 g17 n17 i17 F17 => ?_)
  have ha0 := isa_grow g17 ha0
  have n17 : G17.2.2.1 = (G.2.2.1 + 17) := n17
  refine xj_putF1 F17 hin ha0 lfX9_63 i17 dX9_init_144 (fun m18 => ?_)
  refine xj_aload_n F17 0 dX9_init_147 rfl ?_
  refine xj_sipush F17 18006 dX9_init_148 (by decide) ?_
  refine xj_newA_I (lvf := fun Γ => [(0, .ref (xad Γ a0))]) (stf := fun Γ => [.ref (xad Γ a0)]) (len := 18006) (n := (G.2.2.1 + 17)) F17 hA q231 (by decide) (by decide) (by decide) (show 17 + 1 ≤ 25 from Nat.le_of_ble_eq_true rfl) (show 8620 + 18006 ≤ 146855 from Nat.le_of_ble_eq_true rfl) dX9_init_151 n17 (fun G' e => ⟨by simp only [e _ ha0.1], by simp only [e _ ha0.1]⟩) (fun G18 g18 n18 i18 F18 => ?_)
  have ha0 := isa_grow g18 ha0
  have n18 : G18.2.2.1 = (G.2.2.1 + 18) := n18
  refine xj_putF1 F18 hin ha0 lfX9_66 i18 dX9_init_153 (fun m19 => ?_)
  refine xj_aload_n F18 0 dX9_init_156 rfl ?_
  refine xj_ldc F18 lcX9_69 dX9_init_157 ?_
  refine xj_newA_I (lvf := fun Γ => [(0, .ref (xad Γ a0))]) (stf := fun Γ => [.ref (xad Γ a0)]) (len := 60020) (n := (G.2.2.1 + 18)) F18 hA q231 (by decide) (by decide) (by decide) (show 18 + 1 ≤ 25 from Nat.le_of_ble_eq_true rfl) (show 26626 + 60020 ≤ 146855 from Nat.le_of_ble_eq_true rfl) dX9_init_159 n18 (fun G' e => ⟨by simp only [e _ ha0.1], by simp only [e _ ha0.1]⟩) (fun G19 g19 n19 i19 F19 => ?_)
  have ha0 := isa_grow g19 ha0
  have n19 : G19.2.2.1 = (G.2.2.1 + 19) := n19
  refine xj_putF1 F19 hin ha0 lfX9_70 i19 dX9_init_161 (fun m20 => ?_)
  refine xj_aload_n F19 0 dX9_init_164 rfl ?_
  refine xj_ldc F19 lcX9_69 dX9_init_165 ?_
  refine xj_newA_I (lvf := fun Γ => [(0, .ref (xad Γ a0))]) (stf := fun Γ => [.ref (xad Γ a0)]) (len := 60020) (n := (G.2.2.1 + 19)) F19 hA q231 (by decide) (by decide) (by decide) (show 19 + 1 ≤ 25 from Nat.le_of_ble_eq_true rfl) (show 86646 + 60020 ≤ 146855 from Nat.le_of_ble_eq_true rfl) dX9_init_167 n19 (fun G' e => ⟨by simp only [e _ ha0.1], by simp only [e _ ha0.1]⟩) (fun G20 g20 n20 i20 F20 => ?_)
  have ha0 := isa_grow g20 ha0
  have n20 : G20.2.2.1 = (G.2.2.1 + 20) := n20
  refine xj_putF1 F20 hin ha0 lfX9_73 i20 dX9_init_169 (fun m21 => ?_)
  refine xj_aload_n F20 0 dX9_init_172 rfl ?_
  refine xj_bipush F20 84 dX9_init_173 (by decide) ?_
  refine xj_newA_I (lvf := fun Γ => [(0, .ref (xad Γ a0))]) (stf := fun Γ => [.ref (xad Γ a0)]) (len := 84) (n := (G.2.2.1 + 20)) F20 hA q231 (by decide) (by decide) (by decide) (show 20 + 1 ≤ 25 from Nat.le_of_ble_eq_true rfl) (show 146666 + 84 ≤ 146855 from Nat.le_of_ble_eq_true rfl) dX9_init_175 n20 (fun G' e => ⟨by simp only [e _ ha0.1], by simp only [e _ ha0.1]⟩) (fun G21 g21 n21 i21 F21 => ?_)
  have ha0 := isa_grow g21 ha0
  have n21 : G21.2.2.1 = (G.2.2.1 + 21) := n21
  refine xj_putF1 F21 hin ha0 lfX9_76 i21 dX9_init_177 (fun m22 => ?_)
  refine xj_aload_n F21 0 dX9_init_180 rfl ?_
  refine xj_bipush F21 7 dX9_init_181 (by decide) ?_
  refine xj_newA_I (lvf := fun Γ => [(0, .ref (xad Γ a0))]) (stf := fun Γ => [.ref (xad Γ a0)]) (len := 7) (n := (G.2.2.1 + 21)) F21 hA q231 (by decide) (by decide) (by decide) (show 21 + 1 ≤ 25 from Nat.le_of_ble_eq_true rfl) (show 146750 + 7 ≤ 146855 from Nat.le_of_ble_eq_true rfl) dX9_init_183 n21 (fun G' e => ⟨by simp only [e _ ha0.1], by simp only [e _ ha0.1]⟩) (fun G22 g22 n22 i22 F22 => ?_)
  have ha0 := isa_grow g22 ha0
  have n22 : G22.2.2.1 = (G.2.2.1 + 22) := n22
  refine xj_putF1 F22 hin ha0 lfX9_79 i22 dX9_init_185 (fun m23 => ?_)
  refine xj_aload_n F22 0 dX9_init_188 rfl ?_
  refine xj_bipush F22 7 dX9_init_189 (by decide) ?_
  refine xj_newA_I (lvf := fun Γ => [(0, .ref (xad Γ a0))]) (stf := fun Γ => [.ref (xad Γ a0)]) (len := 7) (n := (G.2.2.1 + 22)) F22 hA q231 (by decide) (by decide) (by decide) (show 22 + 1 ≤ 25 from Nat.le_of_ble_eq_true rfl) (show 146757 + 7 ≤ 146855 from Nat.le_of_ble_eq_true rfl) dX9_init_191 n22 (fun G' e => ⟨by simp only [e _ ha0.1], by simp only [e _ ha0.1]⟩) (fun G23 g23 n23 i23 F23 => ?_)
  have ha0 := isa_grow g23 ha0
  have n23 : G23.2.2.1 = (G.2.2.1 + 23) := n23
  refine xj_putF1 F23 hin ha0 lfX9_82 i23 dX9_init_193 (fun m24 => ?_)
  refine xj_aload_n F23 0 dX9_init_196 rfl ?_
  refine xj_bipush F23 84 dX9_init_197 (by decide) ?_
  refine xj_newA_Z (lvf := fun Γ => [(0, .ref (xad Γ a0))]) (stf := fun Γ => [.ref (xad Γ a0)]) (len := 84) (n := (G.2.2.1 + 23)) F23 hA q1533 (by decide) (by decide) (by decide) (show 23 + 1 ≤ 25 from Nat.le_of_ble_eq_true rfl) (show 146764 + 84 ≤ 146855 from Nat.le_of_ble_eq_true rfl) dX9_init_199 n23 (fun G' e => ⟨by simp only [e _ ha0.1], by simp only [e _ ha0.1]⟩) (fun G24 g24 n24 i24 F24 => ?_)
  have ha0 := isa_grow g24 ha0
  have n24 : G24.2.2.1 = (G.2.2.1 + 24) := n24
  refine xj_putF1 F24 hin ha0 lfX9_85 i24 dX9_init_201 (fun m25 => ?_)
  refine xj_aload_n F24 0 dX9_init_204 rfl ?_
  refine xj_bipush F24 7 dX9_init_205 (by decide) ?_
  refine xj_newA_I (lvf := fun Γ => [(0, .ref (xad Γ a0))]) (stf := fun Γ => [.ref (xad Γ a0)]) (len := 7) (n := (G.2.2.1 + 24)) F24 hA q231 (by decide) (by decide) (by decide) (show 24 + 1 ≤ 25 from Nat.le_of_ble_eq_true rfl) (show 146848 + 7 ≤ 146855 from Nat.le_of_ble_eq_true rfl) dX9_init_207 n24 (fun G' e => ⟨by simp only [e _ ha0.1], by simp only [e _ ha0.1]⟩) (fun G25 g25 n25 i25 F25 => ?_)
  have ha0 := isa_grow g25 ha0
  have n25 : G25.2.2.1 = (G.2.2.1 + 25) := n25
  refine xj_putF1 F25 hin ha0 lfX9_88 i25 dX9_init_209 (fun m26 => ?_)
  exact xj_retC F25 (xgrow_tr (Nat.le_refl _) (xgrow_tr (Nat.le_refl _) (xgrow_tr (Nat.le_refl _) (xgrow_tr (Nat.le_refl _) (xgrow_tr (Nat.le_refl _) (xgrow_tr (Nat.le_refl _) (xgrow_tr (Nat.le_refl _) (xgrow_tr (Nat.le_refl _) (xgrow_tr (Nat.le_refl _) (xgrow_tr (Nat.le_refl _) (xgrow_tr (Nat.le_refl _) (xgrow_tr (Nat.le_refl _) (xgrow_tr (Nat.le_refl _) (xgrow_tr (Nat.le_refl _) (xgrow_tr (Nat.le_refl _) (xgrow_tr (Nat.le_refl _) (xgrow_tr (Nat.le_refl _) (xgrow_tr (Nat.le_refl _) (xgrow_tr (Nat.le_refl _) (xgrow_tr (Nat.le_refl _) (xgrow_tr (Nat.le_refl _) (xgrow_tr (Nat.le_refl _) (xgrow_tr (Nat.le_refl _) (xgrow_tr (Nat.le_refl _) g1 g2) g3) g4) g5) g6) g7) g8) g9) g10) g11) g12) g13) g14) g15) g16) g17) g18) g19) g20) g21) g22) g23) g24) g25) rfl dX9_init_212
