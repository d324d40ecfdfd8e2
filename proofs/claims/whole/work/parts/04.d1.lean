def tbX6_countKind_0 : List (Nat × Instr × Nat) := [(0, .iconst 0, 1), (1, .istore_n 3, 1), (2, .iconst 0, 1), (3, .istore 4, 2), (5, .iload 4, 2), (7, .aload_n 0, 1), (8, .getfield 18, 3), (11, .iload_n 1, 1), (12, .iaload, 1), (13, .if_icmp .ge 28, 3), (16, .aload_n 0, 1), (17, .getfield 21, 3), (20, .iload_n 1, 1), (21, .bipush 12, 2), (23, .imul, 1), (24, .iload 4, 2), (26, .iadd, 1), (27, .iaload, 1), (28, .iload_n 2, 1), (29, .if_icmp .ne 6, 3), (32, .iinc 3 1, 3), (35, .iinc 4 1, 3), (38, .goto (-33), 3), (41, .iload_n 3, 1), (42, .ireturn, 1)]
theorem tbX6_countKind_0_ok : tbX6_countKind_0.all (fun q => decide (decode cX6_countKind q.1 = .ok q.2)) = true := by decide +kernel
theorem dX6_countKind_0 : decode cX6_countKind 0 = .ok (.iconst 0, 1) := xdt tbX6_countKind_0_ok 0 rfl
theorem dX6_countKind_1 : decode cX6_countKind 1 = .ok (.istore_n 3, 1) := xdt tbX6_countKind_0_ok 1 rfl
theorem dX6_countKind_2 : decode cX6_countKind 2 = .ok (.iconst 0, 1) := xdt tbX6_countKind_0_ok 2 rfl
theorem dX6_countKind_3 : decode cX6_countKind 3 = .ok (.istore 4, 2) := xdt tbX6_countKind_0_ok 3 rfl
theorem dX6_countKind_5 : decode cX6_countKind 5 = .ok (.iload 4, 2) := xdt tbX6_countKind_0_ok 4 rfl
theorem dX6_countKind_7 : decode cX6_countKind 7 = .ok (.aload_n 0, 1) := xdt tbX6_countKind_0_ok 5 rfl
theorem dX6_countKind_8 : decode cX6_countKind 8 = .ok (.getfield 18, 3) := xdt tbX6_countKind_0_ok 6 rfl
theorem dX6_countKind_11 : decode cX6_countKind 11 = .ok (.iload_n 1, 1) := xdt tbX6_countKind_0_ok 7 rfl
theorem dX6_countKind_12 : decode cX6_countKind 12 = .ok (.iaload, 1) := xdt tbX6_countKind_0_ok 8 rfl
theorem dX6_countKind_13 : decode cX6_countKind 13 = .ok (.if_icmp .ge 28, 3) := xdt tbX6_countKind_0_ok 9 rfl
theorem dX6_countKind_16 : decode cX6_countKind 16 = .ok (.aload_n 0, 1) := xdt tbX6_countKind_0_ok 10 rfl
theorem dX6_countKind_17 : decode cX6_countKind 17 = .ok (.getfield 21, 3) := xdt tbX6_countKind_0_ok 11 rfl
theorem dX6_countKind_20 : decode cX6_countKind 20 = .ok (.iload_n 1, 1) := xdt tbX6_countKind_0_ok 12 rfl
theorem dX6_countKind_21 : decode cX6_countKind 21 = .ok (.bipush 12, 2) := xdt tbX6_countKind_0_ok 13 rfl
theorem dX6_countKind_23 : decode cX6_countKind 23 = .ok (.imul, 1) := xdt tbX6_countKind_0_ok 14 rfl
theorem dX6_countKind_24 : decode cX6_countKind 24 = .ok (.iload 4, 2) := xdt tbX6_countKind_0_ok 15 rfl
theorem dX6_countKind_26 : decode cX6_countKind 26 = .ok (.iadd, 1) := xdt tbX6_countKind_0_ok 16 rfl
theorem dX6_countKind_27 : decode cX6_countKind 27 = .ok (.iaload, 1) := xdt tbX6_countKind_0_ok 17 rfl
theorem dX6_countKind_28 : decode cX6_countKind 28 = .ok (.iload_n 2, 1) := xdt tbX6_countKind_0_ok 18 rfl
theorem dX6_countKind_29 : decode cX6_countKind 29 = .ok (.if_icmp .ne 6, 3) := xdt tbX6_countKind_0_ok 19 rfl
theorem dX6_countKind_32 : decode cX6_countKind 32 = .ok (.iinc 3 1, 3) := xdt tbX6_countKind_0_ok 20 rfl
theorem dX6_countKind_35 : decode cX6_countKind 35 = .ok (.iinc 4 1, 3) := xdt tbX6_countKind_0_ok 21 rfl
theorem dX6_countKind_38 : decode cX6_countKind 38 = .ok (.goto (-33), 3) := xdt tbX6_countKind_0_ok 22 rfl
theorem dX6_countKind_41 : decode cX6_countKind 41 = .ok (.iload_n 3, 1) := xdt tbX6_countKind_0_ok 23 rfl
theorem dX6_countKind_42 : decode cX6_countKind 42 = .ok (.ireturn, 1) := xdt tbX6_countKind_0_ok 24 rfl
def tbX6_countMembers_0 : List (Nat × Instr × Nat) := [(0, .iconst 0, 1), (1, .istore_n 2, 1), (2, .iconst 0, 1), (3, .istore_n 3, 1), (4, .iload_n 3, 1), (5, .aload_n 0, 1), (6, .getfield 52, 3), (9, .if_icmp .ge 52, 3), (12, .iconst 0, 1), (13, .istore 4, 2), (15, .iload 4, 2), (17, .aload_n 0, 1), (18, .getfield 18, 3), (21, .iload_n 3, 1), (22, .iaload, 1), (23, .if_icmp .ge 32, 3), (26, .iload_n 1, 1), (27, .ifCond .eq 19, 3), (30, .aload_n 0, 1), (31, .getfield 33, 3), (34, .iload_n 3, 1), (35, .bipush 12, 2), (37, .imul, 1), (38, .iload 4, 2), (40, .iadd, 1), (41, .iaload, 1), (42, .iconst 1, 1), (43, .if_icmp .ne 6, 3), (46, .iinc 2 1, 3), (49, .iinc 4 1, 3), (52, .goto (-37), 3), (55, .iinc 3 1, 3), (58, .goto (-54), 3), (61, .iload_n 2, 1), (62, .ireturn, 1)]
theorem tbX6_countMembers_0_ok : tbX6_countMembers_0.all (fun q => decide (decode cX6_countMembers q.1 = .ok q.2)) = true := by decide +kernel
theorem dX6_countMembers_0 : decode cX6_countMembers 0 = .ok (.iconst 0, 1) := xdt tbX6_countMembers_0_ok 0 rfl
theorem dX6_countMembers_1 : decode cX6_countMembers 1 = .ok (.istore_n 2, 1) := xdt tbX6_countMembers_0_ok 1 rfl
theorem dX6_countMembers_2 : decode cX6_countMembers 2 = .ok (.iconst 0, 1) := xdt tbX6_countMembers_0_ok 2 rfl
theorem dX6_countMembers_3 : decode cX6_countMembers 3 = .ok (.istore_n 3, 1) := xdt tbX6_countMembers_0_ok 3 rfl
theorem dX6_countMembers_4 : decode cX6_countMembers 4 = .ok (.iload_n 3, 1) := xdt tbX6_countMembers_0_ok 4 rfl
theorem dX6_countMembers_5 : decode cX6_countMembers 5 = .ok (.aload_n 0, 1) := xdt tbX6_countMembers_0_ok 5 rfl
theorem dX6_countMembers_6 : decode cX6_countMembers 6 = .ok (.getfield 52, 3) := xdt tbX6_countMembers_0_ok 6 rfl
theorem dX6_countMembers_9 : decode cX6_countMembers 9 = .ok (.if_icmp .ge 52, 3) := xdt tbX6_countMembers_0_ok 7 rfl
theorem dX6_countMembers_12 : decode cX6_countMembers 12 = .ok (.iconst 0, 1) := xdt tbX6_countMembers_0_ok 8 rfl
theorem dX6_countMembers_13 : decode cX6_countMembers 13 = .ok (.istore 4, 2) := xdt tbX6_countMembers_0_ok 9 rfl
theorem dX6_countMembers_15 : decode cX6_countMembers 15 = .ok (.iload 4, 2) := xdt tbX6_countMembers_0_ok 10 rfl
theorem dX6_countMembers_17 : decode cX6_countMembers 17 = .ok (.aload_n 0, 1) := xdt tbX6_countMembers_0_ok 11 rfl
theorem dX6_countMembers_18 : decode cX6_countMembers 18 = .ok (.getfield 18, 3) := xdt tbX6_countMembers_0_ok 12 rfl
theorem dX6_countMembers_21 : decode cX6_countMembers 21 = .ok (.iload_n 3, 1) := xdt tbX6_countMembers_0_ok 13 rfl
theorem dX6_countMembers_22 : decode cX6_countMembers 22 = .ok (.iaload, 1) := xdt tbX6_countMembers_0_ok 14 rfl
theorem dX6_countMembers_23 : decode cX6_countMembers 23 = .ok (.if_icmp .ge 32, 3) := xdt tbX6_countMembers_0_ok 15 rfl
theorem dX6_countMembers_26 : decode cX6_countMembers 26 = .ok (.iload_n 1, 1) := xdt tbX6_countMembers_0_ok 16 rfl
theorem dX6_countMembers_27 : decode cX6_countMembers 27 = .ok (.ifCond .eq 19, 3) := xdt tbX6_countMembers_0_ok 17 rfl
theorem dX6_countMembers_30 : decode cX6_countMembers 30 = .ok (.aload_n 0, 1) := xdt tbX6_countMembers_0_ok 18 rfl
theorem dX6_countMembers_31 : decode cX6_countMembers 31 = .ok (.getfield 33, 3) := xdt tbX6_countMembers_0_ok 19 rfl
theorem dX6_countMembers_34 : decode cX6_countMembers 34 = .ok (.iload_n 3, 1) := xdt tbX6_countMembers_0_ok 20 rfl
theorem dX6_countMembers_35 : decode cX6_countMembers 35 = .ok (.bipush 12, 2) := xdt tbX6_countMembers_0_ok 21 rfl
theorem dX6_countMembers_37 : decode cX6_countMembers 37 = .ok (.imul, 1) := xdt tbX6_countMembers_0_ok 22 rfl
theorem dX6_countMembers_38 : decode cX6_countMembers 38 = .ok (.iload 4, 2) := xdt tbX6_countMembers_0_ok 23 rfl
theorem dX6_countMembers_40 : decode cX6_countMembers 40 = .ok (.iadd, 1) := xdt tbX6_countMembers_0_ok 24 rfl
theorem dX6_countMembers_41 : decode cX6_countMembers 41 = .ok (.iaload, 1) := xdt tbX6_countMembers_0_ok 25 rfl
theorem dX6_countMembers_42 : decode cX6_countMembers 42 = .ok (.iconst 1, 1) := xdt tbX6_countMembers_0_ok 26 rfl
theorem dX6_countMembers_43 : decode cX6_countMembers 43 = .ok (.if_icmp .ne 6, 3) := xdt tbX6_countMembers_0_ok 27 rfl
theorem dX6_countMembers_46 : decode cX6_countMembers 46 = .ok (.iinc 2 1, 3) := xdt tbX6_countMembers_0_ok 28 rfl
theorem dX6_countMembers_49 : decode cX6_countMembers 49 = .ok (.iinc 4 1, 3) := xdt tbX6_countMembers_0_ok 29 rfl
theorem dX6_countMembers_52 : decode cX6_countMembers 52 = .ok (.goto (-37), 3) := xdt tbX6_countMembers_0_ok 30 rfl
theorem dX6_countMembers_55 : decode cX6_countMembers 55 = .ok (.iinc 3 1, 3) := xdt tbX6_countMembers_0_ok 31 rfl
theorem dX6_countMembers_58 : decode cX6_countMembers 58 = .ok (.goto (-54), 3) := xdt tbX6_countMembers_0_ok 32 rfl
theorem dX6_countMembers_61 : decode cX6_countMembers 61 = .ok (.iload_n 2, 1) := xdt tbX6_countMembers_0_ok 33 rfl
theorem dX6_countMembers_62 : decode cX6_countMembers 62 = .ok (.ireturn, 1) := xdt tbX6_countMembers_0_ok 34 rfl
def tbX7_noteFunction_0 : List (Nat × Instr × Nat) := [(0, .aload_n 0, 1), (1, .getfield 21, 3), (4, .iload_n 1, 1), (5, .iaload, 1), (6, .ifCond .ne 30, 3), (9, .aload_n 0, 1), (10, .getfield 21, 3), (13, .iload_n 1, 1), (14, .iconst 1, 1), (15, .iastore, 1), (16, .aload_n 0, 1), (17, .getfield 18, 3), (20, .aload_n 0, 1), (21, .getfield 44, 3), (24, .iload_n 1, 1), (25, .iastore, 1), (26, .aload_n 0, 1), (27, .dup, 1), (28, .getfield 44, 3), (31, .iconst 1, 1), (32, .iadd, 1), (33, .putfield 44, 3), (36, .return_, 1)]
theorem tbX7_noteFunction_0_ok : tbX7_noteFunction_0.all (fun q => decide (decode cX7_noteFunction q.1 = .ok q.2)) = true := by decide +kernel
theorem dX7_noteFunction_0 : decode cX7_noteFunction 0 = .ok (.aload_n 0, 1) := xdt tbX7_noteFunction_0_ok 0 rfl
theorem dX7_noteFunction_1 : decode cX7_noteFunction 1 = .ok (.getfield 21, 3) := xdt tbX7_noteFunction_0_ok 1 rfl
theorem dX7_noteFunction_4 : decode cX7_noteFunction 4 = .ok (.iload_n 1, 1) := xdt tbX7_noteFunction_0_ok 2 rfl
theorem dX7_noteFunction_5 : decode cX7_noteFunction 5 = .ok (.iaload, 1) := xdt tbX7_noteFunction_0_ok 3 rfl
theorem dX7_noteFunction_6 : decode cX7_noteFunction 6 = .ok (.ifCond .ne 30, 3) := xdt tbX7_noteFunction_0_ok 4 rfl
theorem dX7_noteFunction_9 : decode cX7_noteFunction 9 = .ok (.aload_n 0, 1) := xdt tbX7_noteFunction_0_ok 5 rfl
theorem dX7_noteFunction_10 : decode cX7_noteFunction 10 = .ok (.getfield 21, 3) := xdt tbX7_noteFunction_0_ok 6 rfl
theorem dX7_noteFunction_13 : decode cX7_noteFunction 13 = .ok (.iload_n 1, 1) := xdt tbX7_noteFunction_0_ok 7 rfl
theorem dX7_noteFunction_14 : decode cX7_noteFunction 14 = .ok (.iconst 1, 1) := xdt tbX7_noteFunction_0_ok 8 rfl
theorem dX7_noteFunction_15 : decode cX7_noteFunction 15 = .ok (.iastore, 1) := xdt tbX7_noteFunction_0_ok 9 rfl
theorem dX7_noteFunction_16 : decode cX7_noteFunction 16 = .ok (.aload_n 0, 1) := xdt tbX7_noteFunction_0_ok 10 rfl
theorem dX7_noteFunction_17 : decode cX7_noteFunction 17 = .ok (.getfield 18, 3) := xdt tbX7_noteFunction_0_ok 11 rfl
theorem dX7_noteFunction_20 : decode cX7_noteFunction 20 = .ok (.aload_n 0, 1) := xdt tbX7_noteFunction_0_ok 12 rfl
theorem dX7_noteFunction_21 : decode cX7_noteFunction 21 = .ok (.getfield 44, 3) := xdt tbX7_noteFunction_0_ok 13 rfl
theorem dX7_noteFunction_24 : decode cX7_noteFunction 24 = .ok (.iload_n 1, 1) := xdt tbX7_noteFunction_0_ok 14 rfl
theorem dX7_noteFunction_25 : decode cX7_noteFunction 25 = .ok (.iastore, 1) := xdt tbX7_noteFunction_0_ok 15 rfl
theorem dX7_noteFunction_26 : decode cX7_noteFunction 26 = .ok (.aload_n 0, 1) := xdt tbX7_noteFunction_0_ok 16 rfl
theorem dX7_noteFunction_27 : decode cX7_noteFunction 27 = .ok (.dup, 1) := xdt tbX7_noteFunction_0_ok 17 rfl
theorem dX7_noteFunction_28 : decode cX7_noteFunction 28 = .ok (.getfield 44, 3) := xdt tbX7_noteFunction_0_ok 18 rfl
theorem dX7_noteFunction_31 : decode cX7_noteFunction 31 = .ok (.iconst 1, 1) := xdt tbX7_noteFunction_0_ok 19 rfl
theorem dX7_noteFunction_32 : decode cX7_noteFunction 32 = .ok (.iadd, 1) := xdt tbX7_noteFunction_0_ok 20 rfl
theorem dX7_noteFunction_33 : decode cX7_noteFunction 33 = .ok (.putfield 44, 3) := xdt tbX7_noteFunction_0_ok 21 rfl
theorem dX7_noteFunction_36 : decode cX7_noteFunction 36 = .ok (.return_, 1) := xdt tbX7_noteFunction_0_ok 22 rfl
def tbX7_addDeed_0 : List (Nat × Instr × Nat) := [(0, .aload_n 1, 1), (1, .getfield 76, 3), (4, .iload_n 2, 1), (5, .iaload, 1), (6, .iconst (-1), 1), (7, .if_icmp .eq 23, 3), (10, .aload_n 0, 1), (11, .dup, 1), (12, .getfield 41, 3), (15, .iconst 1, 1), (16, .aload_n 1, 1), (17, .getfield 76, 3), (20, .iload_n 2, 1), (21, .iaload, 1), (22, .bipush 12, 2), (24, .idiv, 1), (25, .ishl, 1), (26, .ior, 1), (27, .putfield 41, 3), (30, .aload_n 1, 1), (31, .getfield 81, 3), (34, .iload_n 2, 1), (35, .iaload, 1), (36, .istore_n 3, 1), (37, .iload_n 3, 1), (38, .aload_n 1, 1), (39, .getfield 84, 3), (42, .iload_n 2, 1), (43, .iaload, 1), (44, .if_icmp .ge 69, 3), (47, .aload_n 1, 1), (48, .getfield 87, 3), (51, .iload_n 3, 1), (52, .iaload, 1), (53, .iconst 1, 1), (54, .if_icmp .eq 13, 3), (57, .aload_n 1, 1), (58, .getfield 87, 3), (61, .iload_n 3, 1), (62, .iaload, 1), (63, .iconst 2, 1), (64, .if_icmp .ne 23, 3), (67, .aload_n 0, 1), (68, .dup, 1), (69, .getfield 41, 3), (72, .iconst 1, 1), (73, .aload_n 1, 1), (74, .getfield 90, 3), (77, .iload_n 3, 1), (78, .iaload, 1), (79, .bipush 12, 2), (81, .idiv, 1), (82, .ishl, 1), (83, .ior, 1), (84, .putfield 41, 3), (87, .aload_n 1, 1), (88, .getfield 87, 3), (91, .iload_n 3, 1), (92, .iaload, 1), (93, .iconst 2, 1)]
theorem tbX7_addDeed_0_ok : tbX7_addDeed_0.all (fun q => decide (decode cX7_addDeed q.1 = .ok q.2)) = true := by decide +kernel
theorem dX7_addDeed_0 : decode cX7_addDeed 0 = .ok (.aload_n 1, 1) := xdt tbX7_addDeed_0_ok 0 rfl
theorem dX7_addDeed_1 : decode cX7_addDeed 1 = .ok (.getfield 76, 3) := xdt tbX7_addDeed_0_ok 1 rfl
theorem dX7_addDeed_4 : decode cX7_addDeed 4 = .ok (.iload_n 2, 1) := xdt tbX7_addDeed_0_ok 2 rfl
theorem dX7_addDeed_5 : decode cX7_addDeed 5 = .ok (.iaload, 1) := xdt tbX7_addDeed_0_ok 3 rfl
theorem dX7_addDeed_6 : decode cX7_addDeed 6 = .ok (.iconst (-1), 1) := xdt tbX7_addDeed_0_ok 4 rfl
theorem dX7_addDeed_7 : decode cX7_addDeed 7 = .ok (.if_icmp .eq 23, 3) := xdt tbX7_addDeed_0_ok 5 rfl
theorem dX7_addDeed_10 : decode cX7_addDeed 10 = .ok (.aload_n 0, 1) := xdt tbX7_addDeed_0_ok 6 rfl
theorem dX7_addDeed_11 : decode cX7_addDeed 11 = .ok (.dup, 1) := xdt tbX7_addDeed_0_ok 7 rfl
theorem dX7_addDeed_12 : decode cX7_addDeed 12 = .ok (.getfield 41, 3) := xdt tbX7_addDeed_0_ok 8 rfl
theorem dX7_addDeed_15 : decode cX7_addDeed 15 = .ok (.iconst 1, 1) := xdt tbX7_addDeed_0_ok 9 rfl
theorem dX7_addDeed_16 : decode cX7_addDeed 16 = .ok (.aload_n 1, 1) := xdt tbX7_addDeed_0_ok 10 rfl
theorem dX7_addDeed_17 : decode cX7_addDeed 17 = .ok (.getfield 76, 3) := xdt tbX7_addDeed_0_ok 11 rfl
theorem dX7_addDeed_20 : decode cX7_addDeed 20 = .ok (.iload_n 2, 1) := xdt tbX7_addDeed_0_ok 12 rfl
theorem dX7_addDeed_21 : decode cX7_addDeed 21 = .ok (.iaload, 1) := xdt tbX7_addDeed_0_ok 13 rfl
theorem dX7_addDeed_22 : decode cX7_addDeed 22 = .ok (.bipush 12, 2) := xdt tbX7_addDeed_0_ok 14 rfl
theorem dX7_addDeed_24 : decode cX7_addDeed 24 = .ok (.idiv, 1) := xdt tbX7_addDeed_0_ok 15 rfl
theorem dX7_addDeed_25 : decode cX7_addDeed 25 = .ok (.ishl, 1) := xdt tbX7_addDeed_0_ok 16 rfl
theorem dX7_addDeed_26 : decode cX7_addDeed 26 = .ok (.ior, 1) := xdt tbX7_addDeed_0_ok 17 rfl
theorem dX7_addDeed_27 : decode cX7_addDeed 27 = .ok (.putfield 41, 3) := xdt tbX7_addDeed_0_ok 18 rfl
theorem dX7_addDeed_30 : decode cX7_addDeed 30 = .ok (.aload_n 1, 1) := xdt tbX7_addDeed_0_ok 19 rfl
theorem dX7_addDeed_31 : decode cX7_addDeed 31 = .ok (.getfield 81, 3) := xdt tbX7_addDeed_0_ok 20 rfl
theorem dX7_addDeed_34 : decode cX7_addDeed 34 = .ok (.iload_n 2, 1) := xdt tbX7_addDeed_0_ok 21 rfl
theorem dX7_addDeed_35 : decode cX7_addDeed 35 = .ok (.iaload, 1) := xdt tbX7_addDeed_0_ok 22 rfl
theorem dX7_addDeed_36 : decode cX7_addDeed 36 = .ok (.istore_n 3, 1) := xdt tbX7_addDeed_0_ok 23 rfl
theorem dX7_addDeed_37 : decode cX7_addDeed 37 = .ok (.iload_n 3, 1) := xdt tbX7_addDeed_0_ok 24 rfl
theorem dX7_addDeed_38 : decode cX7_addDeed 38 = .ok (.aload_n 1, 1) := xdt tbX7_addDeed_0_ok 25 rfl
theorem dX7_addDeed_39 : decode cX7_addDeed 39 = .ok (.getfield 84, 3) := xdt tbX7_addDeed_0_ok 26 rfl
theorem dX7_addDeed_42 : decode cX7_addDeed 42 = .ok (.iload_n 2, 1) := xdt tbX7_addDeed_0_ok 27 rfl
theorem dX7_addDeed_43 : decode cX7_addDeed 43 = .ok (.iaload, 1) := xdt tbX7_addDeed_0_ok 28 rfl
theorem dX7_addDeed_44 : decode cX7_addDeed 44 = .ok (.if_icmp .ge 69, 3) := xdt tbX7_addDeed_0_ok 29 rfl
theorem dX7_addDeed_47 : decode cX7_addDeed 47 = .ok (.aload_n 1, 1) := xdt tbX7_addDeed_0_ok 30 rfl
theorem dX7_addDeed_48 : decode cX7_addDeed 48 = .ok (.getfield 87, 3) := xdt tbX7_addDeed_0_ok 31 rfl
theorem dX7_addDeed_51 : decode cX7_addDeed 51 = .ok (.iload_n 3, 1) := xdt tbX7_addDeed_0_ok 32 rfl
theorem dX7_addDeed_52 : decode cX7_addDeed 52 = .ok (.iaload, 1) := xdt tbX7_addDeed_0_ok 33 rfl
theorem dX7_addDeed_53 : decode cX7_addDeed 53 = .ok (.iconst 1, 1) := xdt tbX7_addDeed_0_ok 34 rfl
theorem dX7_addDeed_54 : decode cX7_addDeed 54 = .ok (.if_icmp .eq 13, 3) := xdt tbX7_addDeed_0_ok 35 rfl
theorem dX7_addDeed_57 : decode cX7_addDeed 57 = .ok (.aload_n 1, 1) := xdt tbX7_addDeed_0_ok 36 rfl
theorem dX7_addDeed_58 : decode cX7_addDeed 58 = .ok (.getfield 87, 3) := xdt tbX7_addDeed_0_ok 37 rfl
theorem dX7_addDeed_61 : decode cX7_addDeed 61 = .ok (.iload_n 3, 1) := xdt tbX7_addDeed_0_ok 38 rfl
theorem dX7_addDeed_62 : decode cX7_addDeed 62 = .ok (.iaload, 1) := xdt tbX7_addDeed_0_ok 39 rfl
theorem dX7_addDeed_63 : decode cX7_addDeed 63 = .ok (.iconst 2, 1) := xdt tbX7_addDeed_0_ok 40 rfl
theorem dX7_addDeed_64 : decode cX7_addDeed 64 = .ok (.if_icmp .ne 23, 3) := xdt tbX7_addDeed_0_ok 41 rfl
theorem dX7_addDeed_67 : decode cX7_addDeed 67 = .ok (.aload_n 0, 1) := xdt tbX7_addDeed_0_ok 42 rfl
theorem dX7_addDeed_68 : decode cX7_addDeed 68 = .ok (.dup, 1) := xdt tbX7_addDeed_0_ok 43 rfl
theorem dX7_addDeed_69 : decode cX7_addDeed 69 = .ok (.getfield 41, 3) := xdt tbX7_addDeed_0_ok 44 rfl
theorem dX7_addDeed_72 : decode cX7_addDeed 72 = .ok (.iconst 1, 1) := xdt tbX7_addDeed_0_ok 45 rfl
theorem dX7_addDeed_73 : decode cX7_addDeed 73 = .ok (.aload_n 1, 1) := xdt tbX7_addDeed_0_ok 46 rfl
theorem dX7_addDeed_74 : decode cX7_addDeed 74 = .ok (.getfield 90, 3) := xdt tbX7_addDeed_0_ok 47 rfl
theorem dX7_addDeed_77 : decode cX7_addDeed 77 = .ok (.iload_n 3, 1) := xdt tbX7_addDeed_0_ok 48 rfl
theorem dX7_addDeed_78 : decode cX7_addDeed 78 = .ok (.iaload, 1) := xdt tbX7_addDeed_0_ok 49 rfl
theorem dX7_addDeed_79 : decode cX7_addDeed 79 = .ok (.bipush 12, 2) := xdt tbX7_addDeed_0_ok 50 rfl
theorem dX7_addDeed_81 : decode cX7_addDeed 81 = .ok (.idiv, 1) := xdt tbX7_addDeed_0_ok 51 rfl
theorem dX7_addDeed_82 : decode cX7_addDeed 82 = .ok (.ishl, 1) := xdt tbX7_addDeed_0_ok 52 rfl
theorem dX7_addDeed_83 : decode cX7_addDeed 83 = .ok (.ior, 1) := xdt tbX7_addDeed_0_ok 53 rfl
theorem dX7_addDeed_84 : decode cX7_addDeed 84 = .ok (.putfield 41, 3) := xdt tbX7_addDeed_0_ok 54 rfl
theorem dX7_addDeed_87 : decode cX7_addDeed 87 = .ok (.aload_n 1, 1) := xdt tbX7_addDeed_0_ok 55 rfl
theorem dX7_addDeed_88 : decode cX7_addDeed 88 = .ok (.getfield 87, 3) := xdt tbX7_addDeed_0_ok 56 rfl
theorem dX7_addDeed_91 : decode cX7_addDeed 91 = .ok (.iload_n 3, 1) := xdt tbX7_addDeed_0_ok 57 rfl
theorem dX7_addDeed_92 : decode cX7_addDeed 92 = .ok (.iaload, 1) := xdt tbX7_addDeed_0_ok 58 rfl
theorem dX7_addDeed_93 : decode cX7_addDeed 93 = .ok (.iconst 2, 1) := xdt tbX7_addDeed_0_ok 59 rfl
def tbX7_addDeed_60 : List (Nat × Instr × Nat) := [(94, .if_icmp .ne 13, 3), (97, .aload_n 0, 1), (98, .aload_n 1, 1), (99, .getfield 90, 3), (102, .iload_n 3, 1), (103, .iaload, 1), (104, .invokevirtual 93, 3), (107, .iinc 3 1, 3), (110, .goto (-73), 3), (113, .return_, 1)]
theorem tbX7_addDeed_60_ok : tbX7_addDeed_60.all (fun q => decide (decode cX7_addDeed q.1 = .ok q.2)) = true := by decide +kernel
theorem dX7_addDeed_94 : decode cX7_addDeed 94 = .ok (.if_icmp .ne 13, 3) := xdt tbX7_addDeed_60_ok 0 rfl
theorem dX7_addDeed_97 : decode cX7_addDeed 97 = .ok (.aload_n 0, 1) := xdt tbX7_addDeed_60_ok 1 rfl
theorem dX7_addDeed_98 : decode cX7_addDeed 98 = .ok (.aload_n 1, 1) := xdt tbX7_addDeed_60_ok 2 rfl
theorem dX7_addDeed_99 : decode cX7_addDeed 99 = .ok (.getfield 90, 3) := xdt tbX7_addDeed_60_ok 3 rfl
theorem dX7_addDeed_102 : decode cX7_addDeed 102 = .ok (.iload_n 3, 1) := xdt tbX7_addDeed_60_ok 4 rfl
theorem dX7_addDeed_103 : decode cX7_addDeed 103 = .ok (.iaload, 1) := xdt tbX7_addDeed_60_ok 5 rfl
theorem dX7_addDeed_104 : decode cX7_addDeed 104 = .ok (.invokevirtual 93, 3) := xdt tbX7_addDeed_60_ok 6 rfl
theorem dX7_addDeed_107 : decode cX7_addDeed 107 = .ok (.iinc 3 1, 3) := xdt tbX7_addDeed_60_ok 7 rfl
theorem dX7_addDeed_110 : decode cX7_addDeed 110 = .ok (.goto (-73), 3) := xdt tbX7_addDeed_60_ok 8 rfl
theorem dX7_addDeed_113 : decode cX7_addDeed 113 = .ok (.return_, 1) := xdt tbX7_addDeed_60_ok 9 rfl
def tbX7_touchedBy_0 : List (Nat × Instr × Nat) := [(0, .aload_n 0, 1), (1, .aload_n 1, 1), (2, .getfield 38, 3), (5, .iload_n 2, 1), (6, .iaload, 1), (7, .iconst (-1), 1), (8, .if_icmp .ne 7, 3), (11, .iconst 0, 1), (12, .goto 11, 3), (15, .iconst 1, 1), (16, .aload_n 1, 1), (17, .getfield 38, 3), (20, .iload_n 2, 1), (21, .iaload, 1), (22, .ishl, 1), (23, .putfield 41, 3), (26, .aload_n 0, 1), (27, .iconst 0, 1), (28, .putfield 44, 3), (31, .aload_n 0, 1), (32, .getfield 21, 3), (35, .iconst 0, 1), (36, .invokestatic 47, 3), (39, .iload_n 2, 1), (40, .bipush 12, 2), (42, .imul, 1), (43, .istore_n 3, 1), (44, .iload_n 3, 1), (45, .iload_n 2, 1), (46, .bipush 12, 2), (48, .imul, 1), (49, .aload_n 1, 1), (50, .getfield 53, 3), (53, .iload_n 2, 1), (54, .iaload, 1), (55, .iadd, 1), (56, .if_icmp .ge 53, 3), (59, .aload_n 1, 1), (60, .getfield 56, 3), (63, .iload_n 3, 1), (64, .iaload, 1), (65, .iconst 1, 1), (66, .if_icmp .ne 37, 3), (69, .aload_n 1, 1), (70, .getfield 59, 3), (73, .iload_n 3, 1), (74, .iaload, 1), (75, .iconst 4, 1), (76, .if_icmp .eq 27, 3), (79, .aload_n 1, 1), (80, .getfield 62, 3), (83, .iload_n 3, 1), (84, .iaload, 1), (85, .iconst (-1), 1), (86, .if_icmp .eq 17, 3), (89, .aload_n 0, 1), (90, .aload_n 1, 1), (91, .getfield 65, 3), (94, .aload_n 1, 1), (95, .getfield 62, 3)]
theorem tbX7_touchedBy_0_ok : tbX7_touchedBy_0.all (fun q => decide (decode cX7_touchedBy q.1 = .ok q.2)) = true := by decide +kernel
theorem dX7_touchedBy_0 : decode cX7_touchedBy 0 = .ok (.aload_n 0, 1) := xdt tbX7_touchedBy_0_ok 0 rfl
theorem dX7_touchedBy_1 : decode cX7_touchedBy 1 = .ok (.aload_n 1, 1) := xdt tbX7_touchedBy_0_ok 1 rfl
theorem dX7_touchedBy_2 : decode cX7_touchedBy 2 = .ok (.getfield 38, 3) := xdt tbX7_touchedBy_0_ok 2 rfl
theorem dX7_touchedBy_5 : decode cX7_touchedBy 5 = .ok (.iload_n 2, 1) := xdt tbX7_touchedBy_0_ok 3 rfl
theorem dX7_touchedBy_6 : decode cX7_touchedBy 6 = .ok (.iaload, 1) := xdt tbX7_touchedBy_0_ok 4 rfl
theorem dX7_touchedBy_7 : decode cX7_touchedBy 7 = .ok (.iconst (-1), 1) := xdt tbX7_touchedBy_0_ok 5 rfl
theorem dX7_touchedBy_8 : decode cX7_touchedBy 8 = .ok (.if_icmp .ne 7, 3) := xdt tbX7_touchedBy_0_ok 6 rfl
theorem dX7_touchedBy_11 : decode cX7_touchedBy 11 = .ok (.iconst 0, 1) := xdt tbX7_touchedBy_0_ok 7 rfl
theorem dX7_touchedBy_12 : decode cX7_touchedBy 12 = .ok (.goto 11, 3) := xdt tbX7_touchedBy_0_ok 8 rfl
theorem dX7_touchedBy_15 : decode cX7_touchedBy 15 = .ok (.iconst 1, 1) := xdt tbX7_touchedBy_0_ok 9 rfl
theorem dX7_touchedBy_16 : decode cX7_touchedBy 16 = .ok (.aload_n 1, 1) := xdt tbX7_touchedBy_0_ok 10 rfl
theorem dX7_touchedBy_17 : decode cX7_touchedBy 17 = .ok (.getfield 38, 3) := xdt tbX7_touchedBy_0_ok 11 rfl
theorem dX7_touchedBy_20 : decode cX7_touchedBy 20 = .ok (.iload_n 2, 1) := xdt tbX7_touchedBy_0_ok 12 rfl
theorem dX7_touchedBy_21 : decode cX7_touchedBy 21 = .ok (.iaload, 1) := xdt tbX7_touchedBy_0_ok 13 rfl
theorem dX7_touchedBy_22 : decode cX7_touchedBy 22 = .ok (.ishl, 1) := xdt tbX7_touchedBy_0_ok 14 rfl
theorem dX7_touchedBy_23 : decode cX7_touchedBy 23 = .ok (.putfield 41, 3) := xdt tbX7_touchedBy_0_ok 15 rfl
theorem dX7_touchedBy_26 : decode cX7_touchedBy 26 = .ok (.aload_n 0, 1) := xdt tbX7_touchedBy_0_ok 16 rfl
theorem dX7_touchedBy_27 : decode cX7_touchedBy 27 = .ok (.iconst 0, 1) := xdt tbX7_touchedBy_0_ok 17 rfl
theorem dX7_touchedBy_28 : decode cX7_touchedBy 28 = .ok (.putfield 44, 3) := xdt tbX7_touchedBy_0_ok 18 rfl
theorem dX7_touchedBy_31 : decode cX7_touchedBy 31 = .ok (.aload_n 0, 1) := xdt tbX7_touchedBy_0_ok 19 rfl
theorem dX7_touchedBy_32 : decode cX7_touchedBy 32 = .ok (.getfield 21, 3) := xdt tbX7_touchedBy_0_ok 20 rfl
theorem dX7_touchedBy_35 : decode cX7_touchedBy 35 = .ok (.iconst 0, 1) := xdt tbX7_touchedBy_0_ok 21 rfl
theorem dX7_touchedBy_36 : decode cX7_touchedBy 36 = .ok (.invokestatic 47, 3) := xdt tbX7_touchedBy_0_ok 22 rfl
theorem dX7_touchedBy_39 : decode cX7_touchedBy 39 = .ok (.iload_n 2, 1) := xdt tbX7_touchedBy_0_ok 23 rfl
theorem dX7_touchedBy_40 : decode cX7_touchedBy 40 = .ok (.bipush 12, 2) := xdt tbX7_touchedBy_0_ok 24 rfl
theorem dX7_touchedBy_42 : decode cX7_touchedBy 42 = .ok (.imul, 1) := xdt tbX7_touchedBy_0_ok 25 rfl
theorem dX7_touchedBy_43 : decode cX7_touchedBy 43 = .ok (.istore_n 3, 1) := xdt tbX7_touchedBy_0_ok 26 rfl
theorem dX7_touchedBy_44 : decode cX7_touchedBy 44 = .ok (.iload_n 3, 1) := xdt tbX7_touchedBy_0_ok 27 rfl
theorem dX7_touchedBy_45 : decode cX7_touchedBy 45 = .ok (.iload_n 2, 1) := xdt tbX7_touchedBy_0_ok 28 rfl
theorem dX7_touchedBy_46 : decode cX7_touchedBy 46 = .ok (.bipush 12, 2) := xdt tbX7_touchedBy_0_ok 29 rfl
theorem dX7_touchedBy_48 : decode cX7_touchedBy 48 = .ok (.imul, 1) := xdt tbX7_touchedBy_0_ok 30 rfl
theorem dX7_touchedBy_49 : decode cX7_touchedBy 49 = .ok (.aload_n 1, 1) := xdt tbX7_touchedBy_0_ok 31 rfl
theorem dX7_touchedBy_50 : decode cX7_touchedBy 50 = .ok (.getfield 53, 3) := xdt tbX7_touchedBy_0_ok 32 rfl
theorem dX7_touchedBy_53 : decode cX7_touchedBy 53 = .ok (.iload_n 2, 1) := xdt tbX7_touchedBy_0_ok 33 rfl
theorem dX7_touchedBy_54 : decode cX7_touchedBy 54 = .ok (.iaload, 1) := xdt tbX7_touchedBy_0_ok 34 rfl
theorem dX7_touchedBy_55 : decode cX7_touchedBy 55 = .ok (.iadd, 1) := xdt tbX7_touchedBy_0_ok 35 rfl
theorem dX7_touchedBy_56 : decode cX7_touchedBy 56 = .ok (.if_icmp .ge 53, 3) := xdt tbX7_touchedBy_0_ok 36 rfl
theorem dX7_touchedBy_59 : decode cX7_touchedBy 59 = .ok (.aload_n 1, 1) := xdt tbX7_touchedBy_0_ok 37 rfl
theorem dX7_touchedBy_60 : decode cX7_touchedBy 60 = .ok (.getfield 56, 3) := xdt tbX7_touchedBy_0_ok 38 rfl
theorem dX7_touchedBy_63 : decode cX7_touchedBy 63 = .ok (.iload_n 3, 1) := xdt tbX7_touchedBy_0_ok 39 rfl
theorem dX7_touchedBy_64 : decode cX7_touchedBy 64 = .ok (.iaload, 1) := xdt tbX7_touchedBy_0_ok 40 rfl
theorem dX7_touchedBy_65 : decode cX7_touchedBy 65 = .ok (.iconst 1, 1) := xdt tbX7_touchedBy_0_ok 41 rfl
theorem dX7_touchedBy_66 : decode cX7_touchedBy 66 = .ok (.if_icmp .ne 37, 3) := xdt tbX7_touchedBy_0_ok 42 rfl
theorem dX7_touchedBy_69 : decode cX7_touchedBy 69 = .ok (.aload_n 1, 1) := xdt tbX7_touchedBy_0_ok 43 rfl
theorem dX7_touchedBy_70 : decode cX7_touchedBy 70 = .ok (.getfield 59, 3) := xdt tbX7_touchedBy_0_ok 44 rfl
theorem dX7_touchedBy_73 : decode cX7_touchedBy 73 = .ok (.iload_n 3, 1) := xdt tbX7_touchedBy_0_ok 45 rfl
theorem dX7_touchedBy_74 : decode cX7_touchedBy 74 = .ok (.iaload, 1) := xdt tbX7_touchedBy_0_ok 46 rfl
theorem dX7_touchedBy_75 : decode cX7_touchedBy 75 = .ok (.iconst 4, 1) := xdt tbX7_touchedBy_0_ok 47 rfl
theorem dX7_touchedBy_76 : decode cX7_touchedBy 76 = .ok (.if_icmp .eq 27, 3) := xdt tbX7_touchedBy_0_ok 48 rfl
theorem dX7_touchedBy_79 : decode cX7_touchedBy 79 = .ok (.aload_n 1, 1) := xdt tbX7_touchedBy_0_ok 49 rfl
theorem dX7_touchedBy_80 : decode cX7_touchedBy 80 = .ok (.getfield 62, 3) := xdt tbX7_touchedBy_0_ok 50 rfl
theorem dX7_touchedBy_83 : decode cX7_touchedBy 83 = .ok (.iload_n 3, 1) := xdt tbX7_touchedBy_0_ok 51 rfl
theorem dX7_touchedBy_84 : decode cX7_touchedBy 84 = .ok (.iaload, 1) := xdt tbX7_touchedBy_0_ok 52 rfl
theorem dX7_touchedBy_85 : decode cX7_touchedBy 85 = .ok (.iconst (-1), 1) := xdt tbX7_touchedBy_0_ok 53 rfl
theorem dX7_touchedBy_86 : decode cX7_touchedBy 86 = .ok (.if_icmp .eq 17, 3) := xdt tbX7_touchedBy_0_ok 54 rfl
theorem dX7_touchedBy_89 : decode cX7_touchedBy 89 = .ok (.aload_n 0, 1) := xdt tbX7_touchedBy_0_ok 55 rfl
theorem dX7_touchedBy_90 : decode cX7_touchedBy 90 = .ok (.aload_n 1, 1) := xdt tbX7_touchedBy_0_ok 56 rfl
theorem dX7_touchedBy_91 : decode cX7_touchedBy 91 = .ok (.getfield 65, 3) := xdt tbX7_touchedBy_0_ok 57 rfl
theorem dX7_touchedBy_94 : decode cX7_touchedBy 94 = .ok (.aload_n 1, 1) := xdt tbX7_touchedBy_0_ok 58 rfl
theorem dX7_touchedBy_95 : decode cX7_touchedBy 95 = .ok (.getfield 62, 3) := xdt tbX7_touchedBy_0_ok 59 rfl
def tbX7_touchedBy_60 : List (Nat × Instr × Nat) := [(98, .iload_n 3, 1), (99, .iaload, 1), (100, .invokevirtual 69, 3), (103, .iinc 3 1, 3), (106, .goto (-62), 3), (109, .iconst 0, 1), (110, .istore_n 3, 1), (111, .iload_n 3, 1), (112, .aload_n 0, 1), (113, .getfield 44, 3), (116, .if_icmp .ge 62, 3), (119, .aload_n 0, 1), (120, .getfield 18, 3), (123, .iload_n 3, 1), (124, .iaload, 1), (125, .istore 4, 2), (127, .aload_n 1, 1), (128, .getfield 62, 3), (131, .iload 4, 2), (133, .iaload, 1), (134, .istore 5, 2), (136, .iload 5, 2), (138, .aload_n 1, 1), (139, .getfield 62, 3), (142, .iload 4, 2), (144, .iaload, 1), (145, .aload_n 1, 1), (146, .getfield 73, 3), (149, .iload 4, 2), (151, .iaload, 1), (152, .iadd, 1), (153, .if_icmp .gt 19, 3), (156, .aload_n 0, 1), (157, .aload_n 1, 1), (158, .getfield 65, 3), (161, .iload 5, 2), (163, .invokevirtual 69, 3), (166, .iinc 5 1, 3), (169, .goto (-33), 3), (172, .iinc 3 1, 3), (175, .goto (-64), 3), (178, .aload_n 0, 1), (179, .getfield 41, 3), (182, .ireturn, 1)]
theorem tbX7_touchedBy_60_ok : tbX7_touchedBy_60.all (fun q => decide (decode cX7_touchedBy q.1 = .ok q.2)) = true := by decide +kernel
theorem dX7_touchedBy_98 : decode cX7_touchedBy 98 = .ok (.iload_n 3, 1) := xdt tbX7_touchedBy_60_ok 0 rfl
theorem dX7_touchedBy_99 : decode cX7_touchedBy 99 = .ok (.iaload, 1) := xdt tbX7_touchedBy_60_ok 1 rfl
theorem dX7_touchedBy_100 : decode cX7_touchedBy 100 = .ok (.invokevirtual 69, 3) := xdt tbX7_touchedBy_60_ok 2 rfl
theorem dX7_touchedBy_103 : decode cX7_touchedBy 103 = .ok (.iinc 3 1, 3) := xdt tbX7_touchedBy_60_ok 3 rfl
theorem dX7_touchedBy_106 : decode cX7_touchedBy 106 = .ok (.goto (-62), 3) := xdt tbX7_touchedBy_60_ok 4 rfl
theorem dX7_touchedBy_109 : decode cX7_touchedBy 109 = .ok (.iconst 0, 1) := xdt tbX7_touchedBy_60_ok 5 rfl
theorem dX7_touchedBy_110 : decode cX7_touchedBy 110 = .ok (.istore_n 3, 1) := xdt tbX7_touchedBy_60_ok 6 rfl
theorem dX7_touchedBy_111 : decode cX7_touchedBy 111 = .ok (.iload_n 3, 1) := xdt tbX7_touchedBy_60_ok 7 rfl
theorem dX7_touchedBy_112 : decode cX7_touchedBy 112 = .ok (.aload_n 0, 1) := xdt tbX7_touchedBy_60_ok 8 rfl
theorem dX7_touchedBy_113 : decode cX7_touchedBy 113 = .ok (.getfield 44, 3) := xdt tbX7_touchedBy_60_ok 9 rfl
theorem dX7_touchedBy_116 : decode cX7_touchedBy 116 = .ok (.if_icmp .ge 62, 3) := xdt tbX7_touchedBy_60_ok 10 rfl
theorem dX7_touchedBy_119 : decode cX7_touchedBy 119 = .ok (.aload_n 0, 1) := xdt tbX7_touchedBy_60_ok 11 rfl
theorem dX7_touchedBy_120 : decode cX7_touchedBy 120 = .ok (.getfield 18, 3) := xdt tbX7_touchedBy_60_ok 12 rfl
theorem dX7_touchedBy_123 : decode cX7_touchedBy 123 = .ok (.iload_n 3, 1) := xdt tbX7_touchedBy_60_ok 13 rfl
theorem dX7_touchedBy_124 : decode cX7_touchedBy 124 = .ok (.iaload, 1) := xdt tbX7_touchedBy_60_ok 14 rfl
theorem dX7_touchedBy_125 : decode cX7_touchedBy 125 = .ok (.istore 4, 2) := xdt tbX7_touchedBy_60_ok 15 rfl
theorem dX7_touchedBy_127 : decode cX7_touchedBy 127 = .ok (.aload_n 1, 1) := xdt tbX7_touchedBy_60_ok 16 rfl
theorem dX7_touchedBy_128 : decode cX7_touchedBy 128 = .ok (.getfield 62, 3) := xdt tbX7_touchedBy_60_ok 17 rfl
theorem dX7_touchedBy_131 : decode cX7_touchedBy 131 = .ok (.iload 4, 2) := xdt tbX7_touchedBy_60_ok 18 rfl
theorem dX7_touchedBy_133 : decode cX7_touchedBy 133 = .ok (.iaload, 1) := xdt tbX7_touchedBy_60_ok 19 rfl
theorem dX7_touchedBy_134 : decode cX7_touchedBy 134 = .ok (.istore 5, 2) := xdt tbX7_touchedBy_60_ok 20 rfl
theorem dX7_touchedBy_136 : decode cX7_touchedBy 136 = .ok (.iload 5, 2) := xdt tbX7_touchedBy_60_ok 21 rfl
theorem dX7_touchedBy_138 : decode cX7_touchedBy 138 = .ok (.aload_n 1, 1) := xdt tbX7_touchedBy_60_ok 22 rfl
theorem dX7_touchedBy_139 : decode cX7_touchedBy 139 = .ok (.getfield 62, 3) := xdt tbX7_touchedBy_60_ok 23 rfl
theorem dX7_touchedBy_142 : decode cX7_touchedBy 142 = .ok (.iload 4, 2) := xdt tbX7_touchedBy_60_ok 24 rfl
theorem dX7_touchedBy_144 : decode cX7_touchedBy 144 = .ok (.iaload, 1) := xdt tbX7_touchedBy_60_ok 25 rfl
theorem dX7_touchedBy_145 : decode cX7_touchedBy 145 = .ok (.aload_n 1, 1) := xdt tbX7_touchedBy_60_ok 26 rfl
theorem dX7_touchedBy_146 : decode cX7_touchedBy 146 = .ok (.getfield 73, 3) := xdt tbX7_touchedBy_60_ok 27 rfl
theorem dX7_touchedBy_149 : decode cX7_touchedBy 149 = .ok (.iload 4, 2) := xdt tbX7_touchedBy_60_ok 28 rfl
theorem dX7_touchedBy_151 : decode cX7_touchedBy 151 = .ok (.iaload, 1) := xdt tbX7_touchedBy_60_ok 29 rfl
theorem dX7_touchedBy_152 : decode cX7_touchedBy 152 = .ok (.iadd, 1) := xdt tbX7_touchedBy_60_ok 30 rfl
theorem dX7_touchedBy_153 : decode cX7_touchedBy 153 = .ok (.if_icmp .gt 19, 3) := xdt tbX7_touchedBy_60_ok 31 rfl
theorem dX7_touchedBy_156 : decode cX7_touchedBy 156 = .ok (.aload_n 0, 1) := xdt tbX7_touchedBy_60_ok 32 rfl
theorem dX7_touchedBy_157 : decode cX7_touchedBy 157 = .ok (.aload_n 1, 1) := xdt tbX7_touchedBy_60_ok 33 rfl
theorem dX7_touchedBy_158 : decode cX7_touchedBy 158 = .ok (.getfield 65, 3) := xdt tbX7_touchedBy_60_ok 34 rfl
theorem dX7_touchedBy_161 : decode cX7_touchedBy 161 = .ok (.iload 5, 2) := xdt tbX7_touchedBy_60_ok 35 rfl
theorem dX7_touchedBy_163 : decode cX7_touchedBy 163 = .ok (.invokevirtual 69, 3) := xdt tbX7_touchedBy_60_ok 36 rfl
theorem dX7_touchedBy_166 : decode cX7_touchedBy 166 = .ok (.iinc 5 1, 3) := xdt tbX7_touchedBy_60_ok 37 rfl
theorem dX7_touchedBy_169 : decode cX7_touchedBy 169 = .ok (.goto (-33), 3) := xdt tbX7_touchedBy_60_ok 38 rfl
theorem dX7_touchedBy_172 : decode cX7_touchedBy 172 = .ok (.iinc 3 1, 3) := xdt tbX7_touchedBy_60_ok 39 rfl
theorem dX7_touchedBy_175 : decode cX7_touchedBy 175 = .ok (.goto (-64), 3) := xdt tbX7_touchedBy_60_ok 40 rfl
theorem dX7_touchedBy_178 : decode cX7_touchedBy 178 = .ok (.aload_n 0, 1) := xdt tbX7_touchedBy_60_ok 41 rfl
theorem dX7_touchedBy_179 : decode cX7_touchedBy 179 = .ok (.getfield 41, 3) := xdt tbX7_touchedBy_60_ok 42 rfl
theorem dX7_touchedBy_182 : decode cX7_touchedBy 182 = .ok (.ireturn, 1) := xdt tbX7_touchedBy_60_ok 43 rfl
def tbX7_spin_0 : List (Nat × Instr × Nat) := [(0, .aload_n 0, 1), (1, .aload_n 1, 1), (2, .getfield 27, 3), (5, .putfield 33, 3), (8, .iconst 0, 1), (9, .istore_n 2, 1), (10, .iload_n 2, 1), (11, .aload_n 0, 1), (12, .getfield 33, 3), (15, .if_icmp .ge 33, 3), (18, .aload_n 0, 1), (19, .getfield 9, 3), (22, .iload_n 2, 1), (23, .aload_n 0, 1), (24, .aload_n 1, 1), (25, .iload_n 2, 1), (26, .invokevirtual 34, 3), (29, .iastore, 1), (30, .aload_n 0, 1), (31, .getfield 15, 3), (34, .iload_n 2, 1), (35, .aload_n 0, 1), (36, .getfield 9, 3), (39, .iload_n 2, 1), (40, .iaload, 1), (41, .iastore, 1), (42, .iinc 2 1, 3), (45, .goto (-35), 3), (48, .iconst 0, 1), (49, .istore_n 2, 1), (50, .iload_n 2, 1), (51, .aload_n 0, 1), (52, .getfield 33, 3), (55, .if_icmp .ge 53, 3), (58, .iconst 0, 1), (59, .istore_n 3, 1), (60, .iload_n 3, 1), (61, .aload_n 0, 1), (62, .getfield 33, 3), (65, .if_icmp .ge 37, 3), (68, .aload_n 0, 1), (69, .getfield 15, 3), (72, .iload_n 3, 1), (73, .iaload, 1), (74, .iload_n 2, 1), (75, .ishr, 1), (76, .iconst 1, 1), (77, .iand, 1), (78, .ifCond .eq 18, 3), (81, .aload_n 0, 1), (82, .getfield 15, 3), (85, .iload_n 3, 1), (86, .dup2, 1), (87, .iaload, 1), (88, .aload_n 0, 1), (89, .getfield 15, 3), (92, .iload_n 2, 1), (93, .iaload, 1), (94, .ior, 1), (95, .iastore, 1)]
theorem tbX7_spin_0_ok : tbX7_spin_0.all (fun q => decide (decode cX7_spin q.1 = .ok q.2)) = true := by decide +kernel
theorem dX7_spin_0 : decode cX7_spin 0 = .ok (.aload_n 0, 1) := xdt tbX7_spin_0_ok 0 rfl
theorem dX7_spin_1 : decode cX7_spin 1 = .ok (.aload_n 1, 1) := xdt tbX7_spin_0_ok 1 rfl
theorem dX7_spin_2 : decode cX7_spin 2 = .ok (.getfield 27, 3) := xdt tbX7_spin_0_ok 2 rfl
theorem dX7_spin_5 : decode cX7_spin 5 = .ok (.putfield 33, 3) := xdt tbX7_spin_0_ok 3 rfl
theorem dX7_spin_8 : decode cX7_spin 8 = .ok (.iconst 0, 1) := xdt tbX7_spin_0_ok 4 rfl
theorem dX7_spin_9 : decode cX7_spin 9 = .ok (.istore_n 2, 1) := xdt tbX7_spin_0_ok 5 rfl
theorem dX7_spin_10 : decode cX7_spin 10 = .ok (.iload_n 2, 1) := xdt tbX7_spin_0_ok 6 rfl
theorem dX7_spin_11 : decode cX7_spin 11 = .ok (.aload_n 0, 1) := xdt tbX7_spin_0_ok 7 rfl
theorem dX7_spin_12 : decode cX7_spin 12 = .ok (.getfield 33, 3) := xdt tbX7_spin_0_ok 8 rfl
theorem dX7_spin_15 : decode cX7_spin 15 = .ok (.if_icmp .ge 33, 3) := xdt tbX7_spin_0_ok 9 rfl
theorem dX7_spin_18 : decode cX7_spin 18 = .ok (.aload_n 0, 1) := xdt tbX7_spin_0_ok 10 rfl
theorem dX7_spin_19 : decode cX7_spin 19 = .ok (.getfield 9, 3) := xdt tbX7_spin_0_ok 11 rfl
theorem dX7_spin_22 : decode cX7_spin 22 = .ok (.iload_n 2, 1) := xdt tbX7_spin_0_ok 12 rfl
theorem dX7_spin_23 : decode cX7_spin 23 = .ok (.aload_n 0, 1) := xdt tbX7_spin_0_ok 13 rfl
theorem dX7_spin_24 : decode cX7_spin 24 = .ok (.aload_n 1, 1) := xdt tbX7_spin_0_ok 14 rfl
theorem dX7_spin_25 : decode cX7_spin 25 = .ok (.iload_n 2, 1) := xdt tbX7_spin_0_ok 15 rfl
theorem dX7_spin_26 : decode cX7_spin 26 = .ok (.invokevirtual 34, 3) := xdt tbX7_spin_0_ok 16 rfl
theorem dX7_spin_29 : decode cX7_spin 29 = .ok (.iastore, 1) := xdt tbX7_spin_0_ok 17 rfl
theorem dX7_spin_30 : decode cX7_spin 30 = .ok (.aload_n 0, 1) := xdt tbX7_spin_0_ok 18 rfl
theorem dX7_spin_31 : decode cX7_spin 31 = .ok (.getfield 15, 3) := xdt tbX7_spin_0_ok 19 rfl
theorem dX7_spin_34 : decode cX7_spin 34 = .ok (.iload_n 2, 1) := xdt tbX7_spin_0_ok 20 rfl
theorem dX7_spin_35 : decode cX7_spin 35 = .ok (.aload_n 0, 1) := xdt tbX7_spin_0_ok 21 rfl
theorem dX7_spin_36 : decode cX7_spin 36 = .ok (.getfield 9, 3) := xdt tbX7_spin_0_ok 22 rfl
theorem dX7_spin_39 : decode cX7_spin 39 = .ok (.iload_n 2, 1) := xdt tbX7_spin_0_ok 23 rfl
theorem dX7_spin_40 : decode cX7_spin 40 = .ok (.iaload, 1) := xdt tbX7_spin_0_ok 24 rfl
theorem dX7_spin_41 : decode cX7_spin 41 = .ok (.iastore, 1) := xdt tbX7_spin_0_ok 25 rfl
theorem dX7_spin_42 : decode cX7_spin 42 = .ok (.iinc 2 1, 3) := xdt tbX7_spin_0_ok 26 rfl
theorem dX7_spin_45 : decode cX7_spin 45 = .ok (.goto (-35), 3) := xdt tbX7_spin_0_ok 27 rfl
theorem dX7_spin_48 : decode cX7_spin 48 = .ok (.iconst 0, 1) := xdt tbX7_spin_0_ok 28 rfl
theorem dX7_spin_49 : decode cX7_spin 49 = .ok (.istore_n 2, 1) := xdt tbX7_spin_0_ok 29 rfl
theorem dX7_spin_50 : decode cX7_spin 50 = .ok (.iload_n 2, 1) := xdt tbX7_spin_0_ok 30 rfl
theorem dX7_spin_51 : decode cX7_spin 51 = .ok (.aload_n 0, 1) := xdt tbX7_spin_0_ok 31 rfl
theorem dX7_spin_52 : decode cX7_spin 52 = .ok (.getfield 33, 3) := xdt tbX7_spin_0_ok 32 rfl
theorem dX7_spin_55 : decode cX7_spin 55 = .ok (.if_icmp .ge 53, 3) := xdt tbX7_spin_0_ok 33 rfl
theorem dX7_spin_58 : decode cX7_spin 58 = .ok (.iconst 0, 1) := xdt tbX7_spin_0_ok 34 rfl
theorem dX7_spin_59 : decode cX7_spin 59 = .ok (.istore_n 3, 1) := xdt tbX7_spin_0_ok 35 rfl
theorem dX7_spin_60 : decode cX7_spin 60 = .ok (.iload_n 3, 1) := xdt tbX7_spin_0_ok 36 rfl
theorem dX7_spin_61 : decode cX7_spin 61 = .ok (.aload_n 0, 1) := xdt tbX7_spin_0_ok 37 rfl
theorem dX7_spin_62 : decode cX7_spin 62 = .ok (.getfield 33, 3) := xdt tbX7_spin_0_ok 38 rfl
theorem dX7_spin_65 : decode cX7_spin 65 = .ok (.if_icmp .ge 37, 3) := xdt tbX7_spin_0_ok 39 rfl
theorem dX7_spin_68 : decode cX7_spin 68 = .ok (.aload_n 0, 1) := xdt tbX7_spin_0_ok 40 rfl
theorem dX7_spin_69 : decode cX7_spin 69 = .ok (.getfield 15, 3) := xdt tbX7_spin_0_ok 41 rfl
theorem dX7_spin_72 : decode cX7_spin 72 = .ok (.iload_n 3, 1) := xdt tbX7_spin_0_ok 42 rfl
theorem dX7_spin_73 : decode cX7_spin 73 = .ok (.iaload, 1) := xdt tbX7_spin_0_ok 43 rfl
theorem dX7_spin_74 : decode cX7_spin 74 = .ok (.iload_n 2, 1) := xdt tbX7_spin_0_ok 44 rfl
theorem dX7_spin_75 : decode cX7_spin 75 = .ok (.ishr, 1) := xdt tbX7_spin_0_ok 45 rfl
theorem dX7_spin_76 : decode cX7_spin 76 = .ok (.iconst 1, 1) := xdt tbX7_spin_0_ok 46 rfl
theorem dX7_spin_77 : decode cX7_spin 77 = .ok (.iand, 1) := xdt tbX7_spin_0_ok 47 rfl
theorem dX7_spin_78 : decode cX7_spin 78 = .ok (.ifCond .eq 18, 3) := xdt tbX7_spin_0_ok 48 rfl
theorem dX7_spin_81 : decode cX7_spin 81 = .ok (.aload_n 0, 1) := xdt tbX7_spin_0_ok 49 rfl
theorem dX7_spin_82 : decode cX7_spin 82 = .ok (.getfield 15, 3) := xdt tbX7_spin_0_ok 50 rfl
theorem dX7_spin_85 : decode cX7_spin 85 = .ok (.iload_n 3, 1) := xdt tbX7_spin_0_ok 51 rfl
theorem dX7_spin_86 : decode cX7_spin 86 = .ok (.dup2, 1) := xdt tbX7_spin_0_ok 52 rfl
theorem dX7_spin_87 : decode cX7_spin 87 = .ok (.iaload, 1) := xdt tbX7_spin_0_ok 53 rfl
theorem dX7_spin_88 : decode cX7_spin 88 = .ok (.aload_n 0, 1) := xdt tbX7_spin_0_ok 54 rfl
theorem dX7_spin_89 : decode cX7_spin 89 = .ok (.getfield 15, 3) := xdt tbX7_spin_0_ok 55 rfl
theorem dX7_spin_92 : decode cX7_spin 92 = .ok (.iload_n 2, 1) := xdt tbX7_spin_0_ok 56 rfl
theorem dX7_spin_93 : decode cX7_spin 93 = .ok (.iaload, 1) := xdt tbX7_spin_0_ok 57 rfl
theorem dX7_spin_94 : decode cX7_spin 94 = .ok (.ior, 1) := xdt tbX7_spin_0_ok 58 rfl
theorem dX7_spin_95 : decode cX7_spin 95 = .ok (.iastore, 1) := xdt tbX7_spin_0_ok 59 rfl
def tbX7_spin_60 : List (Nat × Instr × Nat) := [(96, .iinc 3 1, 3), (99, .goto (-39), 3), (102, .iinc 2 1, 3), (105, .goto (-55), 3), (108, .return_, 1)]
theorem tbX7_spin_60_ok : tbX7_spin_60.all (fun q => decide (decode cX7_spin q.1 = .ok q.2)) = true := by decide +kernel
theorem dX7_spin_96 : decode cX7_spin 96 = .ok (.iinc 3 1, 3) := xdt tbX7_spin_60_ok 0 rfl
theorem dX7_spin_99 : decode cX7_spin 99 = .ok (.goto (-39), 3) := xdt tbX7_spin_60_ok 1 rfl
theorem dX7_spin_102 : decode cX7_spin 102 = .ok (.iinc 2 1, 3) := xdt tbX7_spin_60_ok 2 rfl
theorem dX7_spin_105 : decode cX7_spin 105 = .ok (.goto (-55), 3) := xdt tbX7_spin_60_ok 3 rfl
theorem dX7_spin_108 : decode cX7_spin 108 = .ok (.return_, 1) := xdt tbX7_spin_60_ok 4 rfl
def tbX7_ringOf_0 : List (Nat × Instr × Nat) := [(0, .iconst 0, 1), (1, .istore_n 2, 1), (2, .iconst 0, 1), (3, .istore_n 3, 1), (4, .iload_n 3, 1), (5, .aload_n 0, 1), (6, .getfield 33, 3), (9, .if_icmp .ge 41, 3), (12, .aload_n 0, 1), (13, .getfield 15, 3), (16, .iload_n 1, 1), (17, .iaload, 1), (18, .iload_n 3, 1), (19, .ishr, 1), (20, .iconst 1, 1), (21, .iand, 1), (22, .ifCond .eq 22, 3), (25, .aload_n 0, 1), (26, .getfield 15, 3), (29, .iload_n 3, 1), (30, .iaload, 1), (31, .iload_n 1, 1), (32, .ishr, 1), (33, .iconst 1, 1), (34, .iand, 1), (35, .ifCond .eq 9, 3), (38, .iload_n 2, 1), (39, .iconst 1, 1), (40, .iload_n 3, 1), (41, .ishl, 1), (42, .ior, 1), (43, .istore_n 2, 1), (44, .iinc 3 1, 3), (47, .goto (-43), 3), (50, .iload_n 2, 1), (51, .ireturn, 1)]
theorem tbX7_ringOf_0_ok : tbX7_ringOf_0.all (fun q => decide (decode cX7_ringOf q.1 = .ok q.2)) = true := by decide +kernel
theorem dX7_ringOf_0 : decode cX7_ringOf 0 = .ok (.iconst 0, 1) := xdt tbX7_ringOf_0_ok 0 rfl
theorem dX7_ringOf_1 : decode cX7_ringOf 1 = .ok (.istore_n 2, 1) := xdt tbX7_ringOf_0_ok 1 rfl
theorem dX7_ringOf_2 : decode cX7_ringOf 2 = .ok (.iconst 0, 1) := xdt tbX7_ringOf_0_ok 2 rfl
theorem dX7_ringOf_3 : decode cX7_ringOf 3 = .ok (.istore_n 3, 1) := xdt tbX7_ringOf_0_ok 3 rfl
theorem dX7_ringOf_4 : decode cX7_ringOf 4 = .ok (.iload_n 3, 1) := xdt tbX7_ringOf_0_ok 4 rfl
theorem dX7_ringOf_5 : decode cX7_ringOf 5 = .ok (.aload_n 0, 1) := xdt tbX7_ringOf_0_ok 5 rfl
theorem dX7_ringOf_6 : decode cX7_ringOf 6 = .ok (.getfield 33, 3) := xdt tbX7_ringOf_0_ok 6 rfl
theorem dX7_ringOf_9 : decode cX7_ringOf 9 = .ok (.if_icmp .ge 41, 3) := xdt tbX7_ringOf_0_ok 7 rfl
theorem dX7_ringOf_12 : decode cX7_ringOf 12 = .ok (.aload_n 0, 1) := xdt tbX7_ringOf_0_ok 8 rfl
theorem dX7_ringOf_13 : decode cX7_ringOf 13 = .ok (.getfield 15, 3) := xdt tbX7_ringOf_0_ok 9 rfl
theorem dX7_ringOf_16 : decode cX7_ringOf 16 = .ok (.iload_n 1, 1) := xdt tbX7_ringOf_0_ok 10 rfl
theorem dX7_ringOf_17 : decode cX7_ringOf 17 = .ok (.iaload, 1) := xdt tbX7_ringOf_0_ok 11 rfl
theorem dX7_ringOf_18 : decode cX7_ringOf 18 = .ok (.iload_n 3, 1) := xdt tbX7_ringOf_0_ok 12 rfl
theorem dX7_ringOf_19 : decode cX7_ringOf 19 = .ok (.ishr, 1) := xdt tbX7_ringOf_0_ok 13 rfl
theorem dX7_ringOf_20 : decode cX7_ringOf 20 = .ok (.iconst 1, 1) := xdt tbX7_ringOf_0_ok 14 rfl
theorem dX7_ringOf_21 : decode cX7_ringOf 21 = .ok (.iand, 1) := xdt tbX7_ringOf_0_ok 15 rfl
theorem dX7_ringOf_22 : decode cX7_ringOf 22 = .ok (.ifCond .eq 22, 3) := xdt tbX7_ringOf_0_ok 16 rfl
theorem dX7_ringOf_25 : decode cX7_ringOf 25 = .ok (.aload_n 0, 1) := xdt tbX7_ringOf_0_ok 17 rfl
theorem dX7_ringOf_26 : decode cX7_ringOf 26 = .ok (.getfield 15, 3) := xdt tbX7_ringOf_0_ok 18 rfl
theorem dX7_ringOf_29 : decode cX7_ringOf 29 = .ok (.iload_n 3, 1) := xdt tbX7_ringOf_0_ok 19 rfl
theorem dX7_ringOf_30 : decode cX7_ringOf 30 = .ok (.iaload, 1) := xdt tbX7_ringOf_0_ok 20 rfl
theorem dX7_ringOf_31 : decode cX7_ringOf 31 = .ok (.iload_n 1, 1) := xdt tbX7_ringOf_0_ok 21 rfl
theorem dX7_ringOf_32 : decode cX7_ringOf 32 = .ok (.ishr, 1) := xdt tbX7_ringOf_0_ok 22 rfl
theorem dX7_ringOf_33 : decode cX7_ringOf 33 = .ok (.iconst 1, 1) := xdt tbX7_ringOf_0_ok 23 rfl
theorem dX7_ringOf_34 : decode cX7_ringOf 34 = .ok (.iand, 1) := xdt tbX7_ringOf_0_ok 24 rfl
theorem dX7_ringOf_35 : decode cX7_ringOf 35 = .ok (.ifCond .eq 9, 3) := xdt tbX7_ringOf_0_ok 25 rfl
theorem dX7_ringOf_38 : decode cX7_ringOf 38 = .ok (.iload_n 2, 1) := xdt tbX7_ringOf_0_ok 26 rfl
theorem dX7_ringOf_39 : decode cX7_ringOf 39 = .ok (.iconst 1, 1) := xdt tbX7_ringOf_0_ok 27 rfl
theorem dX7_ringOf_40 : decode cX7_ringOf 40 = .ok (.iload_n 3, 1) := xdt tbX7_ringOf_0_ok 28 rfl
theorem dX7_ringOf_41 : decode cX7_ringOf 41 = .ok (.ishl, 1) := xdt tbX7_ringOf_0_ok 29 rfl
theorem dX7_ringOf_42 : decode cX7_ringOf 42 = .ok (.ior, 1) := xdt tbX7_ringOf_0_ok 30 rfl
theorem dX7_ringOf_43 : decode cX7_ringOf 43 = .ok (.istore_n 2, 1) := xdt tbX7_ringOf_0_ok 31 rfl
theorem dX7_ringOf_44 : decode cX7_ringOf 44 = .ok (.iinc 3 1, 3) := xdt tbX7_ringOf_0_ok 32 rfl
theorem dX7_ringOf_47 : decode cX7_ringOf 47 = .ok (.goto (-43), 3) := xdt tbX7_ringOf_0_ok 33 rfl
theorem dX7_ringOf_50 : decode cX7_ringOf 50 = .ok (.iload_n 2, 1) := xdt tbX7_ringOf_0_ok 34 rfl
theorem dX7_ringOf_51 : decode cX7_ringOf 51 = .ok (.ireturn, 1) := xdt tbX7_ringOf_0_ok 35 rfl
def tbJ6_bitCount_0f7a4_0 : List (Nat × Instr × Nat) := [(0, .iload_n 0, 1), (1, .iload_n 0, 1), (2, .iconst 1, 1), (3, .iushr, 1), (4, .ldc_w 265, 3), (7, .iand, 1), (8, .isub, 1), (9, .istore_n 0, 1), (10, .iload_n 0, 1), (11, .ldc_w 266, 3), (14, .iand, 1), (15, .iload_n 0, 1), (16, .iconst 2, 1), (17, .iushr, 1), (18, .ldc_w 266, 3), (21, .iand, 1), (22, .iadd, 1), (23, .istore_n 0, 1), (24, .iload_n 0, 1), (25, .iload_n 0, 1), (26, .iconst 4, 1), (27, .iushr, 1), (28, .iadd, 1), (29, .ldc_w 267, 3), (32, .iand, 1), (33, .istore_n 0, 1), (34, .iload_n 0, 1), (35, .iload_n 0, 1), (36, .bipush 8, 2), (38, .iushr, 1), (39, .iadd, 1), (40, .istore_n 0, 1), (41, .iload_n 0, 1), (42, .iload_n 0, 1), (43, .bipush 16, 2), (45, .iushr, 1), (46, .iadd, 1), (47, .istore_n 0, 1), (48, .iload_n 0, 1), (49, .bipush 63, 2), (51, .iand, 1), (52, .ireturn, 1)]
theorem tbJ6_bitCount_0f7a4_0_ok : tbJ6_bitCount_0f7a4_0.all (fun q => decide (decode cJ6_bitCount_0f7a4 q.1 = .ok q.2)) = true := by decide +kernel
theorem dJ6_bitCount_0f7a4_0 : decode cJ6_bitCount_0f7a4 0 = .ok (.iload_n 0, 1) := xdt tbJ6_bitCount_0f7a4_0_ok 0 rfl
theorem dJ6_bitCount_0f7a4_1 : decode cJ6_bitCount_0f7a4 1 = .ok (.iload_n 0, 1) := xdt tbJ6_bitCount_0f7a4_0_ok 1 rfl
theorem dJ6_bitCount_0f7a4_2 : decode cJ6_bitCount_0f7a4 2 = .ok (.iconst 1, 1) := xdt tbJ6_bitCount_0f7a4_0_ok 2 rfl
theorem dJ6_bitCount_0f7a4_3 : decode cJ6_bitCount_0f7a4 3 = .ok (.iushr, 1) := xdt tbJ6_bitCount_0f7a4_0_ok 3 rfl
theorem dJ6_bitCount_0f7a4_4 : decode cJ6_bitCount_0f7a4 4 = .ok (.ldc_w 265, 3) := xdt tbJ6_bitCount_0f7a4_0_ok 4 rfl
theorem dJ6_bitCount_0f7a4_7 : decode cJ6_bitCount_0f7a4 7 = .ok (.iand, 1) := xdt tbJ6_bitCount_0f7a4_0_ok 5 rfl
theorem dJ6_bitCount_0f7a4_8 : decode cJ6_bitCount_0f7a4 8 = .ok (.isub, 1) := xdt tbJ6_bitCount_0f7a4_0_ok 6 rfl
theorem dJ6_bitCount_0f7a4_9 : decode cJ6_bitCount_0f7a4 9 = .ok (.istore_n 0, 1) := xdt tbJ6_bitCount_0f7a4_0_ok 7 rfl
theorem dJ6_bitCount_0f7a4_10 : decode cJ6_bitCount_0f7a4 10 = .ok (.iload_n 0, 1) := xdt tbJ6_bitCount_0f7a4_0_ok 8 rfl
theorem dJ6_bitCount_0f7a4_11 : decode cJ6_bitCount_0f7a4 11 = .ok (.ldc_w 266, 3) := xdt tbJ6_bitCount_0f7a4_0_ok 9 rfl
theorem dJ6_bitCount_0f7a4_14 : decode cJ6_bitCount_0f7a4 14 = .ok (.iand, 1) := xdt tbJ6_bitCount_0f7a4_0_ok 10 rfl
theorem dJ6_bitCount_0f7a4_15 : decode cJ6_bitCount_0f7a4 15 = .ok (.iload_n 0, 1) := xdt tbJ6_bitCount_0f7a4_0_ok 11 rfl
theorem dJ6_bitCount_0f7a4_16 : decode cJ6_bitCount_0f7a4 16 = .ok (.iconst 2, 1) := xdt tbJ6_bitCount_0f7a4_0_ok 12 rfl
theorem dJ6_bitCount_0f7a4_17 : decode cJ6_bitCount_0f7a4 17 = .ok (.iushr, 1) := xdt tbJ6_bitCount_0f7a4_0_ok 13 rfl
theorem dJ6_bitCount_0f7a4_18 : decode cJ6_bitCount_0f7a4 18 = .ok (.ldc_w 266, 3) := xdt tbJ6_bitCount_0f7a4_0_ok 14 rfl
theorem dJ6_bitCount_0f7a4_21 : decode cJ6_bitCount_0f7a4 21 = .ok (.iand, 1) := xdt tbJ6_bitCount_0f7a4_0_ok 15 rfl
theorem dJ6_bitCount_0f7a4_22 : decode cJ6_bitCount_0f7a4 22 = .ok (.iadd, 1) := xdt tbJ6_bitCount_0f7a4_0_ok 16 rfl
theorem dJ6_bitCount_0f7a4_23 : decode cJ6_bitCount_0f7a4 23 = .ok (.istore_n 0, 1) := xdt tbJ6_bitCount_0f7a4_0_ok 17 rfl
theorem dJ6_bitCount_0f7a4_24 : decode cJ6_bitCount_0f7a4 24 = .ok (.iload_n 0, 1) := xdt tbJ6_bitCount_0f7a4_0_ok 18 rfl
theorem dJ6_bitCount_0f7a4_25 : decode cJ6_bitCount_0f7a4 25 = .ok (.iload_n 0, 1) := xdt tbJ6_bitCount_0f7a4_0_ok 19 rfl
theorem dJ6_bitCount_0f7a4_26 : decode cJ6_bitCount_0f7a4 26 = .ok (.iconst 4, 1) := xdt tbJ6_bitCount_0f7a4_0_ok 20 rfl
theorem dJ6_bitCount_0f7a4_27 : decode cJ6_bitCount_0f7a4 27 = .ok (.iushr, 1) := xdt tbJ6_bitCount_0f7a4_0_ok 21 rfl
theorem dJ6_bitCount_0f7a4_28 : decode cJ6_bitCount_0f7a4 28 = .ok (.iadd, 1) := xdt tbJ6_bitCount_0f7a4_0_ok 22 rfl
theorem dJ6_bitCount_0f7a4_29 : decode cJ6_bitCount_0f7a4 29 = .ok (.ldc_w 267, 3) := xdt tbJ6_bitCount_0f7a4_0_ok 23 rfl
theorem dJ6_bitCount_0f7a4_32 : decode cJ6_bitCount_0f7a4 32 = .ok (.iand, 1) := xdt tbJ6_bitCount_0f7a4_0_ok 24 rfl
theorem dJ6_bitCount_0f7a4_33 : decode cJ6_bitCount_0f7a4 33 = .ok (.istore_n 0, 1) := xdt tbJ6_bitCount_0f7a4_0_ok 25 rfl
theorem dJ6_bitCount_0f7a4_34 : decode cJ6_bitCount_0f7a4 34 = .ok (.iload_n 0, 1) := xdt tbJ6_bitCount_0f7a4_0_ok 26 rfl
theorem dJ6_bitCount_0f7a4_35 : decode cJ6_bitCount_0f7a4 35 = .ok (.iload_n 0, 1) := xdt tbJ6_bitCount_0f7a4_0_ok 27 rfl
theorem dJ6_bitCount_0f7a4_36 : decode cJ6_bitCount_0f7a4 36 = .ok (.bipush 8, 2) := xdt tbJ6_bitCount_0f7a4_0_ok 28 rfl
theorem dJ6_bitCount_0f7a4_38 : decode cJ6_bitCount_0f7a4 38 = .ok (.iushr, 1) := xdt tbJ6_bitCount_0f7a4_0_ok 29 rfl
theorem dJ6_bitCount_0f7a4_39 : decode cJ6_bitCount_0f7a4 39 = .ok (.iadd, 1) := xdt tbJ6_bitCount_0f7a4_0_ok 30 rfl
theorem dJ6_bitCount_0f7a4_40 : decode cJ6_bitCount_0f7a4 40 = .ok (.istore_n 0, 1) := xdt tbJ6_bitCount_0f7a4_0_ok 31 rfl
theorem dJ6_bitCount_0f7a4_41 : decode cJ6_bitCount_0f7a4 41 = .ok (.iload_n 0, 1) := xdt tbJ6_bitCount_0f7a4_0_ok 32 rfl
theorem dJ6_bitCount_0f7a4_42 : decode cJ6_bitCount_0f7a4 42 = .ok (.iload_n 0, 1) := xdt tbJ6_bitCount_0f7a4_0_ok 33 rfl
theorem dJ6_bitCount_0f7a4_43 : decode cJ6_bitCount_0f7a4 43 = .ok (.bipush 16, 2) := xdt tbJ6_bitCount_0f7a4_0_ok 34 rfl
theorem dJ6_bitCount_0f7a4_45 : decode cJ6_bitCount_0f7a4 45 = .ok (.iushr, 1) := xdt tbJ6_bitCount_0f7a4_0_ok 35 rfl
theorem dJ6_bitCount_0f7a4_46 : decode cJ6_bitCount_0f7a4 46 = .ok (.iadd, 1) := xdt tbJ6_bitCount_0f7a4_0_ok 36 rfl
theorem dJ6_bitCount_0f7a4_47 : decode cJ6_bitCount_0f7a4 47 = .ok (.istore_n 0, 1) := xdt tbJ6_bitCount_0f7a4_0_ok 37 rfl
theorem dJ6_bitCount_0f7a4_48 : decode cJ6_bitCount_0f7a4 48 = .ok (.iload_n 0, 1) := xdt tbJ6_bitCount_0f7a4_0_ok 38 rfl
theorem dJ6_bitCount_0f7a4_49 : decode cJ6_bitCount_0f7a4 49 = .ok (.bipush 63, 2) := xdt tbJ6_bitCount_0f7a4_0_ok 39 rfl
theorem dJ6_bitCount_0f7a4_51 : decode cJ6_bitCount_0f7a4 51 = .ok (.iand, 1) := xdt tbJ6_bitCount_0f7a4_0_ok 40 rfl
theorem dJ6_bitCount_0f7a4_52 : decode cJ6_bitCount_0f7a4 52 = .ok (.ireturn, 1) := xdt tbJ6_bitCount_0f7a4_0_ok 41 rfl
def tbX7_brokenAhead_0 : List (Nat × Instr × Nat) := [(0, .aload_n 0, 1), (1, .getfield 9, 3), (4, .iload_n 1, 1), (5, .iaload, 1), (6, .iload_n 2, 1), (7, .iand, 1), (8, .iconst 1, 1), (9, .iload_n 1, 1), (10, .ishl, 1), (11, .iconst (-1), 1), (12, .ixor, 1), (13, .iand, 1), (14, .invokestatic 101, 3), (17, .ireturn, 1)]
theorem tbX7_brokenAhead_0_ok : tbX7_brokenAhead_0.all (fun q => decide (decode cX7_brokenAhead q.1 = .ok q.2)) = true := by decide +kernel
theorem dX7_brokenAhead_0 : decode cX7_brokenAhead 0 = .ok (.aload_n 0, 1) := xdt tbX7_brokenAhead_0_ok 0 rfl
theorem dX7_brokenAhead_1 : decode cX7_brokenAhead 1 = .ok (.getfield 9, 3) := xdt tbX7_brokenAhead_0_ok 1 rfl
theorem dX7_brokenAhead_4 : decode cX7_brokenAhead 4 = .ok (.iload_n 1, 1) := xdt tbX7_brokenAhead_0_ok 2 rfl
theorem dX7_brokenAhead_5 : decode cX7_brokenAhead 5 = .ok (.iaload, 1) := xdt tbX7_brokenAhead_0_ok 3 rfl
theorem dX7_brokenAhead_6 : decode cX7_brokenAhead 6 = .ok (.iload_n 2, 1) := xdt tbX7_brokenAhead_0_ok 4 rfl
theorem dX7_brokenAhead_7 : decode cX7_brokenAhead 7 = .ok (.iand, 1) := xdt tbX7_brokenAhead_0_ok 5 rfl
theorem dX7_brokenAhead_8 : decode cX7_brokenAhead 8 = .ok (.iconst 1, 1) := xdt tbX7_brokenAhead_0_ok 6 rfl
theorem dX7_brokenAhead_9 : decode cX7_brokenAhead 9 = .ok (.iload_n 1, 1) := xdt tbX7_brokenAhead_0_ok 7 rfl
theorem dX7_brokenAhead_10 : decode cX7_brokenAhead 10 = .ok (.ishl, 1) := xdt tbX7_brokenAhead_0_ok 8 rfl
theorem dX7_brokenAhead_11 : decode cX7_brokenAhead 11 = .ok (.iconst (-1), 1) := xdt tbX7_brokenAhead_0_ok 9 rfl
theorem dX7_brokenAhead_12 : decode cX7_brokenAhead 12 = .ok (.ixor, 1) := xdt tbX7_brokenAhead_0_ok 10 rfl
theorem dX7_brokenAhead_13 : decode cX7_brokenAhead 13 = .ok (.iand, 1) := xdt tbX7_brokenAhead_0_ok 11 rfl
theorem dX7_brokenAhead_14 : decode cX7_brokenAhead 14 = .ok (.invokestatic 101, 3) := xdt tbX7_brokenAhead_0_ok 12 rfl
theorem dX7_brokenAhead_17 : decode cX7_brokenAhead 17 = .ok (.ireturn, 1) := xdt tbX7_brokenAhead_0_ok 13 rfl
def tbX7_countBroken_0 : List (Nat × Instr × Nat) := [(0, .iconst 1, 1), (1, .aload_n 0, 1), (2, .getfield 33, 3), (5, .ishl, 1), (6, .iconst 1, 1), (7, .isub, 1), (8, .istore_n 2, 1), (9, .iconst 0, 1), (10, .istore_n 3, 1), (11, .iconst 0, 1), (12, .istore 4, 2), (14, .iload 4, 2), (16, .aload_n 0, 1), (17, .getfield 33, 3), (20, .if_icmp .ge 39, 3), (23, .iload 4, 2), (25, .aload_n 1, 1), (26, .arraylength, 1), (27, .if_icmp .ge 32, 3), (30, .iload_n 3, 1), (31, .aload_n 0, 1), (32, .aload_n 1, 1), (33, .iload 4, 2), (35, .iaload, 1), (36, .iload_n 2, 1), (37, .invokevirtual 97, 3), (40, .iadd, 1), (41, .istore_n 3, 1), (42, .iload_n 2, 1), (43, .iconst 1, 1), (44, .aload_n 1, 1), (45, .iload 4, 2), (47, .iaload, 1), (48, .ishl, 1), (49, .iconst (-1), 1), (50, .ixor, 1), (51, .iand, 1), (52, .istore_n 2, 1), (53, .iinc 4 1, 3), (56, .goto (-42), 3), (59, .iload_n 3, 1), (60, .ireturn, 1)]
theorem tbX7_countBroken_0_ok : tbX7_countBroken_0.all (fun q => decide (decode cX7_countBroken q.1 = .ok q.2)) = true := by decide +kernel
theorem dX7_countBroken_0 : decode cX7_countBroken 0 = .ok (.iconst 1, 1) := xdt tbX7_countBroken_0_ok 0 rfl
theorem dX7_countBroken_1 : decode cX7_countBroken 1 = .ok (.aload_n 0, 1) := xdt tbX7_countBroken_0_ok 1 rfl
theorem dX7_countBroken_2 : decode cX7_countBroken 2 = .ok (.getfield 33, 3) := xdt tbX7_countBroken_0_ok 2 rfl
theorem dX7_countBroken_5 : decode cX7_countBroken 5 = .ok (.ishl, 1) := xdt tbX7_countBroken_0_ok 3 rfl
theorem dX7_countBroken_6 : decode cX7_countBroken 6 = .ok (.iconst 1, 1) := xdt tbX7_countBroken_0_ok 4 rfl
theorem dX7_countBroken_7 : decode cX7_countBroken 7 = .ok (.isub, 1) := xdt tbX7_countBroken_0_ok 5 rfl
theorem dX7_countBroken_8 : decode cX7_countBroken 8 = .ok (.istore_n 2, 1) := xdt tbX7_countBroken_0_ok 6 rfl
theorem dX7_countBroken_9 : decode cX7_countBroken 9 = .ok (.iconst 0, 1) := xdt tbX7_countBroken_0_ok 7 rfl
theorem dX7_countBroken_10 : decode cX7_countBroken 10 = .ok (.istore_n 3, 1) := xdt tbX7_countBroken_0_ok 8 rfl
theorem dX7_countBroken_11 : decode cX7_countBroken 11 = .ok (.iconst 0, 1) := xdt tbX7_countBroken_0_ok 9 rfl
theorem dX7_countBroken_12 : decode cX7_countBroken 12 = .ok (.istore 4, 2) := xdt tbX7_countBroken_0_ok 10 rfl
theorem dX7_countBroken_14 : decode cX7_countBroken 14 = .ok (.iload 4, 2) := xdt tbX7_countBroken_0_ok 11 rfl
theorem dX7_countBroken_16 : decode cX7_countBroken 16 = .ok (.aload_n 0, 1) := xdt tbX7_countBroken_0_ok 12 rfl
theorem dX7_countBroken_17 : decode cX7_countBroken 17 = .ok (.getfield 33, 3) := xdt tbX7_countBroken_0_ok 13 rfl
theorem dX7_countBroken_20 : decode cX7_countBroken 20 = .ok (.if_icmp .ge 39, 3) := xdt tbX7_countBroken_0_ok 14 rfl
theorem dX7_countBroken_23 : decode cX7_countBroken 23 = .ok (.iload 4, 2) := xdt tbX7_countBroken_0_ok 15 rfl
theorem dX7_countBroken_25 : decode cX7_countBroken 25 = .ok (.aload_n 1, 1) := xdt tbX7_countBroken_0_ok 16 rfl
theorem dX7_countBroken_26 : decode cX7_countBroken 26 = .ok (.arraylength, 1) := xdt tbX7_countBroken_0_ok 17 rfl
theorem dX7_countBroken_27 : decode cX7_countBroken 27 = .ok (.if_icmp .ge 32, 3) := xdt tbX7_countBroken_0_ok 18 rfl
theorem dX7_countBroken_30 : decode cX7_countBroken 30 = .ok (.iload_n 3, 1) := xdt tbX7_countBroken_0_ok 19 rfl
theorem dX7_countBroken_31 : decode cX7_countBroken 31 = .ok (.aload_n 0, 1) := xdt tbX7_countBroken_0_ok 20 rfl
theorem dX7_countBroken_32 : decode cX7_countBroken 32 = .ok (.aload_n 1, 1) := xdt tbX7_countBroken_0_ok 21 rfl
theorem dX7_countBroken_33 : decode cX7_countBroken 33 = .ok (.iload 4, 2) := xdt tbX7_countBroken_0_ok 22 rfl
theorem dX7_countBroken_35 : decode cX7_countBroken 35 = .ok (.iaload, 1) := xdt tbX7_countBroken_0_ok 23 rfl
theorem dX7_countBroken_36 : decode cX7_countBroken 36 = .ok (.iload_n 2, 1) := xdt tbX7_countBroken_0_ok 24 rfl
theorem dX7_countBroken_37 : decode cX7_countBroken 37 = .ok (.invokevirtual 97, 3) := xdt tbX7_countBroken_0_ok 25 rfl
theorem dX7_countBroken_40 : decode cX7_countBroken 40 = .ok (.iadd, 1) := xdt tbX7_countBroken_0_ok 26 rfl
theorem dX7_countBroken_41 : decode cX7_countBroken 41 = .ok (.istore_n 3, 1) := xdt tbX7_countBroken_0_ok 27 rfl
theorem dX7_countBroken_42 : decode cX7_countBroken 42 = .ok (.iload_n 2, 1) := xdt tbX7_countBroken_0_ok 28 rfl
theorem dX7_countBroken_43 : decode cX7_countBroken 43 = .ok (.iconst 1, 1) := xdt tbX7_countBroken_0_ok 29 rfl
theorem dX7_countBroken_44 : decode cX7_countBroken 44 = .ok (.aload_n 1, 1) := xdt tbX7_countBroken_0_ok 30 rfl
theorem dX7_countBroken_45 : decode cX7_countBroken 45 = .ok (.iload 4, 2) := xdt tbX7_countBroken_0_ok 31 rfl
theorem dX7_countBroken_47 : decode cX7_countBroken 47 = .ok (.iaload, 1) := xdt tbX7_countBroken_0_ok 32 rfl
theorem dX7_countBroken_48 : decode cX7_countBroken 48 = .ok (.ishl, 1) := xdt tbX7_countBroken_0_ok 33 rfl
theorem dX7_countBroken_49 : decode cX7_countBroken 49 = .ok (.iconst (-1), 1) := xdt tbX7_countBroken_0_ok 34 rfl
theorem dX7_countBroken_50 : decode cX7_countBroken 50 = .ok (.ixor, 1) := xdt tbX7_countBroken_0_ok 35 rfl
theorem dX7_countBroken_51 : decode cX7_countBroken 51 = .ok (.iand, 1) := xdt tbX7_countBroken_0_ok 36 rfl
theorem dX7_countBroken_52 : decode cX7_countBroken 52 = .ok (.istore_n 2, 1) := xdt tbX7_countBroken_0_ok 37 rfl
theorem dX7_countBroken_53 : decode cX7_countBroken 53 = .ok (.iinc 4 1, 3) := xdt tbX7_countBroken_0_ok 38 rfl
theorem dX7_countBroken_56 : decode cX7_countBroken 56 = .ok (.goto (-42), 3) := xdt tbX7_countBroken_0_ok 39 rfl
theorem dX7_countBroken_59 : decode cX7_countBroken 59 = .ok (.iload_n 3, 1) := xdt tbX7_countBroken_0_ok 40 rfl
theorem dX7_countBroken_60 : decode cX7_countBroken 60 = .ok (.ireturn, 1) := xdt tbX7_countBroken_0_ok 41 rfl
def tbX7_fewestWith_0 : List (Nat × Instr × Nat) := [(0, .aload_n 0, 1), (1, .iload_n 1, 1), (2, .iload_n 2, 1), (3, .invokevirtual 97, 3), (6, .aload_n 0, 1), (7, .getfield 24, 3), (10, .iload_n 2, 1), (11, .iconst 1, 1), (12, .iload_n 1, 1), (13, .ishl, 1), (14, .iconst (-1), 1), (15, .ixor, 1), (16, .iand, 1), (17, .iaload, 1), (18, .iadd, 1), (19, .ireturn, 1)]
theorem tbX7_fewestWith_0_ok : tbX7_fewestWith_0.all (fun q => decide (decode cX7_fewestWith q.1 = .ok q.2)) = true := by decide +kernel
theorem dX7_fewestWith_0 : decode cX7_fewestWith 0 = .ok (.aload_n 0, 1) := xdt tbX7_fewestWith_0_ok 0 rfl
theorem dX7_fewestWith_1 : decode cX7_fewestWith 1 = .ok (.iload_n 1, 1) := xdt tbX7_fewestWith_0_ok 1 rfl
theorem dX7_fewestWith_2 : decode cX7_fewestWith 2 = .ok (.iload_n 2, 1) := xdt tbX7_fewestWith_0_ok 2 rfl
theorem dX7_fewestWith_3 : decode cX7_fewestWith 3 = .ok (.invokevirtual 97, 3) := xdt tbX7_fewestWith_0_ok 3 rfl
theorem dX7_fewestWith_6 : decode cX7_fewestWith 6 = .ok (.aload_n 0, 1) := xdt tbX7_fewestWith_0_ok 4 rfl
theorem dX7_fewestWith_7 : decode cX7_fewestWith 7 = .ok (.getfield 24, 3) := xdt tbX7_fewestWith_0_ok 5 rfl
theorem dX7_fewestWith_10 : decode cX7_fewestWith 10 = .ok (.iload_n 2, 1) := xdt tbX7_fewestWith_0_ok 6 rfl
theorem dX7_fewestWith_11 : decode cX7_fewestWith 11 = .ok (.iconst 1, 1) := xdt tbX7_fewestWith_0_ok 7 rfl
theorem dX7_fewestWith_12 : decode cX7_fewestWith 12 = .ok (.iload_n 1, 1) := xdt tbX7_fewestWith_0_ok 8 rfl
theorem dX7_fewestWith_13 : decode cX7_fewestWith 13 = .ok (.ishl, 1) := xdt tbX7_fewestWith_0_ok 9 rfl
theorem dX7_fewestWith_14 : decode cX7_fewestWith 14 = .ok (.iconst (-1), 1) := xdt tbX7_fewestWith_0_ok 10 rfl
theorem dX7_fewestWith_15 : decode cX7_fewestWith 15 = .ok (.ixor, 1) := xdt tbX7_fewestWith_0_ok 11 rfl
theorem dX7_fewestWith_16 : decode cX7_fewestWith 16 = .ok (.iand, 1) := xdt tbX7_fewestWith_0_ok 12 rfl
theorem dX7_fewestWith_17 : decode cX7_fewestWith 17 = .ok (.iaload, 1) := xdt tbX7_fewestWith_0_ok 13 rfl
theorem dX7_fewestWith_18 : decode cX7_fewestWith 18 = .ok (.iadd, 1) := xdt tbX7_fewestWith_0_ok 14 rfl
theorem dX7_fewestWith_19 : decode cX7_fewestWith 19 = .ok (.ireturn, 1) := xdt tbX7_fewestWith_0_ok 15 rfl
def tbX7_weighAll_0 : List (Nat × Instr × Nat) := [(0, .aload_n 0, 1), (1, .getfield 24, 3), (4, .iconst 0, 1), (5, .iconst 0, 1), (6, .iastore, 1), (7, .iconst 1, 1), (8, .istore_n 1, 1), (9, .iload_n 1, 1), (10, .iconst 1, 1), (11, .aload_n 0, 1), (12, .getfield 33, 3), (15, .ishl, 1), (16, .if_icmp .ge 62, 3), (19, .aload_n 0, 1), (20, .getfield 24, 3), (23, .iload_n 1, 1), (24, .bipush 49, 2), (26, .iastore, 1), (27, .iconst 0, 1), (28, .istore_n 2, 1), (29, .iload_n 2, 1), (30, .aload_n 0, 1), (31, .getfield 33, 3), (34, .if_icmp .ge 38, 3), (37, .iload_n 1, 1), (38, .iload_n 2, 1), (39, .ishr, 1), (40, .iconst 1, 1), (41, .iand, 1), (42, .ifCond .eq 24, 3), (45, .aload_n 0, 1), (46, .getfield 24, 3), (49, .iload_n 1, 1), (50, .aload_n 0, 1), (51, .getfield 24, 3), (54, .iload_n 1, 1), (55, .iaload, 1), (56, .aload_n 0, 1), (57, .iload_n 2, 1), (58, .iload_n 1, 1), (59, .invokevirtual 110, 3), (62, .invokestatic 113, 3), (65, .iastore, 1), (66, .iinc 2 1, 3), (69, .goto (-40), 3), (72, .iinc 1 1, 3), (75, .goto (-66), 3), (78, .return_, 1)]
theorem tbX7_weighAll_0_ok : tbX7_weighAll_0.all (fun q => decide (decode cX7_weighAll q.1 = .ok q.2)) = true := by decide +kernel
theorem dX7_weighAll_0 : decode cX7_weighAll 0 = .ok (.aload_n 0, 1) := xdt tbX7_weighAll_0_ok 0 rfl
theorem dX7_weighAll_1 : decode cX7_weighAll 1 = .ok (.getfield 24, 3) := xdt tbX7_weighAll_0_ok 1 rfl
theorem dX7_weighAll_4 : decode cX7_weighAll 4 = .ok (.iconst 0, 1) := xdt tbX7_weighAll_0_ok 2 rfl
theorem dX7_weighAll_5 : decode cX7_weighAll 5 = .ok (.iconst 0, 1) := xdt tbX7_weighAll_0_ok 3 rfl
theorem dX7_weighAll_6 : decode cX7_weighAll 6 = .ok (.iastore, 1) := xdt tbX7_weighAll_0_ok 4 rfl
theorem dX7_weighAll_7 : decode cX7_weighAll 7 = .ok (.iconst 1, 1) := xdt tbX7_weighAll_0_ok 5 rfl
theorem dX7_weighAll_8 : decode cX7_weighAll 8 = .ok (.istore_n 1, 1) := xdt tbX7_weighAll_0_ok 6 rfl
theorem dX7_weighAll_9 : decode cX7_weighAll 9 = .ok (.iload_n 1, 1) := xdt tbX7_weighAll_0_ok 7 rfl
theorem dX7_weighAll_10 : decode cX7_weighAll 10 = .ok (.iconst 1, 1) := xdt tbX7_weighAll_0_ok 8 rfl
theorem dX7_weighAll_11 : decode cX7_weighAll 11 = .ok (.aload_n 0, 1) := xdt tbX7_weighAll_0_ok 9 rfl
theorem dX7_weighAll_12 : decode cX7_weighAll 12 = .ok (.getfield 33, 3) := xdt tbX7_weighAll_0_ok 10 rfl
theorem dX7_weighAll_15 : decode cX7_weighAll 15 = .ok (.ishl, 1) := xdt tbX7_weighAll_0_ok 11 rfl
theorem dX7_weighAll_16 : decode cX7_weighAll 16 = .ok (.if_icmp .ge 62, 3) := xdt tbX7_weighAll_0_ok 12 rfl
theorem dX7_weighAll_19 : decode cX7_weighAll 19 = .ok (.aload_n 0, 1) := xdt tbX7_weighAll_0_ok 13 rfl
theorem dX7_weighAll_20 : decode cX7_weighAll 20 = .ok (.getfield 24, 3) := xdt tbX7_weighAll_0_ok 14 rfl
theorem dX7_weighAll_23 : decode cX7_weighAll 23 = .ok (.iload_n 1, 1) := xdt tbX7_weighAll_0_ok 15 rfl
theorem dX7_weighAll_24 : decode cX7_weighAll 24 = .ok (.bipush 49, 2) := xdt tbX7_weighAll_0_ok 16 rfl
theorem dX7_weighAll_26 : decode cX7_weighAll 26 = .ok (.iastore, 1) := xdt tbX7_weighAll_0_ok 17 rfl
theorem dX7_weighAll_27 : decode cX7_weighAll 27 = .ok (.iconst 0, 1) := xdt tbX7_weighAll_0_ok 18 rfl
theorem dX7_weighAll_28 : decode cX7_weighAll 28 = .ok (.istore_n 2, 1) := xdt tbX7_weighAll_0_ok 19 rfl
theorem dX7_weighAll_29 : decode cX7_weighAll 29 = .ok (.iload_n 2, 1) := xdt tbX7_weighAll_0_ok 20 rfl
theorem dX7_weighAll_30 : decode cX7_weighAll 30 = .ok (.aload_n 0, 1) := xdt tbX7_weighAll_0_ok 21 rfl
theorem dX7_weighAll_31 : decode cX7_weighAll 31 = .ok (.getfield 33, 3) := xdt tbX7_weighAll_0_ok 22 rfl
theorem dX7_weighAll_34 : decode cX7_weighAll 34 = .ok (.if_icmp .ge 38, 3) := xdt tbX7_weighAll_0_ok 23 rfl
theorem dX7_weighAll_37 : decode cX7_weighAll 37 = .ok (.iload_n 1, 1) := xdt tbX7_weighAll_0_ok 24 rfl
theorem dX7_weighAll_38 : decode cX7_weighAll 38 = .ok (.iload_n 2, 1) := xdt tbX7_weighAll_0_ok 25 rfl
theorem dX7_weighAll_39 : decode cX7_weighAll 39 = .ok (.ishr, 1) := xdt tbX7_weighAll_0_ok 26 rfl
theorem dX7_weighAll_40 : decode cX7_weighAll 40 = .ok (.iconst 1, 1) := xdt tbX7_weighAll_0_ok 27 rfl
theorem dX7_weighAll_41 : decode cX7_weighAll 41 = .ok (.iand, 1) := xdt tbX7_weighAll_0_ok 28 rfl
theorem dX7_weighAll_42 : decode cX7_weighAll 42 = .ok (.ifCond .eq 24, 3) := xdt tbX7_weighAll_0_ok 29 rfl
theorem dX7_weighAll_45 : decode cX7_weighAll 45 = .ok (.aload_n 0, 1) := xdt tbX7_weighAll_0_ok 30 rfl
theorem dX7_weighAll_46 : decode cX7_weighAll 46 = .ok (.getfield 24, 3) := xdt tbX7_weighAll_0_ok 31 rfl
theorem dX7_weighAll_49 : decode cX7_weighAll 49 = .ok (.iload_n 1, 1) := xdt tbX7_weighAll_0_ok 32 rfl
theorem dX7_weighAll_50 : decode cX7_weighAll 50 = .ok (.aload_n 0, 1) := xdt tbX7_weighAll_0_ok 33 rfl
theorem dX7_weighAll_51 : decode cX7_weighAll 51 = .ok (.getfield 24, 3) := xdt tbX7_weighAll_0_ok 34 rfl
theorem dX7_weighAll_54 : decode cX7_weighAll 54 = .ok (.iload_n 1, 1) := xdt tbX7_weighAll_0_ok 35 rfl
theorem dX7_weighAll_55 : decode cX7_weighAll 55 = .ok (.iaload, 1) := xdt tbX7_weighAll_0_ok 36 rfl
theorem dX7_weighAll_56 : decode cX7_weighAll 56 = .ok (.aload_n 0, 1) := xdt tbX7_weighAll_0_ok 37 rfl
theorem dX7_weighAll_57 : decode cX7_weighAll 57 = .ok (.iload_n 2, 1) := xdt tbX7_weighAll_0_ok 38 rfl
theorem dX7_weighAll_58 : decode cX7_weighAll 58 = .ok (.iload_n 1, 1) := xdt tbX7_weighAll_0_ok 39 rfl
theorem dX7_weighAll_59 : decode cX7_weighAll 59 = .ok (.invokevirtual 110, 3) := xdt tbX7_weighAll_0_ok 40 rfl
theorem dX7_weighAll_62 : decode cX7_weighAll 62 = .ok (.invokestatic 113, 3) := xdt tbX7_weighAll_0_ok 41 rfl
theorem dX7_weighAll_65 : decode cX7_weighAll 65 = .ok (.iastore, 1) := xdt tbX7_weighAll_0_ok 42 rfl
theorem dX7_weighAll_66 : decode cX7_weighAll 66 = .ok (.iinc 2 1, 3) := xdt tbX7_weighAll_0_ok 43 rfl
theorem dX7_weighAll_69 : decode cX7_weighAll 69 = .ok (.goto (-40), 3) := xdt tbX7_weighAll_0_ok 44 rfl
theorem dX7_weighAll_72 : decode cX7_weighAll 72 = .ok (.iinc 1 1, 3) := xdt tbX7_weighAll_0_ok 45 rfl
theorem dX7_weighAll_75 : decode cX7_weighAll 75 = .ok (.goto (-66), 3) := xdt tbX7_weighAll_0_ok 46 rfl
theorem dX7_weighAll_78 : decode cX7_weighAll 78 = .ok (.return_, 1) := xdt tbX7_weighAll_0_ok 47 rfl
def tbX7_fewestBroken_0 : List (Nat × Instr × Nat) := [(0, .aload_n 0, 1), (1, .invokevirtual 107, 3), (4, .aload_n 0, 1), (5, .getfield 24, 3), (8, .iconst 1, 1), (9, .aload_n 0, 1), (10, .getfield 33, 3), (13, .ishl, 1), (14, .iconst 1, 1), (15, .isub, 1), (16, .iaload, 1), (17, .ireturn, 1)]
theorem tbX7_fewestBroken_0_ok : tbX7_fewestBroken_0.all (fun q => decide (decode cX7_fewestBroken q.1 = .ok q.2)) = true := by decide +kernel
theorem dX7_fewestBroken_0 : decode cX7_fewestBroken 0 = .ok (.aload_n 0, 1) := xdt tbX7_fewestBroken_0_ok 0 rfl
theorem dX7_fewestBroken_1 : decode cX7_fewestBroken 1 = .ok (.invokevirtual 107, 3) := xdt tbX7_fewestBroken_0_ok 1 rfl
theorem dX7_fewestBroken_4 : decode cX7_fewestBroken 4 = .ok (.aload_n 0, 1) := xdt tbX7_fewestBroken_0_ok 2 rfl
theorem dX7_fewestBroken_5 : decode cX7_fewestBroken 5 = .ok (.getfield 24, 3) := xdt tbX7_fewestBroken_0_ok 3 rfl
theorem dX7_fewestBroken_8 : decode cX7_fewestBroken 8 = .ok (.iconst 1, 1) := xdt tbX7_fewestBroken_0_ok 4 rfl
theorem dX7_fewestBroken_9 : decode cX7_fewestBroken 9 = .ok (.aload_n 0, 1) := xdt tbX7_fewestBroken_0_ok 5 rfl
theorem dX7_fewestBroken_10 : decode cX7_fewestBroken 10 = .ok (.getfield 33, 3) := xdt tbX7_fewestBroken_0_ok 6 rfl
theorem dX7_fewestBroken_13 : decode cX7_fewestBroken 13 = .ok (.ishl, 1) := xdt tbX7_fewestBroken_0_ok 7 rfl
theorem dX7_fewestBroken_14 : decode cX7_fewestBroken 14 = .ok (.iconst 1, 1) := xdt tbX7_fewestBroken_0_ok 8 rfl
theorem dX7_fewestBroken_15 : decode cX7_fewestBroken 15 = .ok (.isub, 1) := xdt tbX7_fewestBroken_0_ok 9 rfl
theorem dX7_fewestBroken_16 : decode cX7_fewestBroken 16 = .ok (.iaload, 1) := xdt tbX7_fewestBroken_0_ok 10 rfl
theorem dX7_fewestBroken_17 : decode cX7_fewestBroken 17 = .ok (.ireturn, 1) := xdt tbX7_fewestBroken_0_ok 11 rfl
def tbX7_firstOfFewest_0 : List (Nat × Instr × Nat) := [(0, .iconst 0, 1), (1, .istore_n 2, 1), (2, .iload_n 2, 1), (3, .aload_n 0, 1), (4, .getfield 33, 3), (7, .if_icmp .ge 34, 3), (10, .iload_n 1, 1), (11, .iload_n 2, 1), (12, .ishr, 1), (13, .iconst 1, 1), (14, .iand, 1), (15, .ifCond .eq 20, 3), (18, .aload_n 0, 1), (19, .iload_n 2, 1), (20, .iload_n 1, 1), (21, .invokevirtual 110, 3), (24, .aload_n 0, 1), (25, .getfield 24, 3), (28, .iload_n 1, 1), (29, .iaload, 1), (30, .if_icmp .ne 5, 3), (33, .iload_n 2, 1), (34, .ireturn, 1), (35, .iinc 2 1, 3), (38, .goto (-36), 3), (41, .iconst 0, 1), (42, .ireturn, 1)]
theorem tbX7_firstOfFewest_0_ok : tbX7_firstOfFewest_0.all (fun q => decide (decode cX7_firstOfFewest q.1 = .ok q.2)) = true := by decide +kernel
theorem dX7_firstOfFewest_0 : decode cX7_firstOfFewest 0 = .ok (.iconst 0, 1) := xdt tbX7_firstOfFewest_0_ok 0 rfl
theorem dX7_firstOfFewest_1 : decode cX7_firstOfFewest 1 = .ok (.istore_n 2, 1) := xdt tbX7_firstOfFewest_0_ok 1 rfl
theorem dX7_firstOfFewest_2 : decode cX7_firstOfFewest 2 = .ok (.iload_n 2, 1) := xdt tbX7_firstOfFewest_0_ok 2 rfl
theorem dX7_firstOfFewest_3 : decode cX7_firstOfFewest 3 = .ok (.aload_n 0, 1) := xdt tbX7_firstOfFewest_0_ok 3 rfl
theorem dX7_firstOfFewest_4 : decode cX7_firstOfFewest 4 = .ok (.getfield 33, 3) := xdt tbX7_firstOfFewest_0_ok 4 rfl
theorem dX7_firstOfFewest_7 : decode cX7_firstOfFewest 7 = .ok (.if_icmp .ge 34, 3) := xdt tbX7_firstOfFewest_0_ok 5 rfl
theorem dX7_firstOfFewest_10 : decode cX7_firstOfFewest 10 = .ok (.iload_n 1, 1) := xdt tbX7_firstOfFewest_0_ok 6 rfl
theorem dX7_firstOfFewest_11 : decode cX7_firstOfFewest 11 = .ok (.iload_n 2, 1) := xdt tbX7_firstOfFewest_0_ok 7 rfl
theorem dX7_firstOfFewest_12 : decode cX7_firstOfFewest 12 = .ok (.ishr, 1) := xdt tbX7_firstOfFewest_0_ok 8 rfl
theorem dX7_firstOfFewest_13 : decode cX7_firstOfFewest 13 = .ok (.iconst 1, 1) := xdt tbX7_firstOfFewest_0_ok 9 rfl
theorem dX7_firstOfFewest_14 : decode cX7_firstOfFewest 14 = .ok (.iand, 1) := xdt tbX7_firstOfFewest_0_ok 10 rfl
theorem dX7_firstOfFewest_15 : decode cX7_firstOfFewest 15 = .ok (.ifCond .eq 20, 3) := xdt tbX7_firstOfFewest_0_ok 11 rfl
theorem dX7_firstOfFewest_18 : decode cX7_firstOfFewest 18 = .ok (.aload_n 0, 1) := xdt tbX7_firstOfFewest_0_ok 12 rfl
theorem dX7_firstOfFewest_19 : decode cX7_firstOfFewest 19 = .ok (.iload_n 2, 1) := xdt tbX7_firstOfFewest_0_ok 13 rfl
theorem dX7_firstOfFewest_20 : decode cX7_firstOfFewest 20 = .ok (.iload_n 1, 1) := xdt tbX7_firstOfFewest_0_ok 14 rfl
theorem dX7_firstOfFewest_21 : decode cX7_firstOfFewest 21 = .ok (.invokevirtual 110, 3) := xdt tbX7_firstOfFewest_0_ok 15 rfl
theorem dX7_firstOfFewest_24 : decode cX7_firstOfFewest 24 = .ok (.aload_n 0, 1) := xdt tbX7_firstOfFewest_0_ok 16 rfl
theorem dX7_firstOfFewest_25 : decode cX7_firstOfFewest 25 = .ok (.getfield 24, 3) := xdt tbX7_firstOfFewest_0_ok 17 rfl
theorem dX7_firstOfFewest_28 : decode cX7_firstOfFewest 28 = .ok (.iload_n 1, 1) := xdt tbX7_firstOfFewest_0_ok 18 rfl
theorem dX7_firstOfFewest_29 : decode cX7_firstOfFewest 29 = .ok (.iaload, 1) := xdt tbX7_firstOfFewest_0_ok 19 rfl
theorem dX7_firstOfFewest_30 : decode cX7_firstOfFewest 30 = .ok (.if_icmp .ne 5, 3) := xdt tbX7_firstOfFewest_0_ok 20 rfl
theorem dX7_firstOfFewest_33 : decode cX7_firstOfFewest 33 = .ok (.iload_n 2, 1) := xdt tbX7_firstOfFewest_0_ok 21 rfl
theorem dX7_firstOfFewest_34 : decode cX7_firstOfFewest 34 = .ok (.ireturn, 1) := xdt tbX7_firstOfFewest_0_ok 22 rfl
theorem dX7_firstOfFewest_35 : decode cX7_firstOfFewest 35 = .ok (.iinc 2 1, 3) := xdt tbX7_firstOfFewest_0_ok 23 rfl
theorem dX7_firstOfFewest_38 : decode cX7_firstOfFewest 38 = .ok (.goto (-36), 3) := xdt tbX7_firstOfFewest_0_ok 24 rfl
theorem dX7_firstOfFewest_41 : decode cX7_firstOfFewest 41 = .ok (.iconst 0, 1) := xdt tbX7_firstOfFewest_0_ok 25 rfl
theorem dX7_firstOfFewest_42 : decode cX7_firstOfFewest 42 = .ok (.ireturn, 1) := xdt tbX7_firstOfFewest_0_ok 26 rfl
def tbX7_leastBreaking_0 : List (Nat × Instr × Nat) := [(0, .aload_n 0, 1), (1, .invokevirtual 107, 3), (4, .iconst 0, 1), (5, .istore_n 1, 1), (6, .iconst 1, 1), (7, .aload_n 0, 1), (8, .getfield 33, 3), (11, .ishl, 1), (12, .iconst 1, 1), (13, .isub, 1), (14, .istore_n 2, 1), (15, .iconst 0, 1), (16, .istore_n 3, 1), (17, .iload_n 3, 1), (18, .aload_n 0, 1), (19, .getfield 33, 3), (22, .if_icmp .ge 33, 3), (25, .aload_n 0, 1), (26, .iload_n 2, 1), (27, .invokevirtual 118, 3), (30, .istore 4, 2), (32, .iload_n 1, 1), (33, .bipush 10, 2), (35, .imul, 1), (36, .iload 4, 2), (38, .iadd, 1), (39, .istore_n 1, 1), (40, .iload_n 2, 1), (41, .iconst 1, 1), (42, .iload 4, 2), (44, .ishl, 1), (45, .iconst (-1), 1), (46, .ixor, 1), (47, .iand, 1), (48, .istore_n 2, 1), (49, .iinc 3 1, 3), (52, .goto (-35), 3), (55, .iload_n 1, 1), (56, .ireturn, 1)]
theorem tbX7_leastBreaking_0_ok : tbX7_leastBreaking_0.all (fun q => decide (decode cX7_leastBreaking q.1 = .ok q.2)) = true := by decide +kernel
theorem dX7_leastBreaking_0 : decode cX7_leastBreaking 0 = .ok (.aload_n 0, 1) := xdt tbX7_leastBreaking_0_ok 0 rfl
theorem dX7_leastBreaking_1 : decode cX7_leastBreaking 1 = .ok (.invokevirtual 107, 3) := xdt tbX7_leastBreaking_0_ok 1 rfl
theorem dX7_leastBreaking_4 : decode cX7_leastBreaking 4 = .ok (.iconst 0, 1) := xdt tbX7_leastBreaking_0_ok 2 rfl
theorem dX7_leastBreaking_5 : decode cX7_leastBreaking 5 = .ok (.istore_n 1, 1) := xdt tbX7_leastBreaking_0_ok 3 rfl
theorem dX7_leastBreaking_6 : decode cX7_leastBreaking 6 = .ok (.iconst 1, 1) := xdt tbX7_leastBreaking_0_ok 4 rfl
theorem dX7_leastBreaking_7 : decode cX7_leastBreaking 7 = .ok (.aload_n 0, 1) := xdt tbX7_leastBreaking_0_ok 5 rfl
theorem dX7_leastBreaking_8 : decode cX7_leastBreaking 8 = .ok (.getfield 33, 3) := xdt tbX7_leastBreaking_0_ok 6 rfl
theorem dX7_leastBreaking_11 : decode cX7_leastBreaking 11 = .ok (.ishl, 1) := xdt tbX7_leastBreaking_0_ok 7 rfl
theorem dX7_leastBreaking_12 : decode cX7_leastBreaking 12 = .ok (.iconst 1, 1) := xdt tbX7_leastBreaking_0_ok 8 rfl
theorem dX7_leastBreaking_13 : decode cX7_leastBreaking 13 = .ok (.isub, 1) := xdt tbX7_leastBreaking_0_ok 9 rfl
theorem dX7_leastBreaking_14 : decode cX7_leastBreaking 14 = .ok (.istore_n 2, 1) := xdt tbX7_leastBreaking_0_ok 10 rfl
theorem dX7_leastBreaking_15 : decode cX7_leastBreaking 15 = .ok (.iconst 0, 1) := xdt tbX7_leastBreaking_0_ok 11 rfl
theorem dX7_leastBreaking_16 : decode cX7_leastBreaking 16 = .ok (.istore_n 3, 1) := xdt tbX7_leastBreaking_0_ok 12 rfl
theorem dX7_leastBreaking_17 : decode cX7_leastBreaking 17 = .ok (.iload_n 3, 1) := xdt tbX7_leastBreaking_0_ok 13 rfl
theorem dX7_leastBreaking_18 : decode cX7_leastBreaking 18 = .ok (.aload_n 0, 1) := xdt tbX7_leastBreaking_0_ok 14 rfl
theorem dX7_leastBreaking_19 : decode cX7_leastBreaking 19 = .ok (.getfield 33, 3) := xdt tbX7_leastBreaking_0_ok 15 rfl
theorem dX7_leastBreaking_22 : decode cX7_leastBreaking 22 = .ok (.if_icmp .ge 33, 3) := xdt tbX7_leastBreaking_0_ok 16 rfl
theorem dX7_leastBreaking_25 : decode cX7_leastBreaking 25 = .ok (.aload_n 0, 1) := xdt tbX7_leastBreaking_0_ok 17 rfl
theorem dX7_leastBreaking_26 : decode cX7_leastBreaking 26 = .ok (.iload_n 2, 1) := xdt tbX7_leastBreaking_0_ok 18 rfl
theorem dX7_leastBreaking_27 : decode cX7_leastBreaking 27 = .ok (.invokevirtual 118, 3) := xdt tbX7_leastBreaking_0_ok 19 rfl
theorem dX7_leastBreaking_30 : decode cX7_leastBreaking 30 = .ok (.istore 4, 2) := xdt tbX7_leastBreaking_0_ok 20 rfl
theorem dX7_leastBreaking_32 : decode cX7_leastBreaking 32 = .ok (.iload_n 1, 1) := xdt tbX7_leastBreaking_0_ok 21 rfl
theorem dX7_leastBreaking_33 : decode cX7_leastBreaking 33 = .ok (.bipush 10, 2) := xdt tbX7_leastBreaking_0_ok 22 rfl
theorem dX7_leastBreaking_35 : decode cX7_leastBreaking 35 = .ok (.imul, 1) := xdt tbX7_leastBreaking_0_ok 23 rfl
theorem dX7_leastBreaking_36 : decode cX7_leastBreaking 36 = .ok (.iload 4, 2) := xdt tbX7_leastBreaking_0_ok 24 rfl
theorem dX7_leastBreaking_38 : decode cX7_leastBreaking 38 = .ok (.iadd, 1) := xdt tbX7_leastBreaking_0_ok 25 rfl
theorem dX7_leastBreaking_39 : decode cX7_leastBreaking 39 = .ok (.istore_n 1, 1) := xdt tbX7_leastBreaking_0_ok 26 rfl
theorem dX7_leastBreaking_40 : decode cX7_leastBreaking 40 = .ok (.iload_n 2, 1) := xdt tbX7_leastBreaking_0_ok 27 rfl
theorem dX7_leastBreaking_41 : decode cX7_leastBreaking 41 = .ok (.iconst 1, 1) := xdt tbX7_leastBreaking_0_ok 28 rfl
theorem dX7_leastBreaking_42 : decode cX7_leastBreaking 42 = .ok (.iload 4, 2) := xdt tbX7_leastBreaking_0_ok 29 rfl
theorem dX7_leastBreaking_44 : decode cX7_leastBreaking 44 = .ok (.ishl, 1) := xdt tbX7_leastBreaking_0_ok 30 rfl
theorem dX7_leastBreaking_45 : decode cX7_leastBreaking 45 = .ok (.iconst (-1), 1) := xdt tbX7_leastBreaking_0_ok 31 rfl
theorem dX7_leastBreaking_46 : decode cX7_leastBreaking 46 = .ok (.ixor, 1) := xdt tbX7_leastBreaking_0_ok 32 rfl
theorem dX7_leastBreaking_47 : decode cX7_leastBreaking 47 = .ok (.iand, 1) := xdt tbX7_leastBreaking_0_ok 33 rfl
theorem dX7_leastBreaking_48 : decode cX7_leastBreaking 48 = .ok (.istore_n 2, 1) := xdt tbX7_leastBreaking_0_ok 34 rfl
theorem dX7_leastBreaking_49 : decode cX7_leastBreaking 49 = .ok (.iinc 3 1, 3) := xdt tbX7_leastBreaking_0_ok 35 rfl
theorem dX7_leastBreaking_52 : decode cX7_leastBreaking 52 = .ok (.goto (-35), 3) := xdt tbX7_leastBreaking_0_ok 36 rfl
theorem dX7_leastBreaking_55 : decode cX7_leastBreaking 55 = .ok (.iload_n 1, 1) := xdt tbX7_leastBreaking_0_ok 37 rfl
theorem dX7_leastBreaking_56 : decode cX7_leastBreaking 56 = .ok (.ireturn, 1) := xdt tbX7_leastBreaking_0_ok 38 rfl
def tbX8_putBytes_0 : List (Nat × Instr × Nat) := [(0, .bipush 24, 2), (2, .istore_n 2, 1), (3, .iload_n 2, 1), (4, .ifCond .lt 45, 3), (7, .aload_n 0, 1), (8, .getfield 69, 3), (11, .sipush 600, 3), (14, .if_icmp .ge 35, 3), (17, .aload_n 0, 1), (18, .getfield 9, 3), (21, .aload_n 0, 1), (22, .getfield 69, 3), (25, .iload_n 1, 1), (26, .iload_n 2, 1), (27, .iushr, 1), (28, .sipush 255, 3), (31, .iand, 1), (32, .iastore, 1), (33, .aload_n 0, 1), (34, .dup, 1), (35, .getfield 69, 3), (38, .iconst 1, 1), (39, .iadd, 1), (40, .putfield 69, 3), (43, .iinc 2 (-8), 3), (46, .goto (-43), 3), (49, .return_, 1)]
theorem tbX8_putBytes_0_ok : tbX8_putBytes_0.all (fun q => decide (decode cX8_putBytes q.1 = .ok q.2)) = true := by decide +kernel
theorem dX8_putBytes_0 : decode cX8_putBytes 0 = .ok (.bipush 24, 2) := xdt tbX8_putBytes_0_ok 0 rfl
theorem dX8_putBytes_2 : decode cX8_putBytes 2 = .ok (.istore_n 2, 1) := xdt tbX8_putBytes_0_ok 1 rfl
theorem dX8_putBytes_3 : decode cX8_putBytes 3 = .ok (.iload_n 2, 1) := xdt tbX8_putBytes_0_ok 2 rfl
theorem dX8_putBytes_4 : decode cX8_putBytes 4 = .ok (.ifCond .lt 45, 3) := xdt tbX8_putBytes_0_ok 3 rfl
theorem dX8_putBytes_7 : decode cX8_putBytes 7 = .ok (.aload_n 0, 1) := xdt tbX8_putBytes_0_ok 4 rfl
theorem dX8_putBytes_8 : decode cX8_putBytes 8 = .ok (.getfield 69, 3) := xdt tbX8_putBytes_0_ok 5 rfl
theorem dX8_putBytes_11 : decode cX8_putBytes 11 = .ok (.sipush 600, 3) := xdt tbX8_putBytes_0_ok 6 rfl
theorem dX8_putBytes_14 : decode cX8_putBytes 14 = .ok (.if_icmp .ge 35, 3) := xdt tbX8_putBytes_0_ok 7 rfl
theorem dX8_putBytes_17 : decode cX8_putBytes 17 = .ok (.aload_n 0, 1) := xdt tbX8_putBytes_0_ok 8 rfl
theorem dX8_putBytes_18 : decode cX8_putBytes 18 = .ok (.getfield 9, 3) := xdt tbX8_putBytes_0_ok 9 rfl
theorem dX8_putBytes_21 : decode cX8_putBytes 21 = .ok (.aload_n 0, 1) := xdt tbX8_putBytes_0_ok 10 rfl
theorem dX8_putBytes_22 : decode cX8_putBytes 22 = .ok (.getfield 69, 3) := xdt tbX8_putBytes_0_ok 11 rfl
theorem dX8_putBytes_25 : decode cX8_putBytes 25 = .ok (.iload_n 1, 1) := xdt tbX8_putBytes_0_ok 12 rfl
theorem dX8_putBytes_26 : decode cX8_putBytes 26 = .ok (.iload_n 2, 1) := xdt tbX8_putBytes_0_ok 13 rfl
theorem dX8_putBytes_27 : decode cX8_putBytes 27 = .ok (.iushr, 1) := xdt tbX8_putBytes_0_ok 14 rfl
theorem dX8_putBytes_28 : decode cX8_putBytes 28 = .ok (.sipush 255, 3) := xdt tbX8_putBytes_0_ok 15 rfl
theorem dX8_putBytes_31 : decode cX8_putBytes 31 = .ok (.iand, 1) := xdt tbX8_putBytes_0_ok 16 rfl
theorem dX8_putBytes_32 : decode cX8_putBytes 32 = .ok (.iastore, 1) := xdt tbX8_putBytes_0_ok 17 rfl
theorem dX8_putBytes_33 : decode cX8_putBytes 33 = .ok (.aload_n 0, 1) := xdt tbX8_putBytes_0_ok 18 rfl
theorem dX8_putBytes_34 : decode cX8_putBytes 34 = .ok (.dup, 1) := xdt tbX8_putBytes_0_ok 19 rfl
theorem dX8_putBytes_35 : decode cX8_putBytes 35 = .ok (.getfield 69, 3) := xdt tbX8_putBytes_0_ok 20 rfl
theorem dX8_putBytes_38 : decode cX8_putBytes 38 = .ok (.iconst 1, 1) := xdt tbX8_putBytes_0_ok 21 rfl
theorem dX8_putBytes_39 : decode cX8_putBytes 39 = .ok (.iadd, 1) := xdt tbX8_putBytes_0_ok 22 rfl
theorem dX8_putBytes_40 : decode cX8_putBytes 40 = .ok (.putfield 69, 3) := xdt tbX8_putBytes_0_ok 23 rfl
theorem dX8_putBytes_43 : decode cX8_putBytes 43 = .ok (.iinc 2 (-8), 3) := xdt tbX8_putBytes_0_ok 24 rfl
theorem dX8_putBytes_46 : decode cX8_putBytes 46 = .ok (.goto (-43), 3) := xdt tbX8_putBytes_0_ok 25 rfl
theorem dX8_putBytes_49 : decode cX8_putBytes 49 = .ok (.return_, 1) := xdt tbX8_putBytes_0_ok 26 rfl
def tbX8_feed_0 : List (Nat × Instr × Nat) := [(0, .aload_n 0, 1), (1, .getfield 69, 3), (4, .bipush 20, 2), (6, .iadd, 1), (7, .sipush 600, 3), (10, .if_icmp .le 5, 3), (13, .iconst (-1), 1), (14, .ireturn, 1), (15, .aload_n 0, 1), (16, .iload_n 1, 1), (17, .invokevirtual 72, 3), (20, .aload_n 0, 1), (21, .iload_n 2, 1), (22, .invokevirtual 72, 3), (25, .aload_n 0, 1), (26, .iload_n 3, 1), (27, .invokevirtual 72, 3), (30, .aload_n 0, 1), (31, .iload 4, 2), (33, .invokevirtual 72, 3), (36, .aload_n 0, 1), (37, .iload 5, 2), (39, .invokevirtual 72, 3), (42, .aload_n 0, 1), (43, .getfield 69, 3), (46, .ireturn, 1)]
theorem tbX8_feed_0_ok : tbX8_feed_0.all (fun q => decide (decode cX8_feed q.1 = .ok q.2)) = true := by decide +kernel
theorem dX8_feed_0 : decode cX8_feed 0 = .ok (.aload_n 0, 1) := xdt tbX8_feed_0_ok 0 rfl
theorem dX8_feed_1 : decode cX8_feed 1 = .ok (.getfield 69, 3) := xdt tbX8_feed_0_ok 1 rfl
theorem dX8_feed_4 : decode cX8_feed 4 = .ok (.bipush 20, 2) := xdt tbX8_feed_0_ok 2 rfl
theorem dX8_feed_6 : decode cX8_feed 6 = .ok (.iadd, 1) := xdt tbX8_feed_0_ok 3 rfl
theorem dX8_feed_7 : decode cX8_feed 7 = .ok (.sipush 600, 3) := xdt tbX8_feed_0_ok 4 rfl
theorem dX8_feed_10 : decode cX8_feed 10 = .ok (.if_icmp .le 5, 3) := xdt tbX8_feed_0_ok 5 rfl
theorem dX8_feed_13 : decode cX8_feed 13 = .ok (.iconst (-1), 1) := xdt tbX8_feed_0_ok 6 rfl
theorem dX8_feed_14 : decode cX8_feed 14 = .ok (.ireturn, 1) := xdt tbX8_feed_0_ok 7 rfl
theorem dX8_feed_15 : decode cX8_feed 15 = .ok (.aload_n 0, 1) := xdt tbX8_feed_0_ok 8 rfl
theorem dX8_feed_16 : decode cX8_feed 16 = .ok (.iload_n 1, 1) := xdt tbX8_feed_0_ok 9 rfl
theorem dX8_feed_17 : decode cX8_feed 17 = .ok (.invokevirtual 72, 3) := xdt tbX8_feed_0_ok 10 rfl
theorem dX8_feed_20 : decode cX8_feed 20 = .ok (.aload_n 0, 1) := xdt tbX8_feed_0_ok 11 rfl
theorem dX8_feed_21 : decode cX8_feed 21 = .ok (.iload_n 2, 1) := xdt tbX8_feed_0_ok 12 rfl
theorem dX8_feed_22 : decode cX8_feed 22 = .ok (.invokevirtual 72, 3) := xdt tbX8_feed_0_ok 13 rfl
theorem dX8_feed_25 : decode cX8_feed 25 = .ok (.aload_n 0, 1) := xdt tbX8_feed_0_ok 14 rfl
theorem dX8_feed_26 : decode cX8_feed 26 = .ok (.iload_n 3, 1) := xdt tbX8_feed_0_ok 15 rfl
theorem dX8_feed_27 : decode cX8_feed 27 = .ok (.invokevirtual 72, 3) := xdt tbX8_feed_0_ok 16 rfl
theorem dX8_feed_30 : decode cX8_feed 30 = .ok (.aload_n 0, 1) := xdt tbX8_feed_0_ok 17 rfl
theorem dX8_feed_31 : decode cX8_feed 31 = .ok (.iload 4, 2) := xdt tbX8_feed_0_ok 18 rfl
theorem dX8_feed_33 : decode cX8_feed 33 = .ok (.invokevirtual 72, 3) := xdt tbX8_feed_0_ok 19 rfl
theorem dX8_feed_36 : decode cX8_feed 36 = .ok (.aload_n 0, 1) := xdt tbX8_feed_0_ok 20 rfl
theorem dX8_feed_37 : decode cX8_feed 37 = .ok (.iload 5, 2) := xdt tbX8_feed_0_ok 21 rfl
theorem dX8_feed_39 : decode cX8_feed 39 = .ok (.invokevirtual 72, 3) := xdt tbX8_feed_0_ok 22 rfl
theorem dX8_feed_42 : decode cX8_feed 42 = .ok (.aload_n 0, 1) := xdt tbX8_feed_0_ok 23 rfl
theorem dX8_feed_43 : decode cX8_feed 43 = .ok (.getfield 69, 3) := xdt tbX8_feed_0_ok 24 rfl
theorem dX8_feed_46 : decode cX8_feed 46 = .ok (.ireturn, 1) := xdt tbX8_feed_0_ok 25 rfl
def tbX8_needArgument_0 : List (Nat × Instr × Nat) := [(0, .iload_n 1, 1), (1, .ifCond .ne 24, 3), (4, .aload_n 0, 1), (5, .dup, 1), (6, .getfield 265, 3), (9, .iconst 1, 1), (10, .iadd, 1), (11, .putfield 265, 3), (14, .new 268, 3), (17, .dup, 1), (18, .ldc_w 270, 3), (21, .invokespecial 272, 3), (24, .athrow, 1), (25, .return_, 1)]
theorem tbX8_needArgument_0_ok : tbX8_needArgument_0.all (fun q => decide (decode cX8_needArgument q.1 = .ok q.2)) = true := by decide +kernel
theorem dX8_needArgument_0 : decode cX8_needArgument 0 = .ok (.iload_n 1, 1) := xdt tbX8_needArgument_0_ok 0 rfl
theorem dX8_needArgument_1 : decode cX8_needArgument 1 = .ok (.ifCond .ne 24, 3) := xdt tbX8_needArgument_0_ok 1 rfl
theorem dX8_needArgument_4 : decode cX8_needArgument 4 = .ok (.aload_n 0, 1) := xdt tbX8_needArgument_0_ok 2 rfl
theorem dX8_needArgument_5 : decode cX8_needArgument 5 = .ok (.dup, 1) := xdt tbX8_needArgument_0_ok 3 rfl
theorem dX8_needArgument_6 : decode cX8_needArgument 6 = .ok (.getfield 265, 3) := xdt tbX8_needArgument_0_ok 4 rfl
theorem dX8_needArgument_9 : decode cX8_needArgument 9 = .ok (.iconst 1, 1) := xdt tbX8_needArgument_0_ok 5 rfl
theorem dX8_needArgument_10 : decode cX8_needArgument 10 = .ok (.iadd, 1) := xdt tbX8_needArgument_0_ok 6 rfl
theorem dX8_needArgument_11 : decode cX8_needArgument 11 = .ok (.putfield 265, 3) := xdt tbX8_needArgument_0_ok 7 rfl
theorem dX8_needArgument_14 : decode cX8_needArgument 14 = .ok (.new 268, 3) := xdt tbX8_needArgument_0_ok 8 rfl
theorem dX8_needArgument_17 : decode cX8_needArgument 17 = .ok (.dup, 1) := xdt tbX8_needArgument_0_ok 9 rfl
theorem dX8_needArgument_18 : decode cX8_needArgument 18 = .ok (.ldc_w 270, 3) := xdt tbX8_needArgument_0_ok 10 rfl
theorem dX8_needArgument_21 : decode cX8_needArgument 21 = .ok (.invokespecial 272, 3) := xdt tbX8_needArgument_0_ok 11 rfl
theorem dX8_needArgument_24 : decode cX8_needArgument 24 = .ok (.athrow, 1) := xdt tbX8_needArgument_0_ok 12 rfl
theorem dX8_needArgument_25 : decode cX8_needArgument 25 = .ok (.return_, 1) := xdt tbX8_needArgument_0_ok 13 rfl
def tbX8_forgetRuns_0 : List (Nat × Instr × Nat) := [(0, .aload_n 0, 1), (1, .iconst 0, 1), (2, .putfield 283, 3), (5, .aload_n 0, 1), (6, .getfield 54, 3), (9, .iconst 0, 1), (10, .putfield 286, 3), (13, .return_, 1)]
theorem tbX8_forgetRuns_0_ok : tbX8_forgetRuns_0.all (fun q => decide (decode cX8_forgetRuns q.1 = .ok q.2)) = true := by decide +kernel
theorem dX8_forgetRuns_0 : decode cX8_forgetRuns 0 = .ok (.aload_n 0, 1) := xdt tbX8_forgetRuns_0_ok 0 rfl
theorem dX8_forgetRuns_1 : decode cX8_forgetRuns 1 = .ok (.iconst 0, 1) := xdt tbX8_forgetRuns_0_ok 1 rfl
theorem dX8_forgetRuns_2 : decode cX8_forgetRuns 2 = .ok (.putfield 283, 3) := xdt tbX8_forgetRuns_0_ok 2 rfl
theorem dX8_forgetRuns_5 : decode cX8_forgetRuns 5 = .ok (.aload_n 0, 1) := xdt tbX8_forgetRuns_0_ok 3 rfl
theorem dX8_forgetRuns_6 : decode cX8_forgetRuns 6 = .ok (.getfield 54, 3) := xdt tbX8_forgetRuns_0_ok 4 rfl
theorem dX8_forgetRuns_9 : decode cX8_forgetRuns 9 = .ok (.iconst 0, 1) := xdt tbX8_forgetRuns_0_ok 5 rfl
theorem dX8_forgetRuns_10 : decode cX8_forgetRuns 10 = .ok (.putfield 286, 3) := xdt tbX8_forgetRuns_0_ok 6 rfl
theorem dX8_forgetRuns_13 : decode cX8_forgetRuns 13 = .ok (.return_, 1) := xdt tbX8_forgetRuns_0_ok 7 rfl
def tbX8_text_0 : List (Nat × Instr × Nat) := [(0, .aload_n 0, 1), (1, .iload_n 1, 1), (2, .ifCond .lt 15, 3), (5, .iload_n 1, 1), (6, .aload_n 0, 1), (7, .getfield 69, 3), (10, .if_icmp .gt 7, 3), (13, .iconst 1, 1), (14, .goto 4, 3), (17, .iconst 0, 1), (18, .invokevirtual 76, 3), (21, .aload_n 0, 1), (22, .getfield 16, 3), (25, .aload_n 0, 1), (26, .getfield 9, 3), (29, .iload_n 1, 1), (30, .invokevirtual 80, 3), (33, .istore_n 2, 1), (34, .aload_n 0, 1), (35, .iconst 0, 1), (36, .putfield 69, 3), (39, .iload_n 2, 1), (40, .ifCond .eq 19, 3), (43, .aload_n 0, 1), (44, .aload_n 0, 1), (45, .getfield 16, 3), (48, .invokevirtual 84, 3), (51, .putfield 65, 3), (54, .iload_n 2, 1), (55, .bipush 10, 2), (57, .isub, 1), (58, .ireturn, 1), (59, .aload_n 0, 1), (60, .iconst (-1), 1), (61, .putfield 65, 3), (64, .aload_n 0, 1), (65, .aload_n 0, 1), (66, .getfield 16, 3), (69, .aload_n 0, 1), (70, .getfield 23, 3), (73, .invokevirtual 87, 3), (76, .putfield 23, 3), (79, .aload_n 0, 1), (80, .getfield 30, 3), (83, .invokevirtual 91, 3), (86, .aload_n 0, 1), (87, .invokevirtual 94, 3), (90, .aload_n 0, 1), (91, .getfield 23, 3), (94, .getfield 97, 3), (97, .ireturn, 1)]
theorem tbX8_text_0_ok : tbX8_text_0.all (fun q => decide (decode cX8_text q.1 = .ok q.2)) = true := by decide +kernel
theorem dX8_text_0 : decode cX8_text 0 = .ok (.aload_n 0, 1) := xdt tbX8_text_0_ok 0 rfl
theorem dX8_text_1 : decode cX8_text 1 = .ok (.iload_n 1, 1) := xdt tbX8_text_0_ok 1 rfl
theorem dX8_text_2 : decode cX8_text 2 = .ok (.ifCond .lt 15, 3) := xdt tbX8_text_0_ok 2 rfl
theorem dX8_text_5 : decode cX8_text 5 = .ok (.iload_n 1, 1) := xdt tbX8_text_0_ok 3 rfl
theorem dX8_text_6 : decode cX8_text 6 = .ok (.aload_n 0, 1) := xdt tbX8_text_0_ok 4 rfl
theorem dX8_text_7 : decode cX8_text 7 = .ok (.getfield 69, 3) := xdt tbX8_text_0_ok 5 rfl
theorem dX8_text_10 : decode cX8_text 10 = .ok (.if_icmp .gt 7, 3) := xdt tbX8_text_0_ok 6 rfl
theorem dX8_text_13 : decode cX8_text 13 = .ok (.iconst 1, 1) := xdt tbX8_text_0_ok 7 rfl
theorem dX8_text_14 : decode cX8_text 14 = .ok (.goto 4, 3) := xdt tbX8_text_0_ok 8 rfl
theorem dX8_text_17 : decode cX8_text 17 = .ok (.iconst 0, 1) := xdt tbX8_text_0_ok 9 rfl
theorem dX8_text_18 : decode cX8_text 18 = .ok (.invokevirtual 76, 3) := xdt tbX8_text_0_ok 10 rfl
theorem dX8_text_21 : decode cX8_text 21 = .ok (.aload_n 0, 1) := xdt tbX8_text_0_ok 11 rfl
theorem dX8_text_22 : decode cX8_text 22 = .ok (.getfield 16, 3) := xdt tbX8_text_0_ok 12 rfl
theorem dX8_text_25 : decode cX8_text 25 = .ok (.aload_n 0, 1) := xdt tbX8_text_0_ok 13 rfl
theorem dX8_text_26 : decode cX8_text 26 = .ok (.getfield 9, 3) := xdt tbX8_text_0_ok 14 rfl
theorem dX8_text_29 : decode cX8_text 29 = .ok (.iload_n 1, 1) := xdt tbX8_text_0_ok 15 rfl
theorem dX8_text_30 : decode cX8_text 30 = .ok (.invokevirtual 80, 3) := xdt tbX8_text_0_ok 16 rfl
theorem dX8_text_33 : decode cX8_text 33 = .ok (.istore_n 2, 1) := xdt tbX8_text_0_ok 17 rfl
theorem dX8_text_34 : decode cX8_text 34 = .ok (.aload_n 0, 1) := xdt tbX8_text_0_ok 18 rfl
theorem dX8_text_35 : decode cX8_text 35 = .ok (.iconst 0, 1) := xdt tbX8_text_0_ok 19 rfl
theorem dX8_text_36 : decode cX8_text 36 = .ok (.putfield 69, 3) := xdt tbX8_text_0_ok 20 rfl
theorem dX8_text_39 : decode cX8_text 39 = .ok (.iload_n 2, 1) := xdt tbX8_text_0_ok 21 rfl
theorem dX8_text_40 : decode cX8_text 40 = .ok (.ifCond .eq 19, 3) := xdt tbX8_text_0_ok 22 rfl
theorem dX8_text_43 : decode cX8_text 43 = .ok (.aload_n 0, 1) := xdt tbX8_text_0_ok 23 rfl
theorem dX8_text_44 : decode cX8_text 44 = .ok (.aload_n 0, 1) := xdt tbX8_text_0_ok 24 rfl
theorem dX8_text_45 : decode cX8_text 45 = .ok (.getfield 16, 3) := xdt tbX8_text_0_ok 25 rfl
theorem dX8_text_48 : decode cX8_text 48 = .ok (.invokevirtual 84, 3) := xdt tbX8_text_0_ok 26 rfl
theorem dX8_text_51 : decode cX8_text 51 = .ok (.putfield 65, 3) := xdt tbX8_text_0_ok 27 rfl
theorem dX8_text_54 : decode cX8_text 54 = .ok (.iload_n 2, 1) := xdt tbX8_text_0_ok 28 rfl
theorem dX8_text_55 : decode cX8_text 55 = .ok (.bipush 10, 2) := xdt tbX8_text_0_ok 29 rfl
theorem dX8_text_57 : decode cX8_text 57 = .ok (.isub, 1) := xdt tbX8_text_0_ok 30 rfl
theorem dX8_text_58 : decode cX8_text 58 = .ok (.ireturn, 1) := xdt tbX8_text_0_ok 31 rfl
theorem dX8_text_59 : decode cX8_text 59 = .ok (.aload_n 0, 1) := xdt tbX8_text_0_ok 32 rfl
theorem dX8_text_60 : decode cX8_text 60 = .ok (.iconst (-1), 1) := xdt tbX8_text_0_ok 33 rfl
theorem dX8_text_61 : decode cX8_text 61 = .ok (.putfield 65, 3) := xdt tbX8_text_0_ok 34 rfl
theorem dX8_text_64 : decode cX8_text 64 = .ok (.aload_n 0, 1) := xdt tbX8_text_0_ok 35 rfl
theorem dX8_text_65 : decode cX8_text 65 = .ok (.aload_n 0, 1) := xdt tbX8_text_0_ok 36 rfl
theorem dX8_text_66 : decode cX8_text 66 = .ok (.getfield 16, 3) := xdt tbX8_text_0_ok 37 rfl
theorem dX8_text_69 : decode cX8_text 69 = .ok (.aload_n 0, 1) := xdt tbX8_text_0_ok 38 rfl
theorem dX8_text_70 : decode cX8_text 70 = .ok (.getfield 23, 3) := xdt tbX8_text_0_ok 39 rfl
theorem dX8_text_73 : decode cX8_text 73 = .ok (.invokevirtual 87, 3) := xdt tbX8_text_0_ok 40 rfl
theorem dX8_text_76 : decode cX8_text 76 = .ok (.putfield 23, 3) := xdt tbX8_text_0_ok 41 rfl
theorem dX8_text_79 : decode cX8_text 79 = .ok (.aload_n 0, 1) := xdt tbX8_text_0_ok 42 rfl
theorem dX8_text_80 : decode cX8_text 80 = .ok (.getfield 30, 3) := xdt tbX8_text_0_ok 43 rfl
theorem dX8_text_83 : decode cX8_text 83 = .ok (.invokevirtual 91, 3) := xdt tbX8_text_0_ok 44 rfl
theorem dX8_text_86 : decode cX8_text 86 = .ok (.aload_n 0, 1) := xdt tbX8_text_0_ok 45 rfl
theorem dX8_text_87 : decode cX8_text 87 = .ok (.invokevirtual 94, 3) := xdt tbX8_text_0_ok 46 rfl
theorem dX8_text_90 : decode cX8_text 90 = .ok (.aload_n 0, 1) := xdt tbX8_text_0_ok 47 rfl
theorem dX8_text_91 : decode cX8_text 91 = .ok (.getfield 23, 3) := xdt tbX8_text_0_ok 48 rfl
theorem dX8_text_94 : decode cX8_text 94 = .ok (.getfield 97, 3) := xdt tbX8_text_0_ok 49 rfl
theorem dX8_text_97 : decode cX8_text 97 = .ok (.ireturn, 1) := xdt tbX8_text_0_ok 50 rfl
def tbX8_fault_0 : List (Nat × Instr × Nat) := [(0, .aload_n 0, 1), (1, .getfield 65, 3), (4, .ireturn, 1)]
theorem tbX8_fault_0_ok : tbX8_fault_0.all (fun q => decide (decode cX8_fault q.1 = .ok q.2)) = true := by decide +kernel
theorem dX8_fault_0 : decode cX8_fault 0 = .ok (.aload_n 0, 1) := xdt tbX8_fault_0_ok 0 rfl
theorem dX8_fault_1 : decode cX8_fault 1 = .ok (.getfield 65, 3) := xdt tbX8_fault_0_ok 1 rfl
theorem dX8_fault_4 : decode cX8_fault 4 = .ok (.ireturn, 1) := xdt tbX8_fault_0_ok 2 rfl
def tbX8_needElement_0 : List (Nat × Instr × Nat) := [(0, .iload_n 1, 1), (1, .ifCond .ne 24, 3), (4, .aload_n 0, 1), (5, .dup, 1), (6, .getfield 262, 3), (9, .iconst 1, 1), (10, .iadd, 1), (11, .putfield 262, 3), (14, .new 275, 3), (17, .dup, 1), (18, .ldc_w 277, 3), (21, .invokespecial 279, 3), (24, .athrow, 1), (25, .return_, 1)]
theorem tbX8_needElement_0_ok : tbX8_needElement_0.all (fun q => decide (decode cX8_needElement q.1 = .ok q.2)) = true := by decide +kernel
theorem dX8_needElement_0 : decode cX8_needElement 0 = .ok (.iload_n 1, 1) := xdt tbX8_needElement_0_ok 0 rfl
theorem dX8_needElement_1 : decode cX8_needElement 1 = .ok (.ifCond .ne 24, 3) := xdt tbX8_needElement_0_ok 1 rfl
theorem dX8_needElement_4 : decode cX8_needElement 4 = .ok (.aload_n 0, 1) := xdt tbX8_needElement_0_ok 2 rfl
theorem dX8_needElement_5 : decode cX8_needElement 5 = .ok (.dup, 1) := xdt tbX8_needElement_0_ok 3 rfl
theorem dX8_needElement_6 : decode cX8_needElement 6 = .ok (.getfield 262, 3) := xdt tbX8_needElement_0_ok 4 rfl
theorem dX8_needElement_9 : decode cX8_needElement 9 = .ok (.iconst 1, 1) := xdt tbX8_needElement_0_ok 5 rfl
theorem dX8_needElement_10 : decode cX8_needElement 10 = .ok (.iadd, 1) := xdt tbX8_needElement_0_ok 6 rfl
theorem dX8_needElement_11 : decode cX8_needElement 11 = .ok (.putfield 262, 3) := xdt tbX8_needElement_0_ok 7 rfl
theorem dX8_needElement_14 : decode cX8_needElement 14 = .ok (.new 275, 3) := xdt tbX8_needElement_0_ok 8 rfl
theorem dX8_needElement_17 : decode cX8_needElement 17 = .ok (.dup, 1) := xdt tbX8_needElement_0_ok 9 rfl
theorem dX8_needElement_18 : decode cX8_needElement 18 = .ok (.ldc_w 277, 3) := xdt tbX8_needElement_0_ok 10 rfl
theorem dX8_needElement_21 : decode cX8_needElement 21 = .ok (.invokespecial 279, 3) := xdt tbX8_needElement_0_ok 11 rfl
theorem dX8_needElement_24 : decode cX8_needElement 24 = .ok (.athrow, 1) := xdt tbX8_needElement_0_ok 12 rfl
theorem dX8_needElement_25 : decode cX8_needElement 25 = .ok (.return_, 1) := xdt tbX8_needElement_0_ok 13 rfl
def tbX8_needUnit_0 : List (Nat × Instr × Nat) := [(0, .aload_n 0, 1), (1, .iload_n 1, 1), (2, .ifCond .lt 18, 3), (5, .iload_n 1, 1), (6, .aload_n 0, 1), (7, .getfield 23, 3), (10, .getfield 97, 3), (13, .if_icmp .ge 7, 3), (16, .iconst 1, 1), (17, .goto 4, 3), (20, .iconst 0, 1), (21, .invokevirtual 181, 3), (24, .return_, 1)]
theorem tbX8_needUnit_0_ok : tbX8_needUnit_0.all (fun q => decide (decode cX8_needUnit q.1 = .ok q.2)) = true := by decide +kernel
theorem dX8_needUnit_0 : decode cX8_needUnit 0 = .ok (.aload_n 0, 1) := xdt tbX8_needUnit_0_ok 0 rfl
theorem dX8_needUnit_1 : decode cX8_needUnit 1 = .ok (.iload_n 1, 1) := xdt tbX8_needUnit_0_ok 1 rfl
theorem dX8_needUnit_2 : decode cX8_needUnit 2 = .ok (.ifCond .lt 18, 3) := xdt tbX8_needUnit_0_ok 2 rfl
theorem dX8_needUnit_5 : decode cX8_needUnit 5 = .ok (.iload_n 1, 1) := xdt tbX8_needUnit_0_ok 3 rfl
theorem dX8_needUnit_6 : decode cX8_needUnit 6 = .ok (.aload_n 0, 1) := xdt tbX8_needUnit_0_ok 4 rfl
theorem dX8_needUnit_7 : decode cX8_needUnit 7 = .ok (.getfield 23, 3) := xdt tbX8_needUnit_0_ok 5 rfl
theorem dX8_needUnit_10 : decode cX8_needUnit 10 = .ok (.getfield 97, 3) := xdt tbX8_needUnit_0_ok 6 rfl
theorem dX8_needUnit_13 : decode cX8_needUnit 13 = .ok (.if_icmp .ge 7, 3) := xdt tbX8_needUnit_0_ok 7 rfl
theorem dX8_needUnit_16 : decode cX8_needUnit 16 = .ok (.iconst 1, 1) := xdt tbX8_needUnit_0_ok 8 rfl
theorem dX8_needUnit_17 : decode cX8_needUnit 17 = .ok (.goto 4, 3) := xdt tbX8_needUnit_0_ok 9 rfl
theorem dX8_needUnit_20 : decode cX8_needUnit 20 = .ok (.iconst 0, 1) := xdt tbX8_needUnit_0_ok 10 rfl
theorem dX8_needUnit_21 : decode cX8_needUnit 21 = .ok (.invokevirtual 181, 3) := xdt tbX8_needUnit_0_ok 11 rfl
theorem dX8_needUnit_24 : decode cX8_needUnit 24 = .ok (.return_, 1) := xdt tbX8_needUnit_0_ok 12 rfl
def tbX8_needMember_0 : List (Nat × Instr × Nat) := [(0, .aload_n 0, 1), (1, .iload_n 1, 1), (2, .invokevirtual 136, 3), (5, .aload_n 0, 1), (6, .iload_n 2, 1), (7, .ifCond .lt 20, 3), (10, .iload_n 2, 1), (11, .aload_n 0, 1), (12, .getfield 23, 3), (15, .getfield 145, 3), (18, .iload_n 1, 1), (19, .iaload, 1), (20, .if_icmp .ge 7, 3), (23, .iconst 1, 1), (24, .goto 4, 3), (27, .iconst 0, 1), (28, .invokevirtual 181, 3), (31, .return_, 1)]
theorem tbX8_needMember_0_ok : tbX8_needMember_0.all (fun q => decide (decode cX8_needMember q.1 = .ok q.2)) = true := by decide +kernel
theorem dX8_needMember_0 : decode cX8_needMember 0 = .ok (.aload_n 0, 1) := xdt tbX8_needMember_0_ok 0 rfl
theorem dX8_needMember_1 : decode cX8_needMember 1 = .ok (.iload_n 1, 1) := xdt tbX8_needMember_0_ok 1 rfl
theorem dX8_needMember_2 : decode cX8_needMember 2 = .ok (.invokevirtual 136, 3) := xdt tbX8_needMember_0_ok 2 rfl
theorem dX8_needMember_5 : decode cX8_needMember 5 = .ok (.aload_n 0, 1) := xdt tbX8_needMember_0_ok 3 rfl
theorem dX8_needMember_6 : decode cX8_needMember 6 = .ok (.iload_n 2, 1) := xdt tbX8_needMember_0_ok 4 rfl
theorem dX8_needMember_7 : decode cX8_needMember 7 = .ok (.ifCond .lt 20, 3) := xdt tbX8_needMember_0_ok 5 rfl
theorem dX8_needMember_10 : decode cX8_needMember 10 = .ok (.iload_n 2, 1) := xdt tbX8_needMember_0_ok 6 rfl
theorem dX8_needMember_11 : decode cX8_needMember 11 = .ok (.aload_n 0, 1) := xdt tbX8_needMember_0_ok 7 rfl
theorem dX8_needMember_12 : decode cX8_needMember 12 = .ok (.getfield 23, 3) := xdt tbX8_needMember_0_ok 8 rfl
theorem dX8_needMember_15 : decode cX8_needMember 15 = .ok (.getfield 145, 3) := xdt tbX8_needMember_0_ok 9 rfl
theorem dX8_needMember_18 : decode cX8_needMember 18 = .ok (.iload_n 1, 1) := xdt tbX8_needMember_0_ok 10 rfl
theorem dX8_needMember_19 : decode cX8_needMember 19 = .ok (.iaload, 1) := xdt tbX8_needMember_0_ok 11 rfl
theorem dX8_needMember_20 : decode cX8_needMember 20 = .ok (.if_icmp .ge 7, 3) := xdt tbX8_needMember_0_ok 12 rfl
theorem dX8_needMember_23 : decode cX8_needMember 23 = .ok (.iconst 1, 1) := xdt tbX8_needMember_0_ok 13 rfl
theorem dX8_needMember_24 : decode cX8_needMember 24 = .ok (.goto 4, 3) := xdt tbX8_needMember_0_ok 14 rfl
theorem dX8_needMember_27 : decode cX8_needMember 27 = .ok (.iconst 0, 1) := xdt tbX8_needMember_0_ok 15 rfl
theorem dX8_needMember_28 : decode cX8_needMember 28 = .ok (.invokevirtual 181, 3) := xdt tbX8_needMember_0_ok 16 rfl
theorem dX8_needMember_31 : decode cX8_needMember 31 = .ok (.return_, 1) := xdt tbX8_needMember_0_ok 17 rfl
def tbX8_move_0 : List (Nat × Instr × Nat) := [(0, .aload_n 0, 1), (1, .iload_n 1, 1), (2, .iload_n 2, 1), (3, .invokevirtual 100, 3), (6, .aload_n 0, 1), (7, .iload_n 1, 1), (8, .iload_n 3, 1), (9, .invokevirtual 100, 3), (12, .iload_n 2, 1), (13, .iload_n 3, 1), (14, .if_icmp .ne 5, 3), (17, .iconst 0, 1), (18, .ireturn, 1), (19, .aload_n 0, 1), (20, .getfield 23, 3), (23, .iload_n 1, 1), (24, .iload_n 2, 1), (25, .iload_n 3, 1), (26, .invokevirtual 104, 3), (29, .aload_n 0, 1), (30, .getfield 30, 3), (33, .iload_n 1, 1), (34, .iload_n 2, 1), (35, .iload_n 3, 1), (36, .invokevirtual 108, 3), (39, .aload_n 0, 1), (40, .invokevirtual 94, 3), (43, .iconst 1, 1), (44, .ireturn, 1)]
theorem tbX8_move_0_ok : tbX8_move_0.all (fun q => decide (decode cX8_move q.1 = .ok q.2)) = true := by decide +kernel
theorem dX8_move_0 : decode cX8_move 0 = .ok (.aload_n 0, 1) := xdt tbX8_move_0_ok 0 rfl
theorem dX8_move_1 : decode cX8_move 1 = .ok (.iload_n 1, 1) := xdt tbX8_move_0_ok 1 rfl
theorem dX8_move_2 : decode cX8_move 2 = .ok (.iload_n 2, 1) := xdt tbX8_move_0_ok 2 rfl
theorem dX8_move_3 : decode cX8_move 3 = .ok (.invokevirtual 100, 3) := xdt tbX8_move_0_ok 3 rfl
theorem dX8_move_6 : decode cX8_move 6 = .ok (.aload_n 0, 1) := xdt tbX8_move_0_ok 4 rfl
theorem dX8_move_7 : decode cX8_move 7 = .ok (.iload_n 1, 1) := xdt tbX8_move_0_ok 5 rfl
theorem dX8_move_8 : decode cX8_move 8 = .ok (.iload_n 3, 1) := xdt tbX8_move_0_ok 6 rfl
theorem dX8_move_9 : decode cX8_move 9 = .ok (.invokevirtual 100, 3) := xdt tbX8_move_0_ok 7 rfl
theorem dX8_move_12 : decode cX8_move 12 = .ok (.iload_n 2, 1) := xdt tbX8_move_0_ok 8 rfl
theorem dX8_move_13 : decode cX8_move 13 = .ok (.iload_n 3, 1) := xdt tbX8_move_0_ok 9 rfl
theorem dX8_move_14 : decode cX8_move 14 = .ok (.if_icmp .ne 5, 3) := xdt tbX8_move_0_ok 10 rfl
theorem dX8_move_17 : decode cX8_move 17 = .ok (.iconst 0, 1) := xdt tbX8_move_0_ok 11 rfl
theorem dX8_move_18 : decode cX8_move 18 = .ok (.ireturn, 1) := xdt tbX8_move_0_ok 12 rfl
theorem dX8_move_19 : decode cX8_move 19 = .ok (.aload_n 0, 1) := xdt tbX8_move_0_ok 13 rfl
theorem dX8_move_20 : decode cX8_move 20 = .ok (.getfield 23, 3) := xdt tbX8_move_0_ok 14 rfl
theorem dX8_move_23 : decode cX8_move 23 = .ok (.iload_n 1, 1) := xdt tbX8_move_0_ok 15 rfl
theorem dX8_move_24 : decode cX8_move 24 = .ok (.iload_n 2, 1) := xdt tbX8_move_0_ok 16 rfl
theorem dX8_move_25 : decode cX8_move 25 = .ok (.iload_n 3, 1) := xdt tbX8_move_0_ok 17 rfl
theorem dX8_move_26 : decode cX8_move 26 = .ok (.invokevirtual 104, 3) := xdt tbX8_move_0_ok 18 rfl
theorem dX8_move_29 : decode cX8_move 29 = .ok (.aload_n 0, 1) := xdt tbX8_move_0_ok 19 rfl
theorem dX8_move_30 : decode cX8_move 30 = .ok (.getfield 30, 3) := xdt tbX8_move_0_ok 20 rfl
theorem dX8_move_33 : decode cX8_move 33 = .ok (.iload_n 1, 1) := xdt tbX8_move_0_ok 21 rfl
theorem dX8_move_34 : decode cX8_move 34 = .ok (.iload_n 2, 1) := xdt tbX8_move_0_ok 22 rfl
theorem dX8_move_35 : decode cX8_move 35 = .ok (.iload_n 3, 1) := xdt tbX8_move_0_ok 23 rfl
theorem dX8_move_36 : decode cX8_move 36 = .ok (.invokevirtual 108, 3) := xdt tbX8_move_0_ok 24 rfl
theorem dX8_move_39 : decode cX8_move 39 = .ok (.aload_n 0, 1) := xdt tbX8_move_0_ok 25 rfl
theorem dX8_move_40 : decode cX8_move 40 = .ok (.invokevirtual 94, 3) := xdt tbX8_move_0_ok 26 rfl
theorem dX8_move_43 : decode cX8_move 43 = .ok (.iconst 1, 1) := xdt tbX8_move_0_ok 27 rfl
theorem dX8_move_44 : decode cX8_move 44 = .ok (.ireturn, 1) := xdt tbX8_move_0_ok 28 rfl
def tbX8_turn_0 : List (Nat × Instr × Nat) := [(0, .aload_n 0, 1), (1, .iload_n 1, 1), (2, .iload_n 2, 1), (3, .invokevirtual 100, 3), (6, .aload_n 0, 1), (7, .getfield 23, 3), (10, .iload_n 1, 1), (11, .iload_n 2, 1), (12, .invokevirtual 111, 3), (15, .aload_n 0, 1), (16, .getfield 30, 3), (19, .iload_n 1, 1), (20, .iload_n 2, 1), (21, .iconst (-1), 1), (22, .invokevirtual 108, 3), (25, .aload_n 0, 1), (26, .invokevirtual 94, 3), (29, .aload_n 0, 1), (30, .getfield 23, 3), (33, .getfield 114, 3), (36, .aload_n 0, 1), (37, .getfield 23, 3), (40, .iload_n 1, 1), (41, .iload_n 2, 1), (42, .invokevirtual 117, 3), (45, .iaload, 1), (46, .ireturn, 1)]
theorem tbX8_turn_0_ok : tbX8_turn_0.all (fun q => decide (decode cX8_turn q.1 = .ok q.2)) = true := by decide +kernel
theorem dX8_turn_0 : decode cX8_turn 0 = .ok (.aload_n 0, 1) := xdt tbX8_turn_0_ok 0 rfl
theorem dX8_turn_1 : decode cX8_turn 1 = .ok (.iload_n 1, 1) := xdt tbX8_turn_0_ok 1 rfl
theorem dX8_turn_2 : decode cX8_turn 2 = .ok (.iload_n 2, 1) := xdt tbX8_turn_0_ok 2 rfl
theorem dX8_turn_3 : decode cX8_turn 3 = .ok (.invokevirtual 100, 3) := xdt tbX8_turn_0_ok 3 rfl
theorem dX8_turn_6 : decode cX8_turn 6 = .ok (.aload_n 0, 1) := xdt tbX8_turn_0_ok 4 rfl
theorem dX8_turn_7 : decode cX8_turn 7 = .ok (.getfield 23, 3) := xdt tbX8_turn_0_ok 5 rfl
theorem dX8_turn_10 : decode cX8_turn 10 = .ok (.iload_n 1, 1) := xdt tbX8_turn_0_ok 6 rfl
theorem dX8_turn_11 : decode cX8_turn 11 = .ok (.iload_n 2, 1) := xdt tbX8_turn_0_ok 7 rfl
theorem dX8_turn_12 : decode cX8_turn 12 = .ok (.invokevirtual 111, 3) := xdt tbX8_turn_0_ok 8 rfl
theorem dX8_turn_15 : decode cX8_turn 15 = .ok (.aload_n 0, 1) := xdt tbX8_turn_0_ok 9 rfl
theorem dX8_turn_16 : decode cX8_turn 16 = .ok (.getfield 30, 3) := xdt tbX8_turn_0_ok 10 rfl
theorem dX8_turn_19 : decode cX8_turn 19 = .ok (.iload_n 1, 1) := xdt tbX8_turn_0_ok 11 rfl
theorem dX8_turn_20 : decode cX8_turn 20 = .ok (.iload_n 2, 1) := xdt tbX8_turn_0_ok 12 rfl
theorem dX8_turn_21 : decode cX8_turn 21 = .ok (.iconst (-1), 1) := xdt tbX8_turn_0_ok 13 rfl
theorem dX8_turn_22 : decode cX8_turn 22 = .ok (.invokevirtual 108, 3) := xdt tbX8_turn_0_ok 14 rfl
theorem dX8_turn_25 : decode cX8_turn 25 = .ok (.aload_n 0, 1) := xdt tbX8_turn_0_ok 15 rfl
theorem dX8_turn_26 : decode cX8_turn 26 = .ok (.invokevirtual 94, 3) := xdt tbX8_turn_0_ok 16 rfl
theorem dX8_turn_29 : decode cX8_turn 29 = .ok (.aload_n 0, 1) := xdt tbX8_turn_0_ok 17 rfl
theorem dX8_turn_30 : decode cX8_turn 30 = .ok (.getfield 23, 3) := xdt tbX8_turn_0_ok 18 rfl
theorem dX8_turn_33 : decode cX8_turn 33 = .ok (.getfield 114, 3) := xdt tbX8_turn_0_ok 19 rfl
theorem dX8_turn_36 : decode cX8_turn 36 = .ok (.aload_n 0, 1) := xdt tbX8_turn_0_ok 20 rfl
theorem dX8_turn_37 : decode cX8_turn 37 = .ok (.getfield 23, 3) := xdt tbX8_turn_0_ok 21 rfl
theorem dX8_turn_40 : decode cX8_turn 40 = .ok (.iload_n 1, 1) := xdt tbX8_turn_0_ok 22 rfl
theorem dX8_turn_41 : decode cX8_turn 41 = .ok (.iload_n 2, 1) := xdt tbX8_turn_0_ok 23 rfl
theorem dX8_turn_42 : decode cX8_turn 42 = .ok (.invokevirtual 117, 3) := xdt tbX8_turn_0_ok 24 rfl
theorem dX8_turn_45 : decode cX8_turn 45 = .ok (.iaload, 1) := xdt tbX8_turn_0_ok 25 rfl
theorem dX8_turn_46 : decode cX8_turn 46 = .ok (.ireturn, 1) := xdt tbX8_turn_0_ok 26 rfl
def tbX8_undo_0 : List (Nat × Instr × Nat) := [(0, .aload_n 0, 1), (1, .getfield 30, 3), (4, .aload_n 0, 1), (5, .getfield 23, 3), (8, .invokevirtual 121, 3), (11, .ifCond .ne 5, 3), (14, .iconst (-1), 1), (15, .ireturn, 1), (16, .aload_n 0, 1), (17, .invokevirtual 94, 3), (20, .aload_n 0, 1), (21, .getfield 30, 3), (24, .getfield 125, 3), (27, .ireturn, 1)]
theorem tbX8_undo_0_ok : tbX8_undo_0.all (fun q => decide (decode cX8_undo q.1 = .ok q.2)) = true := by decide +kernel
theorem dX8_undo_0 : decode cX8_undo 0 = .ok (.aload_n 0, 1) := xdt tbX8_undo_0_ok 0 rfl
theorem dX8_undo_1 : decode cX8_undo 1 = .ok (.getfield 30, 3) := xdt tbX8_undo_0_ok 1 rfl
theorem dX8_undo_4 : decode cX8_undo 4 = .ok (.aload_n 0, 1) := xdt tbX8_undo_0_ok 2 rfl
theorem dX8_undo_5 : decode cX8_undo 5 = .ok (.getfield 23, 3) := xdt tbX8_undo_0_ok 3 rfl
theorem dX8_undo_8 : decode cX8_undo 8 = .ok (.invokevirtual 121, 3) := xdt tbX8_undo_0_ok 4 rfl
theorem dX8_undo_11 : decode cX8_undo 11 = .ok (.ifCond .ne 5, 3) := xdt tbX8_undo_0_ok 5 rfl
theorem dX8_undo_14 : decode cX8_undo 14 = .ok (.iconst (-1), 1) := xdt tbX8_undo_0_ok 6 rfl
theorem dX8_undo_15 : decode cX8_undo 15 = .ok (.ireturn, 1) := xdt tbX8_undo_0_ok 7 rfl
theorem dX8_undo_16 : decode cX8_undo 16 = .ok (.aload_n 0, 1) := xdt tbX8_undo_0_ok 8 rfl
theorem dX8_undo_17 : decode cX8_undo 17 = .ok (.invokevirtual 94, 3) := xdt tbX8_undo_0_ok 9 rfl
theorem dX8_undo_20 : decode cX8_undo 20 = .ok (.aload_n 0, 1) := xdt tbX8_undo_0_ok 10 rfl
theorem dX8_undo_21 : decode cX8_undo 21 = .ok (.getfield 30, 3) := xdt tbX8_undo_0_ok 11 rfl
theorem dX8_undo_24 : decode cX8_undo 24 = .ok (.getfield 125, 3) := xdt tbX8_undo_0_ok 12 rfl
theorem dX8_undo_27 : decode cX8_undo 27 = .ok (.ireturn, 1) := xdt tbX8_undo_0_ok 13 rfl
def tbX8_needWhat_0 : List (Nat × Instr × Nat) := [(0, .aload_n 0, 1), (1, .iload_n 1, 1), (2, .ifCond .lt 12, 3), (5, .iload_n 1, 1), (6, .iload_n 2, 1), (7, .if_icmp .gt 7, 3), (10, .iconst 1, 1), (11, .goto 4, 3), (14, .iconst 0, 1), (15, .invokevirtual 76, 3), (18, .return_, 1)]
theorem tbX8_needWhat_0_ok : tbX8_needWhat_0.all (fun q => decide (decode cX8_needWhat q.1 = .ok q.2)) = true := by decide +kernel
theorem dX8_needWhat_0 : decode cX8_needWhat 0 = .ok (.aload_n 0, 1) := xdt tbX8_needWhat_0_ok 0 rfl
theorem dX8_needWhat_1 : decode cX8_needWhat 1 = .ok (.iload_n 1, 1) := xdt tbX8_needWhat_0_ok 1 rfl
theorem dX8_needWhat_2 : decode cX8_needWhat 2 = .ok (.ifCond .lt 12, 3) := xdt tbX8_needWhat_0_ok 2 rfl
theorem dX8_needWhat_5 : decode cX8_needWhat 5 = .ok (.iload_n 1, 1) := xdt tbX8_needWhat_0_ok 3 rfl
theorem dX8_needWhat_6 : decode cX8_needWhat 6 = .ok (.iload_n 2, 1) := xdt tbX8_needWhat_0_ok 4 rfl
theorem dX8_needWhat_7 : decode cX8_needWhat 7 = .ok (.if_icmp .gt 7, 3) := xdt tbX8_needWhat_0_ok 5 rfl
theorem dX8_needWhat_10 : decode cX8_needWhat 10 = .ok (.iconst 1, 1) := xdt tbX8_needWhat_0_ok 6 rfl
theorem dX8_needWhat_11 : decode cX8_needWhat 11 = .ok (.goto 4, 3) := xdt tbX8_needWhat_0_ok 7 rfl
theorem dX8_needWhat_14 : decode cX8_needWhat 14 = .ok (.iconst 0, 1) := xdt tbX8_needWhat_0_ok 8 rfl
theorem dX8_needWhat_15 : decode cX8_needWhat 15 = .ok (.invokevirtual 76, 3) := xdt tbX8_needWhat_0_ok 9 rfl
theorem dX8_needWhat_18 : decode cX8_needWhat 18 = .ok (.return_, 1) := xdt tbX8_needWhat_0_ok 10 rfl
def tbX8_told_0 : List (Nat × Instr × Nat) := [(0, .aload_n 0, 1), (1, .iload_n 1, 1), (2, .iconst 5, 1), (3, .invokevirtual 126, 3), (6, .iload_n 1, 1), (7, .tableswitch 72 0 4 #[33, 41, 49, 58, 67], 33), (40, .aload_n 0, 1), (41, .getfield 23, 3), (44, .getfield 97, 3), (47, .ireturn, 1), (48, .aload_n 0, 1), (49, .getfield 23, 3), (52, .getfield 129, 3), (55, .ireturn, 1), (56, .aload_n 0, 1), (57, .getfield 23, 3), (60, .iconst 0, 1), (61, .invokevirtual 132, 3), (64, .ireturn, 1), (65, .aload_n 0, 1), (66, .getfield 23, 3), (69, .iconst 1, 1), (70, .invokevirtual 132, 3), (73, .ireturn, 1), (74, .aload_n 0, 1), (75, .getfield 69, 3), (78, .ireturn, 1), (79, .aload_n 0, 1), (80, .getfield 30, 3), (83, .getfield 125, 3), (86, .ireturn, 1)]
theorem tbX8_told_0_ok : tbX8_told_0.all (fun q => decide (decode cX8_told q.1 = .ok q.2)) = true := by decide +kernel
theorem dX8_told_0 : decode cX8_told 0 = .ok (.aload_n 0, 1) := xdt tbX8_told_0_ok 0 rfl
theorem dX8_told_1 : decode cX8_told 1 = .ok (.iload_n 1, 1) := xdt tbX8_told_0_ok 1 rfl
theorem dX8_told_2 : decode cX8_told 2 = .ok (.iconst 5, 1) := xdt tbX8_told_0_ok 2 rfl
theorem dX8_told_3 : decode cX8_told 3 = .ok (.invokevirtual 126, 3) := xdt tbX8_told_0_ok 3 rfl
theorem dX8_told_6 : decode cX8_told 6 = .ok (.iload_n 1, 1) := xdt tbX8_told_0_ok 4 rfl
theorem dX8_told_7 : decode cX8_told 7 = .ok (.tableswitch 72 0 4 #[33, 41, 49, 58, 67], 33) := xdt tbX8_told_0_ok 5 rfl
theorem dX8_told_40 : decode cX8_told 40 = .ok (.aload_n 0, 1) := xdt tbX8_told_0_ok 6 rfl
theorem dX8_told_41 : decode cX8_told 41 = .ok (.getfield 23, 3) := xdt tbX8_told_0_ok 7 rfl
theorem dX8_told_44 : decode cX8_told 44 = .ok (.getfield 97, 3) := xdt tbX8_told_0_ok 8 rfl
theorem dX8_told_47 : decode cX8_told 47 = .ok (.ireturn, 1) := xdt tbX8_told_0_ok 9 rfl
theorem dX8_told_48 : decode cX8_told 48 = .ok (.aload_n 0, 1) := xdt tbX8_told_0_ok 10 rfl
theorem dX8_told_49 : decode cX8_told 49 = .ok (.getfield 23, 3) := xdt tbX8_told_0_ok 11 rfl
theorem dX8_told_52 : decode cX8_told 52 = .ok (.getfield 129, 3) := xdt tbX8_told_0_ok 12 rfl
theorem dX8_told_55 : decode cX8_told 55 = .ok (.ireturn, 1) := xdt tbX8_told_0_ok 13 rfl
theorem dX8_told_56 : decode cX8_told 56 = .ok (.aload_n 0, 1) := xdt tbX8_told_0_ok 14 rfl
theorem dX8_told_57 : decode cX8_told 57 = .ok (.getfield 23, 3) := xdt tbX8_told_0_ok 15 rfl
theorem dX8_told_60 : decode cX8_told 60 = .ok (.iconst 0, 1) := xdt tbX8_told_0_ok 16 rfl
theorem dX8_told_61 : decode cX8_told 61 = .ok (.invokevirtual 132, 3) := xdt tbX8_told_0_ok 17 rfl
theorem dX8_told_64 : decode cX8_told 64 = .ok (.ireturn, 1) := xdt tbX8_told_0_ok 18 rfl
theorem dX8_told_65 : decode cX8_told 65 = .ok (.aload_n 0, 1) := xdt tbX8_told_0_ok 19 rfl
theorem dX8_told_66 : decode cX8_told 66 = .ok (.getfield 23, 3) := xdt tbX8_told_0_ok 20 rfl
theorem dX8_told_69 : decode cX8_told 69 = .ok (.iconst 1, 1) := xdt tbX8_told_0_ok 21 rfl
theorem dX8_told_70 : decode cX8_told 70 = .ok (.invokevirtual 132, 3) := xdt tbX8_told_0_ok 22 rfl
theorem dX8_told_73 : decode cX8_told 73 = .ok (.ireturn, 1) := xdt tbX8_told_0_ok 23 rfl
theorem dX8_told_74 : decode cX8_told 74 = .ok (.aload_n 0, 1) := xdt tbX8_told_0_ok 24 rfl
theorem dX8_told_75 : decode cX8_told 75 = .ok (.getfield 69, 3) := xdt tbX8_told_0_ok 25 rfl
theorem dX8_told_78 : decode cX8_told 78 = .ok (.ireturn, 1) := xdt tbX8_told_0_ok 26 rfl
theorem dX8_told_79 : decode cX8_told 79 = .ok (.aload_n 0, 1) := xdt tbX8_told_0_ok 27 rfl
theorem dX8_told_80 : decode cX8_told 80 = .ok (.getfield 30, 3) := xdt tbX8_told_0_ok 28 rfl
theorem dX8_told_83 : decode cX8_told 83 = .ok (.getfield 125, 3) := xdt tbX8_told_0_ok 29 rfl
theorem dX8_told_86 : decode cX8_told 86 = .ok (.ireturn, 1) := xdt tbX8_told_0_ok 30 rfl
def tbX8_unit_0 : List (Nat × Instr × Nat) := [(0, .aload_n 0, 1), (1, .iload_n 1, 1), (2, .invokevirtual 136, 3), (5, .aload_n 0, 1), (6, .iload_n 2, 1), (7, .iconst 4, 1), (8, .invokevirtual 126, 3), (11, .iload_n 2, 1), (12, .tableswitch 72 0 3 #[32, 42, 52, 62], 32), (44, .aload_n 0, 1), (45, .getfield 23, 3), (48, .getfield 139, 3), (51, .iload_n 1, 1), (52, .iaload, 1), (53, .ireturn, 1), (54, .aload_n 0, 1), (55, .getfield 23, 3), (58, .getfield 142, 3), (61, .iload_n 1, 1), (62, .iaload, 1), (63, .ireturn, 1), (64, .aload_n 0, 1), (65, .getfield 23, 3), (68, .getfield 145, 3), (71, .iload_n 1, 1), (72, .iaload, 1), (73, .ireturn, 1), (74, .aload_n 0, 1), (75, .getfield 23, 3), (78, .iload_n 1, 1), (79, .iconst 1, 1), (80, .invokevirtual 148, 3), (83, .ireturn, 1), (84, .aload_n 0, 1), (85, .getfield 23, 3), (88, .iload_n 1, 1), (89, .iconst 4, 1), (90, .invokevirtual 148, 3), (93, .ireturn, 1)]
theorem tbX8_unit_0_ok : tbX8_unit_0.all (fun q => decide (decode cX8_unit q.1 = .ok q.2)) = true := by decide +kernel
theorem dX8_unit_0 : decode cX8_unit 0 = .ok (.aload_n 0, 1) := xdt tbX8_unit_0_ok 0 rfl
theorem dX8_unit_1 : decode cX8_unit 1 = .ok (.iload_n 1, 1) := xdt tbX8_unit_0_ok 1 rfl
theorem dX8_unit_2 : decode cX8_unit 2 = .ok (.invokevirtual 136, 3) := xdt tbX8_unit_0_ok 2 rfl
theorem dX8_unit_5 : decode cX8_unit 5 = .ok (.aload_n 0, 1) := xdt tbX8_unit_0_ok 3 rfl
theorem dX8_unit_6 : decode cX8_unit 6 = .ok (.iload_n 2, 1) := xdt tbX8_unit_0_ok 4 rfl
theorem dX8_unit_7 : decode cX8_unit 7 = .ok (.iconst 4, 1) := xdt tbX8_unit_0_ok 5 rfl
theorem dX8_unit_8 : decode cX8_unit 8 = .ok (.invokevirtual 126, 3) := xdt tbX8_unit_0_ok 6 rfl
theorem dX8_unit_11 : decode cX8_unit 11 = .ok (.iload_n 2, 1) := xdt tbX8_unit_0_ok 7 rfl
theorem dX8_unit_12 : decode cX8_unit 12 = .ok (.tableswitch 72 0 3 #[32, 42, 52, 62], 32) := xdt tbX8_unit_0_ok 8 rfl
theorem dX8_unit_44 : decode cX8_unit 44 = .ok (.aload_n 0, 1) := xdt tbX8_unit_0_ok 9 rfl
theorem dX8_unit_45 : decode cX8_unit 45 = .ok (.getfield 23, 3) := xdt tbX8_unit_0_ok 10 rfl
theorem dX8_unit_48 : decode cX8_unit 48 = .ok (.getfield 139, 3) := xdt tbX8_unit_0_ok 11 rfl
theorem dX8_unit_51 : decode cX8_unit 51 = .ok (.iload_n 1, 1) := xdt tbX8_unit_0_ok 12 rfl
theorem dX8_unit_52 : decode cX8_unit 52 = .ok (.iaload, 1) := xdt tbX8_unit_0_ok 13 rfl
theorem dX8_unit_53 : decode cX8_unit 53 = .ok (.ireturn, 1) := xdt tbX8_unit_0_ok 14 rfl
theorem dX8_unit_54 : decode cX8_unit 54 = .ok (.aload_n 0, 1) := xdt tbX8_unit_0_ok 15 rfl
theorem dX8_unit_55 : decode cX8_unit 55 = .ok (.getfield 23, 3) := xdt tbX8_unit_0_ok 16 rfl
theorem dX8_unit_58 : decode cX8_unit 58 = .ok (.getfield 142, 3) := xdt tbX8_unit_0_ok 17 rfl
theorem dX8_unit_61 : decode cX8_unit 61 = .ok (.iload_n 1, 1) := xdt tbX8_unit_0_ok 18 rfl
theorem dX8_unit_62 : decode cX8_unit 62 = .ok (.iaload, 1) := xdt tbX8_unit_0_ok 19 rfl
theorem dX8_unit_63 : decode cX8_unit 63 = .ok (.ireturn, 1) := xdt tbX8_unit_0_ok 20 rfl
theorem dX8_unit_64 : decode cX8_unit 64 = .ok (.aload_n 0, 1) := xdt tbX8_unit_0_ok 21 rfl
theorem dX8_unit_65 : decode cX8_unit 65 = .ok (.getfield 23, 3) := xdt tbX8_unit_0_ok 22 rfl
theorem dX8_unit_68 : decode cX8_unit 68 = .ok (.getfield 145, 3) := xdt tbX8_unit_0_ok 23 rfl
theorem dX8_unit_71 : decode cX8_unit 71 = .ok (.iload_n 1, 1) := xdt tbX8_unit_0_ok 24 rfl
theorem dX8_unit_72 : decode cX8_unit 72 = .ok (.iaload, 1) := xdt tbX8_unit_0_ok 25 rfl
theorem dX8_unit_73 : decode cX8_unit 73 = .ok (.ireturn, 1) := xdt tbX8_unit_0_ok 26 rfl
theorem dX8_unit_74 : decode cX8_unit 74 = .ok (.aload_n 0, 1) := xdt tbX8_unit_0_ok 27 rfl
theorem dX8_unit_75 : decode cX8_unit 75 = .ok (.getfield 23, 3) := xdt tbX8_unit_0_ok 28 rfl
theorem dX8_unit_78 : decode cX8_unit 78 = .ok (.iload_n 1, 1) := xdt tbX8_unit_0_ok 29 rfl
theorem dX8_unit_79 : decode cX8_unit 79 = .ok (.iconst 1, 1) := xdt tbX8_unit_0_ok 30 rfl
theorem dX8_unit_80 : decode cX8_unit 80 = .ok (.invokevirtual 148, 3) := xdt tbX8_unit_0_ok 31 rfl
theorem dX8_unit_83 : decode cX8_unit 83 = .ok (.ireturn, 1) := xdt tbX8_unit_0_ok 32 rfl
theorem dX8_unit_84 : decode cX8_unit 84 = .ok (.aload_n 0, 1) := xdt tbX8_unit_0_ok 33 rfl
theorem dX8_unit_85 : decode cX8_unit 85 = .ok (.getfield 23, 3) := xdt tbX8_unit_0_ok 34 rfl
theorem dX8_unit_88 : decode cX8_unit 88 = .ok (.iload_n 1, 1) := xdt tbX8_unit_0_ok 35 rfl
theorem dX8_unit_89 : decode cX8_unit 89 = .ok (.iconst 4, 1) := xdt tbX8_unit_0_ok 36 rfl
theorem dX8_unit_90 : decode cX8_unit 90 = .ok (.invokevirtual 148, 3) := xdt tbX8_unit_0_ok 37 rfl
theorem dX8_unit_93 : decode cX8_unit 93 = .ok (.ireturn, 1) := xdt tbX8_unit_0_ok 38 rfl
def tbX8_member_0 : List (Nat × Instr × Nat) := [(0, .aload_n 0, 1), (1, .iload_n 1, 1), (2, .iload_n 2, 1), (3, .invokevirtual 100, 3), (6, .aload_n 0, 1), (7, .iload_n 3, 1), (8, .iconst 4, 1), (9, .invokevirtual 126, 3), (12, .aload_n 0, 1), (13, .getfield 23, 3), (16, .iload_n 1, 1), (17, .iload_n 2, 1), (18, .invokevirtual 117, 3), (21, .istore 4, 2), (23, .iload_n 3, 1), (24, .tableswitch 74 0 3 #[32, 43, 54, 64], 32), (56, .aload_n 0, 1), (57, .getfield 23, 3), (60, .getfield 151, 3), (63, .iload 4, 2), (65, .iaload, 1), (66, .ireturn, 1), (67, .aload_n 0, 1), (68, .getfield 23, 3), (71, .getfield 114, 3), (74, .iload 4, 2), (76, .iaload, 1), (77, .ireturn, 1), (78, .aload_n 0, 1), (79, .getfield 23, 3), (82, .iload 4, 2), (84, .invokevirtual 154, 3), (87, .ireturn, 1), (88, .aload_n 0, 1), (89, .getfield 23, 3), (92, .iload 4, 2), (94, .invokevirtual 158, 3), (97, .ireturn, 1), (98, .aload_n 0, 1), (99, .getfield 23, 3), (102, .iload 4, 2), (104, .invokevirtual 161, 3), (107, .ireturn, 1)]
theorem tbX8_member_0_ok : tbX8_member_0.all (fun q => decide (decode cX8_member q.1 = .ok q.2)) = true := by decide +kernel
theorem dX8_member_0 : decode cX8_member 0 = .ok (.aload_n 0, 1) := xdt tbX8_member_0_ok 0 rfl
theorem dX8_member_1 : decode cX8_member 1 = .ok (.iload_n 1, 1) := xdt tbX8_member_0_ok 1 rfl
theorem dX8_member_2 : decode cX8_member 2 = .ok (.iload_n 2, 1) := xdt tbX8_member_0_ok 2 rfl
theorem dX8_member_3 : decode cX8_member 3 = .ok (.invokevirtual 100, 3) := xdt tbX8_member_0_ok 3 rfl
theorem dX8_member_6 : decode cX8_member 6 = .ok (.aload_n 0, 1) := xdt tbX8_member_0_ok 4 rfl
theorem dX8_member_7 : decode cX8_member 7 = .ok (.iload_n 3, 1) := xdt tbX8_member_0_ok 5 rfl
theorem dX8_member_8 : decode cX8_member 8 = .ok (.iconst 4, 1) := xdt tbX8_member_0_ok 6 rfl
theorem dX8_member_9 : decode cX8_member 9 = .ok (.invokevirtual 126, 3) := xdt tbX8_member_0_ok 7 rfl
theorem dX8_member_12 : decode cX8_member 12 = .ok (.aload_n 0, 1) := xdt tbX8_member_0_ok 8 rfl
theorem dX8_member_13 : decode cX8_member 13 = .ok (.getfield 23, 3) := xdt tbX8_member_0_ok 9 rfl
theorem dX8_member_16 : decode cX8_member 16 = .ok (.iload_n 1, 1) := xdt tbX8_member_0_ok 10 rfl
theorem dX8_member_17 : decode cX8_member 17 = .ok (.iload_n 2, 1) := xdt tbX8_member_0_ok 11 rfl
theorem dX8_member_18 : decode cX8_member 18 = .ok (.invokevirtual 117, 3) := xdt tbX8_member_0_ok 12 rfl
theorem dX8_member_21 : decode cX8_member 21 = .ok (.istore 4, 2) := xdt tbX8_member_0_ok 13 rfl
theorem dX8_member_23 : decode cX8_member 23 = .ok (.iload_n 3, 1) := xdt tbX8_member_0_ok 14 rfl
theorem dX8_member_24 : decode cX8_member 24 = .ok (.tableswitch 74 0 3 #[32, 43, 54, 64], 32) := xdt tbX8_member_0_ok 15 rfl
theorem dX8_member_56 : decode cX8_member 56 = .ok (.aload_n 0, 1) := xdt tbX8_member_0_ok 16 rfl
theorem dX8_member_57 : decode cX8_member 57 = .ok (.getfield 23, 3) := xdt tbX8_member_0_ok 17 rfl
theorem dX8_member_60 : decode cX8_member 60 = .ok (.getfield 151, 3) := xdt tbX8_member_0_ok 18 rfl
theorem dX8_member_63 : decode cX8_member 63 = .ok (.iload 4, 2) := xdt tbX8_member_0_ok 19 rfl
theorem dX8_member_65 : decode cX8_member 65 = .ok (.iaload, 1) := xdt tbX8_member_0_ok 20 rfl
theorem dX8_member_66 : decode cX8_member 66 = .ok (.ireturn, 1) := xdt tbX8_member_0_ok 21 rfl
theorem dX8_member_67 : decode cX8_member 67 = .ok (.aload_n 0, 1) := xdt tbX8_member_0_ok 22 rfl
theorem dX8_member_68 : decode cX8_member 68 = .ok (.getfield 23, 3) := xdt tbX8_member_0_ok 23 rfl
theorem dX8_member_71 : decode cX8_member 71 = .ok (.getfield 114, 3) := xdt tbX8_member_0_ok 24 rfl
theorem dX8_member_74 : decode cX8_member 74 = .ok (.iload 4, 2) := xdt tbX8_member_0_ok 25 rfl
theorem dX8_member_76 : decode cX8_member 76 = .ok (.iaload, 1) := xdt tbX8_member_0_ok 26 rfl
theorem dX8_member_77 : decode cX8_member 77 = .ok (.ireturn, 1) := xdt tbX8_member_0_ok 27 rfl
theorem dX8_member_78 : decode cX8_member 78 = .ok (.aload_n 0, 1) := xdt tbX8_member_0_ok 28 rfl
theorem dX8_member_79 : decode cX8_member 79 = .ok (.getfield 23, 3) := xdt tbX8_member_0_ok 29 rfl
theorem dX8_member_82 : decode cX8_member 82 = .ok (.iload 4, 2) := xdt tbX8_member_0_ok 30 rfl
theorem dX8_member_84 : decode cX8_member 84 = .ok (.invokevirtual 154, 3) := xdt tbX8_member_0_ok 31 rfl
theorem dX8_member_87 : decode cX8_member 87 = .ok (.ireturn, 1) := xdt tbX8_member_0_ok 32 rfl
theorem dX8_member_88 : decode cX8_member 88 = .ok (.aload_n 0, 1) := xdt tbX8_member_0_ok 33 rfl
theorem dX8_member_89 : decode cX8_member 89 = .ok (.getfield 23, 3) := xdt tbX8_member_0_ok 34 rfl
theorem dX8_member_92 : decode cX8_member 92 = .ok (.iload 4, 2) := xdt tbX8_member_0_ok 35 rfl
theorem dX8_member_94 : decode cX8_member 94 = .ok (.invokevirtual 158, 3) := xdt tbX8_member_0_ok 36 rfl
theorem dX8_member_97 : decode cX8_member 97 = .ok (.ireturn, 1) := xdt tbX8_member_0_ok 37 rfl
theorem dX8_member_98 : decode cX8_member 98 = .ok (.aload_n 0, 1) := xdt tbX8_member_0_ok 38 rfl
theorem dX8_member_99 : decode cX8_member 99 = .ok (.getfield 23, 3) := xdt tbX8_member_0_ok 39 rfl
theorem dX8_member_102 : decode cX8_member 102 = .ok (.iload 4, 2) := xdt tbX8_member_0_ok 40 rfl
theorem dX8_member_104 : decode cX8_member 104 = .ok (.invokevirtual 161, 3) := xdt tbX8_member_0_ok 41 rfl
theorem dX8_member_107 : decode cX8_member 107 = .ok (.ireturn, 1) := xdt tbX8_member_0_ok 42 rfl
def tbX8_runPlain_0 : List (Nat × Instr × Nat) := [(0, .aload_n 0, 1), (1, .getfield 283, 3), (4, .ifCond .ne 19, 3), (7, .aload_n 0, 1), (8, .getfield 39, 3), (11, .aload_n 0, 1), (12, .getfield 23, 3), (15, .invokevirtual 289, 3), (18, .aload_n 0, 1), (19, .iconst 1, 1), (20, .putfield 283, 3), (23, .return_, 1)]
theorem tbX8_runPlain_0_ok : tbX8_runPlain_0.all (fun q => decide (decode cX8_runPlain q.1 = .ok q.2)) = true := by decide +kernel
theorem dX8_runPlain_0 : decode cX8_runPlain 0 = .ok (.aload_n 0, 1) := xdt tbX8_runPlain_0_ok 0 rfl
theorem dX8_runPlain_1 : decode cX8_runPlain 1 = .ok (.getfield 283, 3) := xdt tbX8_runPlain_0_ok 1 rfl
theorem dX8_runPlain_4 : decode cX8_runPlain 4 = .ok (.ifCond .ne 19, 3) := xdt tbX8_runPlain_0_ok 2 rfl
theorem dX8_runPlain_7 : decode cX8_runPlain 7 = .ok (.aload_n 0, 1) := xdt tbX8_runPlain_0_ok 3 rfl
theorem dX8_runPlain_8 : decode cX8_runPlain 8 = .ok (.getfield 39, 3) := xdt tbX8_runPlain_0_ok 4 rfl
theorem dX8_runPlain_11 : decode cX8_runPlain 11 = .ok (.aload_n 0, 1) := xdt tbX8_runPlain_0_ok 5 rfl
theorem dX8_runPlain_12 : decode cX8_runPlain 12 = .ok (.getfield 23, 3) := xdt tbX8_runPlain_0_ok 6 rfl
theorem dX8_runPlain_15 : decode cX8_runPlain 15 = .ok (.invokevirtual 289, 3) := xdt tbX8_runPlain_0_ok 7 rfl
theorem dX8_runPlain_18 : decode cX8_runPlain 18 = .ok (.aload_n 0, 1) := xdt tbX8_runPlain_0_ok 8 rfl
theorem dX8_runPlain_19 : decode cX8_runPlain 19 = .ok (.iconst 1, 1) := xdt tbX8_runPlain_0_ok 9 rfl
theorem dX8_runPlain_20 : decode cX8_runPlain 20 = .ok (.putfield 283, 3) := xdt tbX8_runPlain_0_ok 10 rfl
theorem dX8_runPlain_23 : decode cX8_runPlain 23 = .ok (.return_, 1) := xdt tbX8_runPlain_0_ok 11 rfl
def tbX8_lazy_0 : List (Nat × Instr × Nat) := [(0, .aload_n 0, 1), (1, .iload_n 1, 1), (2, .bipush 7, 2), (4, .invokevirtual 126, 3), (7, .aload_n 0, 1), (8, .invokevirtual 164, 3), (11, .aload_n 0, 1), (12, .getfield 39, 3), (15, .iload_n 1, 1), (16, .invokevirtual 167, 3), (19, .ireturn, 1)]
theorem tbX8_lazy_0_ok : tbX8_lazy_0.all (fun q => decide (decode cX8_lazy q.1 = .ok q.2)) = true := by decide +kernel
theorem dX8_lazy_0 : decode cX8_lazy 0 = .ok (.aload_n 0, 1) := xdt tbX8_lazy_0_ok 0 rfl
theorem dX8_lazy_1 : decode cX8_lazy 1 = .ok (.iload_n 1, 1) := xdt tbX8_lazy_0_ok 1 rfl
theorem dX8_lazy_2 : decode cX8_lazy 2 = .ok (.bipush 7, 2) := xdt tbX8_lazy_0_ok 2 rfl
theorem dX8_lazy_4 : decode cX8_lazy 4 = .ok (.invokevirtual 126, 3) := xdt tbX8_lazy_0_ok 3 rfl
theorem dX8_lazy_7 : decode cX8_lazy 7 = .ok (.aload_n 0, 1) := xdt tbX8_lazy_0_ok 4 rfl
theorem dX8_lazy_8 : decode cX8_lazy 8 = .ok (.invokevirtual 164, 3) := xdt tbX8_lazy_0_ok 5 rfl
theorem dX8_lazy_11 : decode cX8_lazy 11 = .ok (.aload_n 0, 1) := xdt tbX8_lazy_0_ok 6 rfl
theorem dX8_lazy_12 : decode cX8_lazy 12 = .ok (.getfield 39, 3) := xdt tbX8_lazy_0_ok 7 rfl
theorem dX8_lazy_15 : decode cX8_lazy 15 = .ok (.iload_n 1, 1) := xdt tbX8_lazy_0_ok 8 rfl
theorem dX8_lazy_16 : decode cX8_lazy 16 = .ok (.invokevirtual 167, 3) := xdt tbX8_lazy_0_ok 9 rfl
theorem dX8_lazy_19 : decode cX8_lazy 19 = .ok (.ireturn, 1) := xdt tbX8_lazy_0_ok 10 rfl
def tbX8_takesOrder_0 : List (Nat × Instr × Nat) := [(0, .iload_n 1, 1), (1, .ifCond .ge 5, 3), (4, .iconst 0, 1), (5, .ireturn, 1), (6, .iload_n 1, 1), (7, .istore_n 2, 1), (8, .iconst 0, 1), (9, .istore_n 3, 1), (10, .aload_n 0, 1), (11, .getfield 23, 3), (14, .getfield 97, 3), (17, .iconst 1, 1), (18, .isub, 1), (19, .istore 4, 2), (21, .iload 4, 2), (23, .ifCond .lt 59, 3), (26, .iload_n 2, 1), (27, .bipush 10, 2), (29, .irem, 1), (30, .istore 5, 2), (32, .iload_n 2, 1), (33, .bipush 10, 2), (35, .idiv, 1), (36, .istore_n 2, 1), (37, .iload 5, 2), (39, .aload_n 0, 1), (40, .getfield 23, 3), (43, .getfield 97, 3), (46, .if_icmp .ge 12, 3), (49, .iload_n 3, 1), (50, .iload 5, 2), (52, .ishr, 1), (53, .iconst 1, 1), (54, .iand, 1), (55, .ifCond .eq 5, 3), (58, .iconst 0, 1), (59, .ireturn, 1), (60, .iload_n 3, 1), (61, .iconst 1, 1), (62, .iload 5, 2), (64, .ishl, 1), (65, .ior, 1), (66, .istore_n 3, 1), (67, .aload_n 0, 1), (68, .getfield 46, 3), (71, .iload 4, 2), (73, .iload 5, 2), (75, .iastore, 1), (76, .iinc 4 (-1), 3), (79, .goto (-58), 3), (82, .iload_n 2, 1), (83, .ifCond .ne 7, 3), (86, .iconst 1, 1), (87, .goto 4, 3), (90, .iconst 0, 1), (91, .ireturn, 1)]
theorem tbX8_takesOrder_0_ok : tbX8_takesOrder_0.all (fun q => decide (decode cX8_takesOrder q.1 = .ok q.2)) = true := by decide +kernel
theorem dX8_takesOrder_0 : decode cX8_takesOrder 0 = .ok (.iload_n 1, 1) := xdt tbX8_takesOrder_0_ok 0 rfl
theorem dX8_takesOrder_1 : decode cX8_takesOrder 1 = .ok (.ifCond .ge 5, 3) := xdt tbX8_takesOrder_0_ok 1 rfl
theorem dX8_takesOrder_4 : decode cX8_takesOrder 4 = .ok (.iconst 0, 1) := xdt tbX8_takesOrder_0_ok 2 rfl
theorem dX8_takesOrder_5 : decode cX8_takesOrder 5 = .ok (.ireturn, 1) := xdt tbX8_takesOrder_0_ok 3 rfl
theorem dX8_takesOrder_6 : decode cX8_takesOrder 6 = .ok (.iload_n 1, 1) := xdt tbX8_takesOrder_0_ok 4 rfl
theorem dX8_takesOrder_7 : decode cX8_takesOrder 7 = .ok (.istore_n 2, 1) := xdt tbX8_takesOrder_0_ok 5 rfl
theorem dX8_takesOrder_8 : decode cX8_takesOrder 8 = .ok (.iconst 0, 1) := xdt tbX8_takesOrder_0_ok 6 rfl
theorem dX8_takesOrder_9 : decode cX8_takesOrder 9 = .ok (.istore_n 3, 1) := xdt tbX8_takesOrder_0_ok 7 rfl
theorem dX8_takesOrder_10 : decode cX8_takesOrder 10 = .ok (.aload_n 0, 1) := xdt tbX8_takesOrder_0_ok 8 rfl
theorem dX8_takesOrder_11 : decode cX8_takesOrder 11 = .ok (.getfield 23, 3) := xdt tbX8_takesOrder_0_ok 9 rfl
theorem dX8_takesOrder_14 : decode cX8_takesOrder 14 = .ok (.getfield 97, 3) := xdt tbX8_takesOrder_0_ok 10 rfl
theorem dX8_takesOrder_17 : decode cX8_takesOrder 17 = .ok (.iconst 1, 1) := xdt tbX8_takesOrder_0_ok 11 rfl
theorem dX8_takesOrder_18 : decode cX8_takesOrder 18 = .ok (.isub, 1) := xdt tbX8_takesOrder_0_ok 12 rfl
theorem dX8_takesOrder_19 : decode cX8_takesOrder 19 = .ok (.istore 4, 2) := xdt tbX8_takesOrder_0_ok 13 rfl
theorem dX8_takesOrder_21 : decode cX8_takesOrder 21 = .ok (.iload 4, 2) := xdt tbX8_takesOrder_0_ok 14 rfl
theorem dX8_takesOrder_23 : decode cX8_takesOrder 23 = .ok (.ifCond .lt 59, 3) := xdt tbX8_takesOrder_0_ok 15 rfl
theorem dX8_takesOrder_26 : decode cX8_takesOrder 26 = .ok (.iload_n 2, 1) := xdt tbX8_takesOrder_0_ok 16 rfl
theorem dX8_takesOrder_27 : decode cX8_takesOrder 27 = .ok (.bipush 10, 2) := xdt tbX8_takesOrder_0_ok 17 rfl
theorem dX8_takesOrder_29 : decode cX8_takesOrder 29 = .ok (.irem, 1) := xdt tbX8_takesOrder_0_ok 18 rfl
theorem dX8_takesOrder_30 : decode cX8_takesOrder 30 = .ok (.istore 5, 2) := xdt tbX8_takesOrder_0_ok 19 rfl
theorem dX8_takesOrder_32 : decode cX8_takesOrder 32 = .ok (.iload_n 2, 1) := xdt tbX8_takesOrder_0_ok 20 rfl
theorem dX8_takesOrder_33 : decode cX8_takesOrder 33 = .ok (.bipush 10, 2) := xdt tbX8_takesOrder_0_ok 21 rfl
theorem dX8_takesOrder_35 : decode cX8_takesOrder 35 = .ok (.idiv, 1) := xdt tbX8_takesOrder_0_ok 22 rfl
theorem dX8_takesOrder_36 : decode cX8_takesOrder 36 = .ok (.istore_n 2, 1) := xdt tbX8_takesOrder_0_ok 23 rfl
theorem dX8_takesOrder_37 : decode cX8_takesOrder 37 = .ok (.iload 5, 2) := xdt tbX8_takesOrder_0_ok 24 rfl
theorem dX8_takesOrder_39 : decode cX8_takesOrder 39 = .ok (.aload_n 0, 1) := xdt tbX8_takesOrder_0_ok 25 rfl
theorem dX8_takesOrder_40 : decode cX8_takesOrder 40 = .ok (.getfield 23, 3) := xdt tbX8_takesOrder_0_ok 26 rfl
theorem dX8_takesOrder_43 : decode cX8_takesOrder 43 = .ok (.getfield 97, 3) := xdt tbX8_takesOrder_0_ok 27 rfl
theorem dX8_takesOrder_46 : decode cX8_takesOrder 46 = .ok (.if_icmp .ge 12, 3) := xdt tbX8_takesOrder_0_ok 28 rfl
theorem dX8_takesOrder_49 : decode cX8_takesOrder 49 = .ok (.iload_n 3, 1) := xdt tbX8_takesOrder_0_ok 29 rfl
theorem dX8_takesOrder_50 : decode cX8_takesOrder 50 = .ok (.iload 5, 2) := xdt tbX8_takesOrder_0_ok 30 rfl
theorem dX8_takesOrder_52 : decode cX8_takesOrder 52 = .ok (.ishr, 1) := xdt tbX8_takesOrder_0_ok 31 rfl
theorem dX8_takesOrder_53 : decode cX8_takesOrder 53 = .ok (.iconst 1, 1) := xdt tbX8_takesOrder_0_ok 32 rfl
theorem dX8_takesOrder_54 : decode cX8_takesOrder 54 = .ok (.iand, 1) := xdt tbX8_takesOrder_0_ok 33 rfl
theorem dX8_takesOrder_55 : decode cX8_takesOrder 55 = .ok (.ifCond .eq 5, 3) := xdt tbX8_takesOrder_0_ok 34 rfl
theorem dX8_takesOrder_58 : decode cX8_takesOrder 58 = .ok (.iconst 0, 1) := xdt tbX8_takesOrder_0_ok 35 rfl
theorem dX8_takesOrder_59 : decode cX8_takesOrder 59 = .ok (.ireturn, 1) := xdt tbX8_takesOrder_0_ok 36 rfl
theorem dX8_takesOrder_60 : decode cX8_takesOrder 60 = .ok (.iload_n 3, 1) := xdt tbX8_takesOrder_0_ok 37 rfl
theorem dX8_takesOrder_61 : decode cX8_takesOrder 61 = .ok (.iconst 1, 1) := xdt tbX8_takesOrder_0_ok 38 rfl
theorem dX8_takesOrder_62 : decode cX8_takesOrder 62 = .ok (.iload 5, 2) := xdt tbX8_takesOrder_0_ok 39 rfl
theorem dX8_takesOrder_64 : decode cX8_takesOrder 64 = .ok (.ishl, 1) := xdt tbX8_takesOrder_0_ok 40 rfl
theorem dX8_takesOrder_65 : decode cX8_takesOrder 65 = .ok (.ior, 1) := xdt tbX8_takesOrder_0_ok 41 rfl
theorem dX8_takesOrder_66 : decode cX8_takesOrder 66 = .ok (.istore_n 3, 1) := xdt tbX8_takesOrder_0_ok 42 rfl
theorem dX8_takesOrder_67 : decode cX8_takesOrder 67 = .ok (.aload_n 0, 1) := xdt tbX8_takesOrder_0_ok 43 rfl
theorem dX8_takesOrder_68 : decode cX8_takesOrder 68 = .ok (.getfield 46, 3) := xdt tbX8_takesOrder_0_ok 44 rfl
theorem dX8_takesOrder_71 : decode cX8_takesOrder 71 = .ok (.iload 4, 2) := xdt tbX8_takesOrder_0_ok 45 rfl
theorem dX8_takesOrder_73 : decode cX8_takesOrder 73 = .ok (.iload 5, 2) := xdt tbX8_takesOrder_0_ok 46 rfl
theorem dX8_takesOrder_75 : decode cX8_takesOrder 75 = .ok (.iastore, 1) := xdt tbX8_takesOrder_0_ok 47 rfl
theorem dX8_takesOrder_76 : decode cX8_takesOrder 76 = .ok (.iinc 4 (-1), 3) := xdt tbX8_takesOrder_0_ok 48 rfl
theorem dX8_takesOrder_79 : decode cX8_takesOrder 79 = .ok (.goto (-58), 3) := xdt tbX8_takesOrder_0_ok 49 rfl
theorem dX8_takesOrder_82 : decode cX8_takesOrder 82 = .ok (.iload_n 2, 1) := xdt tbX8_takesOrder_0_ok 50 rfl
theorem dX8_takesOrder_83 : decode cX8_takesOrder 83 = .ok (.ifCond .ne 7, 3) := xdt tbX8_takesOrder_0_ok 51 rfl
theorem dX8_takesOrder_86 : decode cX8_takesOrder 86 = .ok (.iconst 1, 1) := xdt tbX8_takesOrder_0_ok 52 rfl
theorem dX8_takesOrder_87 : decode cX8_takesOrder 87 = .ok (.goto 4, 3) := xdt tbX8_takesOrder_0_ok 53 rfl
theorem dX8_takesOrder_90 : decode cX8_takesOrder 90 = .ok (.iconst 0, 1) := xdt tbX8_takesOrder_0_ok 54 rfl
theorem dX8_takesOrder_91 : decode cX8_takesOrder 91 = .ok (.ireturn, 1) := xdt tbX8_takesOrder_0_ok 55 rfl
def tbX8_eager_0 : List (Nat × Instr × Nat) := [(0, .aload_n 0, 1), (1, .aload_n 0, 1), (2, .iload_n 1, 1), (3, .invokevirtual 170, 3), (6, .invokevirtual 76, 3), (9, .aload_n 0, 1), (10, .iload_n 2, 1), (11, .bipush 7, 2), (13, .invokevirtual 126, 3), (16, .aload_n 0, 1), (17, .getfield 43, 3), (20, .aload_n 0, 1), (21, .getfield 23, 3), (24, .aload_n 0, 1), (25, .getfield 46, 3), (28, .invokevirtual 174, 3), (31, .aload_n 0, 1), (32, .getfield 43, 3), (35, .iload_n 2, 1), (36, .invokevirtual 167, 3), (39, .ireturn, 1)]
theorem tbX8_eager_0_ok : tbX8_eager_0.all (fun q => decide (decode cX8_eager q.1 = .ok q.2)) = true := by decide +kernel
theorem dX8_eager_0 : decode cX8_eager 0 = .ok (.aload_n 0, 1) := xdt tbX8_eager_0_ok 0 rfl
theorem dX8_eager_1 : decode cX8_eager 1 = .ok (.aload_n 0, 1) := xdt tbX8_eager_0_ok 1 rfl
theorem dX8_eager_2 : decode cX8_eager 2 = .ok (.iload_n 1, 1) := xdt tbX8_eager_0_ok 2 rfl
theorem dX8_eager_3 : decode cX8_eager 3 = .ok (.invokevirtual 170, 3) := xdt tbX8_eager_0_ok 3 rfl
theorem dX8_eager_6 : decode cX8_eager 6 = .ok (.invokevirtual 76, 3) := xdt tbX8_eager_0_ok 4 rfl
theorem dX8_eager_9 : decode cX8_eager 9 = .ok (.aload_n 0, 1) := xdt tbX8_eager_0_ok 5 rfl
theorem dX8_eager_10 : decode cX8_eager 10 = .ok (.iload_n 2, 1) := xdt tbX8_eager_0_ok 6 rfl
theorem dX8_eager_11 : decode cX8_eager 11 = .ok (.bipush 7, 2) := xdt tbX8_eager_0_ok 7 rfl
theorem dX8_eager_13 : decode cX8_eager 13 = .ok (.invokevirtual 126, 3) := xdt tbX8_eager_0_ok 8 rfl
theorem dX8_eager_16 : decode cX8_eager 16 = .ok (.aload_n 0, 1) := xdt tbX8_eager_0_ok 9 rfl
theorem dX8_eager_17 : decode cX8_eager 17 = .ok (.getfield 43, 3) := xdt tbX8_eager_0_ok 10 rfl
theorem dX8_eager_20 : decode cX8_eager 20 = .ok (.aload_n 0, 1) := xdt tbX8_eager_0_ok 11 rfl
theorem dX8_eager_21 : decode cX8_eager 21 = .ok (.getfield 23, 3) := xdt tbX8_eager_0_ok 12 rfl
theorem dX8_eager_24 : decode cX8_eager 24 = .ok (.aload_n 0, 1) := xdt tbX8_eager_0_ok 13 rfl
theorem dX8_eager_25 : decode cX8_eager 25 = .ok (.getfield 46, 3) := xdt tbX8_eager_0_ok 14 rfl
theorem dX8_eager_28 : decode cX8_eager 28 = .ok (.invokevirtual 174, 3) := xdt tbX8_eager_0_ok 15 rfl
theorem dX8_eager_31 : decode cX8_eager 31 = .ok (.aload_n 0, 1) := xdt tbX8_eager_0_ok 16 rfl
theorem dX8_eager_32 : decode cX8_eager 32 = .ok (.getfield 43, 3) := xdt tbX8_eager_0_ok 17 rfl
theorem dX8_eager_35 : decode cX8_eager 35 = .ok (.iload_n 2, 1) := xdt tbX8_eager_0_ok 18 rfl
theorem dX8_eager_36 : decode cX8_eager 36 = .ok (.invokevirtual 167, 3) := xdt tbX8_eager_0_ok 19 rfl
theorem dX8_eager_39 : decode cX8_eager 39 = .ok (.ireturn, 1) := xdt tbX8_eager_0_ok 20 rfl
def tbX8_value_0 : List (Nat × Instr × Nat) := [(0, .aload_n 0, 1), (1, .iload_n 1, 1), (2, .invokevirtual 136, 3), (5, .aload_n 0, 1), (6, .getfield 23, 3), (9, .iload_n 1, 1), (10, .iload_n 2, 1), (11, .invokevirtual 178, 3), (14, .istore_n 3, 1), (15, .aload_n 0, 1), (16, .iload_n 3, 1), (17, .iconst (-1), 1), (18, .if_icmp .eq 20, 3), (21, .aload_n 0, 1), (22, .getfield 23, 3), (25, .getfield 151, 3), (28, .iload_n 3, 1), (29, .iaload, 1), (30, .iconst 1, 1), (31, .if_icmp .ne 7, 3), (34, .iconst 1, 1), (35, .goto 4, 3), (38, .iconst 0, 1), (39, .invokevirtual 181, 3), (42, .aload_n 0, 1), (43, .invokevirtual 164, 3), (46, .aload_n 0, 1), (47, .getfield 39, 3), (50, .getfield 184, 3), (53, .iload_n 3, 1), (54, .iaload, 1), (55, .ireturn, 1)]
theorem tbX8_value_0_ok : tbX8_value_0.all (fun q => decide (decode cX8_value q.1 = .ok q.2)) = true := by decide +kernel
theorem dX8_value_0 : decode cX8_value 0 = .ok (.aload_n 0, 1) := xdt tbX8_value_0_ok 0 rfl
theorem dX8_value_1 : decode cX8_value 1 = .ok (.iload_n 1, 1) := xdt tbX8_value_0_ok 1 rfl
theorem dX8_value_2 : decode cX8_value 2 = .ok (.invokevirtual 136, 3) := xdt tbX8_value_0_ok 2 rfl
theorem dX8_value_5 : decode cX8_value 5 = .ok (.aload_n 0, 1) := xdt tbX8_value_0_ok 3 rfl
theorem dX8_value_6 : decode cX8_value 6 = .ok (.getfield 23, 3) := xdt tbX8_value_0_ok 4 rfl
theorem dX8_value_9 : decode cX8_value 9 = .ok (.iload_n 1, 1) := xdt tbX8_value_0_ok 5 rfl
theorem dX8_value_10 : decode cX8_value 10 = .ok (.iload_n 2, 1) := xdt tbX8_value_0_ok 6 rfl
theorem dX8_value_11 : decode cX8_value 11 = .ok (.invokevirtual 178, 3) := xdt tbX8_value_0_ok 7 rfl
theorem dX8_value_14 : decode cX8_value 14 = .ok (.istore_n 3, 1) := xdt tbX8_value_0_ok 8 rfl
theorem dX8_value_15 : decode cX8_value 15 = .ok (.aload_n 0, 1) := xdt tbX8_value_0_ok 9 rfl
theorem dX8_value_16 : decode cX8_value 16 = .ok (.iload_n 3, 1) := xdt tbX8_value_0_ok 10 rfl
theorem dX8_value_17 : decode cX8_value 17 = .ok (.iconst (-1), 1) := xdt tbX8_value_0_ok 11 rfl
theorem dX8_value_18 : decode cX8_value 18 = .ok (.if_icmp .eq 20, 3) := xdt tbX8_value_0_ok 12 rfl
theorem dX8_value_21 : decode cX8_value 21 = .ok (.aload_n 0, 1) := xdt tbX8_value_0_ok 13 rfl
theorem dX8_value_22 : decode cX8_value 22 = .ok (.getfield 23, 3) := xdt tbX8_value_0_ok 14 rfl
theorem dX8_value_25 : decode cX8_value 25 = .ok (.getfield 151, 3) := xdt tbX8_value_0_ok 15 rfl
theorem dX8_value_28 : decode cX8_value 28 = .ok (.iload_n 3, 1) := xdt tbX8_value_0_ok 16 rfl
theorem dX8_value_29 : decode cX8_value 29 = .ok (.iaload, 1) := xdt tbX8_value_0_ok 17 rfl
theorem dX8_value_30 : decode cX8_value 30 = .ok (.iconst 1, 1) := xdt tbX8_value_0_ok 18 rfl
theorem dX8_value_31 : decode cX8_value 31 = .ok (.if_icmp .ne 7, 3) := xdt tbX8_value_0_ok 19 rfl
theorem dX8_value_34 : decode cX8_value 34 = .ok (.iconst 1, 1) := xdt tbX8_value_0_ok 20 rfl
theorem dX8_value_35 : decode cX8_value 35 = .ok (.goto 4, 3) := xdt tbX8_value_0_ok 21 rfl
theorem dX8_value_38 : decode cX8_value 38 = .ok (.iconst 0, 1) := xdt tbX8_value_0_ok 22 rfl
theorem dX8_value_39 : decode cX8_value 39 = .ok (.invokevirtual 181, 3) := xdt tbX8_value_0_ok 23 rfl
theorem dX8_value_42 : decode cX8_value 42 = .ok (.aload_n 0, 1) := xdt tbX8_value_0_ok 24 rfl
theorem dX8_value_43 : decode cX8_value 43 = .ok (.invokevirtual 164, 3) := xdt tbX8_value_0_ok 25 rfl
theorem dX8_value_46 : decode cX8_value 46 = .ok (.aload_n 0, 1) := xdt tbX8_value_0_ok 26 rfl
theorem dX8_value_47 : decode cX8_value 47 = .ok (.getfield 39, 3) := xdt tbX8_value_0_ok 27 rfl
theorem dX8_value_50 : decode cX8_value 50 = .ok (.getfield 184, 3) := xdt tbX8_value_0_ok 28 rfl
theorem dX8_value_53 : decode cX8_value 53 = .ok (.iload_n 3, 1) := xdt tbX8_value_0_ok 29 rfl
theorem dX8_value_54 : decode cX8_value 54 = .ok (.iaload, 1) := xdt tbX8_value_0_ok 30 rfl
theorem dX8_value_55 : decode cX8_value 55 = .ok (.ireturn, 1) := xdt tbX8_value_0_ok 31 rfl
def tbX8_state_0 : List (Nat × Instr × Nat) := [(0, .aload_n 0, 1), (1, .iload_n 1, 1), (2, .invokevirtual 136, 3), (5, .aload_n 0, 1), (6, .invokevirtual 164, 3), (9, .aload_n 0, 1), (10, .getfield 39, 3), (13, .getfield 187, 3), (16, .iload_n 1, 1), (17, .iaload, 1), (18, .ireturn, 1)]
theorem tbX8_state_0_ok : tbX8_state_0.all (fun q => decide (decode cX8_state q.1 = .ok q.2)) = true := by decide +kernel
theorem dX8_state_0 : decode cX8_state 0 = .ok (.aload_n 0, 1) := xdt tbX8_state_0_ok 0 rfl
theorem dX8_state_1 : decode cX8_state 1 = .ok (.iload_n 1, 1) := xdt tbX8_state_0_ok 1 rfl
theorem dX8_state_2 : decode cX8_state 2 = .ok (.invokevirtual 136, 3) := xdt tbX8_state_0_ok 2 rfl
theorem dX8_state_5 : decode cX8_state 5 = .ok (.aload_n 0, 1) := xdt tbX8_state_0_ok 3 rfl
theorem dX8_state_6 : decode cX8_state 6 = .ok (.invokevirtual 164, 3) := xdt tbX8_state_0_ok 4 rfl
theorem dX8_state_9 : decode cX8_state 9 = .ok (.aload_n 0, 1) := xdt tbX8_state_0_ok 5 rfl
theorem dX8_state_10 : decode cX8_state 10 = .ok (.getfield 39, 3) := xdt tbX8_state_0_ok 6 rfl
theorem dX8_state_13 : decode cX8_state 13 = .ok (.getfield 187, 3) := xdt tbX8_state_0_ok 7 rfl
theorem dX8_state_16 : decode cX8_state 16 = .ok (.iload_n 1, 1) := xdt tbX8_state_0_ok 8 rfl
theorem dX8_state_17 : decode cX8_state 17 = .ok (.iaload, 1) := xdt tbX8_state_0_ok 9 rfl
theorem dX8_state_18 : decode cX8_state 18 = .ok (.ireturn, 1) := xdt tbX8_state_0_ok 10 rfl
def tbX8_begun_0 : List (Nat × Instr × Nat) := [(0, .aload_n 0, 1), (1, .invokevirtual 164, 3), (4, .iload_n 1, 1), (5, .ifCond .lt 26, 3), (8, .iload_n 1, 1), (9, .aload_n 0, 1), (10, .getfield 39, 3), (13, .getfield 190, 3), (16, .if_icmp .ge 15, 3), (19, .aload_n 0, 1), (20, .getfield 39, 3), (23, .getfield 193, 3), (26, .iload_n 1, 1), (27, .iaload, 1), (28, .goto 4, 3), (31, .iconst (-1), 1), (32, .ireturn, 1)]
theorem tbX8_begun_0_ok : tbX8_begun_0.all (fun q => decide (decode cX8_begun q.1 = .ok q.2)) = true := by decide +kernel
theorem dX8_begun_0 : decode cX8_begun 0 = .ok (.aload_n 0, 1) := xdt tbX8_begun_0_ok 0 rfl
theorem dX8_begun_1 : decode cX8_begun 1 = .ok (.invokevirtual 164, 3) := xdt tbX8_begun_0_ok 1 rfl
theorem dX8_begun_4 : decode cX8_begun 4 = .ok (.iload_n 1, 1) := xdt tbX8_begun_0_ok 2 rfl
theorem dX8_begun_5 : decode cX8_begun 5 = .ok (.ifCond .lt 26, 3) := xdt tbX8_begun_0_ok 3 rfl
theorem dX8_begun_8 : decode cX8_begun 8 = .ok (.iload_n 1, 1) := xdt tbX8_begun_0_ok 4 rfl
theorem dX8_begun_9 : decode cX8_begun 9 = .ok (.aload_n 0, 1) := xdt tbX8_begun_0_ok 5 rfl
theorem dX8_begun_10 : decode cX8_begun 10 = .ok (.getfield 39, 3) := xdt tbX8_begun_0_ok 6 rfl
theorem dX8_begun_13 : decode cX8_begun 13 = .ok (.getfield 190, 3) := xdt tbX8_begun_0_ok 7 rfl
theorem dX8_begun_16 : decode cX8_begun 16 = .ok (.if_icmp .ge 15, 3) := xdt tbX8_begun_0_ok 8 rfl
theorem dX8_begun_19 : decode cX8_begun 19 = .ok (.aload_n 0, 1) := xdt tbX8_begun_0_ok 9 rfl
theorem dX8_begun_20 : decode cX8_begun 20 = .ok (.getfield 39, 3) := xdt tbX8_begun_0_ok 10 rfl
theorem dX8_begun_23 : decode cX8_begun 23 = .ok (.getfield 193, 3) := xdt tbX8_begun_0_ok 11 rfl
theorem dX8_begun_26 : decode cX8_begun 26 = .ok (.iload_n 1, 1) := xdt tbX8_begun_0_ok 12 rfl
theorem dX8_begun_27 : decode cX8_begun 27 = .ok (.iaload, 1) := xdt tbX8_begun_0_ok 13 rfl
theorem dX8_begun_28 : decode cX8_begun 28 = .ok (.goto 4, 3) := xdt tbX8_begun_0_ok 14 rfl
theorem dX8_begun_31 : decode cX8_begun 31 = .ok (.iconst (-1), 1) := xdt tbX8_begun_0_ok 15 rfl
theorem dX8_begun_32 : decode cX8_begun 32 = .ok (.ireturn, 1) := xdt tbX8_begun_0_ok 16 rfl
def tbX8_needSurprise_0 : List (Nat × Instr × Nat) := [(0, .aload_n 0, 1), (1, .invokevirtual 164, 3), (4, .aload_n 0, 1), (5, .iload_n 1, 1), (6, .ifCond .lt 18, 3), (9, .iload_n 1, 1), (10, .aload_n 0, 1), (11, .getfield 39, 3), (14, .getfield 280, 3), (17, .if_icmp .ge 7, 3), (20, .iconst 1, 1), (21, .goto 4, 3), (24, .iconst 0, 1), (25, .invokevirtual 181, 3), (28, .return_, 1)]
theorem tbX8_needSurprise_0_ok : tbX8_needSurprise_0.all (fun q => decide (decode cX8_needSurprise q.1 = .ok q.2)) = true := by decide +kernel
theorem dX8_needSurprise_0 : decode cX8_needSurprise 0 = .ok (.aload_n 0, 1) := xdt tbX8_needSurprise_0_ok 0 rfl
theorem dX8_needSurprise_1 : decode cX8_needSurprise 1 = .ok (.invokevirtual 164, 3) := xdt tbX8_needSurprise_0_ok 1 rfl
theorem dX8_needSurprise_4 : decode cX8_needSurprise 4 = .ok (.aload_n 0, 1) := xdt tbX8_needSurprise_0_ok 2 rfl
theorem dX8_needSurprise_5 : decode cX8_needSurprise 5 = .ok (.iload_n 1, 1) := xdt tbX8_needSurprise_0_ok 3 rfl
theorem dX8_needSurprise_6 : decode cX8_needSurprise 6 = .ok (.ifCond .lt 18, 3) := xdt tbX8_needSurprise_0_ok 4 rfl
theorem dX8_needSurprise_9 : decode cX8_needSurprise 9 = .ok (.iload_n 1, 1) := xdt tbX8_needSurprise_0_ok 5 rfl
theorem dX8_needSurprise_10 : decode cX8_needSurprise 10 = .ok (.aload_n 0, 1) := xdt tbX8_needSurprise_0_ok 6 rfl
theorem dX8_needSurprise_11 : decode cX8_needSurprise 11 = .ok (.getfield 39, 3) := xdt tbX8_needSurprise_0_ok 7 rfl
theorem dX8_needSurprise_14 : decode cX8_needSurprise 14 = .ok (.getfield 280, 3) := xdt tbX8_needSurprise_0_ok 8 rfl
theorem dX8_needSurprise_17 : decode cX8_needSurprise 17 = .ok (.if_icmp .ge 7, 3) := xdt tbX8_needSurprise_0_ok 9 rfl
theorem dX8_needSurprise_20 : decode cX8_needSurprise 20 = .ok (.iconst 1, 1) := xdt tbX8_needSurprise_0_ok 10 rfl
theorem dX8_needSurprise_21 : decode cX8_needSurprise 21 = .ok (.goto 4, 3) := xdt tbX8_needSurprise_0_ok 11 rfl
theorem dX8_needSurprise_24 : decode cX8_needSurprise 24 = .ok (.iconst 0, 1) := xdt tbX8_needSurprise_0_ok 12 rfl
theorem dX8_needSurprise_25 : decode cX8_needSurprise 25 = .ok (.invokevirtual 181, 3) := xdt tbX8_needSurprise_0_ok 13 rfl
theorem dX8_needSurprise_28 : decode cX8_needSurprise 28 = .ok (.return_, 1) := xdt tbX8_needSurprise_0_ok 14 rfl
def tbX8_sightOf_0 : List (Nat × Instr × Nat) := [(0, .aload_n 0, 1), (1, .getfield 39, 3), (4, .getfield 292, 3), (7, .getfield 296, 3), (10, .iload_n 1, 1), (11, .if_icmp .eq 25, 3), (14, .aload_n 0, 1), (15, .getfield 39, 3), (18, .getfield 292, 3), (21, .iload_n 1, 1), (22, .putfield 296, 3), (25, .aload_n 0, 1), (26, .getfield 39, 3), (29, .aload_n 0, 1), (30, .getfield 23, 3), (33, .invokevirtual 289, 3), (36, .aload_n 0, 1), (37, .getfield 39, 3), (40, .getfield 292, 3), (43, .areturn, 1)]
theorem tbX8_sightOf_0_ok : tbX8_sightOf_0.all (fun q => decide (decode cX8_sightOf q.1 = .ok q.2)) = true := by decide +kernel
theorem dX8_sightOf_0 : decode cX8_sightOf 0 = .ok (.aload_n 0, 1) := xdt tbX8_sightOf_0_ok 0 rfl
theorem dX8_sightOf_1 : decode cX8_sightOf 1 = .ok (.getfield 39, 3) := xdt tbX8_sightOf_0_ok 1 rfl
theorem dX8_sightOf_4 : decode cX8_sightOf 4 = .ok (.getfield 292, 3) := xdt tbX8_sightOf_0_ok 2 rfl
theorem dX8_sightOf_7 : decode cX8_sightOf 7 = .ok (.getfield 296, 3) := xdt tbX8_sightOf_0_ok 3 rfl
theorem dX8_sightOf_10 : decode cX8_sightOf 10 = .ok (.iload_n 1, 1) := xdt tbX8_sightOf_0_ok 4 rfl
theorem dX8_sightOf_11 : decode cX8_sightOf 11 = .ok (.if_icmp .eq 25, 3) := xdt tbX8_sightOf_0_ok 5 rfl
theorem dX8_sightOf_14 : decode cX8_sightOf 14 = .ok (.aload_n 0, 1) := xdt tbX8_sightOf_0_ok 6 rfl
theorem dX8_sightOf_15 : decode cX8_sightOf 15 = .ok (.getfield 39, 3) := xdt tbX8_sightOf_0_ok 7 rfl
theorem dX8_sightOf_18 : decode cX8_sightOf 18 = .ok (.getfield 292, 3) := xdt tbX8_sightOf_0_ok 8 rfl
theorem dX8_sightOf_21 : decode cX8_sightOf 21 = .ok (.iload_n 1, 1) := xdt tbX8_sightOf_0_ok 9 rfl
theorem dX8_sightOf_22 : decode cX8_sightOf 22 = .ok (.putfield 296, 3) := xdt tbX8_sightOf_0_ok 10 rfl
theorem dX8_sightOf_25 : decode cX8_sightOf 25 = .ok (.aload_n 0, 1) := xdt tbX8_sightOf_0_ok 11 rfl
theorem dX8_sightOf_26 : decode cX8_sightOf 26 = .ok (.getfield 39, 3) := xdt tbX8_sightOf_0_ok 12 rfl
theorem dX8_sightOf_29 : decode cX8_sightOf 29 = .ok (.aload_n 0, 1) := xdt tbX8_sightOf_0_ok 13 rfl
theorem dX8_sightOf_30 : decode cX8_sightOf 30 = .ok (.getfield 23, 3) := xdt tbX8_sightOf_0_ok 14 rfl
theorem dX8_sightOf_33 : decode cX8_sightOf 33 = .ok (.invokevirtual 289, 3) := xdt tbX8_sightOf_0_ok 15 rfl
theorem dX8_sightOf_36 : decode cX8_sightOf 36 = .ok (.aload_n 0, 1) := xdt tbX8_sightOf_0_ok 16 rfl
theorem dX8_sightOf_37 : decode cX8_sightOf 37 = .ok (.getfield 39, 3) := xdt tbX8_sightOf_0_ok 17 rfl
theorem dX8_sightOf_40 : decode cX8_sightOf 40 = .ok (.getfield 292, 3) := xdt tbX8_sightOf_0_ok 18 rfl
theorem dX8_sightOf_43 : decode cX8_sightOf 43 = .ok (.areturn, 1) := xdt tbX8_sightOf_0_ok 19 rfl
def tbX8_surprise_0 : List (Nat × Instr × Nat) := [(0, .aload_n 0, 1), (1, .iload_n 1, 1), (2, .invokevirtual 196, 3), (5, .aload_n 0, 1), (6, .iload_n 2, 1), (7, .iconst 5, 1), (8, .invokevirtual 126, 3), (11, .aload_n 0, 1), (12, .iload_n 1, 1), (13, .invokevirtual 199, 3), (16, .iload_n 2, 1), (17, .invokevirtual 203, 3), (20, .ireturn, 1)]
theorem tbX8_surprise_0_ok : tbX8_surprise_0.all (fun q => decide (decode cX8_surprise q.1 = .ok q.2)) = true := by decide +kernel
theorem dX8_surprise_0 : decode cX8_surprise 0 = .ok (.aload_n 0, 1) := xdt tbX8_surprise_0_ok 0 rfl
theorem dX8_surprise_1 : decode cX8_surprise 1 = .ok (.iload_n 1, 1) := xdt tbX8_surprise_0_ok 1 rfl
theorem dX8_surprise_2 : decode cX8_surprise 2 = .ok (.invokevirtual 196, 3) := xdt tbX8_surprise_0_ok 2 rfl
theorem dX8_surprise_5 : decode cX8_surprise 5 = .ok (.aload_n 0, 1) := xdt tbX8_surprise_0_ok 3 rfl
theorem dX8_surprise_6 : decode cX8_surprise 6 = .ok (.iload_n 2, 1) := xdt tbX8_surprise_0_ok 4 rfl
theorem dX8_surprise_7 : decode cX8_surprise 7 = .ok (.iconst 5, 1) := xdt tbX8_surprise_0_ok 5 rfl
theorem dX8_surprise_8 : decode cX8_surprise 8 = .ok (.invokevirtual 126, 3) := xdt tbX8_surprise_0_ok 6 rfl
theorem dX8_surprise_11 : decode cX8_surprise 11 = .ok (.aload_n 0, 1) := xdt tbX8_surprise_0_ok 7 rfl
theorem dX8_surprise_12 : decode cX8_surprise 12 = .ok (.iload_n 1, 1) := xdt tbX8_surprise_0_ok 8 rfl
theorem dX8_surprise_13 : decode cX8_surprise 13 = .ok (.invokevirtual 199, 3) := xdt tbX8_surprise_0_ok 9 rfl
theorem dX8_surprise_16 : decode cX8_surprise 16 = .ok (.iload_n 2, 1) := xdt tbX8_surprise_0_ok 10 rfl
theorem dX8_surprise_17 : decode cX8_surprise 17 = .ok (.invokevirtual 203, 3) := xdt tbX8_surprise_0_ok 11 rfl
theorem dX8_surprise_20 : decode cX8_surprise 20 = .ok (.ireturn, 1) := xdt tbX8_surprise_0_ok 12 rfl
def tbX8_trace_0 : List (Nat × Instr × Nat) := [(0, .aload_n 0, 1), (1, .iload_n 1, 1), (2, .invokevirtual 196, 3), (5, .aload_n 0, 1), (6, .iload_n 1, 1), (7, .invokevirtual 199, 3), (10, .astore_n 3, 1), (11, .iload_n 2, 1), (12, .ifCond .lt 20, 3), (15, .iload_n 2, 1), (16, .aload_n 3, 1), (17, .getfield 208, 3), (20, .if_icmp .ge 12, 3), (23, .aload_n 3, 1), (24, .getfield 211, 3), (27, .iload_n 2, 1), (28, .iaload, 1), (29, .goto 4, 3), (32, .iconst (-1), 1), (33, .ireturn, 1)]
theorem tbX8_trace_0_ok : tbX8_trace_0.all (fun q => decide (decode cX8_trace q.1 = .ok q.2)) = true := by decide +kernel
theorem dX8_trace_0 : decode cX8_trace 0 = .ok (.aload_n 0, 1) := xdt tbX8_trace_0_ok 0 rfl
theorem dX8_trace_1 : decode cX8_trace 1 = .ok (.iload_n 1, 1) := xdt tbX8_trace_0_ok 1 rfl
theorem dX8_trace_2 : decode cX8_trace 2 = .ok (.invokevirtual 196, 3) := xdt tbX8_trace_0_ok 2 rfl
theorem dX8_trace_5 : decode cX8_trace 5 = .ok (.aload_n 0, 1) := xdt tbX8_trace_0_ok 3 rfl
theorem dX8_trace_6 : decode cX8_trace 6 = .ok (.iload_n 1, 1) := xdt tbX8_trace_0_ok 4 rfl
theorem dX8_trace_7 : decode cX8_trace 7 = .ok (.invokevirtual 199, 3) := xdt tbX8_trace_0_ok 5 rfl
theorem dX8_trace_10 : decode cX8_trace 10 = .ok (.astore_n 3, 1) := xdt tbX8_trace_0_ok 6 rfl
theorem dX8_trace_11 : decode cX8_trace 11 = .ok (.iload_n 2, 1) := xdt tbX8_trace_0_ok 7 rfl
theorem dX8_trace_12 : decode cX8_trace 12 = .ok (.ifCond .lt 20, 3) := xdt tbX8_trace_0_ok 8 rfl
theorem dX8_trace_15 : decode cX8_trace 15 = .ok (.iload_n 2, 1) := xdt tbX8_trace_0_ok 9 rfl
theorem dX8_trace_16 : decode cX8_trace 16 = .ok (.aload_n 3, 1) := xdt tbX8_trace_0_ok 10 rfl
theorem dX8_trace_17 : decode cX8_trace 17 = .ok (.getfield 208, 3) := xdt tbX8_trace_0_ok 11 rfl
theorem dX8_trace_20 : decode cX8_trace 20 = .ok (.if_icmp .ge 12, 3) := xdt tbX8_trace_0_ok 12 rfl
theorem dX8_trace_23 : decode cX8_trace 23 = .ok (.aload_n 3, 1) := xdt tbX8_trace_0_ok 13 rfl
theorem dX8_trace_24 : decode cX8_trace 24 = .ok (.getfield 211, 3) := xdt tbX8_trace_0_ok 14 rfl
theorem dX8_trace_27 : decode cX8_trace 27 = .ok (.iload_n 2, 1) := xdt tbX8_trace_0_ok 15 rfl
theorem dX8_trace_28 : decode cX8_trace 28 = .ok (.iaload, 1) := xdt tbX8_trace_0_ok 16 rfl
theorem dX8_trace_29 : decode cX8_trace 29 = .ok (.goto 4, 3) := xdt tbX8_trace_0_ok 17 rfl
theorem dX8_trace_32 : decode cX8_trace 32 = .ok (.iconst (-1), 1) := xdt tbX8_trace_0_ok 18 rfl
theorem dX8_trace_33 : decode cX8_trace 33 = .ok (.ireturn, 1) := xdt tbX8_trace_0_ok 19 rfl
def tbX8_broken_0 : List (Nat × Instr × Nat) := [(0, .aload_n 0, 1), (1, .iload_n 1, 1), (2, .invokevirtual 136, 3), (5, .aload_n 0, 1), (6, .iload_n 2, 1), (7, .iconst 2, 1), (8, .invokevirtual 126, 3), (11, .aload_n 0, 1), (12, .invokevirtual 164, 3), (15, .aload_n 0, 1), (16, .getfield 39, 3), (19, .getfield 187, 3), (22, .iload_n 1, 1), (23, .iaload, 1), (24, .iconst 3, 1), (25, .if_icmp .ne 17, 3), (28, .aload_n 0, 1), (29, .getfield 39, 3), (32, .getfield 214, 3), (35, .iload_n 2, 1), (36, .aaload, 1), (37, .iload_n 1, 1), (38, .iaload, 1), (39, .goto 4, 3), (42, .iconst (-1), 1), (43, .ireturn, 1)]
theorem tbX8_broken_0_ok : tbX8_broken_0.all (fun q => decide (decode cX8_broken q.1 = .ok q.2)) = true := by decide +kernel
theorem dX8_broken_0 : decode cX8_broken 0 = .ok (.aload_n 0, 1) := xdt tbX8_broken_0_ok 0 rfl
theorem dX8_broken_1 : decode cX8_broken 1 = .ok (.iload_n 1, 1) := xdt tbX8_broken_0_ok 1 rfl
theorem dX8_broken_2 : decode cX8_broken 2 = .ok (.invokevirtual 136, 3) := xdt tbX8_broken_0_ok 2 rfl
theorem dX8_broken_5 : decode cX8_broken 5 = .ok (.aload_n 0, 1) := xdt tbX8_broken_0_ok 3 rfl
theorem dX8_broken_6 : decode cX8_broken 6 = .ok (.iload_n 2, 1) := xdt tbX8_broken_0_ok 4 rfl
theorem dX8_broken_7 : decode cX8_broken 7 = .ok (.iconst 2, 1) := xdt tbX8_broken_0_ok 5 rfl
theorem dX8_broken_8 : decode cX8_broken 8 = .ok (.invokevirtual 126, 3) := xdt tbX8_broken_0_ok 6 rfl
theorem dX8_broken_11 : decode cX8_broken 11 = .ok (.aload_n 0, 1) := xdt tbX8_broken_0_ok 7 rfl
theorem dX8_broken_12 : decode cX8_broken 12 = .ok (.invokevirtual 164, 3) := xdt tbX8_broken_0_ok 8 rfl
theorem dX8_broken_15 : decode cX8_broken 15 = .ok (.aload_n 0, 1) := xdt tbX8_broken_0_ok 9 rfl
theorem dX8_broken_16 : decode cX8_broken 16 = .ok (.getfield 39, 3) := xdt tbX8_broken_0_ok 10 rfl
theorem dX8_broken_19 : decode cX8_broken 19 = .ok (.getfield 187, 3) := xdt tbX8_broken_0_ok 11 rfl
theorem dX8_broken_22 : decode cX8_broken 22 = .ok (.iload_n 1, 1) := xdt tbX8_broken_0_ok 12 rfl
theorem dX8_broken_23 : decode cX8_broken 23 = .ok (.iaload, 1) := xdt tbX8_broken_0_ok 13 rfl
theorem dX8_broken_24 : decode cX8_broken 24 = .ok (.iconst 3, 1) := xdt tbX8_broken_0_ok 14 rfl
theorem dX8_broken_25 : decode cX8_broken 25 = .ok (.if_icmp .ne 17, 3) := xdt tbX8_broken_0_ok 15 rfl
theorem dX8_broken_28 : decode cX8_broken 28 = .ok (.aload_n 0, 1) := xdt tbX8_broken_0_ok 16 rfl
theorem dX8_broken_29 : decode cX8_broken 29 = .ok (.getfield 39, 3) := xdt tbX8_broken_0_ok 17 rfl
theorem dX8_broken_32 : decode cX8_broken 32 = .ok (.getfield 214, 3) := xdt tbX8_broken_0_ok 18 rfl
theorem dX8_broken_35 : decode cX8_broken 35 = .ok (.iload_n 2, 1) := xdt tbX8_broken_0_ok 19 rfl
theorem dX8_broken_36 : decode cX8_broken 36 = .ok (.aaload, 1) := xdt tbX8_broken_0_ok 20 rfl
theorem dX8_broken_37 : decode cX8_broken 37 = .ok (.iload_n 1, 1) := xdt tbX8_broken_0_ok 21 rfl
theorem dX8_broken_38 : decode cX8_broken 38 = .ok (.iaload, 1) := xdt tbX8_broken_0_ok 22 rfl
theorem dX8_broken_39 : decode cX8_broken 39 = .ok (.goto 4, 3) := xdt tbX8_broken_0_ok 23 rfl
theorem dX8_broken_42 : decode cX8_broken 42 = .ok (.iconst (-1), 1) := xdt tbX8_broken_0_ok 24 rfl
theorem dX8_broken_43 : decode cX8_broken 43 = .ok (.ireturn, 1) := xdt tbX8_broken_0_ok 25 rfl
def tbX8_alike_0 : List (Nat × Instr × Nat) := [(0, .aload_n 0, 1), (1, .aload_n 0, 1), (2, .iload_n 1, 1), (3, .invokevirtual 170, 3), (6, .invokevirtual 76, 3), (9, .aload_n 0, 1), (10, .invokevirtual 164, 3), (13, .aload_n 0, 1), (14, .getfield 43, 3), (17, .aload_n 0, 1), (18, .getfield 23, 3), (21, .aload_n 0, 1), (22, .getfield 46, 3), (25, .invokevirtual 174, 3), (28, .aload_n 0, 1), (29, .getfield 39, 3), (32, .getfield 218, 3), (35, .ifCond .ne 13, 3), (38, .aload_n 0, 1), (39, .getfield 43, 3), (42, .getfield 218, 3), (45, .ifCond .eq 6, 3), (48, .bipush (-2), 2), (50, .ireturn, 1), (51, .aload_n 0, 1), (52, .getfield 39, 3), (55, .aload_n 0, 1), (56, .getfield 43, 3), (59, .invokevirtual 222, 3), (62, .ifCond .eq 7, 3), (65, .iconst 1, 1), (66, .goto 4, 3), (69, .iconst 0, 1), (70, .ireturn, 1)]
theorem tbX8_alike_0_ok : tbX8_alike_0.all (fun q => decide (decode cX8_alike q.1 = .ok q.2)) = true := by decide +kernel
theorem dX8_alike_0 : decode cX8_alike 0 = .ok (.aload_n 0, 1) := xdt tbX8_alike_0_ok 0 rfl
theorem dX8_alike_1 : decode cX8_alike 1 = .ok (.aload_n 0, 1) := xdt tbX8_alike_0_ok 1 rfl
theorem dX8_alike_2 : decode cX8_alike 2 = .ok (.iload_n 1, 1) := xdt tbX8_alike_0_ok 2 rfl
theorem dX8_alike_3 : decode cX8_alike 3 = .ok (.invokevirtual 170, 3) := xdt tbX8_alike_0_ok 3 rfl
theorem dX8_alike_6 : decode cX8_alike 6 = .ok (.invokevirtual 76, 3) := xdt tbX8_alike_0_ok 4 rfl
theorem dX8_alike_9 : decode cX8_alike 9 = .ok (.aload_n 0, 1) := xdt tbX8_alike_0_ok 5 rfl
theorem dX8_alike_10 : decode cX8_alike 10 = .ok (.invokevirtual 164, 3) := xdt tbX8_alike_0_ok 6 rfl
theorem dX8_alike_13 : decode cX8_alike 13 = .ok (.aload_n 0, 1) := xdt tbX8_alike_0_ok 7 rfl
theorem dX8_alike_14 : decode cX8_alike 14 = .ok (.getfield 43, 3) := xdt tbX8_alike_0_ok 8 rfl
theorem dX8_alike_17 : decode cX8_alike 17 = .ok (.aload_n 0, 1) := xdt tbX8_alike_0_ok 9 rfl
theorem dX8_alike_18 : decode cX8_alike 18 = .ok (.getfield 23, 3) := xdt tbX8_alike_0_ok 10 rfl
theorem dX8_alike_21 : decode cX8_alike 21 = .ok (.aload_n 0, 1) := xdt tbX8_alike_0_ok 11 rfl
theorem dX8_alike_22 : decode cX8_alike 22 = .ok (.getfield 46, 3) := xdt tbX8_alike_0_ok 12 rfl
theorem dX8_alike_25 : decode cX8_alike 25 = .ok (.invokevirtual 174, 3) := xdt tbX8_alike_0_ok 13 rfl
theorem dX8_alike_28 : decode cX8_alike 28 = .ok (.aload_n 0, 1) := xdt tbX8_alike_0_ok 14 rfl
theorem dX8_alike_29 : decode cX8_alike 29 = .ok (.getfield 39, 3) := xdt tbX8_alike_0_ok 15 rfl
theorem dX8_alike_32 : decode cX8_alike 32 = .ok (.getfield 218, 3) := xdt tbX8_alike_0_ok 16 rfl
theorem dX8_alike_35 : decode cX8_alike 35 = .ok (.ifCond .ne 13, 3) := xdt tbX8_alike_0_ok 17 rfl
theorem dX8_alike_38 : decode cX8_alike 38 = .ok (.aload_n 0, 1) := xdt tbX8_alike_0_ok 18 rfl
theorem dX8_alike_39 : decode cX8_alike 39 = .ok (.getfield 43, 3) := xdt tbX8_alike_0_ok 19 rfl
theorem dX8_alike_42 : decode cX8_alike 42 = .ok (.getfield 218, 3) := xdt tbX8_alike_0_ok 20 rfl
theorem dX8_alike_45 : decode cX8_alike 45 = .ok (.ifCond .eq 6, 3) := xdt tbX8_alike_0_ok 21 rfl
theorem dX8_alike_48 : decode cX8_alike 48 = .ok (.bipush (-2), 2) := xdt tbX8_alike_0_ok 22 rfl
theorem dX8_alike_50 : decode cX8_alike 50 = .ok (.ireturn, 1) := xdt tbX8_alike_0_ok 23 rfl
theorem dX8_alike_51 : decode cX8_alike 51 = .ok (.aload_n 0, 1) := xdt tbX8_alike_0_ok 24 rfl
theorem dX8_alike_52 : decode cX8_alike 52 = .ok (.getfield 39, 3) := xdt tbX8_alike_0_ok 25 rfl
theorem dX8_alike_55 : decode cX8_alike 55 = .ok (.aload_n 0, 1) := xdt tbX8_alike_0_ok 26 rfl
theorem dX8_alike_56 : decode cX8_alike 56 = .ok (.getfield 43, 3) := xdt tbX8_alike_0_ok 27 rfl
theorem dX8_alike_59 : decode cX8_alike 59 = .ok (.invokevirtual 222, 3) := xdt tbX8_alike_0_ok 28 rfl
theorem dX8_alike_62 : decode cX8_alike 62 = .ok (.ifCond .eq 7, 3) := xdt tbX8_alike_0_ok 29 rfl
theorem dX8_alike_65 : decode cX8_alike 65 = .ok (.iconst 1, 1) := xdt tbX8_alike_0_ok 30 rfl
theorem dX8_alike_66 : decode cX8_alike 66 = .ok (.goto 4, 3) := xdt tbX8_alike_0_ok 31 rfl
theorem dX8_alike_69 : decode cX8_alike 69 = .ok (.iconst 0, 1) := xdt tbX8_alike_0_ok 32 rfl
theorem dX8_alike_70 : decode cX8_alike 70 = .ok (.ireturn, 1) := xdt tbX8_alike_0_ok 33 rfl
def tbX8_fewest_0 : List (Nat × Instr × Nat) := [(0, .aload_n 0, 1), (1, .iload_n 1, 1), (2, .iconst 2, 1), (3, .invokevirtual 126, 3), (6, .aload_n 0, 1), (7, .getfield 54, 3), (10, .aload_n 0, 1), (11, .getfield 23, 3), (14, .invokevirtual 226, 3), (17, .iload_n 1, 1), (18, .lookupswitch 42 #[(0, 26), (1, 34)], 26), (44, .aload_n 0, 1), (45, .getfield 54, 3), (48, .getfield 229, 3), (51, .ireturn, 1), (52, .aload_n 0, 1), (53, .getfield 54, 3), (56, .getfield 232, 3), (59, .ireturn, 1), (60, .aload_n 0, 1), (61, .getfield 54, 3), (64, .getfield 235, 3), (67, .ireturn, 1)]
theorem tbX8_fewest_0_ok : tbX8_fewest_0.all (fun q => decide (decode cX8_fewest q.1 = .ok q.2)) = true := by decide +kernel
theorem dX8_fewest_0 : decode cX8_fewest 0 = .ok (.aload_n 0, 1) := xdt tbX8_fewest_0_ok 0 rfl
theorem dX8_fewest_1 : decode cX8_fewest 1 = .ok (.iload_n 1, 1) := xdt tbX8_fewest_0_ok 1 rfl
theorem dX8_fewest_2 : decode cX8_fewest 2 = .ok (.iconst 2, 1) := xdt tbX8_fewest_0_ok 2 rfl
theorem dX8_fewest_3 : decode cX8_fewest 3 = .ok (.invokevirtual 126, 3) := xdt tbX8_fewest_0_ok 3 rfl
theorem dX8_fewest_6 : decode cX8_fewest 6 = .ok (.aload_n 0, 1) := xdt tbX8_fewest_0_ok 4 rfl
theorem dX8_fewest_7 : decode cX8_fewest 7 = .ok (.getfield 54, 3) := xdt tbX8_fewest_0_ok 5 rfl
theorem dX8_fewest_10 : decode cX8_fewest 10 = .ok (.aload_n 0, 1) := xdt tbX8_fewest_0_ok 6 rfl
theorem dX8_fewest_11 : decode cX8_fewest 11 = .ok (.getfield 23, 3) := xdt tbX8_fewest_0_ok 7 rfl
theorem dX8_fewest_14 : decode cX8_fewest 14 = .ok (.invokevirtual 226, 3) := xdt tbX8_fewest_0_ok 8 rfl
theorem dX8_fewest_17 : decode cX8_fewest 17 = .ok (.iload_n 1, 1) := xdt tbX8_fewest_0_ok 9 rfl
theorem dX8_fewest_18 : decode cX8_fewest 18 = .ok (.lookupswitch 42 #[(0, 26), (1, 34)], 26) := xdt tbX8_fewest_0_ok 10 rfl
theorem dX8_fewest_44 : decode cX8_fewest 44 = .ok (.aload_n 0, 1) := xdt tbX8_fewest_0_ok 11 rfl
theorem dX8_fewest_45 : decode cX8_fewest 45 = .ok (.getfield 54, 3) := xdt tbX8_fewest_0_ok 12 rfl
theorem dX8_fewest_48 : decode cX8_fewest 48 = .ok (.getfield 229, 3) := xdt tbX8_fewest_0_ok 13 rfl
theorem dX8_fewest_51 : decode cX8_fewest 51 = .ok (.ireturn, 1) := xdt tbX8_fewest_0_ok 14 rfl
theorem dX8_fewest_52 : decode cX8_fewest 52 = .ok (.aload_n 0, 1) := xdt tbX8_fewest_0_ok 15 rfl
theorem dX8_fewest_53 : decode cX8_fewest 53 = .ok (.getfield 54, 3) := xdt tbX8_fewest_0_ok 16 rfl
theorem dX8_fewest_56 : decode cX8_fewest 56 = .ok (.getfield 232, 3) := xdt tbX8_fewest_0_ok 17 rfl
theorem dX8_fewest_59 : decode cX8_fewest 59 = .ok (.ireturn, 1) := xdt tbX8_fewest_0_ok 18 rfl
theorem dX8_fewest_60 : decode cX8_fewest 60 = .ok (.aload_n 0, 1) := xdt tbX8_fewest_0_ok 19 rfl
theorem dX8_fewest_61 : decode cX8_fewest 61 = .ok (.getfield 54, 3) := xdt tbX8_fewest_0_ok 20 rfl
theorem dX8_fewest_64 : decode cX8_fewest 64 = .ok (.getfield 235, 3) := xdt tbX8_fewest_0_ok 21 rfl
theorem dX8_fewest_67 : decode cX8_fewest 67 = .ok (.ireturn, 1) := xdt tbX8_fewest_0_ok 22 rfl
def tbX8_touches_0 : List (Nat × Instr × Nat) := [(0, .aload_n 0, 1), (1, .iload_n 1, 1), (2, .invokevirtual 136, 3), (5, .aload_n 0, 1), (6, .getfield 61, 3), (9, .aload_n 0, 1), (10, .getfield 23, 3), (13, .invokevirtual 238, 3), (16, .aload_n 0, 1), (17, .getfield 61, 3), (20, .getfield 241, 3), (23, .iload_n 1, 1), (24, .iaload, 1), (25, .ireturn, 1)]
theorem tbX8_touches_0_ok : tbX8_touches_0.all (fun q => decide (decode cX8_touches q.1 = .ok q.2)) = true := by decide +kernel
theorem dX8_touches_0 : decode cX8_touches 0 = .ok (.aload_n 0, 1) := xdt tbX8_touches_0_ok 0 rfl
theorem dX8_touches_1 : decode cX8_touches 1 = .ok (.iload_n 1, 1) := xdt tbX8_touches_0_ok 1 rfl
theorem dX8_touches_2 : decode cX8_touches 2 = .ok (.invokevirtual 136, 3) := xdt tbX8_touches_0_ok 2 rfl
theorem dX8_touches_5 : decode cX8_touches 5 = .ok (.aload_n 0, 1) := xdt tbX8_touches_0_ok 3 rfl
theorem dX8_touches_6 : decode cX8_touches 6 = .ok (.getfield 61, 3) := xdt tbX8_touches_0_ok 4 rfl
theorem dX8_touches_9 : decode cX8_touches 9 = .ok (.aload_n 0, 1) := xdt tbX8_touches_0_ok 5 rfl
theorem dX8_touches_10 : decode cX8_touches 10 = .ok (.getfield 23, 3) := xdt tbX8_touches_0_ok 6 rfl
theorem dX8_touches_13 : decode cX8_touches 13 = .ok (.invokevirtual 238, 3) := xdt tbX8_touches_0_ok 7 rfl
theorem dX8_touches_16 : decode cX8_touches 16 = .ok (.aload_n 0, 1) := xdt tbX8_touches_0_ok 8 rfl
theorem dX8_touches_17 : decode cX8_touches 17 = .ok (.getfield 61, 3) := xdt tbX8_touches_0_ok 9 rfl
theorem dX8_touches_20 : decode cX8_touches 20 = .ok (.getfield 241, 3) := xdt tbX8_touches_0_ok 10 rfl
theorem dX8_touches_23 : decode cX8_touches 23 = .ok (.iload_n 1, 1) := xdt tbX8_touches_0_ok 11 rfl
theorem dX8_touches_24 : decode cX8_touches 24 = .ok (.iaload, 1) := xdt tbX8_touches_0_ok 12 rfl
theorem dX8_touches_25 : decode cX8_touches 25 = .ok (.ireturn, 1) := xdt tbX8_touches_0_ok 13 rfl
def tbX8_reach_0 : List (Nat × Instr × Nat) := [(0, .aload_n 0, 1), (1, .iload_n 1, 1), (2, .invokevirtual 136, 3), (5, .aload_n 0, 1), (6, .getfield 61, 3), (9, .aload_n 0, 1), (10, .getfield 23, 3), (13, .invokevirtual 238, 3), (16, .aload_n 0, 1), (17, .getfield 61, 3), (20, .getfield 244, 3), (23, .iload_n 1, 1), (24, .iaload, 1), (25, .ireturn, 1)]
theorem tbX8_reach_0_ok : tbX8_reach_0.all (fun q => decide (decode cX8_reach q.1 = .ok q.2)) = true := by decide +kernel
theorem dX8_reach_0 : decode cX8_reach 0 = .ok (.aload_n 0, 1) := xdt tbX8_reach_0_ok 0 rfl
theorem dX8_reach_1 : decode cX8_reach 1 = .ok (.iload_n 1, 1) := xdt tbX8_reach_0_ok 1 rfl
theorem dX8_reach_2 : decode cX8_reach 2 = .ok (.invokevirtual 136, 3) := xdt tbX8_reach_0_ok 2 rfl
theorem dX8_reach_5 : decode cX8_reach 5 = .ok (.aload_n 0, 1) := xdt tbX8_reach_0_ok 3 rfl
theorem dX8_reach_6 : decode cX8_reach 6 = .ok (.getfield 61, 3) := xdt tbX8_reach_0_ok 4 rfl
theorem dX8_reach_9 : decode cX8_reach 9 = .ok (.aload_n 0, 1) := xdt tbX8_reach_0_ok 5 rfl
theorem dX8_reach_10 : decode cX8_reach 10 = .ok (.getfield 23, 3) := xdt tbX8_reach_0_ok 6 rfl
theorem dX8_reach_13 : decode cX8_reach 13 = .ok (.invokevirtual 238, 3) := xdt tbX8_reach_0_ok 7 rfl
theorem dX8_reach_16 : decode cX8_reach 16 = .ok (.aload_n 0, 1) := xdt tbX8_reach_0_ok 8 rfl
theorem dX8_reach_17 : decode cX8_reach 17 = .ok (.getfield 61, 3) := xdt tbX8_reach_0_ok 9 rfl
theorem dX8_reach_20 : decode cX8_reach 20 = .ok (.getfield 244, 3) := xdt tbX8_reach_0_ok 10 rfl
theorem dX8_reach_23 : decode cX8_reach 23 = .ok (.iload_n 1, 1) := xdt tbX8_reach_0_ok 11 rfl
theorem dX8_reach_24 : decode cX8_reach 24 = .ok (.iaload, 1) := xdt tbX8_reach_0_ok 12 rfl
theorem dX8_reach_25 : decode cX8_reach 25 = .ok (.ireturn, 1) := xdt tbX8_reach_0_ok 13 rfl
def tbX8_ring_0 : List (Nat × Instr × Nat) := [(0, .aload_n 0, 1), (1, .iload_n 1, 1), (2, .invokevirtual 136, 3), (5, .aload_n 0, 1), (6, .getfield 61, 3), (9, .aload_n 0, 1), (10, .getfield 23, 3), (13, .invokevirtual 238, 3), (16, .aload_n 0, 1), (17, .getfield 61, 3), (20, .iload_n 1, 1), (21, .invokevirtual 247, 3), (24, .ireturn, 1)]
theorem tbX8_ring_0_ok : tbX8_ring_0.all (fun q => decide (decode cX8_ring q.1 = .ok q.2)) = true := by decide +kernel
theorem dX8_ring_0 : decode cX8_ring 0 = .ok (.aload_n 0, 1) := xdt tbX8_ring_0_ok 0 rfl
theorem dX8_ring_1 : decode cX8_ring 1 = .ok (.iload_n 1, 1) := xdt tbX8_ring_0_ok 1 rfl
theorem dX8_ring_2 : decode cX8_ring 2 = .ok (.invokevirtual 136, 3) := xdt tbX8_ring_0_ok 2 rfl
theorem dX8_ring_5 : decode cX8_ring 5 = .ok (.aload_n 0, 1) := xdt tbX8_ring_0_ok 3 rfl
theorem dX8_ring_6 : decode cX8_ring 6 = .ok (.getfield 61, 3) := xdt tbX8_ring_0_ok 4 rfl
theorem dX8_ring_9 : decode cX8_ring 9 = .ok (.aload_n 0, 1) := xdt tbX8_ring_0_ok 5 rfl
theorem dX8_ring_10 : decode cX8_ring 10 = .ok (.getfield 23, 3) := xdt tbX8_ring_0_ok 6 rfl
theorem dX8_ring_13 : decode cX8_ring 13 = .ok (.invokevirtual 238, 3) := xdt tbX8_ring_0_ok 7 rfl
theorem dX8_ring_16 : decode cX8_ring 16 = .ok (.aload_n 0, 1) := xdt tbX8_ring_0_ok 8 rfl
theorem dX8_ring_17 : decode cX8_ring 17 = .ok (.getfield 61, 3) := xdt tbX8_ring_0_ok 9 rfl
theorem dX8_ring_20 : decode cX8_ring 20 = .ok (.iload_n 1, 1) := xdt tbX8_ring_0_ok 10 rfl
theorem dX8_ring_21 : decode cX8_ring 21 = .ok (.invokevirtual 247, 3) := xdt tbX8_ring_0_ok 11 rfl
theorem dX8_ring_24 : decode cX8_ring 24 = .ok (.ireturn, 1) := xdt tbX8_ring_0_ok 12 rfl
def tbX8_least_0 : List (Nat × Instr × Nat) := [(0, .aload_n 0, 1), (1, .iload_n 1, 1), (2, .iconst 1, 1), (3, .invokevirtual 126, 3), (6, .aload_n 0, 1), (7, .getfield 61, 3), (10, .aload_n 0, 1), (11, .getfield 23, 3), (14, .invokevirtual 238, 3), (17, .iload_n 1, 1), (18, .ifCond .ne 13, 3), (21, .aload_n 0, 1), (22, .getfield 61, 3), (25, .invokevirtual 250, 3), (28, .goto 10, 3), (31, .aload_n 0, 1), (32, .getfield 61, 3), (35, .invokevirtual 253, 3), (38, .ireturn, 1)]
theorem tbX8_least_0_ok : tbX8_least_0.all (fun q => decide (decode cX8_least q.1 = .ok q.2)) = true := by decide +kernel
theorem dX8_least_0 : decode cX8_least 0 = .ok (.aload_n 0, 1) := xdt tbX8_least_0_ok 0 rfl
theorem dX8_least_1 : decode cX8_least 1 = .ok (.iload_n 1, 1) := xdt tbX8_least_0_ok 1 rfl
theorem dX8_least_2 : decode cX8_least 2 = .ok (.iconst 1, 1) := xdt tbX8_least_0_ok 2 rfl
theorem dX8_least_3 : decode cX8_least 3 = .ok (.invokevirtual 126, 3) := xdt tbX8_least_0_ok 3 rfl
theorem dX8_least_6 : decode cX8_least 6 = .ok (.aload_n 0, 1) := xdt tbX8_least_0_ok 4 rfl
theorem dX8_least_7 : decode cX8_least 7 = .ok (.getfield 61, 3) := xdt tbX8_least_0_ok 5 rfl
theorem dX8_least_10 : decode cX8_least 10 = .ok (.aload_n 0, 1) := xdt tbX8_least_0_ok 6 rfl
theorem dX8_least_11 : decode cX8_least 11 = .ok (.getfield 23, 3) := xdt tbX8_least_0_ok 7 rfl
theorem dX8_least_14 : decode cX8_least 14 = .ok (.invokevirtual 238, 3) := xdt tbX8_least_0_ok 8 rfl
theorem dX8_least_17 : decode cX8_least 17 = .ok (.iload_n 1, 1) := xdt tbX8_least_0_ok 9 rfl
theorem dX8_least_18 : decode cX8_least 18 = .ok (.ifCond .ne 13, 3) := xdt tbX8_least_0_ok 10 rfl
theorem dX8_least_21 : decode cX8_least 21 = .ok (.aload_n 0, 1) := xdt tbX8_least_0_ok 11 rfl
theorem dX8_least_22 : decode cX8_least 22 = .ok (.getfield 61, 3) := xdt tbX8_least_0_ok 12 rfl
theorem dX8_least_25 : decode cX8_least 25 = .ok (.invokevirtual 250, 3) := xdt tbX8_least_0_ok 13 rfl
theorem dX8_least_28 : decode cX8_least 28 = .ok (.goto 10, 3) := xdt tbX8_least_0_ok 14 rfl
theorem dX8_least_31 : decode cX8_least 31 = .ok (.aload_n 0, 1) := xdt tbX8_least_0_ok 15 rfl
theorem dX8_least_32 : decode cX8_least 32 = .ok (.getfield 61, 3) := xdt tbX8_least_0_ok 16 rfl
theorem dX8_least_35 : decode cX8_least 35 = .ok (.invokevirtual 253, 3) := xdt tbX8_least_0_ok 17 rfl
theorem dX8_least_38 : decode cX8_least 38 = .ok (.ireturn, 1) := xdt tbX8_least_0_ok 18 rfl
def tbX8_breaks_0 : List (Nat × Instr × Nat) := [(0, .aload_n 0, 1), (1, .aload_n 0, 1), (2, .iload_n 1, 1), (3, .invokevirtual 170, 3), (6, .invokevirtual 76, 3), (9, .aload_n 0, 1), (10, .getfield 61, 3), (13, .aload_n 0, 1), (14, .getfield 23, 3), (17, .invokevirtual 238, 3), (20, .aload_n 0, 1), (21, .getfield 61, 3), (24, .aload_n 0, 1), (25, .getfield 46, 3), (28, .invokevirtual 256, 3), (31, .ireturn, 1)]
theorem tbX8_breaks_0_ok : tbX8_breaks_0.all (fun q => decide (decode cX8_breaks q.1 = .ok q.2)) = true := by decide +kernel
theorem dX8_breaks_0 : decode cX8_breaks 0 = .ok (.aload_n 0, 1) := xdt tbX8_breaks_0_ok 0 rfl
theorem dX8_breaks_1 : decode cX8_breaks 1 = .ok (.aload_n 0, 1) := xdt tbX8_breaks_0_ok 1 rfl
theorem dX8_breaks_2 : decode cX8_breaks 2 = .ok (.iload_n 1, 1) := xdt tbX8_breaks_0_ok 2 rfl
theorem dX8_breaks_3 : decode cX8_breaks 3 = .ok (.invokevirtual 170, 3) := xdt tbX8_breaks_0_ok 3 rfl
theorem dX8_breaks_6 : decode cX8_breaks 6 = .ok (.invokevirtual 76, 3) := xdt tbX8_breaks_0_ok 4 rfl
theorem dX8_breaks_9 : decode cX8_breaks 9 = .ok (.aload_n 0, 1) := xdt tbX8_breaks_0_ok 5 rfl
theorem dX8_breaks_10 : decode cX8_breaks 10 = .ok (.getfield 61, 3) := xdt tbX8_breaks_0_ok 6 rfl
theorem dX8_breaks_13 : decode cX8_breaks 13 = .ok (.aload_n 0, 1) := xdt tbX8_breaks_0_ok 7 rfl
theorem dX8_breaks_14 : decode cX8_breaks 14 = .ok (.getfield 23, 3) := xdt tbX8_breaks_0_ok 8 rfl
theorem dX8_breaks_17 : decode cX8_breaks 17 = .ok (.invokevirtual 238, 3) := xdt tbX8_breaks_0_ok 9 rfl
theorem dX8_breaks_20 : decode cX8_breaks 20 = .ok (.aload_n 0, 1) := xdt tbX8_breaks_0_ok 10 rfl
theorem dX8_breaks_21 : decode cX8_breaks 21 = .ok (.getfield 61, 3) := xdt tbX8_breaks_0_ok 11 rfl
theorem dX8_breaks_24 : decode cX8_breaks 24 = .ok (.aload_n 0, 1) := xdt tbX8_breaks_0_ok 12 rfl
theorem dX8_breaks_25 : decode cX8_breaks 25 = .ok (.getfield 46, 3) := xdt tbX8_breaks_0_ok 13 rfl
theorem dX8_breaks_28 : decode cX8_breaks 28 = .ok (.invokevirtual 256, 3) := xdt tbX8_breaks_0_ok 14 rfl
theorem dX8_breaks_31 : decode cX8_breaks 31 = .ok (.ireturn, 1) := xdt tbX8_breaks_0_ok 15 rfl
def tbX8_print_0 : List (Nat × Instr × Nat) := [(0, .aload_n 0, 1), (1, .invokevirtual 164, 3), (4, .lconst 0, 1), (5, .lstore_n 1, 1), (6, .iconst 0, 1), (7, .istore_n 3, 1), (8, .iload_n 3, 1), (9, .aload_n 0, 1), (10, .getfield 23, 3), (13, .getfield 97, 3), (16, .if_icmp .ge 93, 3), (19, .lload_n 1, 1), (20, .ldc2_w 260, 3), (23, .lmul, 1), (24, .aload_n 0, 1), (25, .getfield 39, 3), (28, .getfield 187, 3), (31, .iload_n 3, 1), (32, .iaload, 1), (33, .i2l, 1), (34, .ladd, 1), (35, .lstore_n 1, 1), (36, .iconst 0, 1), (37, .istore 4, 2), (39, .iload 4, 2), (41, .aload_n 0, 1), (42, .getfield 23, 3), (45, .getfield 145, 3), (48, .iload_n 3, 1), (49, .iaload, 1), (50, .if_icmp .ge 53, 3), (53, .aload_n 0, 1), (54, .getfield 23, 3), (57, .iload_n 3, 1), (58, .iload 4, 2), (60, .invokevirtual 117, 3), (63, .istore 5, 2), (65, .aload_n 0, 1), (66, .getfield 23, 3), (69, .getfield 151, 3), (72, .iload 5, 2), (74, .iaload, 1), (75, .iconst 1, 1), (76, .if_icmp .ne 21, 3), (79, .lload_n 1, 1), (80, .ldc2_w 260, 3), (83, .lmul, 1), (84, .aload_n 0, 1), (85, .getfield 39, 3), (88, .getfield 184, 3), (91, .iload 5, 2), (93, .iaload, 1), (94, .i2l, 1), (95, .ladd, 1), (96, .lstore_n 1, 1), (97, .iinc 4 1, 3), (100, .goto (-61), 3), (103, .iinc 3 1, 3), (106, .goto (-98), 3), (109, .lload_n 1, 1)]
theorem tbX8_print_0_ok : tbX8_print_0.all (fun q => decide (decode cX8_print q.1 = .ok q.2)) = true := by decide +kernel
theorem dX8_print_0 : decode cX8_print 0 = .ok (.aload_n 0, 1) := xdt tbX8_print_0_ok 0 rfl
theorem dX8_print_1 : decode cX8_print 1 = .ok (.invokevirtual 164, 3) := xdt tbX8_print_0_ok 1 rfl
theorem dX8_print_4 : decode cX8_print 4 = .ok (.lconst 0, 1) := xdt tbX8_print_0_ok 2 rfl
theorem dX8_print_5 : decode cX8_print 5 = .ok (.lstore_n 1, 1) := xdt tbX8_print_0_ok 3 rfl
theorem dX8_print_6 : decode cX8_print 6 = .ok (.iconst 0, 1) := xdt tbX8_print_0_ok 4 rfl
theorem dX8_print_7 : decode cX8_print 7 = .ok (.istore_n 3, 1) := xdt tbX8_print_0_ok 5 rfl
theorem dX8_print_8 : decode cX8_print 8 = .ok (.iload_n 3, 1) := xdt tbX8_print_0_ok 6 rfl
theorem dX8_print_9 : decode cX8_print 9 = .ok (.aload_n 0, 1) := xdt tbX8_print_0_ok 7 rfl
theorem dX8_print_10 : decode cX8_print 10 = .ok (.getfield 23, 3) := xdt tbX8_print_0_ok 8 rfl
theorem dX8_print_13 : decode cX8_print 13 = .ok (.getfield 97, 3) := xdt tbX8_print_0_ok 9 rfl
theorem dX8_print_16 : decode cX8_print 16 = .ok (.if_icmp .ge 93, 3) := xdt tbX8_print_0_ok 10 rfl
theorem dX8_print_19 : decode cX8_print 19 = .ok (.lload_n 1, 1) := xdt tbX8_print_0_ok 11 rfl
theorem dX8_print_20 : decode cX8_print 20 = .ok (.ldc2_w 260, 3) := xdt tbX8_print_0_ok 12 rfl
theorem dX8_print_23 : decode cX8_print 23 = .ok (.lmul, 1) := xdt tbX8_print_0_ok 13 rfl
theorem dX8_print_24 : decode cX8_print 24 = .ok (.aload_n 0, 1) := xdt tbX8_print_0_ok 14 rfl
theorem dX8_print_25 : decode cX8_print 25 = .ok (.getfield 39, 3) := xdt tbX8_print_0_ok 15 rfl
theorem dX8_print_28 : decode cX8_print 28 = .ok (.getfield 187, 3) := xdt tbX8_print_0_ok 16 rfl
theorem dX8_print_31 : decode cX8_print 31 = .ok (.iload_n 3, 1) := xdt tbX8_print_0_ok 17 rfl
theorem dX8_print_32 : decode cX8_print 32 = .ok (.iaload, 1) := xdt tbX8_print_0_ok 18 rfl
theorem dX8_print_33 : decode cX8_print 33 = .ok (.i2l, 1) := xdt tbX8_print_0_ok 19 rfl
theorem dX8_print_34 : decode cX8_print 34 = .ok (.ladd, 1) := xdt tbX8_print_0_ok 20 rfl
theorem dX8_print_35 : decode cX8_print 35 = .ok (.lstore_n 1, 1) := xdt tbX8_print_0_ok 21 rfl
theorem dX8_print_36 : decode cX8_print 36 = .ok (.iconst 0, 1) := xdt tbX8_print_0_ok 22 rfl
theorem dX8_print_37 : decode cX8_print 37 = .ok (.istore 4, 2) := xdt tbX8_print_0_ok 23 rfl
theorem dX8_print_39 : decode cX8_print 39 = .ok (.iload 4, 2) := xdt tbX8_print_0_ok 24 rfl
theorem dX8_print_41 : decode cX8_print 41 = .ok (.aload_n 0, 1) := xdt tbX8_print_0_ok 25 rfl
theorem dX8_print_42 : decode cX8_print 42 = .ok (.getfield 23, 3) := xdt tbX8_print_0_ok 26 rfl
theorem dX8_print_45 : decode cX8_print 45 = .ok (.getfield 145, 3) := xdt tbX8_print_0_ok 27 rfl
theorem dX8_print_48 : decode cX8_print 48 = .ok (.iload_n 3, 1) := xdt tbX8_print_0_ok 28 rfl
theorem dX8_print_49 : decode cX8_print 49 = .ok (.iaload, 1) := xdt tbX8_print_0_ok 29 rfl
theorem dX8_print_50 : decode cX8_print 50 = .ok (.if_icmp .ge 53, 3) := xdt tbX8_print_0_ok 30 rfl
theorem dX8_print_53 : decode cX8_print 53 = .ok (.aload_n 0, 1) := xdt tbX8_print_0_ok 31 rfl
theorem dX8_print_54 : decode cX8_print 54 = .ok (.getfield 23, 3) := xdt tbX8_print_0_ok 32 rfl
theorem dX8_print_57 : decode cX8_print 57 = .ok (.iload_n 3, 1) := xdt tbX8_print_0_ok 33 rfl
theorem dX8_print_58 : decode cX8_print 58 = .ok (.iload 4, 2) := xdt tbX8_print_0_ok 34 rfl
theorem dX8_print_60 : decode cX8_print 60 = .ok (.invokevirtual 117, 3) := xdt tbX8_print_0_ok 35 rfl
theorem dX8_print_63 : decode cX8_print 63 = .ok (.istore 5, 2) := xdt tbX8_print_0_ok 36 rfl
theorem dX8_print_65 : decode cX8_print 65 = .ok (.aload_n 0, 1) := xdt tbX8_print_0_ok 37 rfl
theorem dX8_print_66 : decode cX8_print 66 = .ok (.getfield 23, 3) := xdt tbX8_print_0_ok 38 rfl
theorem dX8_print_69 : decode cX8_print 69 = .ok (.getfield 151, 3) := xdt tbX8_print_0_ok 39 rfl
theorem dX8_print_72 : decode cX8_print 72 = .ok (.iload 5, 2) := xdt tbX8_print_0_ok 40 rfl
theorem dX8_print_74 : decode cX8_print 74 = .ok (.iaload, 1) := xdt tbX8_print_0_ok 41 rfl
theorem dX8_print_75 : decode cX8_print 75 = .ok (.iconst 1, 1) := xdt tbX8_print_0_ok 42 rfl
theorem dX8_print_76 : decode cX8_print 76 = .ok (.if_icmp .ne 21, 3) := xdt tbX8_print_0_ok 43 rfl
theorem dX8_print_79 : decode cX8_print 79 = .ok (.lload_n 1, 1) := xdt tbX8_print_0_ok 44 rfl
theorem dX8_print_80 : decode cX8_print 80 = .ok (.ldc2_w 260, 3) := xdt tbX8_print_0_ok 45 rfl
theorem dX8_print_83 : decode cX8_print 83 = .ok (.lmul, 1) := xdt tbX8_print_0_ok 46 rfl
theorem dX8_print_84 : decode cX8_print 84 = .ok (.aload_n 0, 1) := xdt tbX8_print_0_ok 47 rfl
theorem dX8_print_85 : decode cX8_print 85 = .ok (.getfield 39, 3) := xdt tbX8_print_0_ok 48 rfl
theorem dX8_print_88 : decode cX8_print 88 = .ok (.getfield 184, 3) := xdt tbX8_print_0_ok 49 rfl
theorem dX8_print_91 : decode cX8_print 91 = .ok (.iload 5, 2) := xdt tbX8_print_0_ok 50 rfl
theorem dX8_print_93 : decode cX8_print 93 = .ok (.iaload, 1) := xdt tbX8_print_0_ok 51 rfl
theorem dX8_print_94 : decode cX8_print 94 = .ok (.i2l, 1) := xdt tbX8_print_0_ok 52 rfl
theorem dX8_print_95 : decode cX8_print 95 = .ok (.ladd, 1) := xdt tbX8_print_0_ok 53 rfl
theorem dX8_print_96 : decode cX8_print 96 = .ok (.lstore_n 1, 1) := xdt tbX8_print_0_ok 54 rfl
theorem dX8_print_97 : decode cX8_print 97 = .ok (.iinc 4 1, 3) := xdt tbX8_print_0_ok 55 rfl
theorem dX8_print_100 : decode cX8_print 100 = .ok (.goto (-61), 3) := xdt tbX8_print_0_ok 56 rfl
theorem dX8_print_103 : decode cX8_print 103 = .ok (.iinc 3 1, 3) := xdt tbX8_print_0_ok 57 rfl
theorem dX8_print_106 : decode cX8_print 106 = .ok (.goto (-98), 3) := xdt tbX8_print_0_ok 58 rfl
theorem dX8_print_109 : decode cX8_print 109 = .ok (.lload_n 1, 1) := xdt tbX8_print_0_ok 59 rfl
def tbX8_print_60 : List (Nat × Instr × Nat) := [(110, .lreturn, 1)]
theorem tbX8_print_60_ok : tbX8_print_60.all (fun q => decide (decode cX8_print q.1 = .ok q.2)) = true := by decide +kernel
theorem dX8_print_110 : decode cX8_print 110 = .ok (.lreturn, 1) := xdt tbX8_print_60_ok 0 rfl
def tbX8_status_0 : List (Nat × Instr × Nat) := [(0, .iload_n 1, 1), (1, .ifCond .ne 8, 3), (4, .aload_n 0, 1), (5, .getfield 262, 3), (8, .ireturn, 1), (9, .iload_n 1, 1), (10, .iconst 1, 1), (11, .if_icmp .ne 10, 3), (14, .aload_n 0, 1), (15, .getfield 265, 3), (18, .goto 4, 3), (21, .iconst (-1), 1), (22, .ireturn, 1)]
theorem tbX8_status_0_ok : tbX8_status_0.all (fun q => decide (decode cX8_status q.1 = .ok q.2)) = true := by decide +kernel
theorem dX8_status_0 : decode cX8_status 0 = .ok (.iload_n 1, 1) := xdt tbX8_status_0_ok 0 rfl
theorem dX8_status_1 : decode cX8_status 1 = .ok (.ifCond .ne 8, 3) := xdt tbX8_status_0_ok 1 rfl
theorem dX8_status_4 : decode cX8_status 4 = .ok (.aload_n 0, 1) := xdt tbX8_status_0_ok 2 rfl
theorem dX8_status_5 : decode cX8_status 5 = .ok (.getfield 262, 3) := xdt tbX8_status_0_ok 3 rfl
theorem dX8_status_8 : decode cX8_status 8 = .ok (.ireturn, 1) := xdt tbX8_status_0_ok 4 rfl
theorem dX8_status_9 : decode cX8_status 9 = .ok (.iload_n 1, 1) := xdt tbX8_status_0_ok 5 rfl
theorem dX8_status_10 : decode cX8_status 10 = .ok (.iconst 1, 1) := xdt tbX8_status_0_ok 6 rfl
theorem dX8_status_11 : decode cX8_status 11 = .ok (.if_icmp .ne 10, 3) := xdt tbX8_status_0_ok 7 rfl
theorem dX8_status_14 : decode cX8_status 14 = .ok (.aload_n 0, 1) := xdt tbX8_status_0_ok 8 rfl
theorem dX8_status_15 : decode cX8_status 15 = .ok (.getfield 265, 3) := xdt tbX8_status_0_ok 9 rfl
theorem dX8_status_18 : decode cX8_status 18 = .ok (.goto 4, 3) := xdt tbX8_status_0_ok 10 rfl
theorem dX8_status_21 : decode cX8_status 21 = .ok (.iconst (-1), 1) := xdt tbX8_status_0_ok 11 rfl
theorem dX8_status_22 : decode cX8_status 22 = .ok (.ireturn, 1) := xdt tbX8_status_0_ok 12 rfl
def tbX9_thrown_0 : List (Nat × Instr × Nat) := [(0, .aload_n 0, 1), (1, .getfield 91, 3), (4, .ireturn, 1)]
theorem tbX9_thrown_0_ok : tbX9_thrown_0.all (fun q => decide (decode cX9_thrown q.1 = .ok q.2)) = true := by decide +kernel
theorem dX9_thrown_0 : decode cX9_thrown 0 = .ok (.aload_n 0, 1) := xdt tbX9_thrown_0_ok 0 rfl
theorem dX9_thrown_1 : decode cX9_thrown 1 = .ok (.getfield 91, 3) := xdt tbX9_thrown_0_ok 1 rfl
theorem dX9_thrown_4 : decode cX9_thrown 4 = .ok (.ireturn, 1) := xdt tbX9_thrown_0_ok 2 rfl
def tbX9_bad_0 : List (Nat × Instr × Nat) := [(0, .iload_n 1, 1), (1, .ifCond .eq 25, 3), (4, .aload_n 0, 1), (5, .getfield 91, 3), (8, .ifCond .ne 18, 3), (11, .aload_n 0, 1), (12, .iload_n 2, 1), (13, .putfield 91, 3), (16, .aload_n 0, 1), (17, .getfield 9, 3), (20, .iload_n 3, 1), (21, .dup2, 1), (22, .iaload, 1), (23, .iconst 1, 1), (24, .iadd, 1), (25, .iastore, 1), (26, .aload_n 0, 1), (27, .getfield 91, 3), (30, .ifCond .eq 7, 3), (33, .iconst 1, 1), (34, .goto 4, 3), (37, .iconst 0, 1), (38, .ireturn, 1)]
theorem tbX9_bad_0_ok : tbX9_bad_0.all (fun q => decide (decode cX9_bad q.1 = .ok q.2)) = true := by decide +kernel
theorem dX9_bad_0 : decode cX9_bad 0 = .ok (.iload_n 1, 1) := xdt tbX9_bad_0_ok 0 rfl
theorem dX9_bad_1 : decode cX9_bad 1 = .ok (.ifCond .eq 25, 3) := xdt tbX9_bad_0_ok 1 rfl
theorem dX9_bad_4 : decode cX9_bad 4 = .ok (.aload_n 0, 1) := xdt tbX9_bad_0_ok 2 rfl
theorem dX9_bad_5 : decode cX9_bad 5 = .ok (.getfield 91, 3) := xdt tbX9_bad_0_ok 3 rfl
theorem dX9_bad_8 : decode cX9_bad 8 = .ok (.ifCond .ne 18, 3) := xdt tbX9_bad_0_ok 4 rfl
theorem dX9_bad_11 : decode cX9_bad 11 = .ok (.aload_n 0, 1) := xdt tbX9_bad_0_ok 5 rfl
theorem dX9_bad_12 : decode cX9_bad 12 = .ok (.iload_n 2, 1) := xdt tbX9_bad_0_ok 6 rfl
theorem dX9_bad_13 : decode cX9_bad 13 = .ok (.putfield 91, 3) := xdt tbX9_bad_0_ok 7 rfl
theorem dX9_bad_16 : decode cX9_bad 16 = .ok (.aload_n 0, 1) := xdt tbX9_bad_0_ok 8 rfl
theorem dX9_bad_17 : decode cX9_bad 17 = .ok (.getfield 9, 3) := xdt tbX9_bad_0_ok 9 rfl
theorem dX9_bad_20 : decode cX9_bad 20 = .ok (.iload_n 3, 1) := xdt tbX9_bad_0_ok 10 rfl
theorem dX9_bad_21 : decode cX9_bad 21 = .ok (.dup2, 1) := xdt tbX9_bad_0_ok 11 rfl
theorem dX9_bad_22 : decode cX9_bad 22 = .ok (.iaload, 1) := xdt tbX9_bad_0_ok 12 rfl
theorem dX9_bad_23 : decode cX9_bad 23 = .ok (.iconst 1, 1) := xdt tbX9_bad_0_ok 13 rfl
theorem dX9_bad_24 : decode cX9_bad 24 = .ok (.iadd, 1) := xdt tbX9_bad_0_ok 14 rfl
theorem dX9_bad_25 : decode cX9_bad 25 = .ok (.iastore, 1) := xdt tbX9_bad_0_ok 15 rfl
theorem dX9_bad_26 : decode cX9_bad 26 = .ok (.aload_n 0, 1) := xdt tbX9_bad_0_ok 16 rfl
theorem dX9_bad_27 : decode cX9_bad 27 = .ok (.getfield 91, 3) := xdt tbX9_bad_0_ok 17 rfl
theorem dX9_bad_30 : decode cX9_bad 30 = .ok (.ifCond .eq 7, 3) := xdt tbX9_bad_0_ok 18 rfl
theorem dX9_bad_33 : decode cX9_bad 33 = .ok (.iconst 1, 1) := xdt tbX9_bad_0_ok 19 rfl
theorem dX9_bad_34 : decode cX9_bad 34 = .ok (.goto 4, 3) := xdt tbX9_bad_0_ok 20 rfl
theorem dX9_bad_37 : decode cX9_bad 37 = .ok (.iconst 0, 1) := xdt tbX9_bad_0_ok 21 rfl
theorem dX9_bad_38 : decode cX9_bad 38 = .ok (.ireturn, 1) := xdt tbX9_bad_0_ok 22 rfl
def tbX9_in_0 : List (Nat × Instr × Nat) := [(0, .iload_n 0, 1), (1, .iload_n 1, 1), (2, .if_icmp .lt 12, 3), (5, .iload_n 0, 1), (6, .iload_n 2, 1), (7, .if_icmp .gt 7, 3), (10, .iconst 1, 1), (11, .goto 4, 3), (14, .iconst 0, 1), (15, .ireturn, 1)]
theorem tbX9_in_0_ok : tbX9_in_0.all (fun q => decide (decode cX9_in q.1 = .ok q.2)) = true := by decide +kernel
theorem dX9_in_0 : decode cX9_in 0 = .ok (.iload_n 0, 1) := xdt tbX9_in_0_ok 0 rfl
theorem dX9_in_1 : decode cX9_in 1 = .ok (.iload_n 1, 1) := xdt tbX9_in_0_ok 1 rfl
theorem dX9_in_2 : decode cX9_in 2 = .ok (.if_icmp .lt 12, 3) := xdt tbX9_in_0_ok 2 rfl
theorem dX9_in_5 : decode cX9_in 5 = .ok (.iload_n 0, 1) := xdt tbX9_in_0_ok 3 rfl
theorem dX9_in_6 : decode cX9_in 6 = .ok (.iload_n 2, 1) := xdt tbX9_in_0_ok 4 rfl
theorem dX9_in_7 : decode cX9_in 7 = .ok (.if_icmp .gt 7, 3) := xdt tbX9_in_0_ok 5 rfl
theorem dX9_in_10 : decode cX9_in 10 = .ok (.iconst 1, 1) := xdt tbX9_in_0_ok 6 rfl
theorem dX9_in_11 : decode cX9_in 11 = .ok (.goto 4, 3) := xdt tbX9_in_0_ok 7 rfl
theorem dX9_in_14 : decode cX9_in 14 = .ok (.iconst 0, 1) := xdt tbX9_in_0_ok 8 rfl
theorem dX9_in_15 : decode cX9_in 15 = .ok (.ireturn, 1) := xdt tbX9_in_0_ok 9 rfl
def tbX9_less_0 : List (Nat × Instr × Nat) := [(0, .iload_n 0, 1), (1, .iload_n 1, 1), (2, .if_icmp .ge 7, 3), (5, .iload_n 0, 1), (6, .goto 4, 3), (9, .iload_n 1, 1), (10, .ireturn, 1)]
theorem tbX9_less_0_ok : tbX9_less_0.all (fun q => decide (decode cX9_less q.1 = .ok q.2)) = true := by decide +kernel
theorem dX9_less_0 : decode cX9_less 0 = .ok (.iload_n 0, 1) := xdt tbX9_less_0_ok 0 rfl
theorem dX9_less_1 : decode cX9_less 1 = .ok (.iload_n 1, 1) := xdt tbX9_less_0_ok 1 rfl
theorem dX9_less_2 : decode cX9_less 2 = .ok (.if_icmp .ge 7, 3) := xdt tbX9_less_0_ok 2 rfl
theorem dX9_less_5 : decode cX9_less 5 = .ok (.iload_n 0, 1) := xdt tbX9_less_0_ok 3 rfl
theorem dX9_less_6 : decode cX9_less 6 = .ok (.goto 4, 3) := xdt tbX9_less_0_ok 4 rfl
theorem dX9_less_9 : decode cX9_less 9 = .ok (.iload_n 1, 1) := xdt tbX9_less_0_ok 5 rfl
theorem dX9_less_10 : decode cX9_less 10 = .ok (.ireturn, 1) := xdt tbX9_less_0_ok 6 rfl
def tbX9_more_0 : List (Nat × Instr × Nat) := [(0, .iload_n 0, 1), (1, .iload_n 1, 1), (2, .if_icmp .le 7, 3), (5, .iload_n 0, 1), (6, .goto 4, 3), (9, .iload_n 1, 1), (10, .ireturn, 1)]
theorem tbX9_more_0_ok : tbX9_more_0.all (fun q => decide (decode cX9_more q.1 = .ok q.2)) = true := by decide +kernel
theorem dX9_more_0 : decode cX9_more 0 = .ok (.iload_n 0, 1) := xdt tbX9_more_0_ok 0 rfl
theorem dX9_more_1 : decode cX9_more 1 = .ok (.iload_n 1, 1) := xdt tbX9_more_0_ok 1 rfl
theorem dX9_more_2 : decode cX9_more 2 = .ok (.if_icmp .le 7, 3) := xdt tbX9_more_0_ok 2 rfl
theorem dX9_more_5 : decode cX9_more 5 = .ok (.iload_n 0, 1) := xdt tbX9_more_0_ok 3 rfl
theorem dX9_more_6 : decode cX9_more 6 = .ok (.goto 4, 3) := xdt tbX9_more_0_ok 4 rfl
theorem dX9_more_9 : decode cX9_more 9 = .ok (.iload_n 1, 1) := xdt tbX9_more_0_ok 5 rfl
theorem dX9_more_10 : decode cX9_more 10 = .ok (.ireturn, 1) := xdt tbX9_more_0_ok 6 rfl
def tbX9_bits_0 : List (Nat × Instr × Nat) := [(0, .iconst 0, 1), (1, .istore_n 1, 1), (2, .iload_n 0, 1), (3, .istore_n 2, 1), (4, .iload_n 2, 1), (5, .ifCond .eq 15, 3), (8, .iinc 1 1, 3), (11, .iload_n 2, 1), (12, .iload_n 2, 1), (13, .iconst 1, 1), (14, .isub, 1), (15, .iand, 1), (16, .istore_n 2, 1), (17, .goto (-13), 3), (20, .iload_n 1, 1), (21, .ireturn, 1)]
theorem tbX9_bits_0_ok : tbX9_bits_0.all (fun q => decide (decode cX9_bits q.1 = .ok q.2)) = true := by decide +kernel
theorem dX9_bits_0 : decode cX9_bits 0 = .ok (.iconst 0, 1) := xdt tbX9_bits_0_ok 0 rfl
theorem dX9_bits_1 : decode cX9_bits 1 = .ok (.istore_n 1, 1) := xdt tbX9_bits_0_ok 1 rfl
theorem dX9_bits_2 : decode cX9_bits 2 = .ok (.iload_n 0, 1) := xdt tbX9_bits_0_ok 2 rfl
theorem dX9_bits_3 : decode cX9_bits 3 = .ok (.istore_n 2, 1) := xdt tbX9_bits_0_ok 3 rfl
theorem dX9_bits_4 : decode cX9_bits 4 = .ok (.iload_n 2, 1) := xdt tbX9_bits_0_ok 4 rfl
theorem dX9_bits_5 : decode cX9_bits 5 = .ok (.ifCond .eq 15, 3) := xdt tbX9_bits_0_ok 5 rfl
theorem dX9_bits_8 : decode cX9_bits 8 = .ok (.iinc 1 1, 3) := xdt tbX9_bits_0_ok 6 rfl
theorem dX9_bits_11 : decode cX9_bits 11 = .ok (.iload_n 2, 1) := xdt tbX9_bits_0_ok 7 rfl
theorem dX9_bits_12 : decode cX9_bits 12 = .ok (.iload_n 2, 1) := xdt tbX9_bits_0_ok 8 rfl
theorem dX9_bits_13 : decode cX9_bits 13 = .ok (.iconst 1, 1) := xdt tbX9_bits_0_ok 9 rfl
theorem dX9_bits_14 : decode cX9_bits 14 = .ok (.isub, 1) := xdt tbX9_bits_0_ok 10 rfl
theorem dX9_bits_15 : decode cX9_bits 15 = .ok (.iand, 1) := xdt tbX9_bits_0_ok 11 rfl
theorem dX9_bits_16 : decode cX9_bits 16 = .ok (.istore_n 2, 1) := xdt tbX9_bits_0_ok 12 rfl
theorem dX9_bits_17 : decode cX9_bits 17 = .ok (.goto (-13), 3) := xdt tbX9_bits_0_ok 13 rfl
theorem dX9_bits_20 : decode cX9_bits 20 = .ok (.iload_n 1, 1) := xdt tbX9_bits_0_ok 14 rfl
theorem dX9_bits_21 : decode cX9_bits 21 = .ok (.ireturn, 1) := xdt tbX9_bits_0_ok 15 rfl
def tbX9_feed_0 : List (Nat × Instr × Nat) := [(0, .aload_n 0, 1), (1, .iconst 0, 1), (2, .putfield 91, 3), (5, .aload_n 0, 1), (6, .getfield 94, 3), (9, .bipush 20, 2), (11, .iadd, 1), (12, .sipush 600, 3), (15, .if_icmp .le 5, 3), (18, .iconst (-1), 1), (19, .ireturn, 1), (20, .iconst 0, 1), (21, .istore 6, 2), (23, .iload 6, 2), (25, .bipush 20, 2), (27, .if_icmp .ge 93, 3), (30, .iload 6, 2), (32, .iconst 4, 1), (33, .if_icmp .ge 7, 3), (36, .iload_n 1, 1), (37, .goto 39, 3), (40, .iload 6, 2), (42, .bipush 8, 2), (44, .if_icmp .ge 7, 3), (47, .iload_n 2, 1), (48, .goto 28, 3), (51, .iload 6, 2), (53, .bipush 12, 2), (55, .if_icmp .ge 7, 3), (58, .iload_n 3, 1), (59, .goto 17, 3), (62, .iload 6, 2), (64, .bipush 16, 2), (66, .if_icmp .ge 8, 3), (69, .iload 4, 2), (71, .goto 5, 3), (74, .iload 5, 2), (76, .istore 7, 2), (78, .aload_n 0, 1), (79, .getfield 17, 3), (82, .aload_n 0, 1), (83, .getfield 94, 3), (86, .iload 7, 2), (88, .bipush 24, 2), (90, .bipush 8, 2), (92, .iload 6, 2), (94, .iconst 4, 1), (95, .irem, 1), (96, .imul, 1), (97, .isub, 1), (98, .ishr, 1), (99, .sipush 255, 3), (102, .iand, 1), (103, .iastore, 1), (104, .aload_n 0, 1), (105, .dup, 1), (106, .getfield 94, 3), (109, .iconst 1, 1), (110, .iadd, 1), (111, .putfield 94, 3)]
theorem tbX9_feed_0_ok : tbX9_feed_0.all (fun q => decide (decode cX9_feed q.1 = .ok q.2)) = true := by decide +kernel
theorem dX9_feed_0 : decode cX9_feed 0 = .ok (.aload_n 0, 1) := xdt tbX9_feed_0_ok 0 rfl
theorem dX9_feed_1 : decode cX9_feed 1 = .ok (.iconst 0, 1) := xdt tbX9_feed_0_ok 1 rfl
theorem dX9_feed_2 : decode cX9_feed 2 = .ok (.putfield 91, 3) := xdt tbX9_feed_0_ok 2 rfl
theorem dX9_feed_5 : decode cX9_feed 5 = .ok (.aload_n 0, 1) := xdt tbX9_feed_0_ok 3 rfl
theorem dX9_feed_6 : decode cX9_feed 6 = .ok (.getfield 94, 3) := xdt tbX9_feed_0_ok 4 rfl
theorem dX9_feed_9 : decode cX9_feed 9 = .ok (.bipush 20, 2) := xdt tbX9_feed_0_ok 5 rfl
theorem dX9_feed_11 : decode cX9_feed 11 = .ok (.iadd, 1) := xdt tbX9_feed_0_ok 6 rfl
theorem dX9_feed_12 : decode cX9_feed 12 = .ok (.sipush 600, 3) := xdt tbX9_feed_0_ok 7 rfl
theorem dX9_feed_15 : decode cX9_feed 15 = .ok (.if_icmp .le 5, 3) := xdt tbX9_feed_0_ok 8 rfl
theorem dX9_feed_18 : decode cX9_feed 18 = .ok (.iconst (-1), 1) := xdt tbX9_feed_0_ok 9 rfl
theorem dX9_feed_19 : decode cX9_feed 19 = .ok (.ireturn, 1) := xdt tbX9_feed_0_ok 10 rfl
theorem dX9_feed_20 : decode cX9_feed 20 = .ok (.iconst 0, 1) := xdt tbX9_feed_0_ok 11 rfl
theorem dX9_feed_21 : decode cX9_feed 21 = .ok (.istore 6, 2) := xdt tbX9_feed_0_ok 12 rfl
theorem dX9_feed_23 : decode cX9_feed 23 = .ok (.iload 6, 2) := xdt tbX9_feed_0_ok 13 rfl
theorem dX9_feed_25 : decode cX9_feed 25 = .ok (.bipush 20, 2) := xdt tbX9_feed_0_ok 14 rfl
theorem dX9_feed_27 : decode cX9_feed 27 = .ok (.if_icmp .ge 93, 3) := xdt tbX9_feed_0_ok 15 rfl
theorem dX9_feed_30 : decode cX9_feed 30 = .ok (.iload 6, 2) := xdt tbX9_feed_0_ok 16 rfl
theorem dX9_feed_32 : decode cX9_feed 32 = .ok (.iconst 4, 1) := xdt tbX9_feed_0_ok 17 rfl
theorem dX9_feed_33 : decode cX9_feed 33 = .ok (.if_icmp .ge 7, 3) := xdt tbX9_feed_0_ok 18 rfl
theorem dX9_feed_36 : decode cX9_feed 36 = .ok (.iload_n 1, 1) := xdt tbX9_feed_0_ok 19 rfl
theorem dX9_feed_37 : decode cX9_feed 37 = .ok (.goto 39, 3) := xdt tbX9_feed_0_ok 20 rfl
theorem dX9_feed_40 : decode cX9_feed 40 = .ok (.iload 6, 2) := xdt tbX9_feed_0_ok 21 rfl
theorem dX9_feed_42 : decode cX9_feed 42 = .ok (.bipush 8, 2) := xdt tbX9_feed_0_ok 22 rfl
theorem dX9_feed_44 : decode cX9_feed 44 = .ok (.if_icmp .ge 7, 3) := xdt tbX9_feed_0_ok 23 rfl
theorem dX9_feed_47 : decode cX9_feed 47 = .ok (.iload_n 2, 1) := xdt tbX9_feed_0_ok 24 rfl
theorem dX9_feed_48 : decode cX9_feed 48 = .ok (.goto 28, 3) := xdt tbX9_feed_0_ok 25 rfl
theorem dX9_feed_51 : decode cX9_feed 51 = .ok (.iload 6, 2) := xdt tbX9_feed_0_ok 26 rfl
theorem dX9_feed_53 : decode cX9_feed 53 = .ok (.bipush 12, 2) := xdt tbX9_feed_0_ok 27 rfl
theorem dX9_feed_55 : decode cX9_feed 55 = .ok (.if_icmp .ge 7, 3) := xdt tbX9_feed_0_ok 28 rfl
theorem dX9_feed_58 : decode cX9_feed 58 = .ok (.iload_n 3, 1) := xdt tbX9_feed_0_ok 29 rfl
theorem dX9_feed_59 : decode cX9_feed 59 = .ok (.goto 17, 3) := xdt tbX9_feed_0_ok 30 rfl
theorem dX9_feed_62 : decode cX9_feed 62 = .ok (.iload 6, 2) := xdt tbX9_feed_0_ok 31 rfl
theorem dX9_feed_64 : decode cX9_feed 64 = .ok (.bipush 16, 2) := xdt tbX9_feed_0_ok 32 rfl
theorem dX9_feed_66 : decode cX9_feed 66 = .ok (.if_icmp .ge 8, 3) := xdt tbX9_feed_0_ok 33 rfl
theorem dX9_feed_69 : decode cX9_feed 69 = .ok (.iload 4, 2) := xdt tbX9_feed_0_ok 34 rfl
theorem dX9_feed_71 : decode cX9_feed 71 = .ok (.goto 5, 3) := xdt tbX9_feed_0_ok 35 rfl
theorem dX9_feed_74 : decode cX9_feed 74 = .ok (.iload 5, 2) := xdt tbX9_feed_0_ok 36 rfl
theorem dX9_feed_76 : decode cX9_feed 76 = .ok (.istore 7, 2) := xdt tbX9_feed_0_ok 37 rfl
theorem dX9_feed_78 : decode cX9_feed 78 = .ok (.aload_n 0, 1) := xdt tbX9_feed_0_ok 38 rfl
theorem dX9_feed_79 : decode cX9_feed 79 = .ok (.getfield 17, 3) := xdt tbX9_feed_0_ok 39 rfl
theorem dX9_feed_82 : decode cX9_feed 82 = .ok (.aload_n 0, 1) := xdt tbX9_feed_0_ok 40 rfl
theorem dX9_feed_83 : decode cX9_feed 83 = .ok (.getfield 94, 3) := xdt tbX9_feed_0_ok 41 rfl
theorem dX9_feed_86 : decode cX9_feed 86 = .ok (.iload 7, 2) := xdt tbX9_feed_0_ok 42 rfl
theorem dX9_feed_88 : decode cX9_feed 88 = .ok (.bipush 24, 2) := xdt tbX9_feed_0_ok 43 rfl
theorem dX9_feed_90 : decode cX9_feed 90 = .ok (.bipush 8, 2) := xdt tbX9_feed_0_ok 44 rfl
theorem dX9_feed_92 : decode cX9_feed 92 = .ok (.iload 6, 2) := xdt tbX9_feed_0_ok 45 rfl
theorem dX9_feed_94 : decode cX9_feed 94 = .ok (.iconst 4, 1) := xdt tbX9_feed_0_ok 46 rfl
theorem dX9_feed_95 : decode cX9_feed 95 = .ok (.irem, 1) := xdt tbX9_feed_0_ok 47 rfl
theorem dX9_feed_96 : decode cX9_feed 96 = .ok (.imul, 1) := xdt tbX9_feed_0_ok 48 rfl
theorem dX9_feed_97 : decode cX9_feed 97 = .ok (.isub, 1) := xdt tbX9_feed_0_ok 49 rfl
theorem dX9_feed_98 : decode cX9_feed 98 = .ok (.ishr, 1) := xdt tbX9_feed_0_ok 50 rfl
theorem dX9_feed_99 : decode cX9_feed 99 = .ok (.sipush 255, 3) := xdt tbX9_feed_0_ok 51 rfl
theorem dX9_feed_102 : decode cX9_feed 102 = .ok (.iand, 1) := xdt tbX9_feed_0_ok 52 rfl
theorem dX9_feed_103 : decode cX9_feed 103 = .ok (.iastore, 1) := xdt tbX9_feed_0_ok 53 rfl
theorem dX9_feed_104 : decode cX9_feed 104 = .ok (.aload_n 0, 1) := xdt tbX9_feed_0_ok 54 rfl
theorem dX9_feed_105 : decode cX9_feed 105 = .ok (.dup, 1) := xdt tbX9_feed_0_ok 55 rfl
theorem dX9_feed_106 : decode cX9_feed 106 = .ok (.getfield 94, 3) := xdt tbX9_feed_0_ok 56 rfl
theorem dX9_feed_109 : decode cX9_feed 109 = .ok (.iconst 1, 1) := xdt tbX9_feed_0_ok 57 rfl
theorem dX9_feed_110 : decode cX9_feed 110 = .ok (.iadd, 1) := xdt tbX9_feed_0_ok 58 rfl
theorem dX9_feed_111 : decode cX9_feed 111 = .ok (.putfield 94, 3) := xdt tbX9_feed_0_ok 59 rfl
def tbX9_feed_60 : List (Nat × Instr × Nat) := [(114, .iinc 6 1, 3), (117, .goto (-94), 3), (120, .aload_n 0, 1), (121, .getfield 94, 3), (124, .ireturn, 1)]
theorem tbX9_feed_60_ok : tbX9_feed_60.all (fun q => decide (decode cX9_feed q.1 = .ok q.2)) = true := by decide +kernel
theorem dX9_feed_114 : decode cX9_feed 114 = .ok (.iinc 6 1, 3) := xdt tbX9_feed_60_ok 0 rfl
theorem dX9_feed_117 : decode cX9_feed 117 = .ok (.goto (-94), 3) := xdt tbX9_feed_60_ok 1 rfl
theorem dX9_feed_120 : decode cX9_feed 120 = .ok (.aload_n 0, 1) := xdt tbX9_feed_60_ok 2 rfl
theorem dX9_feed_121 : decode cX9_feed 121 = .ok (.getfield 94, 3) := xdt tbX9_feed_60_ok 3 rfl
theorem dX9_feed_124 : decode cX9_feed 124 = .ok (.ireturn, 1) := xdt tbX9_feed_60_ok 4 rfl
def tbX9_unitOf_0 : List (Nat × Instr × Nat) := [(0, .aload_n 0, 1), (1, .iconst 5, 1), (2, .bipush 15, 2), (4, .iload_n 1, 1), (5, .imul, 1), (6, .iadd, 1), (7, .iload_n 2, 1), (8, .iadd, 1), (9, .iaload, 1), (10, .ireturn, 1)]
theorem tbX9_unitOf_0_ok : tbX9_unitOf_0.all (fun q => decide (decode cX9_unitOf q.1 = .ok q.2)) = true := by decide +kernel
theorem dX9_unitOf_0 : decode cX9_unitOf 0 = .ok (.aload_n 0, 1) := xdt tbX9_unitOf_0_ok 0 rfl
theorem dX9_unitOf_1 : decode cX9_unitOf 1 = .ok (.iconst 5, 1) := xdt tbX9_unitOf_0_ok 1 rfl
theorem dX9_unitOf_2 : decode cX9_unitOf 2 = .ok (.bipush 15, 2) := xdt tbX9_unitOf_0_ok 2 rfl
theorem dX9_unitOf_4 : decode cX9_unitOf 4 = .ok (.iload_n 1, 1) := xdt tbX9_unitOf_0_ok 3 rfl
theorem dX9_unitOf_5 : decode cX9_unitOf 5 = .ok (.imul, 1) := xdt tbX9_unitOf_0_ok 4 rfl
theorem dX9_unitOf_6 : decode cX9_unitOf 6 = .ok (.iadd, 1) := xdt tbX9_unitOf_0_ok 5 rfl
theorem dX9_unitOf_7 : decode cX9_unitOf 7 = .ok (.iload_n 2, 1) := xdt tbX9_unitOf_0_ok 6 rfl
theorem dX9_unitOf_8 : decode cX9_unitOf 8 = .ok (.iadd, 1) := xdt tbX9_unitOf_0_ok 7 rfl
theorem dX9_unitOf_9 : decode cX9_unitOf 9 = .ok (.iaload, 1) := xdt tbX9_unitOf_0_ok 8 rfl
theorem dX9_unitOf_10 : decode cX9_unitOf 10 = .ok (.ireturn, 1) := xdt tbX9_unitOf_0_ok 9 rfl
def tbX9_memberAt_0 : List (Nat × Instr × Nat) := [(0, .aload_n 0, 1), (1, .iconst 5, 1), (2, .bipush 15, 2), (4, .iload_n 1, 1), (5, .imul, 1), (6, .iadd, 1), (7, .iconst 3, 1), (8, .iadd, 1), (9, .iload_n 2, 1), (10, .iadd, 1), (11, .iaload, 1), (12, .ireturn, 1)]
theorem tbX9_memberAt_0_ok : tbX9_memberAt_0.all (fun q => decide (decode cX9_memberAt q.1 = .ok q.2)) = true := by decide +kernel
theorem dX9_memberAt_0 : decode cX9_memberAt 0 = .ok (.aload_n 0, 1) := xdt tbX9_memberAt_0_ok 0 rfl
theorem dX9_memberAt_1 : decode cX9_memberAt 1 = .ok (.iconst 5, 1) := xdt tbX9_memberAt_0_ok 1 rfl
theorem dX9_memberAt_2 : decode cX9_memberAt 2 = .ok (.bipush 15, 2) := xdt tbX9_memberAt_0_ok 2 rfl
theorem dX9_memberAt_4 : decode cX9_memberAt 4 = .ok (.iload_n 1, 1) := xdt tbX9_memberAt_0_ok 3 rfl
theorem dX9_memberAt_5 : decode cX9_memberAt 5 = .ok (.imul, 1) := xdt tbX9_memberAt_0_ok 4 rfl
theorem dX9_memberAt_6 : decode cX9_memberAt 6 = .ok (.iadd, 1) := xdt tbX9_memberAt_0_ok 5 rfl
theorem dX9_memberAt_7 : decode cX9_memberAt 7 = .ok (.iconst 3, 1) := xdt tbX9_memberAt_0_ok 6 rfl
theorem dX9_memberAt_8 : decode cX9_memberAt 8 = .ok (.iadd, 1) := xdt tbX9_memberAt_0_ok 7 rfl
theorem dX9_memberAt_9 : decode cX9_memberAt 9 = .ok (.iload_n 2, 1) := xdt tbX9_memberAt_0_ok 8 rfl
theorem dX9_memberAt_10 : decode cX9_memberAt 10 = .ok (.iadd, 1) := xdt tbX9_memberAt_0_ok 9 rfl
theorem dX9_memberAt_11 : decode cX9_memberAt 11 = .ok (.iaload, 1) := xdt tbX9_memberAt_0_ok 10 rfl
theorem dX9_memberAt_12 : decode cX9_memberAt 12 = .ok (.ireturn, 1) := xdt tbX9_memberAt_0_ok 11 rfl
def tbX9_ofMember_0 : List (Nat × Instr × Nat) := [(0, .aload_n 0, 1), (1, .bipush 110, 2), (3, .iconst 5, 1), (4, .iload_n 1, 1), (5, .imul, 1), (6, .iadd, 1), (7, .iload_n 2, 1), (8, .iadd, 1), (9, .iaload, 1), (10, .ireturn, 1)]
theorem tbX9_ofMember_0_ok : tbX9_ofMember_0.all (fun q => decide (decode cX9_ofMember q.1 = .ok q.2)) = true := by decide +kernel
theorem dX9_ofMember_0 : decode cX9_ofMember 0 = .ok (.aload_n 0, 1) := xdt tbX9_ofMember_0_ok 0 rfl
theorem dX9_ofMember_1 : decode cX9_ofMember 1 = .ok (.bipush 110, 2) := xdt tbX9_ofMember_0_ok 1 rfl
theorem dX9_ofMember_3 : decode cX9_ofMember 3 = .ok (.iconst 5, 1) := xdt tbX9_ofMember_0_ok 2 rfl
theorem dX9_ofMember_4 : decode cX9_ofMember 4 = .ok (.iload_n 1, 1) := xdt tbX9_ofMember_0_ok 3 rfl
theorem dX9_ofMember_5 : decode cX9_ofMember 5 = .ok (.imul, 1) := xdt tbX9_ofMember_0_ok 4 rfl
theorem dX9_ofMember_6 : decode cX9_ofMember 6 = .ok (.iadd, 1) := xdt tbX9_ofMember_0_ok 5 rfl
theorem dX9_ofMember_7 : decode cX9_ofMember 7 = .ok (.iload_n 2, 1) := xdt tbX9_ofMember_0_ok 6 rfl
theorem dX9_ofMember_8 : decode cX9_ofMember 8 = .ok (.iadd, 1) := xdt tbX9_ofMember_0_ok 7 rfl
theorem dX9_ofMember_9 : decode cX9_ofMember 9 = .ok (.iaload, 1) := xdt tbX9_ofMember_0_ok 8 rfl
theorem dX9_ofMember_10 : decode cX9_ofMember 10 = .ok (.ireturn, 1) := xdt tbX9_ofMember_0_ok 9 rfl
def tbX9_ofAct_0 : List (Nat × Instr × Nat) := [(0, .aload_n 0, 1), (1, .sipush 530, 3), (4, .iconst 4, 1), (5, .iload_n 1, 1), (6, .imul, 1), (7, .iadd, 1), (8, .iload_n 2, 1), (9, .iadd, 1), (10, .iaload, 1), (11, .ireturn, 1)]
theorem tbX9_ofAct_0_ok : tbX9_ofAct_0.all (fun q => decide (decode cX9_ofAct q.1 = .ok q.2)) = true := by decide +kernel
theorem dX9_ofAct_0 : decode cX9_ofAct 0 = .ok (.aload_n 0, 1) := xdt tbX9_ofAct_0_ok 0 rfl
theorem dX9_ofAct_1 : decode cX9_ofAct 1 = .ok (.sipush 530, 3) := xdt tbX9_ofAct_0_ok 1 rfl
theorem dX9_ofAct_4 : decode cX9_ofAct 4 = .ok (.iconst 4, 1) := xdt tbX9_ofAct_0_ok 2 rfl
theorem dX9_ofAct_5 : decode cX9_ofAct 5 = .ok (.iload_n 1, 1) := xdt tbX9_ofAct_0_ok 3 rfl
theorem dX9_ofAct_6 : decode cX9_ofAct 6 = .ok (.imul, 1) := xdt tbX9_ofAct_0_ok 4 rfl
theorem dX9_ofAct_7 : decode cX9_ofAct 7 = .ok (.iadd, 1) := xdt tbX9_ofAct_0_ok 5 rfl
theorem dX9_ofAct_8 : decode cX9_ofAct 8 = .ok (.iload_n 2, 1) := xdt tbX9_ofAct_0_ok 6 rfl
theorem dX9_ofAct_9 : decode cX9_ofAct 9 = .ok (.iadd, 1) := xdt tbX9_ofAct_0_ok 7 rfl
theorem dX9_ofAct_10 : decode cX9_ofAct 10 = .ok (.iaload, 1) := xdt tbX9_ofAct_0_ok 8 rfl
theorem dX9_ofAct_11 : decode cX9_ofAct 11 = .ok (.ireturn, 1) := xdt tbX9_ofAct_0_ok 9 rfl
def tbX9_ofTerm_0 : List (Nat × Instr × Nat) := [(0, .aload_n 0, 1), (1, .sipush 1410, 3), (4, .bipush 6, 2), (6, .iload_n 1, 1), (7, .imul, 1), (8, .iadd, 1), (9, .iload_n 2, 1), (10, .iadd, 1), (11, .iaload, 1), (12, .ireturn, 1)]
theorem tbX9_ofTerm_0_ok : tbX9_ofTerm_0.all (fun q => decide (decode cX9_ofTerm q.1 = .ok q.2)) = true := by decide +kernel
theorem dX9_ofTerm_0 : decode cX9_ofTerm 0 = .ok (.aload_n 0, 1) := xdt tbX9_ofTerm_0_ok 0 rfl
theorem dX9_ofTerm_1 : decode cX9_ofTerm 1 = .ok (.sipush 1410, 3) := xdt tbX9_ofTerm_0_ok 1 rfl
theorem dX9_ofTerm_4 : decode cX9_ofTerm 4 = .ok (.bipush 6, 2) := xdt tbX9_ofTerm_0_ok 2 rfl
theorem dX9_ofTerm_6 : decode cX9_ofTerm 6 = .ok (.iload_n 1, 1) := xdt tbX9_ofTerm_0_ok 3 rfl
theorem dX9_ofTerm_7 : decode cX9_ofTerm 7 = .ok (.imul, 1) := xdt tbX9_ofTerm_0_ok 4 rfl
theorem dX9_ofTerm_8 : decode cX9_ofTerm 8 = .ok (.iadd, 1) := xdt tbX9_ofTerm_0_ok 5 rfl
theorem dX9_ofTerm_9 : decode cX9_ofTerm 9 = .ok (.iload_n 2, 1) := xdt tbX9_ofTerm_0_ok 6 rfl
theorem dX9_ofTerm_10 : decode cX9_ofTerm 10 = .ok (.iadd, 1) := xdt tbX9_ofTerm_0_ok 7 rfl
theorem dX9_ofTerm_11 : decode cX9_ofTerm 11 = .ok (.iaload, 1) := xdt tbX9_ofTerm_0_ok 8 rfl
theorem dX9_ofTerm_12 : decode cX9_ofTerm 12 = .ok (.ireturn, 1) := xdt tbX9_ofTerm_0_ok 9 rfl
def tbX9_unitBy_0 : List (Nat × Instr × Nat) := [(0, .iconst 0, 1), (1, .istore_n 2, 1), (2, .iload_n 2, 1), (3, .aload_n 0, 1), (4, .iconst 0, 1), (5, .iaload, 1), (6, .if_icmp .ge 21, 3), (9, .aload_n 0, 1), (10, .iload_n 2, 1), (11, .iconst 0, 1), (12, .invokestatic 97, 3), (15, .iload_n 1, 1), (16, .if_icmp .ne 5, 3), (19, .iload_n 2, 1), (20, .ireturn, 1), (21, .iinc 2 1, 3), (24, .goto (-22), 3), (27, .iconst (-1), 1), (28, .ireturn, 1)]
theorem tbX9_unitBy_0_ok : tbX9_unitBy_0.all (fun q => decide (decode cX9_unitBy q.1 = .ok q.2)) = true := by decide +kernel
theorem dX9_unitBy_0 : decode cX9_unitBy 0 = .ok (.iconst 0, 1) := xdt tbX9_unitBy_0_ok 0 rfl
theorem dX9_unitBy_1 : decode cX9_unitBy 1 = .ok (.istore_n 2, 1) := xdt tbX9_unitBy_0_ok 1 rfl
theorem dX9_unitBy_2 : decode cX9_unitBy 2 = .ok (.iload_n 2, 1) := xdt tbX9_unitBy_0_ok 2 rfl
theorem dX9_unitBy_3 : decode cX9_unitBy 3 = .ok (.aload_n 0, 1) := xdt tbX9_unitBy_0_ok 3 rfl
theorem dX9_unitBy_4 : decode cX9_unitBy 4 = .ok (.iconst 0, 1) := xdt tbX9_unitBy_0_ok 4 rfl
theorem dX9_unitBy_5 : decode cX9_unitBy 5 = .ok (.iaload, 1) := xdt tbX9_unitBy_0_ok 5 rfl
theorem dX9_unitBy_6 : decode cX9_unitBy 6 = .ok (.if_icmp .ge 21, 3) := xdt tbX9_unitBy_0_ok 6 rfl
theorem dX9_unitBy_9 : decode cX9_unitBy 9 = .ok (.aload_n 0, 1) := xdt tbX9_unitBy_0_ok 7 rfl
theorem dX9_unitBy_10 : decode cX9_unitBy 10 = .ok (.iload_n 2, 1) := xdt tbX9_unitBy_0_ok 8 rfl
theorem dX9_unitBy_11 : decode cX9_unitBy 11 = .ok (.iconst 0, 1) := xdt tbX9_unitBy_0_ok 9 rfl
theorem dX9_unitBy_12 : decode cX9_unitBy 12 = .ok (.invokestatic 97, 3) := xdt tbX9_unitBy_0_ok 10 rfl
theorem dX9_unitBy_15 : decode cX9_unitBy 15 = .ok (.iload_n 1, 1) := xdt tbX9_unitBy_0_ok 11 rfl
theorem dX9_unitBy_16 : decode cX9_unitBy 16 = .ok (.if_icmp .ne 5, 3) := xdt tbX9_unitBy_0_ok 12 rfl
theorem dX9_unitBy_19 : decode cX9_unitBy 19 = .ok (.iload_n 2, 1) := xdt tbX9_unitBy_0_ok 13 rfl
theorem dX9_unitBy_20 : decode cX9_unitBy 20 = .ok (.ireturn, 1) := xdt tbX9_unitBy_0_ok 14 rfl
theorem dX9_unitBy_21 : decode cX9_unitBy 21 = .ok (.iinc 2 1, 3) := xdt tbX9_unitBy_0_ok 15 rfl
theorem dX9_unitBy_24 : decode cX9_unitBy 24 = .ok (.goto (-22), 3) := xdt tbX9_unitBy_0_ok 16 rfl
theorem dX9_unitBy_27 : decode cX9_unitBy 27 = .ok (.iconst (-1), 1) := xdt tbX9_unitBy_0_ok 17 rfl
theorem dX9_unitBy_28 : decode cX9_unitBy 28 = .ok (.ireturn, 1) := xdt tbX9_unitBy_0_ok 18 rfl
def tbX9_named_0 : List (Nat × Instr × Nat) := [(0, .iconst 0, 1), (1, .istore_n 3, 1), (2, .iload_n 3, 1), (3, .aload_n 0, 1), (4, .iload_n 1, 1), (5, .iconst 2, 1), (6, .invokestatic 97, 3), (9, .if_icmp .ge 57, 3), (12, .aload_n 0, 1), (13, .iload_n 1, 1), (14, .iload_n 3, 1), (15, .invokestatic 101, 3), (18, .istore 4, 2), (20, .aload_n 0, 1), (21, .iload 4, 2), (23, .iconst 0, 1), (24, .invokestatic 104, 3), (27, .istore 5, 2), (29, .iload 5, 2), (31, .ifCond .eq 15, 3), (34, .iload 5, 2), (36, .iconst 1, 1), (37, .if_icmp .eq 9, 3), (40, .iload 5, 2), (42, .iconst 4, 1), (43, .if_icmp .ne 17, 3), (46, .aload_n 0, 1), (47, .iload 4, 2), (49, .iconst 1, 1), (50, .invokestatic 104, 3), (53, .iload_n 2, 1), (54, .if_icmp .ne 6, 3), (57, .iload 4, 2), (59, .ireturn, 1), (60, .iinc 3 1, 3), (63, .goto (-61), 3), (66, .iconst (-1), 1), (67, .ireturn, 1)]
theorem tbX9_named_0_ok : tbX9_named_0.all (fun q => decide (decode cX9_named q.1 = .ok q.2)) = true := by decide +kernel
theorem dX9_named_0 : decode cX9_named 0 = .ok (.iconst 0, 1) := xdt tbX9_named_0_ok 0 rfl
theorem dX9_named_1 : decode cX9_named 1 = .ok (.istore_n 3, 1) := xdt tbX9_named_0_ok 1 rfl
theorem dX9_named_2 : decode cX9_named 2 = .ok (.iload_n 3, 1) := xdt tbX9_named_0_ok 2 rfl
theorem dX9_named_3 : decode cX9_named 3 = .ok (.aload_n 0, 1) := xdt tbX9_named_0_ok 3 rfl
theorem dX9_named_4 : decode cX9_named 4 = .ok (.iload_n 1, 1) := xdt tbX9_named_0_ok 4 rfl
theorem dX9_named_5 : decode cX9_named 5 = .ok (.iconst 2, 1) := xdt tbX9_named_0_ok 5 rfl
theorem dX9_named_6 : decode cX9_named 6 = .ok (.invokestatic 97, 3) := xdt tbX9_named_0_ok 6 rfl
theorem dX9_named_9 : decode cX9_named 9 = .ok (.if_icmp .ge 57, 3) := xdt tbX9_named_0_ok 7 rfl
theorem dX9_named_12 : decode cX9_named 12 = .ok (.aload_n 0, 1) := xdt tbX9_named_0_ok 8 rfl
theorem dX9_named_13 : decode cX9_named 13 = .ok (.iload_n 1, 1) := xdt tbX9_named_0_ok 9 rfl
theorem dX9_named_14 : decode cX9_named 14 = .ok (.iload_n 3, 1) := xdt tbX9_named_0_ok 10 rfl
theorem dX9_named_15 : decode cX9_named 15 = .ok (.invokestatic 101, 3) := xdt tbX9_named_0_ok 11 rfl
theorem dX9_named_18 : decode cX9_named 18 = .ok (.istore 4, 2) := xdt tbX9_named_0_ok 12 rfl
theorem dX9_named_20 : decode cX9_named 20 = .ok (.aload_n 0, 1) := xdt tbX9_named_0_ok 13 rfl
theorem dX9_named_21 : decode cX9_named 21 = .ok (.iload 4, 2) := xdt tbX9_named_0_ok 14 rfl
theorem dX9_named_23 : decode cX9_named 23 = .ok (.iconst 0, 1) := xdt tbX9_named_0_ok 15 rfl
theorem dX9_named_24 : decode cX9_named 24 = .ok (.invokestatic 104, 3) := xdt tbX9_named_0_ok 16 rfl
theorem dX9_named_27 : decode cX9_named 27 = .ok (.istore 5, 2) := xdt tbX9_named_0_ok 17 rfl
theorem dX9_named_29 : decode cX9_named 29 = .ok (.iload 5, 2) := xdt tbX9_named_0_ok 18 rfl
theorem dX9_named_31 : decode cX9_named 31 = .ok (.ifCond .eq 15, 3) := xdt tbX9_named_0_ok 19 rfl
theorem dX9_named_34 : decode cX9_named 34 = .ok (.iload 5, 2) := xdt tbX9_named_0_ok 20 rfl
theorem dX9_named_36 : decode cX9_named 36 = .ok (.iconst 1, 1) := xdt tbX9_named_0_ok 21 rfl
theorem dX9_named_37 : decode cX9_named 37 = .ok (.if_icmp .eq 9, 3) := xdt tbX9_named_0_ok 22 rfl
theorem dX9_named_40 : decode cX9_named 40 = .ok (.iload 5, 2) := xdt tbX9_named_0_ok 23 rfl
theorem dX9_named_42 : decode cX9_named 42 = .ok (.iconst 4, 1) := xdt tbX9_named_0_ok 24 rfl
theorem dX9_named_43 : decode cX9_named 43 = .ok (.if_icmp .ne 17, 3) := xdt tbX9_named_0_ok 25 rfl
theorem dX9_named_46 : decode cX9_named 46 = .ok (.aload_n 0, 1) := xdt tbX9_named_0_ok 26 rfl
theorem dX9_named_47 : decode cX9_named 47 = .ok (.iload 4, 2) := xdt tbX9_named_0_ok 27 rfl
theorem dX9_named_49 : decode cX9_named 49 = .ok (.iconst 1, 1) := xdt tbX9_named_0_ok 28 rfl
theorem dX9_named_50 : decode cX9_named 50 = .ok (.invokestatic 104, 3) := xdt tbX9_named_0_ok 29 rfl
theorem dX9_named_53 : decode cX9_named 53 = .ok (.iload_n 2, 1) := xdt tbX9_named_0_ok 30 rfl
theorem dX9_named_54 : decode cX9_named 54 = .ok (.if_icmp .ne 6, 3) := xdt tbX9_named_0_ok 31 rfl
theorem dX9_named_57 : decode cX9_named 57 = .ok (.iload 4, 2) := xdt tbX9_named_0_ok 32 rfl
theorem dX9_named_59 : decode cX9_named 59 = .ok (.ireturn, 1) := xdt tbX9_named_0_ok 33 rfl
theorem dX9_named_60 : decode cX9_named 60 = .ok (.iinc 3 1, 3) := xdt tbX9_named_0_ok 34 rfl
theorem dX9_named_63 : decode cX9_named 63 = .ok (.goto (-61), 3) := xdt tbX9_named_0_ok 35 rfl
theorem dX9_named_66 : decode cX9_named 66 = .ok (.iconst (-1), 1) := xdt tbX9_named_0_ok 36 rfl
theorem dX9_named_67 : decode cX9_named 67 = .ok (.ireturn, 1) := xdt tbX9_named_0_ok 37 rfl
def tbX9_byteAt_0 : List (Nat × Instr × Nat) := [(0, .iload_n 1, 1), (1, .aload_n 0, 1), (2, .getfield 107, 3), (5, .if_icmp .lt 7, 3), (8, .iconst (-1), 1), (9, .goto 9, 3), (12, .aload_n 0, 1), (13, .getfield 17, 3), (16, .iload_n 1, 1), (17, .iaload, 1), (18, .ireturn, 1)]
theorem tbX9_byteAt_0_ok : tbX9_byteAt_0.all (fun q => decide (decode cX9_byteAt q.1 = .ok q.2)) = true := by decide +kernel
theorem dX9_byteAt_0 : decode cX9_byteAt 0 = .ok (.iload_n 1, 1) := xdt tbX9_byteAt_0_ok 0 rfl
theorem dX9_byteAt_1 : decode cX9_byteAt 1 = .ok (.aload_n 0, 1) := xdt tbX9_byteAt_0_ok 1 rfl
theorem dX9_byteAt_2 : decode cX9_byteAt 2 = .ok (.getfield 107, 3) := xdt tbX9_byteAt_0_ok 2 rfl
theorem dX9_byteAt_5 : decode cX9_byteAt 5 = .ok (.if_icmp .lt 7, 3) := xdt tbX9_byteAt_0_ok 3 rfl
theorem dX9_byteAt_8 : decode cX9_byteAt 8 = .ok (.iconst (-1), 1) := xdt tbX9_byteAt_0_ok 4 rfl
theorem dX9_byteAt_9 : decode cX9_byteAt 9 = .ok (.goto 9, 3) := xdt tbX9_byteAt_0_ok 5 rfl
theorem dX9_byteAt_12 : decode cX9_byteAt 12 = .ok (.aload_n 0, 1) := xdt tbX9_byteAt_0_ok 6 rfl
theorem dX9_byteAt_13 : decode cX9_byteAt 13 = .ok (.getfield 17, 3) := xdt tbX9_byteAt_0_ok 7 rfl
theorem dX9_byteAt_16 : decode cX9_byteAt 16 = .ok (.iload_n 1, 1) := xdt tbX9_byteAt_0_ok 8 rfl
theorem dX9_byteAt_17 : decode cX9_byteAt 17 = .ok (.iaload, 1) := xdt tbX9_byteAt_0_ok 9 rfl
theorem dX9_byteAt_18 : decode cX9_byteAt 18 = .ok (.ireturn, 1) := xdt tbX9_byteAt_0_ok 10 rfl
def tbX9_here_0 : List (Nat × Instr × Nat) := [(0, .aload_n 0, 1), (1, .aload_n 0, 1), (2, .getfield 110, 3), (5, .invokevirtual 113, 3), (8, .bipush 32, 2), (10, .if_icmp .ne 16, 3), (13, .aload_n 0, 1), (14, .dup, 1), (15, .getfield 110, 3), (18, .iconst 1, 1), (19, .iadd, 1), (20, .putfield 110, 3), (23, .goto (-23), 3), (26, .aload_n 0, 1), (27, .aload_n 0, 1), (28, .getfield 110, 3), (31, .invokevirtual 113, 3), (34, .ireturn, 1)]
theorem tbX9_here_0_ok : tbX9_here_0.all (fun q => decide (decode cX9_here q.1 = .ok q.2)) = true := by decide +kernel
theorem dX9_here_0 : decode cX9_here 0 = .ok (.aload_n 0, 1) := xdt tbX9_here_0_ok 0 rfl
theorem dX9_here_1 : decode cX9_here 1 = .ok (.aload_n 0, 1) := xdt tbX9_here_0_ok 1 rfl
theorem dX9_here_2 : decode cX9_here 2 = .ok (.getfield 110, 3) := xdt tbX9_here_0_ok 2 rfl
theorem dX9_here_5 : decode cX9_here 5 = .ok (.invokevirtual 113, 3) := xdt tbX9_here_0_ok 3 rfl
theorem dX9_here_8 : decode cX9_here 8 = .ok (.bipush 32, 2) := xdt tbX9_here_0_ok 4 rfl
theorem dX9_here_10 : decode cX9_here 10 = .ok (.if_icmp .ne 16, 3) := xdt tbX9_here_0_ok 5 rfl
theorem dX9_here_13 : decode cX9_here 13 = .ok (.aload_n 0, 1) := xdt tbX9_here_0_ok 6 rfl
theorem dX9_here_14 : decode cX9_here 14 = .ok (.dup, 1) := xdt tbX9_here_0_ok 7 rfl
theorem dX9_here_15 : decode cX9_here 15 = .ok (.getfield 110, 3) := xdt tbX9_here_0_ok 8 rfl
theorem dX9_here_18 : decode cX9_here 18 = .ok (.iconst 1, 1) := xdt tbX9_here_0_ok 9 rfl
theorem dX9_here_19 : decode cX9_here 19 = .ok (.iadd, 1) := xdt tbX9_here_0_ok 10 rfl
theorem dX9_here_20 : decode cX9_here 20 = .ok (.putfield 110, 3) := xdt tbX9_here_0_ok 11 rfl
theorem dX9_here_23 : decode cX9_here 23 = .ok (.goto (-23), 3) := xdt tbX9_here_0_ok 12 rfl
theorem dX9_here_26 : decode cX9_here 26 = .ok (.aload_n 0, 1) := xdt tbX9_here_0_ok 13 rfl
theorem dX9_here_27 : decode cX9_here 27 = .ok (.aload_n 0, 1) := xdt tbX9_here_0_ok 14 rfl
theorem dX9_here_28 : decode cX9_here 28 = .ok (.getfield 110, 3) := xdt tbX9_here_0_ok 15 rfl
theorem dX9_here_31 : decode cX9_here 31 = .ok (.invokevirtual 113, 3) := xdt tbX9_here_0_ok 16 rfl
theorem dX9_here_34 : decode cX9_here 34 = .ok (.ireturn, 1) := xdt tbX9_here_0_ok 17 rfl
def tbX9_fine_0 : List (Nat × Instr × Nat) := [(0, .aload_n 0, 1), (1, .getfield 117, 3), (4, .ifCond .ne 7, 3), (7, .iconst 1, 1), (8, .goto 4, 3), (11, .iconst 0, 1), (12, .ireturn, 1)]
theorem tbX9_fine_0_ok : tbX9_fine_0.all (fun q => decide (decode cX9_fine q.1 = .ok q.2)) = true := by decide +kernel
theorem dX9_fine_0 : decode cX9_fine 0 = .ok (.aload_n 0, 1) := xdt tbX9_fine_0_ok 0 rfl
theorem dX9_fine_1 : decode cX9_fine 1 = .ok (.getfield 117, 3) := xdt tbX9_fine_0_ok 1 rfl
theorem dX9_fine_4 : decode cX9_fine 4 = .ok (.ifCond .ne 7, 3) := xdt tbX9_fine_0_ok 2 rfl
theorem dX9_fine_7 : decode cX9_fine 7 = .ok (.iconst 1, 1) := xdt tbX9_fine_0_ok 3 rfl
theorem dX9_fine_8 : decode cX9_fine 8 = .ok (.goto 4, 3) := xdt tbX9_fine_0_ok 4 rfl
theorem dX9_fine_11 : decode cX9_fine 11 = .ok (.iconst 0, 1) := xdt tbX9_fine_0_ok 5 rfl
theorem dX9_fine_12 : decode cX9_fine 12 = .ok (.ireturn, 1) := xdt tbX9_fine_0_ok 6 rfl
def tbX9_wrong_0 : List (Nat × Instr × Nat) := [(0, .aload_n 0, 1), (1, .getfield 117, 3), (4, .ifCond .ne 13, 3), (7, .aload_n 0, 1), (8, .iload_n 1, 1), (9, .putfield 117, 3), (12, .aload_n 0, 1), (13, .iload_n 2, 1), (14, .putfield 120, 3), (17, .iconst (-1), 1), (18, .ireturn, 1)]
theorem tbX9_wrong_0_ok : tbX9_wrong_0.all (fun q => decide (decode cX9_wrong q.1 = .ok q.2)) = true := by decide +kernel
theorem dX9_wrong_0 : decode cX9_wrong 0 = .ok (.aload_n 0, 1) := xdt tbX9_wrong_0_ok 0 rfl
theorem dX9_wrong_1 : decode cX9_wrong 1 = .ok (.getfield 117, 3) := xdt tbX9_wrong_0_ok 1 rfl
theorem dX9_wrong_4 : decode cX9_wrong 4 = .ok (.ifCond .ne 13, 3) := xdt tbX9_wrong_0_ok 2 rfl
theorem dX9_wrong_7 : decode cX9_wrong 7 = .ok (.aload_n 0, 1) := xdt tbX9_wrong_0_ok 3 rfl
theorem dX9_wrong_8 : decode cX9_wrong 8 = .ok (.iload_n 1, 1) := xdt tbX9_wrong_0_ok 4 rfl
theorem dX9_wrong_9 : decode cX9_wrong 9 = .ok (.putfield 117, 3) := xdt tbX9_wrong_0_ok 5 rfl
theorem dX9_wrong_12 : decode cX9_wrong 12 = .ok (.aload_n 0, 1) := xdt tbX9_wrong_0_ok 6 rfl
theorem dX9_wrong_13 : decode cX9_wrong 13 = .ok (.iload_n 2, 1) := xdt tbX9_wrong_0_ok 7 rfl
theorem dX9_wrong_14 : decode cX9_wrong 14 = .ok (.putfield 120, 3) := xdt tbX9_wrong_0_ok 8 rfl
theorem dX9_wrong_17 : decode cX9_wrong 17 = .ok (.iconst (-1), 1) := xdt tbX9_wrong_0_ok 9 rfl
theorem dX9_wrong_18 : decode cX9_wrong 18 = .ok (.ireturn, 1) := xdt tbX9_wrong_0_ok 10 rfl
def tbX9_isSmall_0 : List (Nat × Instr × Nat) := [(0, .iload_n 0, 1), (1, .bipush 97, 2), (3, .if_icmp .lt 13, 3), (6, .iload_n 0, 1), (7, .bipush 122, 2), (9, .if_icmp .gt 7, 3), (12, .iconst 1, 1), (13, .goto 4, 3), (16, .iconst 0, 1), (17, .ireturn, 1)]
theorem tbX9_isSmall_0_ok : tbX9_isSmall_0.all (fun q => decide (decode cX9_isSmall q.1 = .ok q.2)) = true := by decide +kernel
theorem dX9_isSmall_0 : decode cX9_isSmall 0 = .ok (.iload_n 0, 1) := xdt tbX9_isSmall_0_ok 0 rfl
theorem dX9_isSmall_1 : decode cX9_isSmall 1 = .ok (.bipush 97, 2) := xdt tbX9_isSmall_0_ok 1 rfl
theorem dX9_isSmall_3 : decode cX9_isSmall 3 = .ok (.if_icmp .lt 13, 3) := xdt tbX9_isSmall_0_ok 2 rfl
theorem dX9_isSmall_6 : decode cX9_isSmall 6 = .ok (.iload_n 0, 1) := xdt tbX9_isSmall_0_ok 3 rfl
theorem dX9_isSmall_7 : decode cX9_isSmall 7 = .ok (.bipush 122, 2) := xdt tbX9_isSmall_0_ok 4 rfl
theorem dX9_isSmall_9 : decode cX9_isSmall 9 = .ok (.if_icmp .gt 7, 3) := xdt tbX9_isSmall_0_ok 5 rfl
theorem dX9_isSmall_12 : decode cX9_isSmall 12 = .ok (.iconst 1, 1) := xdt tbX9_isSmall_0_ok 6 rfl
theorem dX9_isSmall_13 : decode cX9_isSmall 13 = .ok (.goto 4, 3) := xdt tbX9_isSmall_0_ok 7 rfl
theorem dX9_isSmall_16 : decode cX9_isSmall 16 = .ok (.iconst 0, 1) := xdt tbX9_isSmall_0_ok 8 rfl
theorem dX9_isSmall_17 : decode cX9_isSmall 17 = .ok (.ireturn, 1) := xdt tbX9_isSmall_0_ok 9 rfl
def tbX9_isBig_0 : List (Nat × Instr × Nat) := [(0, .iload_n 0, 1), (1, .bipush 65, 2), (3, .if_icmp .lt 13, 3), (6, .iload_n 0, 1), (7, .bipush 90, 2), (9, .if_icmp .gt 7, 3), (12, .iconst 1, 1), (13, .goto 4, 3), (16, .iconst 0, 1), (17, .ireturn, 1)]
theorem tbX9_isBig_0_ok : tbX9_isBig_0.all (fun q => decide (decode cX9_isBig q.1 = .ok q.2)) = true := by decide +kernel
theorem dX9_isBig_0 : decode cX9_isBig 0 = .ok (.iload_n 0, 1) := xdt tbX9_isBig_0_ok 0 rfl
theorem dX9_isBig_1 : decode cX9_isBig 1 = .ok (.bipush 65, 2) := xdt tbX9_isBig_0_ok 1 rfl
theorem dX9_isBig_3 : decode cX9_isBig 3 = .ok (.if_icmp .lt 13, 3) := xdt tbX9_isBig_0_ok 2 rfl
theorem dX9_isBig_6 : decode cX9_isBig 6 = .ok (.iload_n 0, 1) := xdt tbX9_isBig_0_ok 3 rfl
theorem dX9_isBig_7 : decode cX9_isBig 7 = .ok (.bipush 90, 2) := xdt tbX9_isBig_0_ok 4 rfl
theorem dX9_isBig_9 : decode cX9_isBig 9 = .ok (.if_icmp .gt 7, 3) := xdt tbX9_isBig_0_ok 5 rfl
theorem dX9_isBig_12 : decode cX9_isBig 12 = .ok (.iconst 1, 1) := xdt tbX9_isBig_0_ok 6 rfl
theorem dX9_isBig_13 : decode cX9_isBig 13 = .ok (.goto 4, 3) := xdt tbX9_isBig_0_ok 7 rfl
theorem dX9_isBig_16 : decode cX9_isBig 16 = .ok (.iconst 0, 1) := xdt tbX9_isBig_0_ok 8 rfl
theorem dX9_isBig_17 : decode cX9_isBig 17 = .ok (.ireturn, 1) := xdt tbX9_isBig_0_ok 9 rfl
def tbX9_isDigit_0 : List (Nat × Instr × Nat) := [(0, .iload_n 0, 1), (1, .bipush 48, 2), (3, .if_icmp .lt 13, 3), (6, .iload_n 0, 1), (7, .bipush 57, 2), (9, .if_icmp .gt 7, 3), (12, .iconst 1, 1), (13, .goto 4, 3), (16, .iconst 0, 1), (17, .ireturn, 1)]
theorem tbX9_isDigit_0_ok : tbX9_isDigit_0.all (fun q => decide (decode cX9_isDigit q.1 = .ok q.2)) = true := by decide +kernel
theorem dX9_isDigit_0 : decode cX9_isDigit 0 = .ok (.iload_n 0, 1) := xdt tbX9_isDigit_0_ok 0 rfl
theorem dX9_isDigit_1 : decode cX9_isDigit 1 = .ok (.bipush 48, 2) := xdt tbX9_isDigit_0_ok 1 rfl
theorem dX9_isDigit_3 : decode cX9_isDigit 3 = .ok (.if_icmp .lt 13, 3) := xdt tbX9_isDigit_0_ok 2 rfl
theorem dX9_isDigit_6 : decode cX9_isDigit 6 = .ok (.iload_n 0, 1) := xdt tbX9_isDigit_0_ok 3 rfl
theorem dX9_isDigit_7 : decode cX9_isDigit 7 = .ok (.bipush 57, 2) := xdt tbX9_isDigit_0_ok 4 rfl
theorem dX9_isDigit_9 : decode cX9_isDigit 9 = .ok (.if_icmp .gt 7, 3) := xdt tbX9_isDigit_0_ok 5 rfl
theorem dX9_isDigit_12 : decode cX9_isDigit 12 = .ok (.iconst 1, 1) := xdt tbX9_isDigit_0_ok 6 rfl
theorem dX9_isDigit_13 : decode cX9_isDigit 13 = .ok (.goto 4, 3) := xdt tbX9_isDigit_0_ok 7 rfl
theorem dX9_isDigit_16 : decode cX9_isDigit 16 = .ok (.iconst 0, 1) := xdt tbX9_isDigit_0_ok 8 rfl
theorem dX9_isDigit_17 : decode cX9_isDigit 17 = .ok (.ireturn, 1) := xdt tbX9_isDigit_0_ok 9 rfl
def tbX9_isWord_0 : List (Nat × Instr × Nat) := [(0, .aload_n 0, 1), (1, .invokevirtual 123, 3), (4, .pop, 1), (5, .iconst 0, 1), (6, .istore_n 2, 1), (7, .iload_n 2, 1), (8, .aload_n 1, 1), (9, .invokevirtual 127, 3), (12, .if_icmp .ge 27, 3), (15, .aload_n 0, 1), (16, .aload_n 0, 1), (17, .getfield 110, 3), (20, .iload_n 2, 1), (21, .iadd, 1), (22, .invokevirtual 113, 3), (25, .aload_n 1, 1), (26, .iload_n 2, 1), (27, .invokevirtual 132, 3), (30, .if_icmp .ne 9, 3), (33, .iinc 2 1, 3), (36, .goto (-29), 3), (39, .iload_n 2, 1), (40, .aload_n 1, 1), (41, .invokevirtual 127, 3), (44, .if_icmp .ne 23, 3), (47, .aload_n 0, 1), (48, .aload_n 0, 1), (49, .getfield 110, 3), (52, .iload_n 2, 1), (53, .iadd, 1), (54, .invokevirtual 113, 3), (57, .invokestatic 136, 3), (60, .ifCond .ne 7, 3), (63, .iconst 1, 1), (64, .goto 4, 3), (67, .iconst 0, 1), (68, .ireturn, 1)]
theorem tbX9_isWord_0_ok : tbX9_isWord_0.all (fun q => decide (decode cX9_isWord q.1 = .ok q.2)) = true := by decide +kernel
theorem dX9_isWord_0 : decode cX9_isWord 0 = .ok (.aload_n 0, 1) := xdt tbX9_isWord_0_ok 0 rfl
theorem dX9_isWord_1 : decode cX9_isWord 1 = .ok (.invokevirtual 123, 3) := xdt tbX9_isWord_0_ok 1 rfl
theorem dX9_isWord_4 : decode cX9_isWord 4 = .ok (.pop, 1) := xdt tbX9_isWord_0_ok 2 rfl
theorem dX9_isWord_5 : decode cX9_isWord 5 = .ok (.iconst 0, 1) := xdt tbX9_isWord_0_ok 3 rfl
theorem dX9_isWord_6 : decode cX9_isWord 6 = .ok (.istore_n 2, 1) := xdt tbX9_isWord_0_ok 4 rfl
theorem dX9_isWord_7 : decode cX9_isWord 7 = .ok (.iload_n 2, 1) := xdt tbX9_isWord_0_ok 5 rfl
theorem dX9_isWord_8 : decode cX9_isWord 8 = .ok (.aload_n 1, 1) := xdt tbX9_isWord_0_ok 6 rfl
theorem dX9_isWord_9 : decode cX9_isWord 9 = .ok (.invokevirtual 127, 3) := xdt tbX9_isWord_0_ok 7 rfl
theorem dX9_isWord_12 : decode cX9_isWord 12 = .ok (.if_icmp .ge 27, 3) := xdt tbX9_isWord_0_ok 8 rfl
theorem dX9_isWord_15 : decode cX9_isWord 15 = .ok (.aload_n 0, 1) := xdt tbX9_isWord_0_ok 9 rfl
theorem dX9_isWord_16 : decode cX9_isWord 16 = .ok (.aload_n 0, 1) := xdt tbX9_isWord_0_ok 10 rfl
theorem dX9_isWord_17 : decode cX9_isWord 17 = .ok (.getfield 110, 3) := xdt tbX9_isWord_0_ok 11 rfl
theorem dX9_isWord_20 : decode cX9_isWord 20 = .ok (.iload_n 2, 1) := xdt tbX9_isWord_0_ok 12 rfl
theorem dX9_isWord_21 : decode cX9_isWord 21 = .ok (.iadd, 1) := xdt tbX9_isWord_0_ok 13 rfl
theorem dX9_isWord_22 : decode cX9_isWord 22 = .ok (.invokevirtual 113, 3) := xdt tbX9_isWord_0_ok 14 rfl
theorem dX9_isWord_25 : decode cX9_isWord 25 = .ok (.aload_n 1, 1) := xdt tbX9_isWord_0_ok 15 rfl
theorem dX9_isWord_26 : decode cX9_isWord 26 = .ok (.iload_n 2, 1) := xdt tbX9_isWord_0_ok 16 rfl
theorem dX9_isWord_27 : decode cX9_isWord 27 = .ok (.invokevirtual 132, 3) := xdt tbX9_isWord_0_ok 17 rfl
theorem dX9_isWord_30 : decode cX9_isWord 30 = .ok (.if_icmp .ne 9, 3) := xdt tbX9_isWord_0_ok 18 rfl
theorem dX9_isWord_33 : decode cX9_isWord 33 = .ok (.iinc 2 1, 3) := xdt tbX9_isWord_0_ok 19 rfl
theorem dX9_isWord_36 : decode cX9_isWord 36 = .ok (.goto (-29), 3) := xdt tbX9_isWord_0_ok 20 rfl
theorem dX9_isWord_39 : decode cX9_isWord 39 = .ok (.iload_n 2, 1) := xdt tbX9_isWord_0_ok 21 rfl
theorem dX9_isWord_40 : decode cX9_isWord 40 = .ok (.aload_n 1, 1) := xdt tbX9_isWord_0_ok 22 rfl
theorem dX9_isWord_41 : decode cX9_isWord 41 = .ok (.invokevirtual 127, 3) := xdt tbX9_isWord_0_ok 23 rfl
theorem dX9_isWord_44 : decode cX9_isWord 44 = .ok (.if_icmp .ne 23, 3) := xdt tbX9_isWord_0_ok 24 rfl
theorem dX9_isWord_47 : decode cX9_isWord 47 = .ok (.aload_n 0, 1) := xdt tbX9_isWord_0_ok 25 rfl
theorem dX9_isWord_48 : decode cX9_isWord 48 = .ok (.aload_n 0, 1) := xdt tbX9_isWord_0_ok 26 rfl
theorem dX9_isWord_49 : decode cX9_isWord 49 = .ok (.getfield 110, 3) := xdt tbX9_isWord_0_ok 27 rfl
theorem dX9_isWord_52 : decode cX9_isWord 52 = .ok (.iload_n 2, 1) := xdt tbX9_isWord_0_ok 28 rfl
theorem dX9_isWord_53 : decode cX9_isWord 53 = .ok (.iadd, 1) := xdt tbX9_isWord_0_ok 29 rfl
theorem dX9_isWord_54 : decode cX9_isWord 54 = .ok (.invokevirtual 113, 3) := xdt tbX9_isWord_0_ok 30 rfl
theorem dX9_isWord_57 : decode cX9_isWord 57 = .ok (.invokestatic 136, 3) := xdt tbX9_isWord_0_ok 31 rfl
theorem dX9_isWord_60 : decode cX9_isWord 60 = .ok (.ifCond .ne 7, 3) := xdt tbX9_isWord_0_ok 32 rfl
theorem dX9_isWord_63 : decode cX9_isWord 63 = .ok (.iconst 1, 1) := xdt tbX9_isWord_0_ok 33 rfl
theorem dX9_isWord_64 : decode cX9_isWord 64 = .ok (.goto 4, 3) := xdt tbX9_isWord_0_ok 34 rfl
theorem dX9_isWord_67 : decode cX9_isWord 67 = .ok (.iconst 0, 1) := xdt tbX9_isWord_0_ok 35 rfl
theorem dX9_isWord_68 : decode cX9_isWord 68 = .ok (.ireturn, 1) := xdt tbX9_isWord_0_ok 36 rfl
def tbX9_takesWord_0 : List (Nat × Instr × Nat) := [(0, .aload_n 0, 1), (1, .invokevirtual 140, 3), (4, .ifCond .eq 11, 3), (7, .aload_n 0, 1), (8, .aload_n 1, 1), (9, .invokevirtual 144, 3), (12, .ifCond .ne 5, 3), (15, .iconst 0, 1), (16, .ireturn, 1), (17, .aload_n 0, 1), (18, .dup, 1), (19, .getfield 110, 3), (22, .aload_n 1, 1), (23, .invokevirtual 127, 3), (26, .iadd, 1), (27, .putfield 110, 3), (30, .iconst 1, 1), (31, .ireturn, 1)]
theorem tbX9_takesWord_0_ok : tbX9_takesWord_0.all (fun q => decide (decode cX9_takesWord q.1 = .ok q.2)) = true := by decide +kernel
theorem dX9_takesWord_0 : decode cX9_takesWord 0 = .ok (.aload_n 0, 1) := xdt tbX9_takesWord_0_ok 0 rfl
theorem dX9_takesWord_1 : decode cX9_takesWord 1 = .ok (.invokevirtual 140, 3) := xdt tbX9_takesWord_0_ok 1 rfl
theorem dX9_takesWord_4 : decode cX9_takesWord 4 = .ok (.ifCond .eq 11, 3) := xdt tbX9_takesWord_0_ok 2 rfl
theorem dX9_takesWord_7 : decode cX9_takesWord 7 = .ok (.aload_n 0, 1) := xdt tbX9_takesWord_0_ok 3 rfl
theorem dX9_takesWord_8 : decode cX9_takesWord 8 = .ok (.aload_n 1, 1) := xdt tbX9_takesWord_0_ok 4 rfl
theorem dX9_takesWord_9 : decode cX9_takesWord 9 = .ok (.invokevirtual 144, 3) := xdt tbX9_takesWord_0_ok 5 rfl
theorem dX9_takesWord_12 : decode cX9_takesWord 12 = .ok (.ifCond .ne 5, 3) := xdt tbX9_takesWord_0_ok 6 rfl
theorem dX9_takesWord_15 : decode cX9_takesWord 15 = .ok (.iconst 0, 1) := xdt tbX9_takesWord_0_ok 7 rfl
theorem dX9_takesWord_16 : decode cX9_takesWord 16 = .ok (.ireturn, 1) := xdt tbX9_takesWord_0_ok 8 rfl
theorem dX9_takesWord_17 : decode cX9_takesWord 17 = .ok (.aload_n 0, 1) := xdt tbX9_takesWord_0_ok 9 rfl
theorem dX9_takesWord_18 : decode cX9_takesWord 18 = .ok (.dup, 1) := xdt tbX9_takesWord_0_ok 10 rfl
theorem dX9_takesWord_19 : decode cX9_takesWord 19 = .ok (.getfield 110, 3) := xdt tbX9_takesWord_0_ok 11 rfl
theorem dX9_takesWord_22 : decode cX9_takesWord 22 = .ok (.aload_n 1, 1) := xdt tbX9_takesWord_0_ok 12 rfl
theorem dX9_takesWord_23 : decode cX9_takesWord 23 = .ok (.invokevirtual 127, 3) := xdt tbX9_takesWord_0_ok 13 rfl
theorem dX9_takesWord_26 : decode cX9_takesWord 26 = .ok (.iadd, 1) := xdt tbX9_takesWord_0_ok 14 rfl
theorem dX9_takesWord_27 : decode cX9_takesWord 27 = .ok (.putfield 110, 3) := xdt tbX9_takesWord_0_ok 15 rfl
theorem dX9_takesWord_30 : decode cX9_takesWord 30 = .ok (.iconst 1, 1) := xdt tbX9_takesWord_0_ok 16 rfl
theorem dX9_takesWord_31 : decode cX9_takesWord 31 = .ok (.ireturn, 1) := xdt tbX9_takesWord_0_ok 17 rfl
def tbX9_takesSign_0 : List (Nat × Instr × Nat) := [(0, .aload_n 0, 1), (1, .invokevirtual 140, 3), (4, .ifCond .eq 11, 3), (7, .aload_n 0, 1), (8, .invokevirtual 123, 3), (11, .iload_n 1, 1), (12, .if_icmp .eq 5, 3), (15, .iconst 0, 1), (16, .ireturn, 1), (17, .aload_n 0, 1), (18, .dup, 1), (19, .getfield 110, 3), (22, .iconst 1, 1), (23, .iadd, 1), (24, .putfield 110, 3), (27, .iconst 1, 1), (28, .ireturn, 1)]
theorem tbX9_takesSign_0_ok : tbX9_takesSign_0.all (fun q => decide (decode cX9_takesSign q.1 = .ok q.2)) = true := by decide +kernel
theorem dX9_takesSign_0 : decode cX9_takesSign 0 = .ok (.aload_n 0, 1) := xdt tbX9_takesSign_0_ok 0 rfl
theorem dX9_takesSign_1 : decode cX9_takesSign 1 = .ok (.invokevirtual 140, 3) := xdt tbX9_takesSign_0_ok 1 rfl
theorem dX9_takesSign_4 : decode cX9_takesSign 4 = .ok (.ifCond .eq 11, 3) := xdt tbX9_takesSign_0_ok 2 rfl
theorem dX9_takesSign_7 : decode cX9_takesSign 7 = .ok (.aload_n 0, 1) := xdt tbX9_takesSign_0_ok 3 rfl
theorem dX9_takesSign_8 : decode cX9_takesSign 8 = .ok (.invokevirtual 123, 3) := xdt tbX9_takesSign_0_ok 4 rfl
theorem dX9_takesSign_11 : decode cX9_takesSign 11 = .ok (.iload_n 1, 1) := xdt tbX9_takesSign_0_ok 5 rfl
theorem dX9_takesSign_12 : decode cX9_takesSign 12 = .ok (.if_icmp .eq 5, 3) := xdt tbX9_takesSign_0_ok 6 rfl
theorem dX9_takesSign_15 : decode cX9_takesSign 15 = .ok (.iconst 0, 1) := xdt tbX9_takesSign_0_ok 7 rfl
theorem dX9_takesSign_16 : decode cX9_takesSign 16 = .ok (.ireturn, 1) := xdt tbX9_takesSign_0_ok 8 rfl
theorem dX9_takesSign_17 : decode cX9_takesSign 17 = .ok (.aload_n 0, 1) := xdt tbX9_takesSign_0_ok 9 rfl
theorem dX9_takesSign_18 : decode cX9_takesSign 18 = .ok (.dup, 1) := xdt tbX9_takesSign_0_ok 10 rfl
theorem dX9_takesSign_19 : decode cX9_takesSign 19 = .ok (.getfield 110, 3) := xdt tbX9_takesSign_0_ok 11 rfl
theorem dX9_takesSign_22 : decode cX9_takesSign 22 = .ok (.iconst 1, 1) := xdt tbX9_takesSign_0_ok 12 rfl
theorem dX9_takesSign_23 : decode cX9_takesSign 23 = .ok (.iadd, 1) := xdt tbX9_takesSign_0_ok 13 rfl
theorem dX9_takesSign_24 : decode cX9_takesSign 24 = .ok (.putfield 110, 3) := xdt tbX9_takesSign_0_ok 14 rfl
theorem dX9_takesSign_27 : decode cX9_takesSign 27 = .ok (.iconst 1, 1) := xdt tbX9_takesSign_0_ok 15 rfl
theorem dX9_takesSign_28 : decode cX9_takesSign 28 = .ok (.ireturn, 1) := xdt tbX9_takesSign_0_ok 16 rfl
def tbX9_must_0 : List (Nat × Instr × Nat) := [(0, .aload_n 0, 1), (1, .invokevirtual 140, 3), (4, .ifCond .eq 21, 3), (7, .aload_n 0, 1), (8, .iload_n 1, 1), (9, .invokevirtual 148, 3), (12, .ifCond .ne 13, 3), (15, .aload_n 0, 1), (16, .iconst 1, 1), (17, .aload_n 0, 1), (18, .getfield 110, 3), (21, .invokevirtual 151, 3), (24, .pop, 1), (25, .return_, 1)]
theorem tbX9_must_0_ok : tbX9_must_0.all (fun q => decide (decode cX9_must q.1 = .ok q.2)) = true := by decide +kernel
theorem dX9_must_0 : decode cX9_must 0 = .ok (.aload_n 0, 1) := xdt tbX9_must_0_ok 0 rfl
theorem dX9_must_1 : decode cX9_must 1 = .ok (.invokevirtual 140, 3) := xdt tbX9_must_0_ok 1 rfl
theorem dX9_must_4 : decode cX9_must 4 = .ok (.ifCond .eq 21, 3) := xdt tbX9_must_0_ok 2 rfl
theorem dX9_must_7 : decode cX9_must 7 = .ok (.aload_n 0, 1) := xdt tbX9_must_0_ok 3 rfl
theorem dX9_must_8 : decode cX9_must 8 = .ok (.iload_n 1, 1) := xdt tbX9_must_0_ok 4 rfl
theorem dX9_must_9 : decode cX9_must 9 = .ok (.invokevirtual 148, 3) := xdt tbX9_must_0_ok 5 rfl
theorem dX9_must_12 : decode cX9_must 12 = .ok (.ifCond .ne 13, 3) := xdt tbX9_must_0_ok 6 rfl
theorem dX9_must_15 : decode cX9_must 15 = .ok (.aload_n 0, 1) := xdt tbX9_must_0_ok 7 rfl
theorem dX9_must_16 : decode cX9_must 16 = .ok (.iconst 1, 1) := xdt tbX9_must_0_ok 8 rfl
theorem dX9_must_17 : decode cX9_must 17 = .ok (.aload_n 0, 1) := xdt tbX9_must_0_ok 9 rfl
theorem dX9_must_18 : decode cX9_must 18 = .ok (.getfield 110, 3) := xdt tbX9_must_0_ok 10 rfl
theorem dX9_must_21 : decode cX9_must 21 = .ok (.invokevirtual 151, 3) := xdt tbX9_must_0_ok 11 rfl
theorem dX9_must_24 : decode cX9_must 24 = .ok (.pop, 1) := xdt tbX9_must_0_ok 12 rfl
theorem dX9_must_25 : decode cX9_must 25 = .ok (.return_, 1) := xdt tbX9_must_0_ok 13 rfl
def tbX9_isUnitHere_0 : List (Nat × Instr × Nat) := [(0, .aload_n 0, 1), (1, .invokevirtual 123, 3), (4, .bipush 65, 2), (6, .bipush 71, 2), (8, .invokestatic 155, 3), (11, .ifCond .eq 39, 3), (14, .aload_n 0, 1), (15, .aload_n 0, 1), (16, .getfield 110, 3), (19, .iconst 1, 1), (20, .iadd, 1), (21, .invokevirtual 113, 3), (24, .invokestatic 136, 3), (27, .ifCond .ne 23, 3), (30, .aload_n 0, 1), (31, .aload_n 0, 1), (32, .getfield 110, 3), (35, .iconst 1, 1), (36, .iadd, 1), (37, .invokevirtual 113, 3), (40, .invokestatic 159, 3), (43, .ifCond .ne 7, 3), (46, .iconst 1, 1), (47, .goto 4, 3), (50, .iconst 0, 1), (51, .ireturn, 1)]
theorem tbX9_isUnitHere_0_ok : tbX9_isUnitHere_0.all (fun q => decide (decode cX9_isUnitHere q.1 = .ok q.2)) = true := by decide +kernel
theorem dX9_isUnitHere_0 : decode cX9_isUnitHere 0 = .ok (.aload_n 0, 1) := xdt tbX9_isUnitHere_0_ok 0 rfl
theorem dX9_isUnitHere_1 : decode cX9_isUnitHere 1 = .ok (.invokevirtual 123, 3) := xdt tbX9_isUnitHere_0_ok 1 rfl
theorem dX9_isUnitHere_4 : decode cX9_isUnitHere 4 = .ok (.bipush 65, 2) := xdt tbX9_isUnitHere_0_ok 2 rfl
theorem dX9_isUnitHere_6 : decode cX9_isUnitHere 6 = .ok (.bipush 71, 2) := xdt tbX9_isUnitHere_0_ok 3 rfl
theorem dX9_isUnitHere_8 : decode cX9_isUnitHere 8 = .ok (.invokestatic 155, 3) := xdt tbX9_isUnitHere_0_ok 4 rfl
theorem dX9_isUnitHere_11 : decode cX9_isUnitHere 11 = .ok (.ifCond .eq 39, 3) := xdt tbX9_isUnitHere_0_ok 5 rfl
theorem dX9_isUnitHere_14 : decode cX9_isUnitHere 14 = .ok (.aload_n 0, 1) := xdt tbX9_isUnitHere_0_ok 6 rfl
theorem dX9_isUnitHere_15 : decode cX9_isUnitHere 15 = .ok (.aload_n 0, 1) := xdt tbX9_isUnitHere_0_ok 7 rfl
theorem dX9_isUnitHere_16 : decode cX9_isUnitHere 16 = .ok (.getfield 110, 3) := xdt tbX9_isUnitHere_0_ok 8 rfl
theorem dX9_isUnitHere_19 : decode cX9_isUnitHere 19 = .ok (.iconst 1, 1) := xdt tbX9_isUnitHere_0_ok 9 rfl
theorem dX9_isUnitHere_20 : decode cX9_isUnitHere 20 = .ok (.iadd, 1) := xdt tbX9_isUnitHere_0_ok 10 rfl
theorem dX9_isUnitHere_21 : decode cX9_isUnitHere 21 = .ok (.invokevirtual 113, 3) := xdt tbX9_isUnitHere_0_ok 11 rfl
theorem dX9_isUnitHere_24 : decode cX9_isUnitHere 24 = .ok (.invokestatic 136, 3) := xdt tbX9_isUnitHere_0_ok 12 rfl
theorem dX9_isUnitHere_27 : decode cX9_isUnitHere 27 = .ok (.ifCond .ne 23, 3) := xdt tbX9_isUnitHere_0_ok 13 rfl
theorem dX9_isUnitHere_30 : decode cX9_isUnitHere 30 = .ok (.aload_n 0, 1) := xdt tbX9_isUnitHere_0_ok 14 rfl
theorem dX9_isUnitHere_31 : decode cX9_isUnitHere 31 = .ok (.aload_n 0, 1) := xdt tbX9_isUnitHere_0_ok 15 rfl
theorem dX9_isUnitHere_32 : decode cX9_isUnitHere 32 = .ok (.getfield 110, 3) := xdt tbX9_isUnitHere_0_ok 16 rfl
theorem dX9_isUnitHere_35 : decode cX9_isUnitHere 35 = .ok (.iconst 1, 1) := xdt tbX9_isUnitHere_0_ok 17 rfl
theorem dX9_isUnitHere_36 : decode cX9_isUnitHere 36 = .ok (.iadd, 1) := xdt tbX9_isUnitHere_0_ok 18 rfl
theorem dX9_isUnitHere_37 : decode cX9_isUnitHere 37 = .ok (.invokevirtual 113, 3) := xdt tbX9_isUnitHere_0_ok 19 rfl
theorem dX9_isUnitHere_40 : decode cX9_isUnitHere 40 = .ok (.invokestatic 159, 3) := xdt tbX9_isUnitHere_0_ok 20 rfl
theorem dX9_isUnitHere_43 : decode cX9_isUnitHere 43 = .ok (.ifCond .ne 7, 3) := xdt tbX9_isUnitHere_0_ok 21 rfl
theorem dX9_isUnitHere_46 : decode cX9_isUnitHere 46 = .ok (.iconst 1, 1) := xdt tbX9_isUnitHere_0_ok 22 rfl
theorem dX9_isUnitHere_47 : decode cX9_isUnitHere 47 = .ok (.goto 4, 3) := xdt tbX9_isUnitHere_0_ok 23 rfl
theorem dX9_isUnitHere_50 : decode cX9_isUnitHere 50 = .ok (.iconst 0, 1) := xdt tbX9_isUnitHere_0_ok 24 rfl
theorem dX9_isUnitHere_51 : decode cX9_isUnitHere 51 = .ok (.ireturn, 1) := xdt tbX9_isUnitHere_0_ok 25 rfl
def tbX9_letterHere_0 : List (Nat × Instr × Nat) := [(0, .aload_n 0, 1), (1, .invokevirtual 140, 3), (4, .ifCond .ne 5, 3), (7, .iconst 0, 1), (8, .ireturn, 1), (9, .aload_n 0, 1), (10, .invokevirtual 162, 3), (13, .ifCond .ne 17, 3), (16, .iconst 0, 1), (17, .aload_n 0, 1), (18, .iconst 1, 1), (19, .aload_n 0, 1), (20, .getfield 110, 3), (23, .invokevirtual 151, 3), (26, .invokestatic 165, 3), (29, .ireturn, 1), (30, .aload_n 0, 1), (31, .dup, 1), (32, .getfield 110, 3), (35, .iconst 1, 1), (36, .iadd, 1), (37, .putfield 110, 3), (40, .aload_n 0, 1), (41, .aload_n 0, 1), (42, .getfield 110, 3), (45, .iconst 1, 1), (46, .isub, 1), (47, .invokevirtual 113, 3), (50, .bipush 65, 2), (52, .isub, 1), (53, .ireturn, 1)]
theorem tbX9_letterHere_0_ok : tbX9_letterHere_0.all (fun q => decide (decode cX9_letterHere q.1 = .ok q.2)) = true := by decide +kernel
theorem dX9_letterHere_0 : decode cX9_letterHere 0 = .ok (.aload_n 0, 1) := xdt tbX9_letterHere_0_ok 0 rfl
theorem dX9_letterHere_1 : decode cX9_letterHere 1 = .ok (.invokevirtual 140, 3) := xdt tbX9_letterHere_0_ok 1 rfl
theorem dX9_letterHere_4 : decode cX9_letterHere 4 = .ok (.ifCond .ne 5, 3) := xdt tbX9_letterHere_0_ok 2 rfl
theorem dX9_letterHere_7 : decode cX9_letterHere 7 = .ok (.iconst 0, 1) := xdt tbX9_letterHere_0_ok 3 rfl
theorem dX9_letterHere_8 : decode cX9_letterHere 8 = .ok (.ireturn, 1) := xdt tbX9_letterHere_0_ok 4 rfl
theorem dX9_letterHere_9 : decode cX9_letterHere 9 = .ok (.aload_n 0, 1) := xdt tbX9_letterHere_0_ok 5 rfl
theorem dX9_letterHere_10 : decode cX9_letterHere 10 = .ok (.invokevirtual 162, 3) := xdt tbX9_letterHere_0_ok 6 rfl
theorem dX9_letterHere_13 : decode cX9_letterHere 13 = .ok (.ifCond .ne 17, 3) := xdt tbX9_letterHere_0_ok 7 rfl
theorem dX9_letterHere_16 : decode cX9_letterHere 16 = .ok (.iconst 0, 1) := xdt tbX9_letterHere_0_ok 8 rfl
theorem dX9_letterHere_17 : decode cX9_letterHere 17 = .ok (.aload_n 0, 1) := xdt tbX9_letterHere_0_ok 9 rfl
theorem dX9_letterHere_18 : decode cX9_letterHere 18 = .ok (.iconst 1, 1) := xdt tbX9_letterHere_0_ok 10 rfl
theorem dX9_letterHere_19 : decode cX9_letterHere 19 = .ok (.aload_n 0, 1) := xdt tbX9_letterHere_0_ok 11 rfl
theorem dX9_letterHere_20 : decode cX9_letterHere 20 = .ok (.getfield 110, 3) := xdt tbX9_letterHere_0_ok 12 rfl
theorem dX9_letterHere_23 : decode cX9_letterHere 23 = .ok (.invokevirtual 151, 3) := xdt tbX9_letterHere_0_ok 13 rfl
theorem dX9_letterHere_26 : decode cX9_letterHere 26 = .ok (.invokestatic 165, 3) := xdt tbX9_letterHere_0_ok 14 rfl
theorem dX9_letterHere_29 : decode cX9_letterHere 29 = .ok (.ireturn, 1) := xdt tbX9_letterHere_0_ok 15 rfl
theorem dX9_letterHere_30 : decode cX9_letterHere 30 = .ok (.aload_n 0, 1) := xdt tbX9_letterHere_0_ok 16 rfl
theorem dX9_letterHere_31 : decode cX9_letterHere 31 = .ok (.dup, 1) := xdt tbX9_letterHere_0_ok 17 rfl
theorem dX9_letterHere_32 : decode cX9_letterHere 32 = .ok (.getfield 110, 3) := xdt tbX9_letterHere_0_ok 18 rfl
theorem dX9_letterHere_35 : decode cX9_letterHere 35 = .ok (.iconst 1, 1) := xdt tbX9_letterHere_0_ok 19 rfl
theorem dX9_letterHere_36 : decode cX9_letterHere 36 = .ok (.iadd, 1) := xdt tbX9_letterHere_0_ok 20 rfl
theorem dX9_letterHere_37 : decode cX9_letterHere 37 = .ok (.putfield 110, 3) := xdt tbX9_letterHere_0_ok 21 rfl
theorem dX9_letterHere_40 : decode cX9_letterHere 40 = .ok (.aload_n 0, 1) := xdt tbX9_letterHere_0_ok 22 rfl
theorem dX9_letterHere_41 : decode cX9_letterHere 41 = .ok (.aload_n 0, 1) := xdt tbX9_letterHere_0_ok 23 rfl
theorem dX9_letterHere_42 : decode cX9_letterHere 42 = .ok (.getfield 110, 3) := xdt tbX9_letterHere_0_ok 24 rfl
theorem dX9_letterHere_45 : decode cX9_letterHere 45 = .ok (.iconst 1, 1) := xdt tbX9_letterHere_0_ok 25 rfl
theorem dX9_letterHere_46 : decode cX9_letterHere 46 = .ok (.isub, 1) := xdt tbX9_letterHere_0_ok 26 rfl
theorem dX9_letterHere_47 : decode cX9_letterHere 47 = .ok (.invokevirtual 113, 3) := xdt tbX9_letterHere_0_ok 27 rfl
theorem dX9_letterHere_50 : decode cX9_letterHere 50 = .ok (.bipush 65, 2) := xdt tbX9_letterHere_0_ok 28 rfl
theorem dX9_letterHere_52 : decode cX9_letterHere 52 = .ok (.isub, 1) := xdt tbX9_letterHere_0_ok 29 rfl
theorem dX9_letterHere_53 : decode cX9_letterHere 53 = .ok (.ireturn, 1) := xdt tbX9_letterHere_0_ok 30 rfl
def tbX9_nameHere_0 : List (Nat × Instr × Nat) := [(0, .aload_n 0, 1), (1, .invokevirtual 140, 3), (4, .ifCond .ne 5, 3), (7, .iconst 0, 1), (8, .ireturn, 1), (9, .aload_n 0, 1), (10, .invokevirtual 123, 3), (13, .invokestatic 136, 3), (16, .ifCond .eq 35, 3), (19, .aload_n 0, 1), (20, .aload_n 0, 1), (21, .getfield 110, 3), (24, .iconst 1, 1), (25, .iadd, 1), (26, .invokevirtual 113, 3), (29, .invokestatic 136, 3), (32, .ifCond .ne 19, 3), (35, .aload_n 0, 1), (36, .aload_n 0, 1), (37, .getfield 110, 3), (40, .iconst 1, 1), (41, .iadd, 1), (42, .invokevirtual 113, 3), (45, .invokestatic 159, 3), (48, .ifCond .eq 17, 3), (51, .iconst 0, 1), (52, .aload_n 0, 1), (53, .iconst 1, 1), (54, .aload_n 0, 1), (55, .getfield 110, 3), (58, .invokevirtual 151, 3), (61, .invokestatic 165, 3), (64, .ireturn, 1), (65, .aload_n 0, 1), (66, .dup, 1), (67, .getfield 110, 3), (70, .iconst 1, 1), (71, .iadd, 1), (72, .putfield 110, 3), (75, .aload_n 0, 1), (76, .aload_n 0, 1), (77, .getfield 110, 3), (80, .iconst 1, 1), (81, .isub, 1), (82, .invokevirtual 113, 3), (85, .bipush 97, 2), (87, .isub, 1), (88, .ireturn, 1)]
theorem tbX9_nameHere_0_ok : tbX9_nameHere_0.all (fun q => decide (decode cX9_nameHere q.1 = .ok q.2)) = true := by decide +kernel
theorem dX9_nameHere_0 : decode cX9_nameHere 0 = .ok (.aload_n 0, 1) := xdt tbX9_nameHere_0_ok 0 rfl
theorem dX9_nameHere_1 : decode cX9_nameHere 1 = .ok (.invokevirtual 140, 3) := xdt tbX9_nameHere_0_ok 1 rfl
theorem dX9_nameHere_4 : decode cX9_nameHere 4 = .ok (.ifCond .ne 5, 3) := xdt tbX9_nameHere_0_ok 2 rfl
theorem dX9_nameHere_7 : decode cX9_nameHere 7 = .ok (.iconst 0, 1) := xdt tbX9_nameHere_0_ok 3 rfl
theorem dX9_nameHere_8 : decode cX9_nameHere 8 = .ok (.ireturn, 1) := xdt tbX9_nameHere_0_ok 4 rfl
theorem dX9_nameHere_9 : decode cX9_nameHere 9 = .ok (.aload_n 0, 1) := xdt tbX9_nameHere_0_ok 5 rfl
theorem dX9_nameHere_10 : decode cX9_nameHere 10 = .ok (.invokevirtual 123, 3) := xdt tbX9_nameHere_0_ok 6 rfl
theorem dX9_nameHere_13 : decode cX9_nameHere 13 = .ok (.invokestatic 136, 3) := xdt tbX9_nameHere_0_ok 7 rfl
theorem dX9_nameHere_16 : decode cX9_nameHere 16 = .ok (.ifCond .eq 35, 3) := xdt tbX9_nameHere_0_ok 8 rfl
theorem dX9_nameHere_19 : decode cX9_nameHere 19 = .ok (.aload_n 0, 1) := xdt tbX9_nameHere_0_ok 9 rfl
theorem dX9_nameHere_20 : decode cX9_nameHere 20 = .ok (.aload_n 0, 1) := xdt tbX9_nameHere_0_ok 10 rfl
theorem dX9_nameHere_21 : decode cX9_nameHere 21 = .ok (.getfield 110, 3) := xdt tbX9_nameHere_0_ok 11 rfl
theorem dX9_nameHere_24 : decode cX9_nameHere 24 = .ok (.iconst 1, 1) := xdt tbX9_nameHere_0_ok 12 rfl
theorem dX9_nameHere_25 : decode cX9_nameHere 25 = .ok (.iadd, 1) := xdt tbX9_nameHere_0_ok 13 rfl
theorem dX9_nameHere_26 : decode cX9_nameHere 26 = .ok (.invokevirtual 113, 3) := xdt tbX9_nameHere_0_ok 14 rfl
theorem dX9_nameHere_29 : decode cX9_nameHere 29 = .ok (.invokestatic 136, 3) := xdt tbX9_nameHere_0_ok 15 rfl
theorem dX9_nameHere_32 : decode cX9_nameHere 32 = .ok (.ifCond .ne 19, 3) := xdt tbX9_nameHere_0_ok 16 rfl
theorem dX9_nameHere_35 : decode cX9_nameHere 35 = .ok (.aload_n 0, 1) := xdt tbX9_nameHere_0_ok 17 rfl
theorem dX9_nameHere_36 : decode cX9_nameHere 36 = .ok (.aload_n 0, 1) := xdt tbX9_nameHere_0_ok 18 rfl
theorem dX9_nameHere_37 : decode cX9_nameHere 37 = .ok (.getfield 110, 3) := xdt tbX9_nameHere_0_ok 19 rfl
theorem dX9_nameHere_40 : decode cX9_nameHere 40 = .ok (.iconst 1, 1) := xdt tbX9_nameHere_0_ok 20 rfl
theorem dX9_nameHere_41 : decode cX9_nameHere 41 = .ok (.iadd, 1) := xdt tbX9_nameHere_0_ok 21 rfl
theorem dX9_nameHere_42 : decode cX9_nameHere 42 = .ok (.invokevirtual 113, 3) := xdt tbX9_nameHere_0_ok 22 rfl
theorem dX9_nameHere_45 : decode cX9_nameHere 45 = .ok (.invokestatic 159, 3) := xdt tbX9_nameHere_0_ok 23 rfl
theorem dX9_nameHere_48 : decode cX9_nameHere 48 = .ok (.ifCond .eq 17, 3) := xdt tbX9_nameHere_0_ok 24 rfl
theorem dX9_nameHere_51 : decode cX9_nameHere 51 = .ok (.iconst 0, 1) := xdt tbX9_nameHere_0_ok 25 rfl
theorem dX9_nameHere_52 : decode cX9_nameHere 52 = .ok (.aload_n 0, 1) := xdt tbX9_nameHere_0_ok 26 rfl
theorem dX9_nameHere_53 : decode cX9_nameHere 53 = .ok (.iconst 1, 1) := xdt tbX9_nameHere_0_ok 27 rfl
theorem dX9_nameHere_54 : decode cX9_nameHere 54 = .ok (.aload_n 0, 1) := xdt tbX9_nameHere_0_ok 28 rfl
theorem dX9_nameHere_55 : decode cX9_nameHere 55 = .ok (.getfield 110, 3) := xdt tbX9_nameHere_0_ok 29 rfl
theorem dX9_nameHere_58 : decode cX9_nameHere 58 = .ok (.invokevirtual 151, 3) := xdt tbX9_nameHere_0_ok 30 rfl
theorem dX9_nameHere_61 : decode cX9_nameHere 61 = .ok (.invokestatic 165, 3) := xdt tbX9_nameHere_0_ok 31 rfl
theorem dX9_nameHere_64 : decode cX9_nameHere 64 = .ok (.ireturn, 1) := xdt tbX9_nameHere_0_ok 32 rfl
theorem dX9_nameHere_65 : decode cX9_nameHere 65 = .ok (.aload_n 0, 1) := xdt tbX9_nameHere_0_ok 33 rfl
theorem dX9_nameHere_66 : decode cX9_nameHere 66 = .ok (.dup, 1) := xdt tbX9_nameHere_0_ok 34 rfl
theorem dX9_nameHere_67 : decode cX9_nameHere 67 = .ok (.getfield 110, 3) := xdt tbX9_nameHere_0_ok 35 rfl
theorem dX9_nameHere_70 : decode cX9_nameHere 70 = .ok (.iconst 1, 1) := xdt tbX9_nameHere_0_ok 36 rfl
theorem dX9_nameHere_71 : decode cX9_nameHere 71 = .ok (.iadd, 1) := xdt tbX9_nameHere_0_ok 37 rfl
theorem dX9_nameHere_72 : decode cX9_nameHere 72 = .ok (.putfield 110, 3) := xdt tbX9_nameHere_0_ok 38 rfl
theorem dX9_nameHere_75 : decode cX9_nameHere 75 = .ok (.aload_n 0, 1) := xdt tbX9_nameHere_0_ok 39 rfl
theorem dX9_nameHere_76 : decode cX9_nameHere 76 = .ok (.aload_n 0, 1) := xdt tbX9_nameHere_0_ok 40 rfl
theorem dX9_nameHere_77 : decode cX9_nameHere 77 = .ok (.getfield 110, 3) := xdt tbX9_nameHere_0_ok 41 rfl
theorem dX9_nameHere_80 : decode cX9_nameHere 80 = .ok (.iconst 1, 1) := xdt tbX9_nameHere_0_ok 42 rfl
theorem dX9_nameHere_81 : decode cX9_nameHere 81 = .ok (.isub, 1) := xdt tbX9_nameHere_0_ok 43 rfl
theorem dX9_nameHere_82 : decode cX9_nameHere 82 = .ok (.invokevirtual 113, 3) := xdt tbX9_nameHere_0_ok 44 rfl
theorem dX9_nameHere_85 : decode cX9_nameHere 85 = .ok (.bipush 97, 2) := xdt tbX9_nameHere_0_ok 45 rfl
theorem dX9_nameHere_87 : decode cX9_nameHere 87 = .ok (.isub, 1) := xdt tbX9_nameHere_0_ok 46 rfl
theorem dX9_nameHere_88 : decode cX9_nameHere 88 = .ok (.ireturn, 1) := xdt tbX9_nameHere_0_ok 47 rfl
def tbX9_numberHere_0 : List (Nat × Instr × Nat) := [(0, .aload_n 0, 1), (1, .invokevirtual 140, 3), (4, .ifCond .ne 5, 3), (7, .iconst 0, 1), (8, .ireturn, 1), (9, .aload_n 0, 1), (10, .invokevirtual 123, 3), (13, .invokestatic 168, 3), (16, .ifCond .ne 17, 3), (19, .iconst 0, 1), (20, .aload_n 0, 1), (21, .iconst 1, 1), (22, .aload_n 0, 1), (23, .getfield 110, 3), (26, .invokevirtual 151, 3), (29, .invokestatic 165, 3), (32, .ireturn, 1), (33, .aload_n 0, 1), (34, .getfield 110, 3), (37, .istore_n 1, 1), (38, .iconst 0, 1), (39, .istore_n 2, 1), (40, .aload_n 0, 1), (41, .aload_n 0, 1), (42, .getfield 110, 3), (45, .invokevirtual 113, 3), (48, .invokestatic 168, 3), (51, .ifCond .eq 39, 3), (54, .sipush 1000, 3), (57, .bipush 10, 2), (59, .iload_n 2, 1), (60, .imul, 1), (61, .aload_n 0, 1), (62, .aload_n 0, 1), (63, .getfield 110, 3), (66, .invokevirtual 113, 3), (69, .iadd, 1), (70, .bipush 48, 2), (72, .isub, 1), (73, .invokestatic 171, 3), (76, .istore_n 2, 1), (77, .aload_n 0, 1), (78, .dup, 1), (79, .getfield 110, 3), (82, .iconst 1, 1), (83, .iadd, 1), (84, .putfield 110, 3), (87, .goto (-47), 3), (90, .iload_n 2, 1), (91, .sipush 999, 3), (94, .if_icmp .le 10, 3), (97, .aload_n 0, 1), (98, .iconst 2, 1), (99, .iload_n 1, 1), (100, .invokevirtual 151, 3), (103, .pop, 1), (104, .aload_n 0, 1), (105, .invokevirtual 140, 3), (108, .ifCond .eq 7, 3), (111, .iload_n 2, 1)]
theorem tbX9_numberHere_0_ok : tbX9_numberHere_0.all (fun q => decide (decode cX9_numberHere q.1 = .ok q.2)) = true := by decide +kernel
theorem dX9_numberHere_0 : decode cX9_numberHere 0 = .ok (.aload_n 0, 1) := xdt tbX9_numberHere_0_ok 0 rfl
theorem dX9_numberHere_1 : decode cX9_numberHere 1 = .ok (.invokevirtual 140, 3) := xdt tbX9_numberHere_0_ok 1 rfl
theorem dX9_numberHere_4 : decode cX9_numberHere 4 = .ok (.ifCond .ne 5, 3) := xdt tbX9_numberHere_0_ok 2 rfl
theorem dX9_numberHere_7 : decode cX9_numberHere 7 = .ok (.iconst 0, 1) := xdt tbX9_numberHere_0_ok 3 rfl
theorem dX9_numberHere_8 : decode cX9_numberHere 8 = .ok (.ireturn, 1) := xdt tbX9_numberHere_0_ok 4 rfl
theorem dX9_numberHere_9 : decode cX9_numberHere 9 = .ok (.aload_n 0, 1) := xdt tbX9_numberHere_0_ok 5 rfl
theorem dX9_numberHere_10 : decode cX9_numberHere 10 = .ok (.invokevirtual 123, 3) := xdt tbX9_numberHere_0_ok 6 rfl
theorem dX9_numberHere_13 : decode cX9_numberHere 13 = .ok (.invokestatic 168, 3) := xdt tbX9_numberHere_0_ok 7 rfl
theorem dX9_numberHere_16 : decode cX9_numberHere 16 = .ok (.ifCond .ne 17, 3) := xdt tbX9_numberHere_0_ok 8 rfl
theorem dX9_numberHere_19 : decode cX9_numberHere 19 = .ok (.iconst 0, 1) := xdt tbX9_numberHere_0_ok 9 rfl
theorem dX9_numberHere_20 : decode cX9_numberHere 20 = .ok (.aload_n 0, 1) := xdt tbX9_numberHere_0_ok 10 rfl
theorem dX9_numberHere_21 : decode cX9_numberHere 21 = .ok (.iconst 1, 1) := xdt tbX9_numberHere_0_ok 11 rfl
theorem dX9_numberHere_22 : decode cX9_numberHere 22 = .ok (.aload_n 0, 1) := xdt tbX9_numberHere_0_ok 12 rfl
theorem dX9_numberHere_23 : decode cX9_numberHere 23 = .ok (.getfield 110, 3) := xdt tbX9_numberHere_0_ok 13 rfl
theorem dX9_numberHere_26 : decode cX9_numberHere 26 = .ok (.invokevirtual 151, 3) := xdt tbX9_numberHere_0_ok 14 rfl
theorem dX9_numberHere_29 : decode cX9_numberHere 29 = .ok (.invokestatic 165, 3) := xdt tbX9_numberHere_0_ok 15 rfl
theorem dX9_numberHere_32 : decode cX9_numberHere 32 = .ok (.ireturn, 1) := xdt tbX9_numberHere_0_ok 16 rfl
theorem dX9_numberHere_33 : decode cX9_numberHere 33 = .ok (.aload_n 0, 1) := xdt tbX9_numberHere_0_ok 17 rfl
theorem dX9_numberHere_34 : decode cX9_numberHere 34 = .ok (.getfield 110, 3) := xdt tbX9_numberHere_0_ok 18 rfl
theorem dX9_numberHere_37 : decode cX9_numberHere 37 = .ok (.istore_n 1, 1) := xdt tbX9_numberHere_0_ok 19 rfl
theorem dX9_numberHere_38 : decode cX9_numberHere 38 = .ok (.iconst 0, 1) := xdt tbX9_numberHere_0_ok 20 rfl
theorem dX9_numberHere_39 : decode cX9_numberHere 39 = .ok (.istore_n 2, 1) := xdt tbX9_numberHere_0_ok 21 rfl
theorem dX9_numberHere_40 : decode cX9_numberHere 40 = .ok (.aload_n 0, 1) := xdt tbX9_numberHere_0_ok 22 rfl
theorem dX9_numberHere_41 : decode cX9_numberHere 41 = .ok (.aload_n 0, 1) := xdt tbX9_numberHere_0_ok 23 rfl
theorem dX9_numberHere_42 : decode cX9_numberHere 42 = .ok (.getfield 110, 3) := xdt tbX9_numberHere_0_ok 24 rfl
theorem dX9_numberHere_45 : decode cX9_numberHere 45 = .ok (.invokevirtual 113, 3) := xdt tbX9_numberHere_0_ok 25 rfl
theorem dX9_numberHere_48 : decode cX9_numberHere 48 = .ok (.invokestatic 168, 3) := xdt tbX9_numberHere_0_ok 26 rfl
theorem dX9_numberHere_51 : decode cX9_numberHere 51 = .ok (.ifCond .eq 39, 3) := xdt tbX9_numberHere_0_ok 27 rfl
theorem dX9_numberHere_54 : decode cX9_numberHere 54 = .ok (.sipush 1000, 3) := xdt tbX9_numberHere_0_ok 28 rfl
theorem dX9_numberHere_57 : decode cX9_numberHere 57 = .ok (.bipush 10, 2) := xdt tbX9_numberHere_0_ok 29 rfl
theorem dX9_numberHere_59 : decode cX9_numberHere 59 = .ok (.iload_n 2, 1) := xdt tbX9_numberHere_0_ok 30 rfl
theorem dX9_numberHere_60 : decode cX9_numberHere 60 = .ok (.imul, 1) := xdt tbX9_numberHere_0_ok 31 rfl
theorem dX9_numberHere_61 : decode cX9_numberHere 61 = .ok (.aload_n 0, 1) := xdt tbX9_numberHere_0_ok 32 rfl
theorem dX9_numberHere_62 : decode cX9_numberHere 62 = .ok (.aload_n 0, 1) := xdt tbX9_numberHere_0_ok 33 rfl
theorem dX9_numberHere_63 : decode cX9_numberHere 63 = .ok (.getfield 110, 3) := xdt tbX9_numberHere_0_ok 34 rfl
theorem dX9_numberHere_66 : decode cX9_numberHere 66 = .ok (.invokevirtual 113, 3) := xdt tbX9_numberHere_0_ok 35 rfl
theorem dX9_numberHere_69 : decode cX9_numberHere 69 = .ok (.iadd, 1) := xdt tbX9_numberHere_0_ok 36 rfl
theorem dX9_numberHere_70 : decode cX9_numberHere 70 = .ok (.bipush 48, 2) := xdt tbX9_numberHere_0_ok 37 rfl
theorem dX9_numberHere_72 : decode cX9_numberHere 72 = .ok (.isub, 1) := xdt tbX9_numberHere_0_ok 38 rfl
theorem dX9_numberHere_73 : decode cX9_numberHere 73 = .ok (.invokestatic 171, 3) := xdt tbX9_numberHere_0_ok 39 rfl
theorem dX9_numberHere_76 : decode cX9_numberHere 76 = .ok (.istore_n 2, 1) := xdt tbX9_numberHere_0_ok 40 rfl
theorem dX9_numberHere_77 : decode cX9_numberHere 77 = .ok (.aload_n 0, 1) := xdt tbX9_numberHere_0_ok 41 rfl
theorem dX9_numberHere_78 : decode cX9_numberHere 78 = .ok (.dup, 1) := xdt tbX9_numberHere_0_ok 42 rfl
theorem dX9_numberHere_79 : decode cX9_numberHere 79 = .ok (.getfield 110, 3) := xdt tbX9_numberHere_0_ok 43 rfl
theorem dX9_numberHere_82 : decode cX9_numberHere 82 = .ok (.iconst 1, 1) := xdt tbX9_numberHere_0_ok 44 rfl
theorem dX9_numberHere_83 : decode cX9_numberHere 83 = .ok (.iadd, 1) := xdt tbX9_numberHere_0_ok 45 rfl
theorem dX9_numberHere_84 : decode cX9_numberHere 84 = .ok (.putfield 110, 3) := xdt tbX9_numberHere_0_ok 46 rfl
theorem dX9_numberHere_87 : decode cX9_numberHere 87 = .ok (.goto (-47), 3) := xdt tbX9_numberHere_0_ok 47 rfl
theorem dX9_numberHere_90 : decode cX9_numberHere 90 = .ok (.iload_n 2, 1) := xdt tbX9_numberHere_0_ok 48 rfl
theorem dX9_numberHere_91 : decode cX9_numberHere 91 = .ok (.sipush 999, 3) := xdt tbX9_numberHere_0_ok 49 rfl
theorem dX9_numberHere_94 : decode cX9_numberHere 94 = .ok (.if_icmp .le 10, 3) := xdt tbX9_numberHere_0_ok 50 rfl
theorem dX9_numberHere_97 : decode cX9_numberHere 97 = .ok (.aload_n 0, 1) := xdt tbX9_numberHere_0_ok 51 rfl
theorem dX9_numberHere_98 : decode cX9_numberHere 98 = .ok (.iconst 2, 1) := xdt tbX9_numberHere_0_ok 52 rfl
theorem dX9_numberHere_99 : decode cX9_numberHere 99 = .ok (.iload_n 1, 1) := xdt tbX9_numberHere_0_ok 53 rfl
theorem dX9_numberHere_100 : decode cX9_numberHere 100 = .ok (.invokevirtual 151, 3) := xdt tbX9_numberHere_0_ok 54 rfl
theorem dX9_numberHere_103 : decode cX9_numberHere 103 = .ok (.pop, 1) := xdt tbX9_numberHere_0_ok 55 rfl
theorem dX9_numberHere_104 : decode cX9_numberHere 104 = .ok (.aload_n 0, 1) := xdt tbX9_numberHere_0_ok 56 rfl
theorem dX9_numberHere_105 : decode cX9_numberHere 105 = .ok (.invokevirtual 140, 3) := xdt tbX9_numberHere_0_ok 57 rfl
theorem dX9_numberHere_108 : decode cX9_numberHere 108 = .ok (.ifCond .eq 7, 3) := xdt tbX9_numberHere_0_ok 58 rfl
theorem dX9_numberHere_111 : decode cX9_numberHere 111 = .ok (.iload_n 2, 1) := xdt tbX9_numberHere_0_ok 59 rfl
def tbX9_numberHere_60 : List (Nat × Instr × Nat) := [(112, .goto 4, 3), (115, .iconst 0, 1), (116, .ireturn, 1)]
theorem tbX9_numberHere_60_ok : tbX9_numberHere_60.all (fun q => decide (decode cX9_numberHere q.1 = .ok q.2)) = true := by decide +kernel
theorem dX9_numberHere_112 : decode cX9_numberHere 112 = .ok (.goto 4, 3) := xdt tbX9_numberHere_60_ok 0 rfl
theorem dX9_numberHere_115 : decode cX9_numberHere 115 = .ok (.iconst 0, 1) := xdt tbX9_numberHere_60_ok 1 rfl
theorem dX9_numberHere_116 : decode cX9_numberHere 116 = .ok (.ireturn, 1) := xdt tbX9_numberHere_60_ok 2 rfl
def tbX9_adds_0 : List (Nat × Instr × Nat) := [(0, .sipush 1410, 3), (3, .bipush 6, 2), (5, .aload_n 0, 1), (6, .getfield 23, 3), (9, .iconst 3, 1), (10, .iaload, 1), (11, .imul, 1), (12, .iadd, 1), (13, .istore 6, 2), (15, .aload_n 0, 1), (16, .getfield 23, 3), (19, .iload 6, 2), (21, .iload_n 1, 1), (22, .iastore, 1), (23, .aload_n 0, 1), (24, .getfield 23, 3), (27, .iload 6, 2), (29, .iconst 1, 1), (30, .iadd, 1), (31, .iload_n 2, 1), (32, .iastore, 1), (33, .aload_n 0, 1), (34, .getfield 23, 3), (37, .iload 6, 2), (39, .iconst 2, 1), (40, .iadd, 1), (41, .iload_n 3, 1), (42, .iastore, 1), (43, .aload_n 0, 1), (44, .getfield 23, 3), (47, .iload 6, 2), (49, .iconst 3, 1), (50, .iadd, 1), (51, .iload 4, 2), (53, .iastore, 1), (54, .aload_n 0, 1), (55, .getfield 23, 3), (58, .iload 6, 2), (60, .iconst 4, 1), (61, .iadd, 1), (62, .iconst (-1), 1), (63, .iastore, 1), (64, .aload_n 0, 1), (65, .getfield 23, 3), (68, .iload 6, 2), (70, .iconst 5, 1), (71, .iadd, 1), (72, .iload 5, 2), (74, .iastore, 1), (75, .aload_n 0, 1), (76, .getfield 23, 3), (79, .iconst 3, 1), (80, .dup2, 1), (81, .iaload, 1), (82, .iconst 1, 1), (83, .iadd, 1), (84, .iastore, 1), (85, .aload_n 0, 1), (86, .getfield 23, 3), (89, .iconst 3, 1)]
theorem tbX9_adds_0_ok : tbX9_adds_0.all (fun q => decide (decode cX9_adds q.1 = .ok q.2)) = true := by decide +kernel
theorem dX9_adds_0 : decode cX9_adds 0 = .ok (.sipush 1410, 3) := xdt tbX9_adds_0_ok 0 rfl
theorem dX9_adds_3 : decode cX9_adds 3 = .ok (.bipush 6, 2) := xdt tbX9_adds_0_ok 1 rfl
theorem dX9_adds_5 : decode cX9_adds 5 = .ok (.aload_n 0, 1) := xdt tbX9_adds_0_ok 2 rfl
theorem dX9_adds_6 : decode cX9_adds 6 = .ok (.getfield 23, 3) := xdt tbX9_adds_0_ok 3 rfl
theorem dX9_adds_9 : decode cX9_adds 9 = .ok (.iconst 3, 1) := xdt tbX9_adds_0_ok 4 rfl
theorem dX9_adds_10 : decode cX9_adds 10 = .ok (.iaload, 1) := xdt tbX9_adds_0_ok 5 rfl
theorem dX9_adds_11 : decode cX9_adds 11 = .ok (.imul, 1) := xdt tbX9_adds_0_ok 6 rfl
theorem dX9_adds_12 : decode cX9_adds 12 = .ok (.iadd, 1) := xdt tbX9_adds_0_ok 7 rfl
theorem dX9_adds_13 : decode cX9_adds 13 = .ok (.istore 6, 2) := xdt tbX9_adds_0_ok 8 rfl
theorem dX9_adds_15 : decode cX9_adds 15 = .ok (.aload_n 0, 1) := xdt tbX9_adds_0_ok 9 rfl
theorem dX9_adds_16 : decode cX9_adds 16 = .ok (.getfield 23, 3) := xdt tbX9_adds_0_ok 10 rfl
theorem dX9_adds_19 : decode cX9_adds 19 = .ok (.iload 6, 2) := xdt tbX9_adds_0_ok 11 rfl
theorem dX9_adds_21 : decode cX9_adds 21 = .ok (.iload_n 1, 1) := xdt tbX9_adds_0_ok 12 rfl
theorem dX9_adds_22 : decode cX9_adds 22 = .ok (.iastore, 1) := xdt tbX9_adds_0_ok 13 rfl
theorem dX9_adds_23 : decode cX9_adds 23 = .ok (.aload_n 0, 1) := xdt tbX9_adds_0_ok 14 rfl
theorem dX9_adds_24 : decode cX9_adds 24 = .ok (.getfield 23, 3) := xdt tbX9_adds_0_ok 15 rfl
theorem dX9_adds_27 : decode cX9_adds 27 = .ok (.iload 6, 2) := xdt tbX9_adds_0_ok 16 rfl
theorem dX9_adds_29 : decode cX9_adds 29 = .ok (.iconst 1, 1) := xdt tbX9_adds_0_ok 17 rfl
theorem dX9_adds_30 : decode cX9_adds 30 = .ok (.iadd, 1) := xdt tbX9_adds_0_ok 18 rfl
theorem dX9_adds_31 : decode cX9_adds 31 = .ok (.iload_n 2, 1) := xdt tbX9_adds_0_ok 19 rfl
theorem dX9_adds_32 : decode cX9_adds 32 = .ok (.iastore, 1) := xdt tbX9_adds_0_ok 20 rfl
theorem dX9_adds_33 : decode cX9_adds 33 = .ok (.aload_n 0, 1) := xdt tbX9_adds_0_ok 21 rfl
theorem dX9_adds_34 : decode cX9_adds 34 = .ok (.getfield 23, 3) := xdt tbX9_adds_0_ok 22 rfl
theorem dX9_adds_37 : decode cX9_adds 37 = .ok (.iload 6, 2) := xdt tbX9_adds_0_ok 23 rfl
theorem dX9_adds_39 : decode cX9_adds 39 = .ok (.iconst 2, 1) := xdt tbX9_adds_0_ok 24 rfl
theorem dX9_adds_40 : decode cX9_adds 40 = .ok (.iadd, 1) := xdt tbX9_adds_0_ok 25 rfl
theorem dX9_adds_41 : decode cX9_adds 41 = .ok (.iload_n 3, 1) := xdt tbX9_adds_0_ok 26 rfl
theorem dX9_adds_42 : decode cX9_adds 42 = .ok (.iastore, 1) := xdt tbX9_adds_0_ok 27 rfl
theorem dX9_adds_43 : decode cX9_adds 43 = .ok (.aload_n 0, 1) := xdt tbX9_adds_0_ok 28 rfl
theorem dX9_adds_44 : decode cX9_adds 44 = .ok (.getfield 23, 3) := xdt tbX9_adds_0_ok 29 rfl
theorem dX9_adds_47 : decode cX9_adds 47 = .ok (.iload 6, 2) := xdt tbX9_adds_0_ok 30 rfl
theorem dX9_adds_49 : decode cX9_adds 49 = .ok (.iconst 3, 1) := xdt tbX9_adds_0_ok 31 rfl
theorem dX9_adds_50 : decode cX9_adds 50 = .ok (.iadd, 1) := xdt tbX9_adds_0_ok 32 rfl
theorem dX9_adds_51 : decode cX9_adds 51 = .ok (.iload 4, 2) := xdt tbX9_adds_0_ok 33 rfl
theorem dX9_adds_53 : decode cX9_adds 53 = .ok (.iastore, 1) := xdt tbX9_adds_0_ok 34 rfl
theorem dX9_adds_54 : decode cX9_adds 54 = .ok (.aload_n 0, 1) := xdt tbX9_adds_0_ok 35 rfl
theorem dX9_adds_55 : decode cX9_adds 55 = .ok (.getfield 23, 3) := xdt tbX9_adds_0_ok 36 rfl
theorem dX9_adds_58 : decode cX9_adds 58 = .ok (.iload 6, 2) := xdt tbX9_adds_0_ok 37 rfl
theorem dX9_adds_60 : decode cX9_adds 60 = .ok (.iconst 4, 1) := xdt tbX9_adds_0_ok 38 rfl
theorem dX9_adds_61 : decode cX9_adds 61 = .ok (.iadd, 1) := xdt tbX9_adds_0_ok 39 rfl
theorem dX9_adds_62 : decode cX9_adds 62 = .ok (.iconst (-1), 1) := xdt tbX9_adds_0_ok 40 rfl
theorem dX9_adds_63 : decode cX9_adds 63 = .ok (.iastore, 1) := xdt tbX9_adds_0_ok 41 rfl
theorem dX9_adds_64 : decode cX9_adds 64 = .ok (.aload_n 0, 1) := xdt tbX9_adds_0_ok 42 rfl
theorem dX9_adds_65 : decode cX9_adds 65 = .ok (.getfield 23, 3) := xdt tbX9_adds_0_ok 43 rfl
theorem dX9_adds_68 : decode cX9_adds 68 = .ok (.iload 6, 2) := xdt tbX9_adds_0_ok 44 rfl
theorem dX9_adds_70 : decode cX9_adds 70 = .ok (.iconst 5, 1) := xdt tbX9_adds_0_ok 45 rfl
theorem dX9_adds_71 : decode cX9_adds 71 = .ok (.iadd, 1) := xdt tbX9_adds_0_ok 46 rfl
theorem dX9_adds_72 : decode cX9_adds 72 = .ok (.iload 5, 2) := xdt tbX9_adds_0_ok 47 rfl
theorem dX9_adds_74 : decode cX9_adds 74 = .ok (.iastore, 1) := xdt tbX9_adds_0_ok 48 rfl
theorem dX9_adds_75 : decode cX9_adds 75 = .ok (.aload_n 0, 1) := xdt tbX9_adds_0_ok 49 rfl
theorem dX9_adds_76 : decode cX9_adds 76 = .ok (.getfield 23, 3) := xdt tbX9_adds_0_ok 50 rfl
theorem dX9_adds_79 : decode cX9_adds 79 = .ok (.iconst 3, 1) := xdt tbX9_adds_0_ok 51 rfl
theorem dX9_adds_80 : decode cX9_adds 80 = .ok (.dup2, 1) := xdt tbX9_adds_0_ok 52 rfl
theorem dX9_adds_81 : decode cX9_adds 81 = .ok (.iaload, 1) := xdt tbX9_adds_0_ok 53 rfl
theorem dX9_adds_82 : decode cX9_adds 82 = .ok (.iconst 1, 1) := xdt tbX9_adds_0_ok 54 rfl
theorem dX9_adds_83 : decode cX9_adds 83 = .ok (.iadd, 1) := xdt tbX9_adds_0_ok 55 rfl
theorem dX9_adds_84 : decode cX9_adds 84 = .ok (.iastore, 1) := xdt tbX9_adds_0_ok 56 rfl
theorem dX9_adds_85 : decode cX9_adds 85 = .ok (.aload_n 0, 1) := xdt tbX9_adds_0_ok 57 rfl
theorem dX9_adds_86 : decode cX9_adds 86 = .ok (.getfield 23, 3) := xdt tbX9_adds_0_ok 58 rfl
theorem dX9_adds_89 : decode cX9_adds 89 = .ok (.iconst 3, 1) := xdt tbX9_adds_0_ok 59 rfl
def tbX9_adds_60 : List (Nat × Instr × Nat) := [(90, .iaload, 1), (91, .iconst 1, 1), (92, .isub, 1), (93, .ireturn, 1)]
theorem tbX9_adds_60_ok : tbX9_adds_60.all (fun q => decide (decode cX9_adds q.1 = .ok q.2)) = true := by decide +kernel
theorem dX9_adds_90 : decode cX9_adds 90 = .ok (.iaload, 1) := xdt tbX9_adds_60_ok 0 rfl
theorem dX9_adds_91 : decode cX9_adds 91 = .ok (.iconst 1, 1) := xdt tbX9_adds_60_ok 1 rfl
theorem dX9_adds_92 : decode cX9_adds 92 = .ok (.isub, 1) := xdt tbX9_adds_60_ok 2 rfl
theorem dX9_adds_93 : decode cX9_adds 93 = .ok (.ireturn, 1) := xdt tbX9_adds_60_ok 3 rfl
def tbX9_canBeTerm_0 : List (Nat × Instr × Nat) := [(0, .aload_n 0, 1), (1, .invokevirtual 123, 3), (4, .invokestatic 168, 3), (7, .ifCond .ne 31, 3), (10, .aload_n 0, 1), (11, .invokevirtual 123, 3), (14, .invokestatic 159, 3), (17, .ifCond .ne 21, 3), (20, .aload_n 0, 1), (21, .invokevirtual 123, 3), (24, .bipush 40, 2), (26, .if_icmp .eq 12, 3), (29, .aload_n 0, 1), (30, .ldc 174, 2), (32, .invokevirtual 144, 3), (35, .ifCond .eq 7, 3), (38, .iconst 1, 1), (39, .goto 4, 3), (42, .iconst 0, 1), (43, .ireturn, 1)]
theorem tbX9_canBeTerm_0_ok : tbX9_canBeTerm_0.all (fun q => decide (decode cX9_canBeTerm q.1 = .ok q.2)) = true := by decide +kernel
theorem dX9_canBeTerm_0 : decode cX9_canBeTerm 0 = .ok (.aload_n 0, 1) := xdt tbX9_canBeTerm_0_ok 0 rfl
theorem dX9_canBeTerm_1 : decode cX9_canBeTerm 1 = .ok (.invokevirtual 123, 3) := xdt tbX9_canBeTerm_0_ok 1 rfl
theorem dX9_canBeTerm_4 : decode cX9_canBeTerm 4 = .ok (.invokestatic 168, 3) := xdt tbX9_canBeTerm_0_ok 2 rfl
theorem dX9_canBeTerm_7 : decode cX9_canBeTerm 7 = .ok (.ifCond .ne 31, 3) := xdt tbX9_canBeTerm_0_ok 3 rfl
theorem dX9_canBeTerm_10 : decode cX9_canBeTerm 10 = .ok (.aload_n 0, 1) := xdt tbX9_canBeTerm_0_ok 4 rfl
theorem dX9_canBeTerm_11 : decode cX9_canBeTerm 11 = .ok (.invokevirtual 123, 3) := xdt tbX9_canBeTerm_0_ok 5 rfl
theorem dX9_canBeTerm_14 : decode cX9_canBeTerm 14 = .ok (.invokestatic 159, 3) := xdt tbX9_canBeTerm_0_ok 6 rfl
theorem dX9_canBeTerm_17 : decode cX9_canBeTerm 17 = .ok (.ifCond .ne 21, 3) := xdt tbX9_canBeTerm_0_ok 7 rfl
theorem dX9_canBeTerm_20 : decode cX9_canBeTerm 20 = .ok (.aload_n 0, 1) := xdt tbX9_canBeTerm_0_ok 8 rfl
theorem dX9_canBeTerm_21 : decode cX9_canBeTerm 21 = .ok (.invokevirtual 123, 3) := xdt tbX9_canBeTerm_0_ok 9 rfl
theorem dX9_canBeTerm_24 : decode cX9_canBeTerm 24 = .ok (.bipush 40, 2) := xdt tbX9_canBeTerm_0_ok 10 rfl
theorem dX9_canBeTerm_26 : decode cX9_canBeTerm 26 = .ok (.if_icmp .eq 12, 3) := xdt tbX9_canBeTerm_0_ok 11 rfl
theorem dX9_canBeTerm_29 : decode cX9_canBeTerm 29 = .ok (.aload_n 0, 1) := xdt tbX9_canBeTerm_0_ok 12 rfl
theorem dX9_canBeTerm_30 : decode cX9_canBeTerm 30 = .ok (.ldc 174, 2) := xdt tbX9_canBeTerm_0_ok 13 rfl
theorem dX9_canBeTerm_32 : decode cX9_canBeTerm 32 = .ok (.invokevirtual 144, 3) := xdt tbX9_canBeTerm_0_ok 14 rfl
theorem dX9_canBeTerm_35 : decode cX9_canBeTerm 35 = .ok (.ifCond .eq 7, 3) := xdt tbX9_canBeTerm_0_ok 15 rfl
theorem dX9_canBeTerm_38 : decode cX9_canBeTerm 38 = .ok (.iconst 1, 1) := xdt tbX9_canBeTerm_0_ok 16 rfl
theorem dX9_canBeTerm_39 : decode cX9_canBeTerm 39 = .ok (.goto 4, 3) := xdt tbX9_canBeTerm_0_ok 17 rfl
theorem dX9_canBeTerm_42 : decode cX9_canBeTerm 42 = .ok (.iconst 0, 1) := xdt tbX9_canBeTerm_0_ok 18 rfl
theorem dX9_canBeTerm_43 : decode cX9_canBeTerm 43 = .ok (.ireturn, 1) := xdt tbX9_canBeTerm_0_ok 19 rfl
def tbX9_term_0 : List (Nat × Instr × Nat) := [(0, .aload_n 0, 1), (1, .invokevirtual 140, 3), (4, .ifCond .ne 5, 3), (7, .iconst (-1), 1), (8, .ireturn, 1), (9, .aload_n 0, 1), (10, .invokevirtual 123, 3), (13, .pop, 1), (14, .aload_n 0, 1), (15, .getfield 110, 3), (18, .istore_n 2, 1), (19, .aload_n 0, 1), (20, .invokevirtual 176, 3), (23, .ifCond .eq 20, 3), (26, .aload_n 0, 1), (27, .invokevirtual 123, 3), (30, .invokestatic 159, 3), (33, .ifCond .eq 17, 3), (36, .aload_n 0, 1), (37, .invokevirtual 162, 3), (40, .ifCond .ne 10, 3), (43, .aload_n 0, 1), (44, .iconst 1, 1), (45, .iload_n 2, 1), (46, .invokevirtual 151, 3), (49, .ireturn, 1), (50, .aload_n 0, 1), (51, .getfield 179, 3), (54, .bipush 8, 2), (56, .if_icmp .ne 29, 3), (59, .aload_n 0, 1), (60, .invokevirtual 123, 3), (63, .invokestatic 168, 3), (66, .ifCond .eq 10, 3), (69, .aload_n 0, 1), (70, .invokevirtual 182, 3), (73, .goto 4, 3), (76, .iconst 0, 1), (77, .istore_n 3, 1), (78, .aload_n 0, 1), (79, .iconst 3, 1), (80, .iload_n 2, 1), (81, .invokevirtual 151, 3), (84, .ireturn, 1), (85, .aload_n 0, 1), (86, .dup, 1), (87, .getfield 179, 3), (90, .iconst 1, 1), (91, .iadd, 1), (92, .putfield 179, 3), (95, .aload_n 0, 1), (96, .invokevirtual 123, 3), (99, .invokestatic 168, 3), (102, .ifCond .eq 16, 3), (105, .aload_n 0, 1), (106, .iload_n 1, 1), (107, .iconst 0, 1), (108, .aload_n 0, 1), (109, .invokevirtual 182, 3), (112, .iconst 0, 1)]
theorem tbX9_term_0_ok : tbX9_term_0.all (fun q => decide (decode cX9_term q.1 = .ok q.2)) = true := by decide +kernel
theorem dX9_term_0 : decode cX9_term 0 = .ok (.aload_n 0, 1) := xdt tbX9_term_0_ok 0 rfl
theorem dX9_term_1 : decode cX9_term 1 = .ok (.invokevirtual 140, 3) := xdt tbX9_term_0_ok 1 rfl
theorem dX9_term_4 : decode cX9_term 4 = .ok (.ifCond .ne 5, 3) := xdt tbX9_term_0_ok 2 rfl
theorem dX9_term_7 : decode cX9_term 7 = .ok (.iconst (-1), 1) := xdt tbX9_term_0_ok 3 rfl
theorem dX9_term_8 : decode cX9_term 8 = .ok (.ireturn, 1) := xdt tbX9_term_0_ok 4 rfl
theorem dX9_term_9 : decode cX9_term 9 = .ok (.aload_n 0, 1) := xdt tbX9_term_0_ok 5 rfl
theorem dX9_term_10 : decode cX9_term 10 = .ok (.invokevirtual 123, 3) := xdt tbX9_term_0_ok 6 rfl
theorem dX9_term_13 : decode cX9_term 13 = .ok (.pop, 1) := xdt tbX9_term_0_ok 7 rfl
theorem dX9_term_14 : decode cX9_term 14 = .ok (.aload_n 0, 1) := xdt tbX9_term_0_ok 8 rfl
theorem dX9_term_15 : decode cX9_term 15 = .ok (.getfield 110, 3) := xdt tbX9_term_0_ok 9 rfl
theorem dX9_term_18 : decode cX9_term 18 = .ok (.istore_n 2, 1) := xdt tbX9_term_0_ok 10 rfl
theorem dX9_term_19 : decode cX9_term 19 = .ok (.aload_n 0, 1) := xdt tbX9_term_0_ok 11 rfl
theorem dX9_term_20 : decode cX9_term 20 = .ok (.invokevirtual 176, 3) := xdt tbX9_term_0_ok 12 rfl
theorem dX9_term_23 : decode cX9_term 23 = .ok (.ifCond .eq 20, 3) := xdt tbX9_term_0_ok 13 rfl
theorem dX9_term_26 : decode cX9_term 26 = .ok (.aload_n 0, 1) := xdt tbX9_term_0_ok 14 rfl
theorem dX9_term_27 : decode cX9_term 27 = .ok (.invokevirtual 123, 3) := xdt tbX9_term_0_ok 15 rfl
theorem dX9_term_30 : decode cX9_term 30 = .ok (.invokestatic 159, 3) := xdt tbX9_term_0_ok 16 rfl
theorem dX9_term_33 : decode cX9_term 33 = .ok (.ifCond .eq 17, 3) := xdt tbX9_term_0_ok 17 rfl
theorem dX9_term_36 : decode cX9_term 36 = .ok (.aload_n 0, 1) := xdt tbX9_term_0_ok 18 rfl
theorem dX9_term_37 : decode cX9_term 37 = .ok (.invokevirtual 162, 3) := xdt tbX9_term_0_ok 19 rfl
theorem dX9_term_40 : decode cX9_term 40 = .ok (.ifCond .ne 10, 3) := xdt tbX9_term_0_ok 20 rfl
theorem dX9_term_43 : decode cX9_term 43 = .ok (.aload_n 0, 1) := xdt tbX9_term_0_ok 21 rfl
theorem dX9_term_44 : decode cX9_term 44 = .ok (.iconst 1, 1) := xdt tbX9_term_0_ok 22 rfl
theorem dX9_term_45 : decode cX9_term 45 = .ok (.iload_n 2, 1) := xdt tbX9_term_0_ok 23 rfl
theorem dX9_term_46 : decode cX9_term 46 = .ok (.invokevirtual 151, 3) := xdt tbX9_term_0_ok 24 rfl
theorem dX9_term_49 : decode cX9_term 49 = .ok (.ireturn, 1) := xdt tbX9_term_0_ok 25 rfl
theorem dX9_term_50 : decode cX9_term 50 = .ok (.aload_n 0, 1) := xdt tbX9_term_0_ok 26 rfl
theorem dX9_term_51 : decode cX9_term 51 = .ok (.getfield 179, 3) := xdt tbX9_term_0_ok 27 rfl
theorem dX9_term_54 : decode cX9_term 54 = .ok (.bipush 8, 2) := xdt tbX9_term_0_ok 28 rfl
theorem dX9_term_56 : decode cX9_term 56 = .ok (.if_icmp .ne 29, 3) := xdt tbX9_term_0_ok 29 rfl
theorem dX9_term_59 : decode cX9_term 59 = .ok (.aload_n 0, 1) := xdt tbX9_term_0_ok 30 rfl
theorem dX9_term_60 : decode cX9_term 60 = .ok (.invokevirtual 123, 3) := xdt tbX9_term_0_ok 31 rfl
theorem dX9_term_63 : decode cX9_term 63 = .ok (.invokestatic 168, 3) := xdt tbX9_term_0_ok 32 rfl
theorem dX9_term_66 : decode cX9_term 66 = .ok (.ifCond .eq 10, 3) := xdt tbX9_term_0_ok 33 rfl
theorem dX9_term_69 : decode cX9_term 69 = .ok (.aload_n 0, 1) := xdt tbX9_term_0_ok 34 rfl
theorem dX9_term_70 : decode cX9_term 70 = .ok (.invokevirtual 182, 3) := xdt tbX9_term_0_ok 35 rfl
theorem dX9_term_73 : decode cX9_term 73 = .ok (.goto 4, 3) := xdt tbX9_term_0_ok 36 rfl
theorem dX9_term_76 : decode cX9_term 76 = .ok (.iconst 0, 1) := xdt tbX9_term_0_ok 37 rfl
theorem dX9_term_77 : decode cX9_term 77 = .ok (.istore_n 3, 1) := xdt tbX9_term_0_ok 38 rfl
theorem dX9_term_78 : decode cX9_term 78 = .ok (.aload_n 0, 1) := xdt tbX9_term_0_ok 39 rfl
theorem dX9_term_79 : decode cX9_term 79 = .ok (.iconst 3, 1) := xdt tbX9_term_0_ok 40 rfl
theorem dX9_term_80 : decode cX9_term 80 = .ok (.iload_n 2, 1) := xdt tbX9_term_0_ok 41 rfl
theorem dX9_term_81 : decode cX9_term 81 = .ok (.invokevirtual 151, 3) := xdt tbX9_term_0_ok 42 rfl
theorem dX9_term_84 : decode cX9_term 84 = .ok (.ireturn, 1) := xdt tbX9_term_0_ok 43 rfl
theorem dX9_term_85 : decode cX9_term 85 = .ok (.aload_n 0, 1) := xdt tbX9_term_0_ok 44 rfl
theorem dX9_term_86 : decode cX9_term 86 = .ok (.dup, 1) := xdt tbX9_term_0_ok 45 rfl
theorem dX9_term_87 : decode cX9_term 87 = .ok (.getfield 179, 3) := xdt tbX9_term_0_ok 46 rfl
theorem dX9_term_90 : decode cX9_term 90 = .ok (.iconst 1, 1) := xdt tbX9_term_0_ok 47 rfl
theorem dX9_term_91 : decode cX9_term 91 = .ok (.iadd, 1) := xdt tbX9_term_0_ok 48 rfl
theorem dX9_term_92 : decode cX9_term 92 = .ok (.putfield 179, 3) := xdt tbX9_term_0_ok 49 rfl
theorem dX9_term_95 : decode cX9_term 95 = .ok (.aload_n 0, 1) := xdt tbX9_term_0_ok 50 rfl
theorem dX9_term_96 : decode cX9_term 96 = .ok (.invokevirtual 123, 3) := xdt tbX9_term_0_ok 51 rfl
theorem dX9_term_99 : decode cX9_term 99 = .ok (.invokestatic 168, 3) := xdt tbX9_term_0_ok 52 rfl
theorem dX9_term_102 : decode cX9_term 102 = .ok (.ifCond .eq 16, 3) := xdt tbX9_term_0_ok 53 rfl
theorem dX9_term_105 : decode cX9_term 105 = .ok (.aload_n 0, 1) := xdt tbX9_term_0_ok 54 rfl
theorem dX9_term_106 : decode cX9_term 106 = .ok (.iload_n 1, 1) := xdt tbX9_term_0_ok 55 rfl
theorem dX9_term_107 : decode cX9_term 107 = .ok (.iconst 0, 1) := xdt tbX9_term_0_ok 56 rfl
theorem dX9_term_108 : decode cX9_term 108 = .ok (.aload_n 0, 1) := xdt tbX9_term_0_ok 57 rfl
theorem dX9_term_109 : decode cX9_term 109 = .ok (.invokevirtual 182, 3) := xdt tbX9_term_0_ok 58 rfl
theorem dX9_term_112 : decode cX9_term 112 = .ok (.iconst 0, 1) := xdt tbX9_term_0_ok 59 rfl
def tbX9_term_60 : List (Nat × Instr × Nat) := [(113, .iload_n 2, 1), (114, .invokevirtual 185, 3), (117, .ireturn, 1), (118, .aload_n 0, 1), (119, .ldc 174, 2), (121, .invokevirtual 189, 3), (124, .ifCond .eq 13, 3), (127, .aload_n 0, 1), (128, .iload_n 1, 1), (129, .iconst 3, 1), (130, .iconst 0, 1), (131, .iconst 0, 1), (132, .iload_n 2, 1), (133, .invokevirtual 185, 3), (136, .ireturn, 1), (137, .aload_n 0, 1), (138, .bipush 40, 2), (140, .invokevirtual 148, 3), (143, .ifCond .eq 44, 3), (146, .aload_n 0, 1), (147, .iload_n 1, 1), (148, .iconst 4, 1), (149, .iconst (-1), 1), (150, .iconst 0, 1), (151, .iload_n 2, 1), (152, .invokevirtual 185, 3), (155, .istore_n 3, 1), (156, .aload_n 0, 1), (157, .invokevirtual 192, 3), (160, .istore 4, 2), (162, .aload_n 0, 1), (163, .getfield 23, 3), (166, .sipush 1410, 3), (169, .bipush 6, 2), (171, .iload_n 3, 1), (172, .imul, 1), (173, .iadd, 1), (174, .iconst 2, 1), (175, .iadd, 1), (176, .iload 4, 2), (178, .iastore, 1), (179, .aload_n 0, 1), (180, .bipush 41, 2), (182, .invokevirtual 195, 3), (185, .iload_n 3, 1), (186, .ireturn, 1), (187, .aload_n 0, 1), (188, .invokevirtual 199, 3), (191, .istore_n 3, 1), (192, .aload_n 0, 1), (193, .bipush 46, 2), (195, .invokevirtual 195, 3), (198, .aload_n 0, 1), (199, .invokevirtual 202, 3), (202, .istore 4, 2), (204, .aload_n 0, 1), (205, .bipush 40, 2), (207, .invokevirtual 148, 3), (210, .istore 5, 2), (212, .iload 5, 2)]
theorem tbX9_term_60_ok : tbX9_term_60.all (fun q => decide (decode cX9_term q.1 = .ok q.2)) = true := by decide +kernel
theorem dX9_term_113 : decode cX9_term 113 = .ok (.iload_n 2, 1) := xdt tbX9_term_60_ok 0 rfl
theorem dX9_term_114 : decode cX9_term 114 = .ok (.invokevirtual 185, 3) := xdt tbX9_term_60_ok 1 rfl
theorem dX9_term_117 : decode cX9_term 117 = .ok (.ireturn, 1) := xdt tbX9_term_60_ok 2 rfl
theorem dX9_term_118 : decode cX9_term 118 = .ok (.aload_n 0, 1) := xdt tbX9_term_60_ok 3 rfl
theorem dX9_term_119 : decode cX9_term 119 = .ok (.ldc 174, 2) := xdt tbX9_term_60_ok 4 rfl
theorem dX9_term_121 : decode cX9_term 121 = .ok (.invokevirtual 189, 3) := xdt tbX9_term_60_ok 5 rfl
theorem dX9_term_124 : decode cX9_term 124 = .ok (.ifCond .eq 13, 3) := xdt tbX9_term_60_ok 6 rfl
theorem dX9_term_127 : decode cX9_term 127 = .ok (.aload_n 0, 1) := xdt tbX9_term_60_ok 7 rfl
theorem dX9_term_128 : decode cX9_term 128 = .ok (.iload_n 1, 1) := xdt tbX9_term_60_ok 8 rfl
theorem dX9_term_129 : decode cX9_term 129 = .ok (.iconst 3, 1) := xdt tbX9_term_60_ok 9 rfl
theorem dX9_term_130 : decode cX9_term 130 = .ok (.iconst 0, 1) := xdt tbX9_term_60_ok 10 rfl
theorem dX9_term_131 : decode cX9_term 131 = .ok (.iconst 0, 1) := xdt tbX9_term_60_ok 11 rfl
theorem dX9_term_132 : decode cX9_term 132 = .ok (.iload_n 2, 1) := xdt tbX9_term_60_ok 12 rfl
theorem dX9_term_133 : decode cX9_term 133 = .ok (.invokevirtual 185, 3) := xdt tbX9_term_60_ok 13 rfl
theorem dX9_term_136 : decode cX9_term 136 = .ok (.ireturn, 1) := xdt tbX9_term_60_ok 14 rfl
theorem dX9_term_137 : decode cX9_term 137 = .ok (.aload_n 0, 1) := xdt tbX9_term_60_ok 15 rfl
theorem dX9_term_138 : decode cX9_term 138 = .ok (.bipush 40, 2) := xdt tbX9_term_60_ok 16 rfl
theorem dX9_term_140 : decode cX9_term 140 = .ok (.invokevirtual 148, 3) := xdt tbX9_term_60_ok 17 rfl
theorem dX9_term_143 : decode cX9_term 143 = .ok (.ifCond .eq 44, 3) := xdt tbX9_term_60_ok 18 rfl
theorem dX9_term_146 : decode cX9_term 146 = .ok (.aload_n 0, 1) := xdt tbX9_term_60_ok 19 rfl
theorem dX9_term_147 : decode cX9_term 147 = .ok (.iload_n 1, 1) := xdt tbX9_term_60_ok 20 rfl
theorem dX9_term_148 : decode cX9_term 148 = .ok (.iconst 4, 1) := xdt tbX9_term_60_ok 21 rfl
theorem dX9_term_149 : decode cX9_term 149 = .ok (.iconst (-1), 1) := xdt tbX9_term_60_ok 22 rfl
theorem dX9_term_150 : decode cX9_term 150 = .ok (.iconst 0, 1) := xdt tbX9_term_60_ok 23 rfl
theorem dX9_term_151 : decode cX9_term 151 = .ok (.iload_n 2, 1) := xdt tbX9_term_60_ok 24 rfl
theorem dX9_term_152 : decode cX9_term 152 = .ok (.invokevirtual 185, 3) := xdt tbX9_term_60_ok 25 rfl
theorem dX9_term_155 : decode cX9_term 155 = .ok (.istore_n 3, 1) := xdt tbX9_term_60_ok 26 rfl
theorem dX9_term_156 : decode cX9_term 156 = .ok (.aload_n 0, 1) := xdt tbX9_term_60_ok 27 rfl
theorem dX9_term_157 : decode cX9_term 157 = .ok (.invokevirtual 192, 3) := xdt tbX9_term_60_ok 28 rfl
theorem dX9_term_160 : decode cX9_term 160 = .ok (.istore 4, 2) := xdt tbX9_term_60_ok 29 rfl
theorem dX9_term_162 : decode cX9_term 162 = .ok (.aload_n 0, 1) := xdt tbX9_term_60_ok 30 rfl
theorem dX9_term_163 : decode cX9_term 163 = .ok (.getfield 23, 3) := xdt tbX9_term_60_ok 31 rfl
theorem dX9_term_166 : decode cX9_term 166 = .ok (.sipush 1410, 3) := xdt tbX9_term_60_ok 32 rfl
theorem dX9_term_169 : decode cX9_term 169 = .ok (.bipush 6, 2) := xdt tbX9_term_60_ok 33 rfl
theorem dX9_term_171 : decode cX9_term 171 = .ok (.iload_n 3, 1) := xdt tbX9_term_60_ok 34 rfl
theorem dX9_term_172 : decode cX9_term 172 = .ok (.imul, 1) := xdt tbX9_term_60_ok 35 rfl
theorem dX9_term_173 : decode cX9_term 173 = .ok (.iadd, 1) := xdt tbX9_term_60_ok 36 rfl
theorem dX9_term_174 : decode cX9_term 174 = .ok (.iconst 2, 1) := xdt tbX9_term_60_ok 37 rfl
theorem dX9_term_175 : decode cX9_term 175 = .ok (.iadd, 1) := xdt tbX9_term_60_ok 38 rfl
theorem dX9_term_176 : decode cX9_term 176 = .ok (.iload 4, 2) := xdt tbX9_term_60_ok 39 rfl
theorem dX9_term_178 : decode cX9_term 178 = .ok (.iastore, 1) := xdt tbX9_term_60_ok 40 rfl
theorem dX9_term_179 : decode cX9_term 179 = .ok (.aload_n 0, 1) := xdt tbX9_term_60_ok 41 rfl
theorem dX9_term_180 : decode cX9_term 180 = .ok (.bipush 41, 2) := xdt tbX9_term_60_ok 42 rfl
theorem dX9_term_182 : decode cX9_term 182 = .ok (.invokevirtual 195, 3) := xdt tbX9_term_60_ok 43 rfl
theorem dX9_term_185 : decode cX9_term 185 = .ok (.iload_n 3, 1) := xdt tbX9_term_60_ok 44 rfl
theorem dX9_term_186 : decode cX9_term 186 = .ok (.ireturn, 1) := xdt tbX9_term_60_ok 45 rfl
theorem dX9_term_187 : decode cX9_term 187 = .ok (.aload_n 0, 1) := xdt tbX9_term_60_ok 46 rfl
theorem dX9_term_188 : decode cX9_term 188 = .ok (.invokevirtual 199, 3) := xdt tbX9_term_60_ok 47 rfl
theorem dX9_term_191 : decode cX9_term 191 = .ok (.istore_n 3, 1) := xdt tbX9_term_60_ok 48 rfl
theorem dX9_term_192 : decode cX9_term 192 = .ok (.aload_n 0, 1) := xdt tbX9_term_60_ok 49 rfl
theorem dX9_term_193 : decode cX9_term 193 = .ok (.bipush 46, 2) := xdt tbX9_term_60_ok 50 rfl
theorem dX9_term_195 : decode cX9_term 195 = .ok (.invokevirtual 195, 3) := xdt tbX9_term_60_ok 51 rfl
theorem dX9_term_198 : decode cX9_term 198 = .ok (.aload_n 0, 1) := xdt tbX9_term_60_ok 52 rfl
theorem dX9_term_199 : decode cX9_term 199 = .ok (.invokevirtual 202, 3) := xdt tbX9_term_60_ok 53 rfl
theorem dX9_term_202 : decode cX9_term 202 = .ok (.istore 4, 2) := xdt tbX9_term_60_ok 54 rfl
theorem dX9_term_204 : decode cX9_term 204 = .ok (.aload_n 0, 1) := xdt tbX9_term_60_ok 55 rfl
theorem dX9_term_205 : decode cX9_term 205 = .ok (.bipush 40, 2) := xdt tbX9_term_60_ok 56 rfl
theorem dX9_term_207 : decode cX9_term 207 = .ok (.invokevirtual 148, 3) := xdt tbX9_term_60_ok 57 rfl
theorem dX9_term_210 : decode cX9_term 210 = .ok (.istore 5, 2) := xdt tbX9_term_60_ok 58 rfl
theorem dX9_term_212 : decode cX9_term 212 = .ok (.iload 5, 2) := xdt tbX9_term_60_ok 59 rfl
def tbX9_term_120 : List (Nat × Instr × Nat) := [(214, .ifCond .eq 9, 3), (217, .aload_n 0, 1), (218, .bipush 41, 2), (220, .invokevirtual 195, 3), (223, .aload_n 0, 1), (224, .invokevirtual 140, 3), (227, .ifCond .eq 25, 3), (230, .aload_n 0, 1), (231, .iload_n 1, 1), (232, .iload 5, 2), (234, .ifCond .eq 7, 3), (237, .iconst 2, 1), (238, .goto 4, 3), (241, .iconst 1, 1), (242, .iload_n 3, 1), (243, .iload 4, 2), (245, .iload_n 2, 1), (246, .invokevirtual 185, 3), (249, .goto 4, 3), (252, .iconst (-1), 1), (253, .ireturn, 1)]
theorem tbX9_term_120_ok : tbX9_term_120.all (fun q => decide (decode cX9_term q.1 = .ok q.2)) = true := by decide +kernel
theorem dX9_term_214 : decode cX9_term 214 = .ok (.ifCond .eq 9, 3) := xdt tbX9_term_120_ok 0 rfl
theorem dX9_term_217 : decode cX9_term 217 = .ok (.aload_n 0, 1) := xdt tbX9_term_120_ok 1 rfl
theorem dX9_term_218 : decode cX9_term 218 = .ok (.bipush 41, 2) := xdt tbX9_term_120_ok 2 rfl
theorem dX9_term_220 : decode cX9_term 220 = .ok (.invokevirtual 195, 3) := xdt tbX9_term_120_ok 3 rfl
theorem dX9_term_223 : decode cX9_term 223 = .ok (.aload_n 0, 1) := xdt tbX9_term_120_ok 4 rfl
theorem dX9_term_224 : decode cX9_term 224 = .ok (.invokevirtual 140, 3) := xdt tbX9_term_120_ok 5 rfl
theorem dX9_term_227 : decode cX9_term 227 = .ok (.ifCond .eq 25, 3) := xdt tbX9_term_120_ok 6 rfl
theorem dX9_term_230 : decode cX9_term 230 = .ok (.aload_n 0, 1) := xdt tbX9_term_120_ok 7 rfl
theorem dX9_term_231 : decode cX9_term 231 = .ok (.iload_n 1, 1) := xdt tbX9_term_120_ok 8 rfl
theorem dX9_term_232 : decode cX9_term 232 = .ok (.iload 5, 2) := xdt tbX9_term_120_ok 9 rfl
theorem dX9_term_234 : decode cX9_term 234 = .ok (.ifCond .eq 7, 3) := xdt tbX9_term_120_ok 10 rfl
theorem dX9_term_237 : decode cX9_term 237 = .ok (.iconst 2, 1) := xdt tbX9_term_120_ok 11 rfl
theorem dX9_term_238 : decode cX9_term 238 = .ok (.goto 4, 3) := xdt tbX9_term_120_ok 12 rfl
theorem dX9_term_241 : decode cX9_term 241 = .ok (.iconst 1, 1) := xdt tbX9_term_120_ok 13 rfl
theorem dX9_term_242 : decode cX9_term 242 = .ok (.iload_n 3, 1) := xdt tbX9_term_120_ok 14 rfl
theorem dX9_term_243 : decode cX9_term 243 = .ok (.iload 4, 2) := xdt tbX9_term_120_ok 15 rfl
theorem dX9_term_245 : decode cX9_term 245 = .ok (.iload_n 2, 1) := xdt tbX9_term_120_ok 16 rfl
theorem dX9_term_246 : decode cX9_term 246 = .ok (.invokevirtual 185, 3) := xdt tbX9_term_120_ok 17 rfl
theorem dX9_term_249 : decode cX9_term 249 = .ok (.goto 4, 3) := xdt tbX9_term_120_ok 18 rfl
theorem dX9_term_252 : decode cX9_term 252 = .ok (.iconst (-1), 1) := xdt tbX9_term_120_ok 19 rfl
theorem dX9_term_253 : decode cX9_term 253 = .ok (.ireturn, 1) := xdt tbX9_term_120_ok 20 rfl
def tbX9_sumOn_0 : List (Nat × Instr × Nat) := [(0, .aload_n 0, 1), (1, .bipush 43, 2), (3, .invokevirtual 205, 3), (6, .istore_n 1, 1), (7, .iload_n 1, 1), (8, .istore_n 2, 1), (9, .aload_n 0, 1), (10, .invokevirtual 140, 3), (13, .ifCond .eq 84, 3), (16, .aload_n 0, 1), (17, .invokevirtual 123, 3), (20, .bipush 43, 2), (22, .if_icmp .eq 21, 3), (25, .aload_n 0, 1), (26, .invokevirtual 123, 3), (29, .bipush 45, 2), (31, .if_icmp .eq 12, 3), (34, .aload_n 0, 1), (35, .invokevirtual 123, 3), (38, .bipush 42, 2), (40, .if_icmp .ne 57, 3), (43, .aload_n 0, 1), (44, .invokevirtual 123, 3), (47, .istore_n 3, 1), (48, .aload_n 0, 1), (49, .dup, 1), (50, .getfield 110, 3), (53, .iconst 1, 1), (54, .iadd, 1), (55, .putfield 110, 3), (58, .aload_n 0, 1), (59, .iload_n 3, 1), (60, .invokevirtual 205, 3), (63, .istore 4, 2), (65, .aload_n 0, 1), (66, .invokevirtual 140, 3), (69, .ifCond .ne 5, 3), (72, .iconst (-1), 1), (73, .ireturn, 1), (74, .aload_n 0, 1), (75, .getfield 23, 3), (78, .sipush 1410, 3), (81, .bipush 6, 2), (83, .iload_n 2, 1), (84, .imul, 1), (85, .iadd, 1), (86, .iconst 4, 1), (87, .iadd, 1), (88, .iload 4, 2), (90, .iastore, 1), (91, .iload 4, 2), (93, .istore_n 2, 1), (94, .goto (-85), 3), (97, .iload_n 1, 1), (98, .ireturn, 1)]
theorem tbX9_sumOn_0_ok : tbX9_sumOn_0.all (fun q => decide (decode cX9_sumOn q.1 = .ok q.2)) = true := by decide +kernel
theorem dX9_sumOn_0 : decode cX9_sumOn 0 = .ok (.aload_n 0, 1) := xdt tbX9_sumOn_0_ok 0 rfl
theorem dX9_sumOn_1 : decode cX9_sumOn 1 = .ok (.bipush 43, 2) := xdt tbX9_sumOn_0_ok 1 rfl
theorem dX9_sumOn_3 : decode cX9_sumOn 3 = .ok (.invokevirtual 205, 3) := xdt tbX9_sumOn_0_ok 2 rfl
theorem dX9_sumOn_6 : decode cX9_sumOn 6 = .ok (.istore_n 1, 1) := xdt tbX9_sumOn_0_ok 3 rfl
theorem dX9_sumOn_7 : decode cX9_sumOn 7 = .ok (.iload_n 1, 1) := xdt tbX9_sumOn_0_ok 4 rfl
theorem dX9_sumOn_8 : decode cX9_sumOn 8 = .ok (.istore_n 2, 1) := xdt tbX9_sumOn_0_ok 5 rfl
theorem dX9_sumOn_9 : decode cX9_sumOn 9 = .ok (.aload_n 0, 1) := xdt tbX9_sumOn_0_ok 6 rfl
theorem dX9_sumOn_10 : decode cX9_sumOn 10 = .ok (.invokevirtual 140, 3) := xdt tbX9_sumOn_0_ok 7 rfl
theorem dX9_sumOn_13 : decode cX9_sumOn 13 = .ok (.ifCond .eq 84, 3) := xdt tbX9_sumOn_0_ok 8 rfl
theorem dX9_sumOn_16 : decode cX9_sumOn 16 = .ok (.aload_n 0, 1) := xdt tbX9_sumOn_0_ok 9 rfl
theorem dX9_sumOn_17 : decode cX9_sumOn 17 = .ok (.invokevirtual 123, 3) := xdt tbX9_sumOn_0_ok 10 rfl
theorem dX9_sumOn_20 : decode cX9_sumOn 20 = .ok (.bipush 43, 2) := xdt tbX9_sumOn_0_ok 11 rfl
theorem dX9_sumOn_22 : decode cX9_sumOn 22 = .ok (.if_icmp .eq 21, 3) := xdt tbX9_sumOn_0_ok 12 rfl
theorem dX9_sumOn_25 : decode cX9_sumOn 25 = .ok (.aload_n 0, 1) := xdt tbX9_sumOn_0_ok 13 rfl
theorem dX9_sumOn_26 : decode cX9_sumOn 26 = .ok (.invokevirtual 123, 3) := xdt tbX9_sumOn_0_ok 14 rfl
theorem dX9_sumOn_29 : decode cX9_sumOn 29 = .ok (.bipush 45, 2) := xdt tbX9_sumOn_0_ok 15 rfl
theorem dX9_sumOn_31 : decode cX9_sumOn 31 = .ok (.if_icmp .eq 12, 3) := xdt tbX9_sumOn_0_ok 16 rfl
theorem dX9_sumOn_34 : decode cX9_sumOn 34 = .ok (.aload_n 0, 1) := xdt tbX9_sumOn_0_ok 17 rfl
theorem dX9_sumOn_35 : decode cX9_sumOn 35 = .ok (.invokevirtual 123, 3) := xdt tbX9_sumOn_0_ok 18 rfl
theorem dX9_sumOn_38 : decode cX9_sumOn 38 = .ok (.bipush 42, 2) := xdt tbX9_sumOn_0_ok 19 rfl
theorem dX9_sumOn_40 : decode cX9_sumOn 40 = .ok (.if_icmp .ne 57, 3) := xdt tbX9_sumOn_0_ok 20 rfl
theorem dX9_sumOn_43 : decode cX9_sumOn 43 = .ok (.aload_n 0, 1) := xdt tbX9_sumOn_0_ok 21 rfl
theorem dX9_sumOn_44 : decode cX9_sumOn 44 = .ok (.invokevirtual 123, 3) := xdt tbX9_sumOn_0_ok 22 rfl
theorem dX9_sumOn_47 : decode cX9_sumOn 47 = .ok (.istore_n 3, 1) := xdt tbX9_sumOn_0_ok 23 rfl
theorem dX9_sumOn_48 : decode cX9_sumOn 48 = .ok (.aload_n 0, 1) := xdt tbX9_sumOn_0_ok 24 rfl
theorem dX9_sumOn_49 : decode cX9_sumOn 49 = .ok (.dup, 1) := xdt tbX9_sumOn_0_ok 25 rfl
theorem dX9_sumOn_50 : decode cX9_sumOn 50 = .ok (.getfield 110, 3) := xdt tbX9_sumOn_0_ok 26 rfl
theorem dX9_sumOn_53 : decode cX9_sumOn 53 = .ok (.iconst 1, 1) := xdt tbX9_sumOn_0_ok 27 rfl
theorem dX9_sumOn_54 : decode cX9_sumOn 54 = .ok (.iadd, 1) := xdt tbX9_sumOn_0_ok 28 rfl
theorem dX9_sumOn_55 : decode cX9_sumOn 55 = .ok (.putfield 110, 3) := xdt tbX9_sumOn_0_ok 29 rfl
theorem dX9_sumOn_58 : decode cX9_sumOn 58 = .ok (.aload_n 0, 1) := xdt tbX9_sumOn_0_ok 30 rfl
theorem dX9_sumOn_59 : decode cX9_sumOn 59 = .ok (.iload_n 3, 1) := xdt tbX9_sumOn_0_ok 31 rfl
theorem dX9_sumOn_60 : decode cX9_sumOn 60 = .ok (.invokevirtual 205, 3) := xdt tbX9_sumOn_0_ok 32 rfl
theorem dX9_sumOn_63 : decode cX9_sumOn 63 = .ok (.istore 4, 2) := xdt tbX9_sumOn_0_ok 33 rfl
theorem dX9_sumOn_65 : decode cX9_sumOn 65 = .ok (.aload_n 0, 1) := xdt tbX9_sumOn_0_ok 34 rfl
theorem dX9_sumOn_66 : decode cX9_sumOn 66 = .ok (.invokevirtual 140, 3) := xdt tbX9_sumOn_0_ok 35 rfl
theorem dX9_sumOn_69 : decode cX9_sumOn 69 = .ok (.ifCond .ne 5, 3) := xdt tbX9_sumOn_0_ok 36 rfl
theorem dX9_sumOn_72 : decode cX9_sumOn 72 = .ok (.iconst (-1), 1) := xdt tbX9_sumOn_0_ok 37 rfl
theorem dX9_sumOn_73 : decode cX9_sumOn 73 = .ok (.ireturn, 1) := xdt tbX9_sumOn_0_ok 38 rfl
theorem dX9_sumOn_74 : decode cX9_sumOn 74 = .ok (.aload_n 0, 1) := xdt tbX9_sumOn_0_ok 39 rfl
theorem dX9_sumOn_75 : decode cX9_sumOn 75 = .ok (.getfield 23, 3) := xdt tbX9_sumOn_0_ok 40 rfl
theorem dX9_sumOn_78 : decode cX9_sumOn 78 = .ok (.sipush 1410, 3) := xdt tbX9_sumOn_0_ok 41 rfl
theorem dX9_sumOn_81 : decode cX9_sumOn 81 = .ok (.bipush 6, 2) := xdt tbX9_sumOn_0_ok 42 rfl
theorem dX9_sumOn_83 : decode cX9_sumOn 83 = .ok (.iload_n 2, 1) := xdt tbX9_sumOn_0_ok 43 rfl
theorem dX9_sumOn_84 : decode cX9_sumOn 84 = .ok (.imul, 1) := xdt tbX9_sumOn_0_ok 44 rfl
theorem dX9_sumOn_85 : decode cX9_sumOn 85 = .ok (.iadd, 1) := xdt tbX9_sumOn_0_ok 45 rfl
theorem dX9_sumOn_86 : decode cX9_sumOn 86 = .ok (.iconst 4, 1) := xdt tbX9_sumOn_0_ok 46 rfl
theorem dX9_sumOn_87 : decode cX9_sumOn 87 = .ok (.iadd, 1) := xdt tbX9_sumOn_0_ok 47 rfl
theorem dX9_sumOn_88 : decode cX9_sumOn 88 = .ok (.iload 4, 2) := xdt tbX9_sumOn_0_ok 48 rfl
theorem dX9_sumOn_90 : decode cX9_sumOn 90 = .ok (.iastore, 1) := xdt tbX9_sumOn_0_ok 49 rfl
theorem dX9_sumOn_91 : decode cX9_sumOn 91 = .ok (.iload 4, 2) := xdt tbX9_sumOn_0_ok 50 rfl
theorem dX9_sumOn_93 : decode cX9_sumOn 93 = .ok (.istore_n 2, 1) := xdt tbX9_sumOn_0_ok 51 rfl
theorem dX9_sumOn_94 : decode cX9_sumOn 94 = .ok (.goto (-85), 3) := xdt tbX9_sumOn_0_ok 52 rfl
theorem dX9_sumOn_97 : decode cX9_sumOn 97 = .ok (.iload_n 1, 1) := xdt tbX9_sumOn_0_ok 53 rfl
theorem dX9_sumOn_98 : decode cX9_sumOn 98 = .ok (.ireturn, 1) := xdt tbX9_sumOn_0_ok 54 rfl
def tbX9_sum_0 : List (Nat × Instr × Nat) := [(0, .aload_n 0, 1), (1, .iconst 0, 1), (2, .putfield 179, 3), (5, .aload_n 0, 1), (6, .invokevirtual 192, 3), (9, .ireturn, 1)]
theorem tbX9_sum_0_ok : tbX9_sum_0.all (fun q => decide (decode cX9_sum q.1 = .ok q.2)) = true := by decide +kernel
theorem dX9_sum_0 : decode cX9_sum 0 = .ok (.aload_n 0, 1) := xdt tbX9_sum_0_ok 0 rfl
theorem dX9_sum_1 : decode cX9_sum 1 = .ok (.iconst 0, 1) := xdt tbX9_sum_0_ok 1 rfl
theorem dX9_sum_2 : decode cX9_sum 2 = .ok (.putfield 179, 3) := xdt tbX9_sum_0_ok 2 rfl
theorem dX9_sum_5 : decode cX9_sum 5 = .ok (.aload_n 0, 1) := xdt tbX9_sum_0_ok 3 rfl
theorem dX9_sum_6 : decode cX9_sum 6 = .ok (.invokevirtual 192, 3) := xdt tbX9_sum_0_ok 4 rfl
theorem dX9_sum_9 : decode cX9_sum 9 = .ok (.ireturn, 1) := xdt tbX9_sum_0_ok 5 rfl
def tbX9_act_0 : List (Nat × Instr × Nat) := [(0, .sipush 530, 3), (3, .iconst 4, 1), (4, .aload_n 0, 1), (5, .getfield 23, 3), (8, .iconst 2, 1), (9, .iaload, 1), (10, .imul, 1), (11, .iadd, 1), (12, .istore 5, 2), (14, .aload_n 0, 1), (15, .getfield 23, 3), (18, .iload 5, 2), (20, .iload_n 1, 1), (21, .iastore, 1), (22, .aload_n 0, 1), (23, .getfield 23, 3), (26, .iload 5, 2), (28, .iconst 1, 1), (29, .iadd, 1), (30, .iload_n 2, 1), (31, .iastore, 1), (32, .aload_n 0, 1), (33, .getfield 23, 3), (36, .iload 5, 2), (38, .iconst 2, 1), (39, .iadd, 1), (40, .iload_n 3, 1), (41, .iastore, 1), (42, .aload_n 0, 1), (43, .getfield 23, 3), (46, .iload 5, 2), (48, .iconst 3, 1), (49, .iadd, 1), (50, .iload 4, 2), (52, .iastore, 1), (53, .aload_n 0, 1), (54, .getfield 23, 3), (57, .iconst 2, 1), (58, .dup2, 1), (59, .iaload, 1), (60, .iconst 1, 1), (61, .iadd, 1), (62, .iastore, 1), (63, .aload_n 0, 1), (64, .getfield 23, 3), (67, .iconst 2, 1), (68, .iaload, 1), (69, .iconst 1, 1), (70, .isub, 1), (71, .ireturn, 1)]
theorem tbX9_act_0_ok : tbX9_act_0.all (fun q => decide (decode cX9_act q.1 = .ok q.2)) = true := by decide +kernel
theorem dX9_act_0 : decode cX9_act 0 = .ok (.sipush 530, 3) := xdt tbX9_act_0_ok 0 rfl
theorem dX9_act_3 : decode cX9_act 3 = .ok (.iconst 4, 1) := xdt tbX9_act_0_ok 1 rfl
theorem dX9_act_4 : decode cX9_act 4 = .ok (.aload_n 0, 1) := xdt tbX9_act_0_ok 2 rfl
theorem dX9_act_5 : decode cX9_act 5 = .ok (.getfield 23, 3) := xdt tbX9_act_0_ok 3 rfl
theorem dX9_act_8 : decode cX9_act 8 = .ok (.iconst 2, 1) := xdt tbX9_act_0_ok 4 rfl
theorem dX9_act_9 : decode cX9_act 9 = .ok (.iaload, 1) := xdt tbX9_act_0_ok 5 rfl
theorem dX9_act_10 : decode cX9_act 10 = .ok (.imul, 1) := xdt tbX9_act_0_ok 6 rfl
theorem dX9_act_11 : decode cX9_act 11 = .ok (.iadd, 1) := xdt tbX9_act_0_ok 7 rfl
theorem dX9_act_12 : decode cX9_act 12 = .ok (.istore 5, 2) := xdt tbX9_act_0_ok 8 rfl
theorem dX9_act_14 : decode cX9_act 14 = .ok (.aload_n 0, 1) := xdt tbX9_act_0_ok 9 rfl
theorem dX9_act_15 : decode cX9_act 15 = .ok (.getfield 23, 3) := xdt tbX9_act_0_ok 10 rfl
theorem dX9_act_18 : decode cX9_act 18 = .ok (.iload 5, 2) := xdt tbX9_act_0_ok 11 rfl
theorem dX9_act_20 : decode cX9_act 20 = .ok (.iload_n 1, 1) := xdt tbX9_act_0_ok 12 rfl
theorem dX9_act_21 : decode cX9_act 21 = .ok (.iastore, 1) := xdt tbX9_act_0_ok 13 rfl
theorem dX9_act_22 : decode cX9_act 22 = .ok (.aload_n 0, 1) := xdt tbX9_act_0_ok 14 rfl
theorem dX9_act_23 : decode cX9_act 23 = .ok (.getfield 23, 3) := xdt tbX9_act_0_ok 15 rfl
theorem dX9_act_26 : decode cX9_act 26 = .ok (.iload 5, 2) := xdt tbX9_act_0_ok 16 rfl
theorem dX9_act_28 : decode cX9_act 28 = .ok (.iconst 1, 1) := xdt tbX9_act_0_ok 17 rfl
theorem dX9_act_29 : decode cX9_act 29 = .ok (.iadd, 1) := xdt tbX9_act_0_ok 18 rfl
theorem dX9_act_30 : decode cX9_act 30 = .ok (.iload_n 2, 1) := xdt tbX9_act_0_ok 19 rfl
theorem dX9_act_31 : decode cX9_act 31 = .ok (.iastore, 1) := xdt tbX9_act_0_ok 20 rfl
theorem dX9_act_32 : decode cX9_act 32 = .ok (.aload_n 0, 1) := xdt tbX9_act_0_ok 21 rfl
theorem dX9_act_33 : decode cX9_act 33 = .ok (.getfield 23, 3) := xdt tbX9_act_0_ok 22 rfl
theorem dX9_act_36 : decode cX9_act 36 = .ok (.iload 5, 2) := xdt tbX9_act_0_ok 23 rfl
theorem dX9_act_38 : decode cX9_act 38 = .ok (.iconst 2, 1) := xdt tbX9_act_0_ok 24 rfl
theorem dX9_act_39 : decode cX9_act 39 = .ok (.iadd, 1) := xdt tbX9_act_0_ok 25 rfl
theorem dX9_act_40 : decode cX9_act 40 = .ok (.iload_n 3, 1) := xdt tbX9_act_0_ok 26 rfl
theorem dX9_act_41 : decode cX9_act 41 = .ok (.iastore, 1) := xdt tbX9_act_0_ok 27 rfl
theorem dX9_act_42 : decode cX9_act 42 = .ok (.aload_n 0, 1) := xdt tbX9_act_0_ok 28 rfl
theorem dX9_act_43 : decode cX9_act 43 = .ok (.getfield 23, 3) := xdt tbX9_act_0_ok 29 rfl
theorem dX9_act_46 : decode cX9_act 46 = .ok (.iload 5, 2) := xdt tbX9_act_0_ok 30 rfl
theorem dX9_act_48 : decode cX9_act 48 = .ok (.iconst 3, 1) := xdt tbX9_act_0_ok 31 rfl
theorem dX9_act_49 : decode cX9_act 49 = .ok (.iadd, 1) := xdt tbX9_act_0_ok 32 rfl
theorem dX9_act_50 : decode cX9_act 50 = .ok (.iload 4, 2) := xdt tbX9_act_0_ok 33 rfl
theorem dX9_act_52 : decode cX9_act 52 = .ok (.iastore, 1) := xdt tbX9_act_0_ok 34 rfl
theorem dX9_act_53 : decode cX9_act 53 = .ok (.aload_n 0, 1) := xdt tbX9_act_0_ok 35 rfl
theorem dX9_act_54 : decode cX9_act 54 = .ok (.getfield 23, 3) := xdt tbX9_act_0_ok 36 rfl
theorem dX9_act_57 : decode cX9_act 57 = .ok (.iconst 2, 1) := xdt tbX9_act_0_ok 37 rfl
theorem dX9_act_58 : decode cX9_act 58 = .ok (.dup2, 1) := xdt tbX9_act_0_ok 38 rfl
theorem dX9_act_59 : decode cX9_act 59 = .ok (.iaload, 1) := xdt tbX9_act_0_ok 39 rfl
theorem dX9_act_60 : decode cX9_act 60 = .ok (.iconst 1, 1) := xdt tbX9_act_0_ok 40 rfl
theorem dX9_act_61 : decode cX9_act 61 = .ok (.iadd, 1) := xdt tbX9_act_0_ok 41 rfl
theorem dX9_act_62 : decode cX9_act 62 = .ok (.iastore, 1) := xdt tbX9_act_0_ok 42 rfl
theorem dX9_act_63 : decode cX9_act 63 = .ok (.aload_n 0, 1) := xdt tbX9_act_0_ok 43 rfl
theorem dX9_act_64 : decode cX9_act 64 = .ok (.getfield 23, 3) := xdt tbX9_act_0_ok 44 rfl
theorem dX9_act_67 : decode cX9_act 67 = .ok (.iconst 2, 1) := xdt tbX9_act_0_ok 45 rfl
theorem dX9_act_68 : decode cX9_act 68 = .ok (.iaload, 1) := xdt tbX9_act_0_ok 46 rfl
theorem dX9_act_69 : decode cX9_act 69 = .ok (.iconst 1, 1) := xdt tbX9_act_0_ok 47 rfl
theorem dX9_act_70 : decode cX9_act 70 = .ok (.isub, 1) := xdt tbX9_act_0_ok 48 rfl
theorem dX9_act_71 : decode cX9_act 71 = .ok (.ireturn, 1) := xdt tbX9_act_0_ok 49 rfl
def tbX9_setHere_0 : List (Nat × Instr × Nat) := [(0, .aload_n 0, 1), (1, .invokevirtual 123, 3), (4, .pop, 1), (5, .aload_n 0, 1), (6, .getfield 110, 3), (9, .istore_n 1, 1), (10, .aload_n 0, 1), (11, .invokevirtual 199, 3), (14, .istore_n 2, 1), (15, .aload_n 0, 1), (16, .bipush 46, 2), (18, .invokevirtual 195, 3), (21, .aload_n 0, 1), (22, .invokevirtual 202, 3), (25, .istore_n 3, 1), (26, .aload_n 0, 1), (27, .bipush 61, 2), (29, .invokevirtual 195, 3), (32, .aload_n 0, 1), (33, .invokevirtual 208, 3), (36, .istore 4, 2), (38, .aload_n 0, 1), (39, .bipush 59, 2), (41, .invokevirtual 195, 3), (44, .aload_n 0, 1), (45, .invokevirtual 140, 3), (48, .ifCond .eq 15, 3), (51, .aload_n 0, 1), (52, .iload_n 2, 1), (53, .iload_n 3, 1), (54, .iload 4, 2), (56, .iload_n 1, 1), (57, .invokevirtual 211, 3), (60, .goto 4, 3), (63, .iconst (-1), 1), (64, .ireturn, 1)]
theorem tbX9_setHere_0_ok : tbX9_setHere_0.all (fun q => decide (decode cX9_setHere q.1 = .ok q.2)) = true := by decide +kernel
theorem dX9_setHere_0 : decode cX9_setHere 0 = .ok (.aload_n 0, 1) := xdt tbX9_setHere_0_ok 0 rfl
theorem dX9_setHere_1 : decode cX9_setHere 1 = .ok (.invokevirtual 123, 3) := xdt tbX9_setHere_0_ok 1 rfl
theorem dX9_setHere_4 : decode cX9_setHere 4 = .ok (.pop, 1) := xdt tbX9_setHere_0_ok 2 rfl
theorem dX9_setHere_5 : decode cX9_setHere 5 = .ok (.aload_n 0, 1) := xdt tbX9_setHere_0_ok 3 rfl
theorem dX9_setHere_6 : decode cX9_setHere 6 = .ok (.getfield 110, 3) := xdt tbX9_setHere_0_ok 4 rfl
theorem dX9_setHere_9 : decode cX9_setHere 9 = .ok (.istore_n 1, 1) := xdt tbX9_setHere_0_ok 5 rfl
theorem dX9_setHere_10 : decode cX9_setHere 10 = .ok (.aload_n 0, 1) := xdt tbX9_setHere_0_ok 6 rfl
theorem dX9_setHere_11 : decode cX9_setHere 11 = .ok (.invokevirtual 199, 3) := xdt tbX9_setHere_0_ok 7 rfl
theorem dX9_setHere_14 : decode cX9_setHere 14 = .ok (.istore_n 2, 1) := xdt tbX9_setHere_0_ok 8 rfl
theorem dX9_setHere_15 : decode cX9_setHere 15 = .ok (.aload_n 0, 1) := xdt tbX9_setHere_0_ok 9 rfl
theorem dX9_setHere_16 : decode cX9_setHere 16 = .ok (.bipush 46, 2) := xdt tbX9_setHere_0_ok 10 rfl
theorem dX9_setHere_18 : decode cX9_setHere 18 = .ok (.invokevirtual 195, 3) := xdt tbX9_setHere_0_ok 11 rfl
theorem dX9_setHere_21 : decode cX9_setHere 21 = .ok (.aload_n 0, 1) := xdt tbX9_setHere_0_ok 12 rfl
theorem dX9_setHere_22 : decode cX9_setHere 22 = .ok (.invokevirtual 202, 3) := xdt tbX9_setHere_0_ok 13 rfl
theorem dX9_setHere_25 : decode cX9_setHere 25 = .ok (.istore_n 3, 1) := xdt tbX9_setHere_0_ok 14 rfl
theorem dX9_setHere_26 : decode cX9_setHere 26 = .ok (.aload_n 0, 1) := xdt tbX9_setHere_0_ok 15 rfl
theorem dX9_setHere_27 : decode cX9_setHere 27 = .ok (.bipush 61, 2) := xdt tbX9_setHere_0_ok 16 rfl
theorem dX9_setHere_29 : decode cX9_setHere 29 = .ok (.invokevirtual 195, 3) := xdt tbX9_setHere_0_ok 17 rfl
theorem dX9_setHere_32 : decode cX9_setHere 32 = .ok (.aload_n 0, 1) := xdt tbX9_setHere_0_ok 18 rfl
theorem dX9_setHere_33 : decode cX9_setHere 33 = .ok (.invokevirtual 208, 3) := xdt tbX9_setHere_0_ok 19 rfl
theorem dX9_setHere_36 : decode cX9_setHere 36 = .ok (.istore 4, 2) := xdt tbX9_setHere_0_ok 20 rfl
theorem dX9_setHere_38 : decode cX9_setHere 38 = .ok (.aload_n 0, 1) := xdt tbX9_setHere_0_ok 21 rfl
theorem dX9_setHere_39 : decode cX9_setHere 39 = .ok (.bipush 59, 2) := xdt tbX9_setHere_0_ok 22 rfl
theorem dX9_setHere_41 : decode cX9_setHere 41 = .ok (.invokevirtual 195, 3) := xdt tbX9_setHere_0_ok 23 rfl
theorem dX9_setHere_44 : decode cX9_setHere 44 = .ok (.aload_n 0, 1) := xdt tbX9_setHere_0_ok 24 rfl
theorem dX9_setHere_45 : decode cX9_setHere 45 = .ok (.invokevirtual 140, 3) := xdt tbX9_setHere_0_ok 25 rfl
theorem dX9_setHere_48 : decode cX9_setHere 48 = .ok (.ifCond .eq 15, 3) := xdt tbX9_setHere_0_ok 26 rfl
theorem dX9_setHere_51 : decode cX9_setHere 51 = .ok (.aload_n 0, 1) := xdt tbX9_setHere_0_ok 27 rfl
theorem dX9_setHere_52 : decode cX9_setHere 52 = .ok (.iload_n 2, 1) := xdt tbX9_setHere_0_ok 28 rfl
theorem dX9_setHere_53 : decode cX9_setHere 53 = .ok (.iload_n 3, 1) := xdt tbX9_setHere_0_ok 29 rfl
theorem dX9_setHere_54 : decode cX9_setHere 54 = .ok (.iload 4, 2) := xdt tbX9_setHere_0_ok 30 rfl
theorem dX9_setHere_56 : decode cX9_setHere 56 = .ok (.iload_n 1, 1) := xdt tbX9_setHere_0_ok 31 rfl
theorem dX9_setHere_57 : decode cX9_setHere 57 = .ok (.invokevirtual 211, 3) := xdt tbX9_setHere_0_ok 32 rfl
theorem dX9_setHere_60 : decode cX9_setHere 60 = .ok (.goto 4, 3) := xdt tbX9_setHere_0_ok 33 rfl
theorem dX9_setHere_63 : decode cX9_setHere 63 = .ok (.iconst (-1), 1) := xdt tbX9_setHere_0_ok 34 rfl
theorem dX9_setHere_64 : decode cX9_setHere 64 = .ok (.ireturn, 1) := xdt tbX9_setHere_0_ok 35 rfl
def tbX9_doHere_0 : List (Nat × Instr × Nat) := [(0, .aload_n 0, 1), (1, .invokevirtual 123, 3), (4, .pop, 1), (5, .aload_n 0, 1), (6, .getfield 110, 3), (9, .istore_n 1, 1), (10, .aload_n 0, 1), (11, .invokevirtual 208, 3), (14, .istore_n 2, 1), (15, .aload_n 0, 1), (16, .bipush 59, 2), (18, .invokevirtual 195, 3), (21, .aload_n 0, 1), (22, .invokevirtual 140, 3), (25, .ifCond .eq 14, 3), (28, .aload_n 0, 1), (29, .iconst (-1), 1), (30, .iconst (-1), 1), (31, .iload_n 2, 1), (32, .iload_n 1, 1), (33, .invokevirtual 211, 3), (36, .goto 4, 3), (39, .iconst (-1), 1), (40, .ireturn, 1)]
theorem tbX9_doHere_0_ok : tbX9_doHere_0.all (fun q => decide (decode cX9_doHere q.1 = .ok q.2)) = true := by decide +kernel
theorem dX9_doHere_0 : decode cX9_doHere 0 = .ok (.aload_n 0, 1) := xdt tbX9_doHere_0_ok 0 rfl
theorem dX9_doHere_1 : decode cX9_doHere 1 = .ok (.invokevirtual 123, 3) := xdt tbX9_doHere_0_ok 1 rfl
theorem dX9_doHere_4 : decode cX9_doHere 4 = .ok (.pop, 1) := xdt tbX9_doHere_0_ok 2 rfl
theorem dX9_doHere_5 : decode cX9_doHere 5 = .ok (.aload_n 0, 1) := xdt tbX9_doHere_0_ok 3 rfl
theorem dX9_doHere_6 : decode cX9_doHere 6 = .ok (.getfield 110, 3) := xdt tbX9_doHere_0_ok 4 rfl
theorem dX9_doHere_9 : decode cX9_doHere 9 = .ok (.istore_n 1, 1) := xdt tbX9_doHere_0_ok 5 rfl
theorem dX9_doHere_10 : decode cX9_doHere 10 = .ok (.aload_n 0, 1) := xdt tbX9_doHere_0_ok 6 rfl
theorem dX9_doHere_11 : decode cX9_doHere 11 = .ok (.invokevirtual 208, 3) := xdt tbX9_doHere_0_ok 7 rfl
theorem dX9_doHere_14 : decode cX9_doHere 14 = .ok (.istore_n 2, 1) := xdt tbX9_doHere_0_ok 8 rfl
theorem dX9_doHere_15 : decode cX9_doHere 15 = .ok (.aload_n 0, 1) := xdt tbX9_doHere_0_ok 9 rfl
theorem dX9_doHere_16 : decode cX9_doHere 16 = .ok (.bipush 59, 2) := xdt tbX9_doHere_0_ok 10 rfl
theorem dX9_doHere_18 : decode cX9_doHere 18 = .ok (.invokevirtual 195, 3) := xdt tbX9_doHere_0_ok 11 rfl
theorem dX9_doHere_21 : decode cX9_doHere 21 = .ok (.aload_n 0, 1) := xdt tbX9_doHere_0_ok 12 rfl
theorem dX9_doHere_22 : decode cX9_doHere 22 = .ok (.invokevirtual 140, 3) := xdt tbX9_doHere_0_ok 13 rfl
theorem dX9_doHere_25 : decode cX9_doHere 25 = .ok (.ifCond .eq 14, 3) := xdt tbX9_doHere_0_ok 14 rfl
theorem dX9_doHere_28 : decode cX9_doHere 28 = .ok (.aload_n 0, 1) := xdt tbX9_doHere_0_ok 15 rfl
theorem dX9_doHere_29 : decode cX9_doHere 29 = .ok (.iconst (-1), 1) := xdt tbX9_doHere_0_ok 16 rfl
theorem dX9_doHere_30 : decode cX9_doHere 30 = .ok (.iconst (-1), 1) := xdt tbX9_doHere_0_ok 17 rfl
theorem dX9_doHere_31 : decode cX9_doHere 31 = .ok (.iload_n 2, 1) := xdt tbX9_doHere_0_ok 18 rfl
theorem dX9_doHere_32 : decode cX9_doHere 32 = .ok (.iload_n 1, 1) := xdt tbX9_doHere_0_ok 19 rfl
theorem dX9_doHere_33 : decode cX9_doHere 33 = .ok (.invokevirtual 211, 3) := xdt tbX9_doHere_0_ok 20 rfl
theorem dX9_doHere_36 : decode cX9_doHere 36 = .ok (.goto 4, 3) := xdt tbX9_doHere_0_ok 21 rfl
theorem dX9_doHere_39 : decode cX9_doHere 39 = .ok (.iconst (-1), 1) := xdt tbX9_doHere_0_ok 22 rfl
theorem dX9_doHere_40 : decode cX9_doHere 40 = .ok (.ireturn, 1) := xdt tbX9_doHere_0_ok 23 rfl
def tbX9_addsMember_0 : List (Nat × Instr × Nat) := [(0, .aload_n 0, 1), (1, .getfield 23, 3), (4, .iconst 1, 1), (5, .iaload, 1), (6, .istore 7, 2), (8, .bipush 110, 2), (10, .iconst 5, 1), (11, .iload 7, 2), (13, .imul, 1), (14, .iadd, 1), (15, .istore 8, 2), (17, .aload_n 0, 1), (18, .getfield 23, 3), (21, .iload 8, 2), (23, .iload_n 2, 1), (24, .iastore, 1), (25, .aload_n 0, 1), (26, .getfield 23, 3), (29, .iload 8, 2), (31, .iconst 1, 1), (32, .iadd, 1), (33, .iload_n 3, 1), (34, .iastore, 1), (35, .aload_n 0, 1), (36, .getfield 23, 3), (39, .iload 8, 2), (41, .iconst 2, 1), (42, .iadd, 1), (43, .iload 4, 2), (45, .iastore, 1), (46, .aload_n 0, 1), (47, .getfield 23, 3), (50, .iload 8, 2), (52, .iconst 3, 1), (53, .iadd, 1), (54, .iload 5, 2), (56, .iastore, 1), (57, .aload_n 0, 1), (58, .getfield 23, 3), (61, .iload 8, 2), (63, .iconst 4, 1), (64, .iadd, 1), (65, .iload 6, 2), (67, .iastore, 1), (68, .aload_n 0, 1), (69, .getfield 23, 3), (72, .iconst 1, 1), (73, .dup2, 1), (74, .iaload, 1), (75, .iconst 1, 1), (76, .iadd, 1), (77, .iastore, 1), (78, .iconst 5, 1), (79, .bipush 15, 2), (81, .iload_n 1, 1), (82, .imul, 1), (83, .iadd, 1), (84, .istore 9, 2), (86, .aload_n 0, 1), (87, .getfield 23, 3)]
theorem tbX9_addsMember_0_ok : tbX9_addsMember_0.all (fun q => decide (decode cX9_addsMember q.1 = .ok q.2)) = true := by decide +kernel
theorem dX9_addsMember_0 : decode cX9_addsMember 0 = .ok (.aload_n 0, 1) := xdt tbX9_addsMember_0_ok 0 rfl
theorem dX9_addsMember_1 : decode cX9_addsMember 1 = .ok (.getfield 23, 3) := xdt tbX9_addsMember_0_ok 1 rfl
theorem dX9_addsMember_4 : decode cX9_addsMember 4 = .ok (.iconst 1, 1) := xdt tbX9_addsMember_0_ok 2 rfl
theorem dX9_addsMember_5 : decode cX9_addsMember 5 = .ok (.iaload, 1) := xdt tbX9_addsMember_0_ok 3 rfl
theorem dX9_addsMember_6 : decode cX9_addsMember 6 = .ok (.istore 7, 2) := xdt tbX9_addsMember_0_ok 4 rfl
theorem dX9_addsMember_8 : decode cX9_addsMember 8 = .ok (.bipush 110, 2) := xdt tbX9_addsMember_0_ok 5 rfl
theorem dX9_addsMember_10 : decode cX9_addsMember 10 = .ok (.iconst 5, 1) := xdt tbX9_addsMember_0_ok 6 rfl
theorem dX9_addsMember_11 : decode cX9_addsMember 11 = .ok (.iload 7, 2) := xdt tbX9_addsMember_0_ok 7 rfl
theorem dX9_addsMember_13 : decode cX9_addsMember 13 = .ok (.imul, 1) := xdt tbX9_addsMember_0_ok 8 rfl
theorem dX9_addsMember_14 : decode cX9_addsMember 14 = .ok (.iadd, 1) := xdt tbX9_addsMember_0_ok 9 rfl
theorem dX9_addsMember_15 : decode cX9_addsMember 15 = .ok (.istore 8, 2) := xdt tbX9_addsMember_0_ok 10 rfl
theorem dX9_addsMember_17 : decode cX9_addsMember 17 = .ok (.aload_n 0, 1) := xdt tbX9_addsMember_0_ok 11 rfl
theorem dX9_addsMember_18 : decode cX9_addsMember 18 = .ok (.getfield 23, 3) := xdt tbX9_addsMember_0_ok 12 rfl
theorem dX9_addsMember_21 : decode cX9_addsMember 21 = .ok (.iload 8, 2) := xdt tbX9_addsMember_0_ok 13 rfl
theorem dX9_addsMember_23 : decode cX9_addsMember 23 = .ok (.iload_n 2, 1) := xdt tbX9_addsMember_0_ok 14 rfl
theorem dX9_addsMember_24 : decode cX9_addsMember 24 = .ok (.iastore, 1) := xdt tbX9_addsMember_0_ok 15 rfl
theorem dX9_addsMember_25 : decode cX9_addsMember 25 = .ok (.aload_n 0, 1) := xdt tbX9_addsMember_0_ok 16 rfl
theorem dX9_addsMember_26 : decode cX9_addsMember 26 = .ok (.getfield 23, 3) := xdt tbX9_addsMember_0_ok 17 rfl
theorem dX9_addsMember_29 : decode cX9_addsMember 29 = .ok (.iload 8, 2) := xdt tbX9_addsMember_0_ok 18 rfl
theorem dX9_addsMember_31 : decode cX9_addsMember 31 = .ok (.iconst 1, 1) := xdt tbX9_addsMember_0_ok 19 rfl
theorem dX9_addsMember_32 : decode cX9_addsMember 32 = .ok (.iadd, 1) := xdt tbX9_addsMember_0_ok 20 rfl
theorem dX9_addsMember_33 : decode cX9_addsMember 33 = .ok (.iload_n 3, 1) := xdt tbX9_addsMember_0_ok 21 rfl
theorem dX9_addsMember_34 : decode cX9_addsMember 34 = .ok (.iastore, 1) := xdt tbX9_addsMember_0_ok 22 rfl
theorem dX9_addsMember_35 : decode cX9_addsMember 35 = .ok (.aload_n 0, 1) := xdt tbX9_addsMember_0_ok 23 rfl
theorem dX9_addsMember_36 : decode cX9_addsMember 36 = .ok (.getfield 23, 3) := xdt tbX9_addsMember_0_ok 24 rfl
theorem dX9_addsMember_39 : decode cX9_addsMember 39 = .ok (.iload 8, 2) := xdt tbX9_addsMember_0_ok 25 rfl
theorem dX9_addsMember_41 : decode cX9_addsMember 41 = .ok (.iconst 2, 1) := xdt tbX9_addsMember_0_ok 26 rfl
theorem dX9_addsMember_42 : decode cX9_addsMember 42 = .ok (.iadd, 1) := xdt tbX9_addsMember_0_ok 27 rfl
theorem dX9_addsMember_43 : decode cX9_addsMember 43 = .ok (.iload 4, 2) := xdt tbX9_addsMember_0_ok 28 rfl
theorem dX9_addsMember_45 : decode cX9_addsMember 45 = .ok (.iastore, 1) := xdt tbX9_addsMember_0_ok 29 rfl
theorem dX9_addsMember_46 : decode cX9_addsMember 46 = .ok (.aload_n 0, 1) := xdt tbX9_addsMember_0_ok 30 rfl
theorem dX9_addsMember_47 : decode cX9_addsMember 47 = .ok (.getfield 23, 3) := xdt tbX9_addsMember_0_ok 31 rfl
theorem dX9_addsMember_50 : decode cX9_addsMember 50 = .ok (.iload 8, 2) := xdt tbX9_addsMember_0_ok 32 rfl
theorem dX9_addsMember_52 : decode cX9_addsMember 52 = .ok (.iconst 3, 1) := xdt tbX9_addsMember_0_ok 33 rfl
theorem dX9_addsMember_53 : decode cX9_addsMember 53 = .ok (.iadd, 1) := xdt tbX9_addsMember_0_ok 34 rfl
theorem dX9_addsMember_54 : decode cX9_addsMember 54 = .ok (.iload 5, 2) := xdt tbX9_addsMember_0_ok 35 rfl
theorem dX9_addsMember_56 : decode cX9_addsMember 56 = .ok (.iastore, 1) := xdt tbX9_addsMember_0_ok 36 rfl
theorem dX9_addsMember_57 : decode cX9_addsMember 57 = .ok (.aload_n 0, 1) := xdt tbX9_addsMember_0_ok 37 rfl
theorem dX9_addsMember_58 : decode cX9_addsMember 58 = .ok (.getfield 23, 3) := xdt tbX9_addsMember_0_ok 38 rfl
theorem dX9_addsMember_61 : decode cX9_addsMember 61 = .ok (.iload 8, 2) := xdt tbX9_addsMember_0_ok 39 rfl
theorem dX9_addsMember_63 : decode cX9_addsMember 63 = .ok (.iconst 4, 1) := xdt tbX9_addsMember_0_ok 40 rfl
theorem dX9_addsMember_64 : decode cX9_addsMember 64 = .ok (.iadd, 1) := xdt tbX9_addsMember_0_ok 41 rfl
theorem dX9_addsMember_65 : decode cX9_addsMember 65 = .ok (.iload 6, 2) := xdt tbX9_addsMember_0_ok 42 rfl
theorem dX9_addsMember_67 : decode cX9_addsMember 67 = .ok (.iastore, 1) := xdt tbX9_addsMember_0_ok 43 rfl
theorem dX9_addsMember_68 : decode cX9_addsMember 68 = .ok (.aload_n 0, 1) := xdt tbX9_addsMember_0_ok 44 rfl
theorem dX9_addsMember_69 : decode cX9_addsMember 69 = .ok (.getfield 23, 3) := xdt tbX9_addsMember_0_ok 45 rfl
theorem dX9_addsMember_72 : decode cX9_addsMember 72 = .ok (.iconst 1, 1) := xdt tbX9_addsMember_0_ok 46 rfl
theorem dX9_addsMember_73 : decode cX9_addsMember 73 = .ok (.dup2, 1) := xdt tbX9_addsMember_0_ok 47 rfl
theorem dX9_addsMember_74 : decode cX9_addsMember 74 = .ok (.iaload, 1) := xdt tbX9_addsMember_0_ok 48 rfl
theorem dX9_addsMember_75 : decode cX9_addsMember 75 = .ok (.iconst 1, 1) := xdt tbX9_addsMember_0_ok 49 rfl
theorem dX9_addsMember_76 : decode cX9_addsMember 76 = .ok (.iadd, 1) := xdt tbX9_addsMember_0_ok 50 rfl
theorem dX9_addsMember_77 : decode cX9_addsMember 77 = .ok (.iastore, 1) := xdt tbX9_addsMember_0_ok 51 rfl
theorem dX9_addsMember_78 : decode cX9_addsMember 78 = .ok (.iconst 5, 1) := xdt tbX9_addsMember_0_ok 52 rfl
theorem dX9_addsMember_79 : decode cX9_addsMember 79 = .ok (.bipush 15, 2) := xdt tbX9_addsMember_0_ok 53 rfl
theorem dX9_addsMember_81 : decode cX9_addsMember 81 = .ok (.iload_n 1, 1) := xdt tbX9_addsMember_0_ok 54 rfl
theorem dX9_addsMember_82 : decode cX9_addsMember 82 = .ok (.imul, 1) := xdt tbX9_addsMember_0_ok 55 rfl
theorem dX9_addsMember_83 : decode cX9_addsMember 83 = .ok (.iadd, 1) := xdt tbX9_addsMember_0_ok 56 rfl
theorem dX9_addsMember_84 : decode cX9_addsMember 84 = .ok (.istore 9, 2) := xdt tbX9_addsMember_0_ok 57 rfl
theorem dX9_addsMember_86 : decode cX9_addsMember 86 = .ok (.aload_n 0, 1) := xdt tbX9_addsMember_0_ok 58 rfl
theorem dX9_addsMember_87 : decode cX9_addsMember 87 = .ok (.getfield 23, 3) := xdt tbX9_addsMember_0_ok 59 rfl
def tbX9_addsMember_60 : List (Nat × Instr × Nat) := [(90, .iload 9, 2), (92, .iconst 3, 1), (93, .iadd, 1), (94, .aload_n 0, 1), (95, .getfield 23, 3), (98, .iload 9, 2), (100, .iconst 2, 1), (101, .iadd, 1), (102, .iaload, 1), (103, .iadd, 1), (104, .iload 7, 2), (106, .iastore, 1), (107, .aload_n 0, 1), (108, .getfield 23, 3), (111, .iload 9, 2), (113, .iconst 2, 1), (114, .iadd, 1), (115, .dup2, 1), (116, .iaload, 1), (117, .iconst 1, 1), (118, .iadd, 1), (119, .iastore, 1), (120, .return_, 1)]
theorem tbX9_addsMember_60_ok : tbX9_addsMember_60.all (fun q => decide (decode cX9_addsMember q.1 = .ok q.2)) = true := by decide +kernel
theorem dX9_addsMember_90 : decode cX9_addsMember 90 = .ok (.iload 9, 2) := xdt tbX9_addsMember_60_ok 0 rfl
theorem dX9_addsMember_92 : decode cX9_addsMember 92 = .ok (.iconst 3, 1) := xdt tbX9_addsMember_60_ok 1 rfl
theorem dX9_addsMember_93 : decode cX9_addsMember 93 = .ok (.iadd, 1) := xdt tbX9_addsMember_60_ok 2 rfl
theorem dX9_addsMember_94 : decode cX9_addsMember 94 = .ok (.aload_n 0, 1) := xdt tbX9_addsMember_60_ok 3 rfl
theorem dX9_addsMember_95 : decode cX9_addsMember 95 = .ok (.getfield 23, 3) := xdt tbX9_addsMember_60_ok 4 rfl
theorem dX9_addsMember_98 : decode cX9_addsMember 98 = .ok (.iload 9, 2) := xdt tbX9_addsMember_60_ok 5 rfl
theorem dX9_addsMember_100 : decode cX9_addsMember 100 = .ok (.iconst 2, 1) := xdt tbX9_addsMember_60_ok 6 rfl
theorem dX9_addsMember_101 : decode cX9_addsMember 101 = .ok (.iadd, 1) := xdt tbX9_addsMember_60_ok 7 rfl
theorem dX9_addsMember_102 : decode cX9_addsMember 102 = .ok (.iaload, 1) := xdt tbX9_addsMember_60_ok 8 rfl
theorem dX9_addsMember_103 : decode cX9_addsMember 103 = .ok (.iadd, 1) := xdt tbX9_addsMember_60_ok 9 rfl
theorem dX9_addsMember_104 : decode cX9_addsMember 104 = .ok (.iload 7, 2) := xdt tbX9_addsMember_60_ok 10 rfl
theorem dX9_addsMember_106 : decode cX9_addsMember 106 = .ok (.iastore, 1) := xdt tbX9_addsMember_60_ok 11 rfl
theorem dX9_addsMember_107 : decode cX9_addsMember 107 = .ok (.aload_n 0, 1) := xdt tbX9_addsMember_60_ok 12 rfl
theorem dX9_addsMember_108 : decode cX9_addsMember 108 = .ok (.getfield 23, 3) := xdt tbX9_addsMember_60_ok 13 rfl
theorem dX9_addsMember_111 : decode cX9_addsMember 111 = .ok (.iload 9, 2) := xdt tbX9_addsMember_60_ok 14 rfl
theorem dX9_addsMember_113 : decode cX9_addsMember 113 = .ok (.iconst 2, 1) := xdt tbX9_addsMember_60_ok 15 rfl
theorem dX9_addsMember_114 : decode cX9_addsMember 114 = .ok (.iadd, 1) := xdt tbX9_addsMember_60_ok 16 rfl
theorem dX9_addsMember_115 : decode cX9_addsMember 115 = .ok (.dup2, 1) := xdt tbX9_addsMember_60_ok 17 rfl
theorem dX9_addsMember_116 : decode cX9_addsMember 116 = .ok (.iaload, 1) := xdt tbX9_addsMember_60_ok 18 rfl
theorem dX9_addsMember_117 : decode cX9_addsMember 117 = .ok (.iconst 1, 1) := xdt tbX9_addsMember_60_ok 19 rfl
theorem dX9_addsMember_118 : decode cX9_addsMember 118 = .ok (.iadd, 1) := xdt tbX9_addsMember_60_ok 20 rfl
theorem dX9_addsMember_119 : decode cX9_addsMember 119 = .ok (.iastore, 1) := xdt tbX9_addsMember_60_ok 21 rfl
theorem dX9_addsMember_120 : decode cX9_addsMember 120 = .ok (.return_, 1) := xdt tbX9_addsMember_60_ok 22 rfl
def tbX9_freshName_0 : List (Nat × Instr × Nat) := [(0, .aload_n 0, 1), (1, .invokevirtual 140, 3), (4, .ifCond .ne 5, 3), (7, .iconst 0, 1), (8, .ireturn, 1), (9, .aload_n 0, 1), (10, .invokevirtual 123, 3), (13, .pop, 1), (14, .aload_n 0, 1), (15, .getfield 110, 3), (18, .istore_n 2, 1), (19, .aload_n 0, 1), (20, .invokevirtual 202, 3), (23, .istore_n 3, 1), (24, .aload_n 0, 1), (25, .invokevirtual 140, 3), (28, .ifCond .eq 23, 3), (31, .aload_n 0, 1), (32, .getfield 23, 3), (35, .iload_n 1, 1), (36, .iload_n 3, 1), (37, .invokestatic 215, 3), (40, .iconst (-1), 1), (41, .if_icmp .eq 10, 3), (44, .aload_n 0, 1), (45, .iconst 4, 1), (46, .iload_n 2, 1), (47, .invokevirtual 151, 3), (50, .pop, 1), (51, .iload_n 3, 1), (52, .ireturn, 1)]
theorem tbX9_freshName_0_ok : tbX9_freshName_0.all (fun q => decide (decode cX9_freshName q.1 = .ok q.2)) = true := by decide +kernel
theorem dX9_freshName_0 : decode cX9_freshName 0 = .ok (.aload_n 0, 1) := xdt tbX9_freshName_0_ok 0 rfl
theorem dX9_freshName_1 : decode cX9_freshName 1 = .ok (.invokevirtual 140, 3) := xdt tbX9_freshName_0_ok 1 rfl
theorem dX9_freshName_4 : decode cX9_freshName 4 = .ok (.ifCond .ne 5, 3) := xdt tbX9_freshName_0_ok 2 rfl
theorem dX9_freshName_7 : decode cX9_freshName 7 = .ok (.iconst 0, 1) := xdt tbX9_freshName_0_ok 3 rfl
theorem dX9_freshName_8 : decode cX9_freshName 8 = .ok (.ireturn, 1) := xdt tbX9_freshName_0_ok 4 rfl
theorem dX9_freshName_9 : decode cX9_freshName 9 = .ok (.aload_n 0, 1) := xdt tbX9_freshName_0_ok 5 rfl
theorem dX9_freshName_10 : decode cX9_freshName 10 = .ok (.invokevirtual 123, 3) := xdt tbX9_freshName_0_ok 6 rfl
theorem dX9_freshName_13 : decode cX9_freshName 13 = .ok (.pop, 1) := xdt tbX9_freshName_0_ok 7 rfl
theorem dX9_freshName_14 : decode cX9_freshName 14 = .ok (.aload_n 0, 1) := xdt tbX9_freshName_0_ok 8 rfl
theorem dX9_freshName_15 : decode cX9_freshName 15 = .ok (.getfield 110, 3) := xdt tbX9_freshName_0_ok 9 rfl
theorem dX9_freshName_18 : decode cX9_freshName 18 = .ok (.istore_n 2, 1) := xdt tbX9_freshName_0_ok 10 rfl
theorem dX9_freshName_19 : decode cX9_freshName 19 = .ok (.aload_n 0, 1) := xdt tbX9_freshName_0_ok 11 rfl
theorem dX9_freshName_20 : decode cX9_freshName 20 = .ok (.invokevirtual 202, 3) := xdt tbX9_freshName_0_ok 12 rfl
theorem dX9_freshName_23 : decode cX9_freshName 23 = .ok (.istore_n 3, 1) := xdt tbX9_freshName_0_ok 13 rfl
theorem dX9_freshName_24 : decode cX9_freshName 24 = .ok (.aload_n 0, 1) := xdt tbX9_freshName_0_ok 14 rfl
theorem dX9_freshName_25 : decode cX9_freshName 25 = .ok (.invokevirtual 140, 3) := xdt tbX9_freshName_0_ok 15 rfl
theorem dX9_freshName_28 : decode cX9_freshName 28 = .ok (.ifCond .eq 23, 3) := xdt tbX9_freshName_0_ok 16 rfl
theorem dX9_freshName_31 : decode cX9_freshName 31 = .ok (.aload_n 0, 1) := xdt tbX9_freshName_0_ok 17 rfl
theorem dX9_freshName_32 : decode cX9_freshName 32 = .ok (.getfield 23, 3) := xdt tbX9_freshName_0_ok 18 rfl
theorem dX9_freshName_35 : decode cX9_freshName 35 = .ok (.iload_n 1, 1) := xdt tbX9_freshName_0_ok 19 rfl
theorem dX9_freshName_36 : decode cX9_freshName 36 = .ok (.iload_n 3, 1) := xdt tbX9_freshName_0_ok 20 rfl
theorem dX9_freshName_37 : decode cX9_freshName 37 = .ok (.invokestatic 215, 3) := xdt tbX9_freshName_0_ok 21 rfl
theorem dX9_freshName_40 : decode cX9_freshName 40 = .ok (.iconst (-1), 1) := xdt tbX9_freshName_0_ok 22 rfl
theorem dX9_freshName_41 : decode cX9_freshName 41 = .ok (.if_icmp .eq 10, 3) := xdt tbX9_freshName_0_ok 23 rfl
theorem dX9_freshName_44 : decode cX9_freshName 44 = .ok (.aload_n 0, 1) := xdt tbX9_freshName_0_ok 24 rfl
theorem dX9_freshName_45 : decode cX9_freshName 45 = .ok (.iconst 4, 1) := xdt tbX9_freshName_0_ok 25 rfl
theorem dX9_freshName_46 : decode cX9_freshName 46 = .ok (.iload_n 2, 1) := xdt tbX9_freshName_0_ok 26 rfl
theorem dX9_freshName_47 : decode cX9_freshName 47 = .ok (.invokevirtual 151, 3) := xdt tbX9_freshName_0_ok 27 rfl
theorem dX9_freshName_50 : decode cX9_freshName 50 = .ok (.pop, 1) := xdt tbX9_freshName_0_ok 28 rfl
theorem dX9_freshName_51 : decode cX9_freshName 51 = .ok (.iload_n 3, 1) := xdt tbX9_freshName_0_ok 29 rfl
theorem dX9_freshName_52 : decode cX9_freshName 52 = .ok (.ireturn, 1) := xdt tbX9_freshName_0_ok 30 rfl
def tbX9_function_0 : List (Nat × Instr × Nat) := [(0, .aload_n 0, 1), (1, .iload_n 1, 1), (2, .invokevirtual 218, 3), (5, .istore_n 2, 1), (6, .aload_n 0, 1), (7, .bipush 123, 2), (9, .invokevirtual 195, 3), (12, .iconst 0, 1), (13, .istore_n 3, 1), (14, .aload_n 0, 1), (15, .getfield 23, 3), (18, .iconst 2, 1), (19, .iaload, 1), (20, .istore 4, 2), (22, .aload_n 0, 1), (23, .invokevirtual 140, 3), (26, .ifCond .eq 48, 3), (29, .aload_n 0, 1), (30, .invokevirtual 123, 3), (33, .invokestatic 159, 3), (36, .ifCond .eq 38, 3), (39, .aload_n 0, 1), (40, .invokevirtual 162, 3), (43, .ifCond .eq 31, 3), (46, .iload_n 3, 1), (47, .iconst 4, 1), (48, .if_icmp .ne 14, 3), (51, .aload_n 0, 1), (52, .iconst 3, 1), (53, .aload_n 0, 1), (54, .getfield 110, 3), (57, .invokevirtual 151, 3), (60, .pop, 1), (61, .return_, 1), (62, .aload_n 0, 1), (63, .invokevirtual 221, 3), (66, .istore 5, 2), (68, .iinc 3 1, 3), (71, .goto (-49), 3), (74, .aload_n 0, 1), (75, .invokevirtual 140, 3), (78, .ifCond .eq 22, 3), (81, .aload_n 0, 1), (82, .ldc 224, 2), (84, .invokevirtual 189, 3), (87, .ifCond .ne 13, 3), (90, .aload_n 0, 1), (91, .iconst 1, 1), (92, .aload_n 0, 1), (93, .getfield 110, 3), (96, .invokevirtual 151, 3), (99, .pop, 1), (100, .aload_n 0, 1), (101, .invokevirtual 208, 3), (104, .istore 5, 2), (106, .aload_n 0, 1), (107, .bipush 59, 2), (109, .invokevirtual 195, 3), (112, .aload_n 0, 1), (113, .bipush 125, 2)]
theorem tbX9_function_0_ok : tbX9_function_0.all (fun q => decide (decode cX9_function q.1 = .ok q.2)) = true := by decide +kernel
theorem dX9_function_0 : decode cX9_function 0 = .ok (.aload_n 0, 1) := xdt tbX9_function_0_ok 0 rfl
theorem dX9_function_1 : decode cX9_function 1 = .ok (.iload_n 1, 1) := xdt tbX9_function_0_ok 1 rfl
theorem dX9_function_2 : decode cX9_function 2 = .ok (.invokevirtual 218, 3) := xdt tbX9_function_0_ok 2 rfl
theorem dX9_function_5 : decode cX9_function 5 = .ok (.istore_n 2, 1) := xdt tbX9_function_0_ok 3 rfl
theorem dX9_function_6 : decode cX9_function 6 = .ok (.aload_n 0, 1) := xdt tbX9_function_0_ok 4 rfl
theorem dX9_function_7 : decode cX9_function 7 = .ok (.bipush 123, 2) := xdt tbX9_function_0_ok 5 rfl
theorem dX9_function_9 : decode cX9_function 9 = .ok (.invokevirtual 195, 3) := xdt tbX9_function_0_ok 6 rfl
theorem dX9_function_12 : decode cX9_function 12 = .ok (.iconst 0, 1) := xdt tbX9_function_0_ok 7 rfl
theorem dX9_function_13 : decode cX9_function 13 = .ok (.istore_n 3, 1) := xdt tbX9_function_0_ok 8 rfl
theorem dX9_function_14 : decode cX9_function 14 = .ok (.aload_n 0, 1) := xdt tbX9_function_0_ok 9 rfl
theorem dX9_function_15 : decode cX9_function 15 = .ok (.getfield 23, 3) := xdt tbX9_function_0_ok 10 rfl
theorem dX9_function_18 : decode cX9_function 18 = .ok (.iconst 2, 1) := xdt tbX9_function_0_ok 11 rfl
theorem dX9_function_19 : decode cX9_function 19 = .ok (.iaload, 1) := xdt tbX9_function_0_ok 12 rfl
theorem dX9_function_20 : decode cX9_function 20 = .ok (.istore 4, 2) := xdt tbX9_function_0_ok 13 rfl
theorem dX9_function_22 : decode cX9_function 22 = .ok (.aload_n 0, 1) := xdt tbX9_function_0_ok 14 rfl
theorem dX9_function_23 : decode cX9_function 23 = .ok (.invokevirtual 140, 3) := xdt tbX9_function_0_ok 15 rfl
theorem dX9_function_26 : decode cX9_function 26 = .ok (.ifCond .eq 48, 3) := xdt tbX9_function_0_ok 16 rfl
theorem dX9_function_29 : decode cX9_function 29 = .ok (.aload_n 0, 1) := xdt tbX9_function_0_ok 17 rfl
theorem dX9_function_30 : decode cX9_function 30 = .ok (.invokevirtual 123, 3) := xdt tbX9_function_0_ok 18 rfl
theorem dX9_function_33 : decode cX9_function 33 = .ok (.invokestatic 159, 3) := xdt tbX9_function_0_ok 19 rfl
theorem dX9_function_36 : decode cX9_function 36 = .ok (.ifCond .eq 38, 3) := xdt tbX9_function_0_ok 20 rfl
theorem dX9_function_39 : decode cX9_function 39 = .ok (.aload_n 0, 1) := xdt tbX9_function_0_ok 21 rfl
theorem dX9_function_40 : decode cX9_function 40 = .ok (.invokevirtual 162, 3) := xdt tbX9_function_0_ok 22 rfl
theorem dX9_function_43 : decode cX9_function 43 = .ok (.ifCond .eq 31, 3) := xdt tbX9_function_0_ok 23 rfl
theorem dX9_function_46 : decode cX9_function 46 = .ok (.iload_n 3, 1) := xdt tbX9_function_0_ok 24 rfl
theorem dX9_function_47 : decode cX9_function 47 = .ok (.iconst 4, 1) := xdt tbX9_function_0_ok 25 rfl
theorem dX9_function_48 : decode cX9_function 48 = .ok (.if_icmp .ne 14, 3) := xdt tbX9_function_0_ok 26 rfl
theorem dX9_function_51 : decode cX9_function 51 = .ok (.aload_n 0, 1) := xdt tbX9_function_0_ok 27 rfl
theorem dX9_function_52 : decode cX9_function 52 = .ok (.iconst 3, 1) := xdt tbX9_function_0_ok 28 rfl
theorem dX9_function_53 : decode cX9_function 53 = .ok (.aload_n 0, 1) := xdt tbX9_function_0_ok 29 rfl
theorem dX9_function_54 : decode cX9_function 54 = .ok (.getfield 110, 3) := xdt tbX9_function_0_ok 30 rfl
theorem dX9_function_57 : decode cX9_function 57 = .ok (.invokevirtual 151, 3) := xdt tbX9_function_0_ok 31 rfl
theorem dX9_function_60 : decode cX9_function 60 = .ok (.pop, 1) := xdt tbX9_function_0_ok 32 rfl
theorem dX9_function_61 : decode cX9_function 61 = .ok (.return_, 1) := xdt tbX9_function_0_ok 33 rfl
theorem dX9_function_62 : decode cX9_function 62 = .ok (.aload_n 0, 1) := xdt tbX9_function_0_ok 34 rfl
theorem dX9_function_63 : decode cX9_function 63 = .ok (.invokevirtual 221, 3) := xdt tbX9_function_0_ok 35 rfl
theorem dX9_function_66 : decode cX9_function 66 = .ok (.istore 5, 2) := xdt tbX9_function_0_ok 36 rfl
theorem dX9_function_68 : decode cX9_function 68 = .ok (.iinc 3 1, 3) := xdt tbX9_function_0_ok 37 rfl
theorem dX9_function_71 : decode cX9_function 71 = .ok (.goto (-49), 3) := xdt tbX9_function_0_ok 38 rfl
theorem dX9_function_74 : decode cX9_function 74 = .ok (.aload_n 0, 1) := xdt tbX9_function_0_ok 39 rfl
theorem dX9_function_75 : decode cX9_function 75 = .ok (.invokevirtual 140, 3) := xdt tbX9_function_0_ok 40 rfl
theorem dX9_function_78 : decode cX9_function 78 = .ok (.ifCond .eq 22, 3) := xdt tbX9_function_0_ok 41 rfl
theorem dX9_function_81 : decode cX9_function 81 = .ok (.aload_n 0, 1) := xdt tbX9_function_0_ok 42 rfl
theorem dX9_function_82 : decode cX9_function 82 = .ok (.ldc 224, 2) := xdt tbX9_function_0_ok 43 rfl
theorem dX9_function_84 : decode cX9_function 84 = .ok (.invokevirtual 189, 3) := xdt tbX9_function_0_ok 44 rfl
theorem dX9_function_87 : decode cX9_function 87 = .ok (.ifCond .ne 13, 3) := xdt tbX9_function_0_ok 45 rfl
theorem dX9_function_90 : decode cX9_function 90 = .ok (.aload_n 0, 1) := xdt tbX9_function_0_ok 46 rfl
theorem dX9_function_91 : decode cX9_function 91 = .ok (.iconst 1, 1) := xdt tbX9_function_0_ok 47 rfl
theorem dX9_function_92 : decode cX9_function 92 = .ok (.aload_n 0, 1) := xdt tbX9_function_0_ok 48 rfl
theorem dX9_function_93 : decode cX9_function 93 = .ok (.getfield 110, 3) := xdt tbX9_function_0_ok 49 rfl
theorem dX9_function_96 : decode cX9_function 96 = .ok (.invokevirtual 151, 3) := xdt tbX9_function_0_ok 50 rfl
theorem dX9_function_99 : decode cX9_function 99 = .ok (.pop, 1) := xdt tbX9_function_0_ok 51 rfl
theorem dX9_function_100 : decode cX9_function 100 = .ok (.aload_n 0, 1) := xdt tbX9_function_0_ok 52 rfl
theorem dX9_function_101 : decode cX9_function 101 = .ok (.invokevirtual 208, 3) := xdt tbX9_function_0_ok 53 rfl
theorem dX9_function_104 : decode cX9_function 104 = .ok (.istore 5, 2) := xdt tbX9_function_0_ok 54 rfl
theorem dX9_function_106 : decode cX9_function 106 = .ok (.aload_n 0, 1) := xdt tbX9_function_0_ok 55 rfl
theorem dX9_function_107 : decode cX9_function 107 = .ok (.bipush 59, 2) := xdt tbX9_function_0_ok 56 rfl
theorem dX9_function_109 : decode cX9_function 109 = .ok (.invokevirtual 195, 3) := xdt tbX9_function_0_ok 57 rfl
theorem dX9_function_112 : decode cX9_function 112 = .ok (.aload_n 0, 1) := xdt tbX9_function_0_ok 58 rfl
theorem dX9_function_113 : decode cX9_function 113 = .ok (.bipush 125, 2) := xdt tbX9_function_0_ok 59 rfl
def tbX9_function_60 : List (Nat × Instr × Nat) := [(115, .invokevirtual 195, 3), (118, .aload_n 0, 1), (119, .invokevirtual 140, 3), (122, .ifCond .eq 15, 3), (125, .aload_n 0, 1), (126, .iload_n 1, 1), (127, .iconst 4, 1), (128, .iload_n 2, 1), (129, .iload 5, 2), (131, .iload_n 3, 1), (132, .iload 4, 2), (134, .invokevirtual 226, 3), (137, .return_, 1)]
theorem tbX9_function_60_ok : tbX9_function_60.all (fun q => decide (decode cX9_function q.1 = .ok q.2)) = true := by decide +kernel
theorem dX9_function_115 : decode cX9_function 115 = .ok (.invokevirtual 195, 3) := xdt tbX9_function_60_ok 0 rfl
theorem dX9_function_118 : decode cX9_function 118 = .ok (.aload_n 0, 1) := xdt tbX9_function_60_ok 1 rfl
theorem dX9_function_119 : decode cX9_function 119 = .ok (.invokevirtual 140, 3) := xdt tbX9_function_60_ok 2 rfl
theorem dX9_function_122 : decode cX9_function 122 = .ok (.ifCond .eq 15, 3) := xdt tbX9_function_60_ok 3 rfl
theorem dX9_function_125 : decode cX9_function 125 = .ok (.aload_n 0, 1) := xdt tbX9_function_60_ok 4 rfl
theorem dX9_function_126 : decode cX9_function 126 = .ok (.iload_n 1, 1) := xdt tbX9_function_60_ok 5 rfl
theorem dX9_function_127 : decode cX9_function 127 = .ok (.iconst 4, 1) := xdt tbX9_function_60_ok 6 rfl
theorem dX9_function_128 : decode cX9_function 128 = .ok (.iload_n 2, 1) := xdt tbX9_function_60_ok 7 rfl
theorem dX9_function_129 : decode cX9_function 129 = .ok (.iload 5, 2) := xdt tbX9_function_60_ok 8 rfl
theorem dX9_function_131 : decode cX9_function 131 = .ok (.iload_n 3, 1) := xdt tbX9_function_60_ok 9 rfl
theorem dX9_function_132 : decode cX9_function 132 = .ok (.iload 4, 2) := xdt tbX9_function_60_ok 10 rfl
theorem dX9_function_134 : decode cX9_function 134 = .ok (.invokevirtual 226, 3) := xdt tbX9_function_60_ok 11 rfl
theorem dX9_function_137 : decode cX9_function 137 = .ok (.return_, 1) := xdt tbX9_function_60_ok 12 rfl
def tbX9_members_0 : List (Nat × Instr × Nat) := [(0, .aload_n 0, 1), (1, .getfield 23, 3), (4, .iconst 5, 1), (5, .bipush 15, 2), (7, .iload_n 1, 1), (8, .imul, 1), (9, .iadd, 1), (10, .iconst 2, 1), (11, .iadd, 1), (12, .iaload, 1), (13, .istore_n 2, 1), (14, .aload_n 0, 1), (15, .ldc 230, 2), (17, .invokevirtual 144, 3), (20, .ifCond .ne 37, 3), (23, .aload_n 0, 1), (24, .ldc 232, 2), (26, .invokevirtual 144, 3), (29, .ifCond .ne 28, 3), (32, .aload_n 0, 1), (33, .ldc 234, 2), (35, .invokevirtual 144, 3), (38, .ifCond .ne 19, 3), (41, .aload_n 0, 1), (42, .ldc 236, 2), (44, .invokevirtual 144, 3), (47, .ifCond .ne 10, 3), (50, .aload_n 0, 1), (51, .invokevirtual 162, 3), (54, .ifCond .eq 7, 3), (57, .iconst 1, 1), (58, .goto 4, 3), (61, .iconst 0, 1), (62, .istore_n 3, 1), (63, .iload_n 3, 1), (64, .ifCond .ne 14, 3), (67, .aload_n 0, 1), (68, .iconst 1, 1), (69, .aload_n 0, 1), (70, .getfield 110, 3), (73, .invokevirtual 151, 3), (76, .pop, 1), (77, .return_, 1), (78, .iload_n 2, 1), (79, .bipush 12, 2), (81, .if_icmp .ne 14, 3), (84, .aload_n 0, 1), (85, .iconst 3, 1), (86, .aload_n 0, 1), (87, .getfield 110, 3), (90, .invokevirtual 151, 3), (93, .pop, 1), (94, .return_, 1), (95, .aload_n 0, 1), (96, .ldc 230, 2), (98, .invokevirtual 189, 3), (101, .ifCond .eq 50, 3), (104, .aload_n 0, 1), (105, .iload_n 1, 1), (106, .invokevirtual 218, 3)]
theorem tbX9_members_0_ok : tbX9_members_0.all (fun q => decide (decode cX9_members q.1 = .ok q.2)) = true := by decide +kernel
theorem dX9_members_0 : decode cX9_members 0 = .ok (.aload_n 0, 1) := xdt tbX9_members_0_ok 0 rfl
theorem dX9_members_1 : decode cX9_members 1 = .ok (.getfield 23, 3) := xdt tbX9_members_0_ok 1 rfl
theorem dX9_members_4 : decode cX9_members 4 = .ok (.iconst 5, 1) := xdt tbX9_members_0_ok 2 rfl
theorem dX9_members_5 : decode cX9_members 5 = .ok (.bipush 15, 2) := xdt tbX9_members_0_ok 3 rfl
theorem dX9_members_7 : decode cX9_members 7 = .ok (.iload_n 1, 1) := xdt tbX9_members_0_ok 4 rfl
theorem dX9_members_8 : decode cX9_members 8 = .ok (.imul, 1) := xdt tbX9_members_0_ok 5 rfl
theorem dX9_members_9 : decode cX9_members 9 = .ok (.iadd, 1) := xdt tbX9_members_0_ok 6 rfl
theorem dX9_members_10 : decode cX9_members 10 = .ok (.iconst 2, 1) := xdt tbX9_members_0_ok 7 rfl
theorem dX9_members_11 : decode cX9_members 11 = .ok (.iadd, 1) := xdt tbX9_members_0_ok 8 rfl
theorem dX9_members_12 : decode cX9_members 12 = .ok (.iaload, 1) := xdt tbX9_members_0_ok 9 rfl
theorem dX9_members_13 : decode cX9_members 13 = .ok (.istore_n 2, 1) := xdt tbX9_members_0_ok 10 rfl
theorem dX9_members_14 : decode cX9_members 14 = .ok (.aload_n 0, 1) := xdt tbX9_members_0_ok 11 rfl
theorem dX9_members_15 : decode cX9_members 15 = .ok (.ldc 230, 2) := xdt tbX9_members_0_ok 12 rfl
theorem dX9_members_17 : decode cX9_members 17 = .ok (.invokevirtual 144, 3) := xdt tbX9_members_0_ok 13 rfl
theorem dX9_members_20 : decode cX9_members 20 = .ok (.ifCond .ne 37, 3) := xdt tbX9_members_0_ok 14 rfl
theorem dX9_members_23 : decode cX9_members 23 = .ok (.aload_n 0, 1) := xdt tbX9_members_0_ok 15 rfl
theorem dX9_members_24 : decode cX9_members 24 = .ok (.ldc 232, 2) := xdt tbX9_members_0_ok 16 rfl
theorem dX9_members_26 : decode cX9_members 26 = .ok (.invokevirtual 144, 3) := xdt tbX9_members_0_ok 17 rfl
theorem dX9_members_29 : decode cX9_members 29 = .ok (.ifCond .ne 28, 3) := xdt tbX9_members_0_ok 18 rfl
theorem dX9_members_32 : decode cX9_members 32 = .ok (.aload_n 0, 1) := xdt tbX9_members_0_ok 19 rfl
theorem dX9_members_33 : decode cX9_members 33 = .ok (.ldc 234, 2) := xdt tbX9_members_0_ok 20 rfl
theorem dX9_members_35 : decode cX9_members 35 = .ok (.invokevirtual 144, 3) := xdt tbX9_members_0_ok 21 rfl
theorem dX9_members_38 : decode cX9_members 38 = .ok (.ifCond .ne 19, 3) := xdt tbX9_members_0_ok 22 rfl
theorem dX9_members_41 : decode cX9_members 41 = .ok (.aload_n 0, 1) := xdt tbX9_members_0_ok 23 rfl
theorem dX9_members_42 : decode cX9_members 42 = .ok (.ldc 236, 2) := xdt tbX9_members_0_ok 24 rfl
theorem dX9_members_44 : decode cX9_members 44 = .ok (.invokevirtual 144, 3) := xdt tbX9_members_0_ok 25 rfl
theorem dX9_members_47 : decode cX9_members 47 = .ok (.ifCond .ne 10, 3) := xdt tbX9_members_0_ok 26 rfl
theorem dX9_members_50 : decode cX9_members 50 = .ok (.aload_n 0, 1) := xdt tbX9_members_0_ok 27 rfl
theorem dX9_members_51 : decode cX9_members 51 = .ok (.invokevirtual 162, 3) := xdt tbX9_members_0_ok 28 rfl
theorem dX9_members_54 : decode cX9_members 54 = .ok (.ifCond .eq 7, 3) := xdt tbX9_members_0_ok 29 rfl
theorem dX9_members_57 : decode cX9_members 57 = .ok (.iconst 1, 1) := xdt tbX9_members_0_ok 30 rfl
theorem dX9_members_58 : decode cX9_members 58 = .ok (.goto 4, 3) := xdt tbX9_members_0_ok 31 rfl
theorem dX9_members_61 : decode cX9_members 61 = .ok (.iconst 0, 1) := xdt tbX9_members_0_ok 32 rfl
theorem dX9_members_62 : decode cX9_members 62 = .ok (.istore_n 3, 1) := xdt tbX9_members_0_ok 33 rfl
theorem dX9_members_63 : decode cX9_members 63 = .ok (.iload_n 3, 1) := xdt tbX9_members_0_ok 34 rfl
theorem dX9_members_64 : decode cX9_members 64 = .ok (.ifCond .ne 14, 3) := xdt tbX9_members_0_ok 35 rfl
theorem dX9_members_67 : decode cX9_members 67 = .ok (.aload_n 0, 1) := xdt tbX9_members_0_ok 36 rfl
theorem dX9_members_68 : decode cX9_members 68 = .ok (.iconst 1, 1) := xdt tbX9_members_0_ok 37 rfl
theorem dX9_members_69 : decode cX9_members 69 = .ok (.aload_n 0, 1) := xdt tbX9_members_0_ok 38 rfl
theorem dX9_members_70 : decode cX9_members 70 = .ok (.getfield 110, 3) := xdt tbX9_members_0_ok 39 rfl
theorem dX9_members_73 : decode cX9_members 73 = .ok (.invokevirtual 151, 3) := xdt tbX9_members_0_ok 40 rfl
theorem dX9_members_76 : decode cX9_members 76 = .ok (.pop, 1) := xdt tbX9_members_0_ok 41 rfl
theorem dX9_members_77 : decode cX9_members 77 = .ok (.return_, 1) := xdt tbX9_members_0_ok 42 rfl
theorem dX9_members_78 : decode cX9_members 78 = .ok (.iload_n 2, 1) := xdt tbX9_members_0_ok 43 rfl
theorem dX9_members_79 : decode cX9_members 79 = .ok (.bipush 12, 2) := xdt tbX9_members_0_ok 44 rfl
theorem dX9_members_81 : decode cX9_members 81 = .ok (.if_icmp .ne 14, 3) := xdt tbX9_members_0_ok 45 rfl
theorem dX9_members_84 : decode cX9_members 84 = .ok (.aload_n 0, 1) := xdt tbX9_members_0_ok 46 rfl
theorem dX9_members_85 : decode cX9_members 85 = .ok (.iconst 3, 1) := xdt tbX9_members_0_ok 47 rfl
theorem dX9_members_86 : decode cX9_members 86 = .ok (.aload_n 0, 1) := xdt tbX9_members_0_ok 48 rfl
theorem dX9_members_87 : decode cX9_members 87 = .ok (.getfield 110, 3) := xdt tbX9_members_0_ok 49 rfl
theorem dX9_members_90 : decode cX9_members 90 = .ok (.invokevirtual 151, 3) := xdt tbX9_members_0_ok 50 rfl
theorem dX9_members_93 : decode cX9_members 93 = .ok (.pop, 1) := xdt tbX9_members_0_ok 51 rfl
theorem dX9_members_94 : decode cX9_members 94 = .ok (.return_, 1) := xdt tbX9_members_0_ok 52 rfl
theorem dX9_members_95 : decode cX9_members 95 = .ok (.aload_n 0, 1) := xdt tbX9_members_0_ok 53 rfl
theorem dX9_members_96 : decode cX9_members 96 = .ok (.ldc 230, 2) := xdt tbX9_members_0_ok 54 rfl
theorem dX9_members_98 : decode cX9_members 98 = .ok (.invokevirtual 189, 3) := xdt tbX9_members_0_ok 55 rfl
theorem dX9_members_101 : decode cX9_members 101 = .ok (.ifCond .eq 50, 3) := xdt tbX9_members_0_ok 56 rfl
theorem dX9_members_104 : decode cX9_members 104 = .ok (.aload_n 0, 1) := xdt tbX9_members_0_ok 57 rfl
theorem dX9_members_105 : decode cX9_members 105 = .ok (.iload_n 1, 1) := xdt tbX9_members_0_ok 58 rfl
theorem dX9_members_106 : decode cX9_members 106 = .ok (.invokevirtual 218, 3) := xdt tbX9_members_0_ok 59 rfl
def tbX9_members_60 : List (Nat × Instr × Nat) := [(109, .istore 4, 2), (111, .aload_n 0, 1), (112, .bipush 61, 2), (114, .invokevirtual 195, 3), (117, .aload_n 0, 1), (118, .invokevirtual 182, 3), (121, .istore 5, 2), (123, .aload_n 0, 1), (124, .bipush 59, 2), (126, .invokevirtual 195, 3), (129, .aload_n 0, 1), (130, .invokevirtual 140, 3), (133, .ifCond .eq 15, 3), (136, .aload_n 0, 1), (137, .iload_n 1, 1), (138, .iconst 0, 1), (139, .iload 4, 2), (141, .iload 5, 2), (143, .iconst 0, 1), (144, .iconst 0, 1), (145, .invokevirtual 226, 3), (148, .goto 152, 3), (151, .aload_n 0, 1), (152, .ldc 232, 2), (154, .invokevirtual 189, 3), (157, .ifCond .eq 57, 3), (160, .aload_n 0, 1), (161, .iload_n 1, 1), (162, .invokevirtual 218, 3), (165, .istore 4, 2), (167, .aload_n 0, 1), (168, .bipush 61, 2), (170, .invokevirtual 148, 3), (173, .ifCond .eq 10, 3), (176, .aload_n 0, 1), (177, .invokevirtual 208, 3), (180, .goto 4, 3), (183, .iconst (-1), 1), (184, .istore 5, 2), (186, .aload_n 0, 1), (187, .bipush 59, 2), (189, .invokevirtual 195, 3), (192, .aload_n 0, 1), (193, .invokevirtual 140, 3), (196, .ifCond .eq 15, 3), (199, .aload_n 0, 1), (200, .iload_n 1, 1), (201, .iconst 1, 1), (202, .iload 4, 2), (204, .iload 5, 2), (206, .iconst 0, 1), (207, .iconst 0, 1), (208, .invokevirtual 226, 3), (211, .goto 89, 3), (214, .aload_n 0, 1), (215, .ldc 234, 2), (217, .invokevirtual 189, 3), (220, .ifCond .eq 30, 3), (223, .aload_n 0, 1), (224, .invokevirtual 238, 3)]
theorem tbX9_members_60_ok : tbX9_members_60.all (fun q => decide (decode cX9_members q.1 = .ok q.2)) = true := by decide +kernel
theorem dX9_members_109 : decode cX9_members 109 = .ok (.istore 4, 2) := xdt tbX9_members_60_ok 0 rfl
theorem dX9_members_111 : decode cX9_members 111 = .ok (.aload_n 0, 1) := xdt tbX9_members_60_ok 1 rfl
theorem dX9_members_112 : decode cX9_members 112 = .ok (.bipush 61, 2) := xdt tbX9_members_60_ok 2 rfl
theorem dX9_members_114 : decode cX9_members 114 = .ok (.invokevirtual 195, 3) := xdt tbX9_members_60_ok 3 rfl
theorem dX9_members_117 : decode cX9_members 117 = .ok (.aload_n 0, 1) := xdt tbX9_members_60_ok 4 rfl
theorem dX9_members_118 : decode cX9_members 118 = .ok (.invokevirtual 182, 3) := xdt tbX9_members_60_ok 5 rfl
theorem dX9_members_121 : decode cX9_members 121 = .ok (.istore 5, 2) := xdt tbX9_members_60_ok 6 rfl
theorem dX9_members_123 : decode cX9_members 123 = .ok (.aload_n 0, 1) := xdt tbX9_members_60_ok 7 rfl
theorem dX9_members_124 : decode cX9_members 124 = .ok (.bipush 59, 2) := xdt tbX9_members_60_ok 8 rfl
theorem dX9_members_126 : decode cX9_members 126 = .ok (.invokevirtual 195, 3) := xdt tbX9_members_60_ok 9 rfl
theorem dX9_members_129 : decode cX9_members 129 = .ok (.aload_n 0, 1) := xdt tbX9_members_60_ok 10 rfl
theorem dX9_members_130 : decode cX9_members 130 = .ok (.invokevirtual 140, 3) := xdt tbX9_members_60_ok 11 rfl
theorem dX9_members_133 : decode cX9_members 133 = .ok (.ifCond .eq 15, 3) := xdt tbX9_members_60_ok 12 rfl
theorem dX9_members_136 : decode cX9_members 136 = .ok (.aload_n 0, 1) := xdt tbX9_members_60_ok 13 rfl
theorem dX9_members_137 : decode cX9_members 137 = .ok (.iload_n 1, 1) := xdt tbX9_members_60_ok 14 rfl
theorem dX9_members_138 : decode cX9_members 138 = .ok (.iconst 0, 1) := xdt tbX9_members_60_ok 15 rfl
theorem dX9_members_139 : decode cX9_members 139 = .ok (.iload 4, 2) := xdt tbX9_members_60_ok 16 rfl
theorem dX9_members_141 : decode cX9_members 141 = .ok (.iload 5, 2) := xdt tbX9_members_60_ok 17 rfl
theorem dX9_members_143 : decode cX9_members 143 = .ok (.iconst 0, 1) := xdt tbX9_members_60_ok 18 rfl
theorem dX9_members_144 : decode cX9_members 144 = .ok (.iconst 0, 1) := xdt tbX9_members_60_ok 19 rfl
theorem dX9_members_145 : decode cX9_members 145 = .ok (.invokevirtual 226, 3) := xdt tbX9_members_60_ok 20 rfl
theorem dX9_members_148 : decode cX9_members 148 = .ok (.goto 152, 3) := xdt tbX9_members_60_ok 21 rfl
theorem dX9_members_151 : decode cX9_members 151 = .ok (.aload_n 0, 1) := xdt tbX9_members_60_ok 22 rfl
theorem dX9_members_152 : decode cX9_members 152 = .ok (.ldc 232, 2) := xdt tbX9_members_60_ok 23 rfl
theorem dX9_members_154 : decode cX9_members 154 = .ok (.invokevirtual 189, 3) := xdt tbX9_members_60_ok 24 rfl
theorem dX9_members_157 : decode cX9_members 157 = .ok (.ifCond .eq 57, 3) := xdt tbX9_members_60_ok 25 rfl
theorem dX9_members_160 : decode cX9_members 160 = .ok (.aload_n 0, 1) := xdt tbX9_members_60_ok 26 rfl
theorem dX9_members_161 : decode cX9_members 161 = .ok (.iload_n 1, 1) := xdt tbX9_members_60_ok 27 rfl
theorem dX9_members_162 : decode cX9_members 162 = .ok (.invokevirtual 218, 3) := xdt tbX9_members_60_ok 28 rfl
theorem dX9_members_165 : decode cX9_members 165 = .ok (.istore 4, 2) := xdt tbX9_members_60_ok 29 rfl
theorem dX9_members_167 : decode cX9_members 167 = .ok (.aload_n 0, 1) := xdt tbX9_members_60_ok 30 rfl
theorem dX9_members_168 : decode cX9_members 168 = .ok (.bipush 61, 2) := xdt tbX9_members_60_ok 31 rfl
theorem dX9_members_170 : decode cX9_members 170 = .ok (.invokevirtual 148, 3) := xdt tbX9_members_60_ok 32 rfl
theorem dX9_members_173 : decode cX9_members 173 = .ok (.ifCond .eq 10, 3) := xdt tbX9_members_60_ok 33 rfl
theorem dX9_members_176 : decode cX9_members 176 = .ok (.aload_n 0, 1) := xdt tbX9_members_60_ok 34 rfl
theorem dX9_members_177 : decode cX9_members 177 = .ok (.invokevirtual 208, 3) := xdt tbX9_members_60_ok 35 rfl
theorem dX9_members_180 : decode cX9_members 180 = .ok (.goto 4, 3) := xdt tbX9_members_60_ok 36 rfl
theorem dX9_members_183 : decode cX9_members 183 = .ok (.iconst (-1), 1) := xdt tbX9_members_60_ok 37 rfl
theorem dX9_members_184 : decode cX9_members 184 = .ok (.istore 5, 2) := xdt tbX9_members_60_ok 38 rfl
theorem dX9_members_186 : decode cX9_members 186 = .ok (.aload_n 0, 1) := xdt tbX9_members_60_ok 39 rfl
theorem dX9_members_187 : decode cX9_members 187 = .ok (.bipush 59, 2) := xdt tbX9_members_60_ok 40 rfl
theorem dX9_members_189 : decode cX9_members 189 = .ok (.invokevirtual 195, 3) := xdt tbX9_members_60_ok 41 rfl
theorem dX9_members_192 : decode cX9_members 192 = .ok (.aload_n 0, 1) := xdt tbX9_members_60_ok 42 rfl
theorem dX9_members_193 : decode cX9_members 193 = .ok (.invokevirtual 140, 3) := xdt tbX9_members_60_ok 43 rfl
theorem dX9_members_196 : decode cX9_members 196 = .ok (.ifCond .eq 15, 3) := xdt tbX9_members_60_ok 44 rfl
theorem dX9_members_199 : decode cX9_members 199 = .ok (.aload_n 0, 1) := xdt tbX9_members_60_ok 45 rfl
theorem dX9_members_200 : decode cX9_members 200 = .ok (.iload_n 1, 1) := xdt tbX9_members_60_ok 46 rfl
theorem dX9_members_201 : decode cX9_members 201 = .ok (.iconst 1, 1) := xdt tbX9_members_60_ok 47 rfl
theorem dX9_members_202 : decode cX9_members 202 = .ok (.iload 4, 2) := xdt tbX9_members_60_ok 48 rfl
theorem dX9_members_204 : decode cX9_members 204 = .ok (.iload 5, 2) := xdt tbX9_members_60_ok 49 rfl
theorem dX9_members_206 : decode cX9_members 206 = .ok (.iconst 0, 1) := xdt tbX9_members_60_ok 50 rfl
theorem dX9_members_207 : decode cX9_members 207 = .ok (.iconst 0, 1) := xdt tbX9_members_60_ok 51 rfl
theorem dX9_members_208 : decode cX9_members 208 = .ok (.invokevirtual 226, 3) := xdt tbX9_members_60_ok 52 rfl
theorem dX9_members_211 : decode cX9_members 211 = .ok (.goto 89, 3) := xdt tbX9_members_60_ok 53 rfl
theorem dX9_members_214 : decode cX9_members 214 = .ok (.aload_n 0, 1) := xdt tbX9_members_60_ok 54 rfl
theorem dX9_members_215 : decode cX9_members 215 = .ok (.ldc 234, 2) := xdt tbX9_members_60_ok 55 rfl
theorem dX9_members_217 : decode cX9_members 217 = .ok (.invokevirtual 189, 3) := xdt tbX9_members_60_ok 56 rfl
theorem dX9_members_220 : decode cX9_members 220 = .ok (.ifCond .eq 30, 3) := xdt tbX9_members_60_ok 57 rfl
theorem dX9_members_223 : decode cX9_members 223 = .ok (.aload_n 0, 1) := xdt tbX9_members_60_ok 58 rfl
theorem dX9_members_224 : decode cX9_members 224 = .ok (.invokevirtual 238, 3) := xdt tbX9_members_60_ok 59 rfl
def tbX9_members_120 : List (Nat × Instr × Nat) := [(227, .istore 4, 2), (229, .aload_n 0, 1), (230, .invokevirtual 140, 3), (233, .ifCond .eq 14, 3), (236, .aload_n 0, 1), (237, .iload_n 1, 1), (238, .iconst 2, 1), (239, .iconst (-1), 1), (240, .iload 4, 2), (242, .iconst 0, 1), (243, .iconst 0, 1), (244, .invokevirtual 226, 3), (247, .goto 53, 3), (250, .aload_n 0, 1), (251, .ldc 236, 2), (253, .invokevirtual 189, 3), (256, .ifCond .eq 11, 3), (259, .aload_n 0, 1), (260, .iload_n 1, 1), (261, .invokevirtual 241, 3), (264, .goto 36, 3), (267, .aload_n 0, 1), (268, .invokevirtual 221, 3), (271, .istore 4, 2), (273, .aload_n 0, 1), (274, .invokevirtual 140, 3), (277, .ifCond .eq 23, 3), (280, .aload_n 0, 1), (281, .iload_n 1, 1), (282, .iconst 3, 1), (283, .aload_n 0, 1), (284, .getfield 23, 3), (287, .iload 4, 2), (289, .iconst 1, 1), (290, .invokestatic 244, 3), (293, .iload 4, 2), (295, .iconst 0, 1), (296, .iconst 0, 1), (297, .invokevirtual 226, 3), (300, .return_, 1)]
theorem tbX9_members_120_ok : tbX9_members_120.all (fun q => decide (decode cX9_members q.1 = .ok q.2)) = true := by decide +kernel
theorem dX9_members_227 : decode cX9_members 227 = .ok (.istore 4, 2) := xdt tbX9_members_120_ok 0 rfl
theorem dX9_members_229 : decode cX9_members 229 = .ok (.aload_n 0, 1) := xdt tbX9_members_120_ok 1 rfl
theorem dX9_members_230 : decode cX9_members 230 = .ok (.invokevirtual 140, 3) := xdt tbX9_members_120_ok 2 rfl
theorem dX9_members_233 : decode cX9_members 233 = .ok (.ifCond .eq 14, 3) := xdt tbX9_members_120_ok 3 rfl
theorem dX9_members_236 : decode cX9_members 236 = .ok (.aload_n 0, 1) := xdt tbX9_members_120_ok 4 rfl
theorem dX9_members_237 : decode cX9_members 237 = .ok (.iload_n 1, 1) := xdt tbX9_members_120_ok 5 rfl
theorem dX9_members_238 : decode cX9_members 238 = .ok (.iconst 2, 1) := xdt tbX9_members_120_ok 6 rfl
theorem dX9_members_239 : decode cX9_members 239 = .ok (.iconst (-1), 1) := xdt tbX9_members_120_ok 7 rfl
theorem dX9_members_240 : decode cX9_members 240 = .ok (.iload 4, 2) := xdt tbX9_members_120_ok 8 rfl
theorem dX9_members_242 : decode cX9_members 242 = .ok (.iconst 0, 1) := xdt tbX9_members_120_ok 9 rfl
theorem dX9_members_243 : decode cX9_members 243 = .ok (.iconst 0, 1) := xdt tbX9_members_120_ok 10 rfl
theorem dX9_members_244 : decode cX9_members 244 = .ok (.invokevirtual 226, 3) := xdt tbX9_members_120_ok 11 rfl
theorem dX9_members_247 : decode cX9_members 247 = .ok (.goto 53, 3) := xdt tbX9_members_120_ok 12 rfl
theorem dX9_members_250 : decode cX9_members 250 = .ok (.aload_n 0, 1) := xdt tbX9_members_120_ok 13 rfl
theorem dX9_members_251 : decode cX9_members 251 = .ok (.ldc 236, 2) := xdt tbX9_members_120_ok 14 rfl
theorem dX9_members_253 : decode cX9_members 253 = .ok (.invokevirtual 189, 3) := xdt tbX9_members_120_ok 15 rfl
theorem dX9_members_256 : decode cX9_members 256 = .ok (.ifCond .eq 11, 3) := xdt tbX9_members_120_ok 16 rfl
theorem dX9_members_259 : decode cX9_members 259 = .ok (.aload_n 0, 1) := xdt tbX9_members_120_ok 17 rfl
theorem dX9_members_260 : decode cX9_members 260 = .ok (.iload_n 1, 1) := xdt tbX9_members_120_ok 18 rfl
theorem dX9_members_261 : decode cX9_members 261 = .ok (.invokevirtual 241, 3) := xdt tbX9_members_120_ok 19 rfl
theorem dX9_members_264 : decode cX9_members 264 = .ok (.goto 36, 3) := xdt tbX9_members_120_ok 20 rfl
theorem dX9_members_267 : decode cX9_members 267 = .ok (.aload_n 0, 1) := xdt tbX9_members_120_ok 21 rfl
theorem dX9_members_268 : decode cX9_members 268 = .ok (.invokevirtual 221, 3) := xdt tbX9_members_120_ok 22 rfl
theorem dX9_members_271 : decode cX9_members 271 = .ok (.istore 4, 2) := xdt tbX9_members_120_ok 23 rfl
theorem dX9_members_273 : decode cX9_members 273 = .ok (.aload_n 0, 1) := xdt tbX9_members_120_ok 24 rfl
theorem dX9_members_274 : decode cX9_members 274 = .ok (.invokevirtual 140, 3) := xdt tbX9_members_120_ok 25 rfl
theorem dX9_members_277 : decode cX9_members 277 = .ok (.ifCond .eq 23, 3) := xdt tbX9_members_120_ok 26 rfl
theorem dX9_members_280 : decode cX9_members 280 = .ok (.aload_n 0, 1) := xdt tbX9_members_120_ok 27 rfl
theorem dX9_members_281 : decode cX9_members 281 = .ok (.iload_n 1, 1) := xdt tbX9_members_120_ok 28 rfl
theorem dX9_members_282 : decode cX9_members 282 = .ok (.iconst 3, 1) := xdt tbX9_members_120_ok 29 rfl
theorem dX9_members_283 : decode cX9_members 283 = .ok (.aload_n 0, 1) := xdt tbX9_members_120_ok 30 rfl
theorem dX9_members_284 : decode cX9_members 284 = .ok (.getfield 23, 3) := xdt tbX9_members_120_ok 31 rfl
theorem dX9_members_287 : decode cX9_members 287 = .ok (.iload 4, 2) := xdt tbX9_members_120_ok 32 rfl
theorem dX9_members_289 : decode cX9_members 289 = .ok (.iconst 1, 1) := xdt tbX9_members_120_ok 33 rfl
theorem dX9_members_290 : decode cX9_members 290 = .ok (.invokestatic 244, 3) := xdt tbX9_members_120_ok 34 rfl
theorem dX9_members_293 : decode cX9_members 293 = .ok (.iload 4, 2) := xdt tbX9_members_120_ok 35 rfl
theorem dX9_members_295 : decode cX9_members 295 = .ok (.iconst 0, 1) := xdt tbX9_members_120_ok 36 rfl
theorem dX9_members_296 : decode cX9_members 296 = .ok (.iconst 0, 1) := xdt tbX9_members_120_ok 37 rfl
theorem dX9_members_297 : decode cX9_members 297 = .ok (.invokevirtual 226, 3) := xdt tbX9_members_120_ok 38 rfl
theorem dX9_members_300 : decode cX9_members 300 = .ok (.return_, 1) := xdt tbX9_members_120_ok 39 rfl
def tbX9_unitHere_0 : List (Nat × Instr × Nat) := [(0, .aload_n 0, 1), (1, .getfield 110, 3), (4, .istore_n 1, 1), (5, .aload_n 0, 1), (6, .getfield 23, 3), (9, .iconst 0, 1), (10, .iaload, 1), (11, .bipush 7, 2), (13, .if_icmp .ne 11, 3), (16, .aload_n 0, 1), (17, .iconst 3, 1), (18, .iload_n 1, 1), (19, .invokevirtual 151, 3), (22, .pop, 1), (23, .return_, 1), (24, .aload_n 0, 1), (25, .dup, 1), (26, .getfield 110, 3), (29, .iconst 4, 1), (30, .iadd, 1), (31, .putfield 110, 3), (34, .aload_n 0, 1), (35, .invokevirtual 123, 3), (38, .pop, 1), (39, .aload_n 0, 1), (40, .getfield 110, 3), (43, .istore_n 2, 1), (44, .aload_n 0, 1), (45, .invokevirtual 199, 3), (48, .istore_n 3, 1), (49, .aload_n 0, 1), (50, .invokevirtual 140, 3), (53, .ifCond .eq 22, 3), (56, .aload_n 0, 1), (57, .getfield 23, 3), (60, .iload_n 3, 1), (61, .invokestatic 247, 3), (64, .iconst (-1), 1), (65, .if_icmp .eq 10, 3), (68, .aload_n 0, 1), (69, .iconst 4, 1), (70, .iload_n 2, 1), (71, .invokevirtual 151, 3), (74, .pop, 1), (75, .iconst (-1), 1), (76, .istore 4, 2), (78, .aload_n 0, 1), (79, .bipush 58, 2), (81, .invokevirtual 148, 3), (84, .ifCond .eq 63, 3), (87, .aload_n 0, 1), (88, .invokevirtual 123, 3), (91, .pop, 1), (92, .aload_n 0, 1), (93, .getfield 110, 3), (96, .istore 5, 2), (98, .aload_n 0, 1), (99, .invokevirtual 199, 3), (102, .istore 6, 2), (104, .aload_n 0, 1)]
theorem tbX9_unitHere_0_ok : tbX9_unitHere_0.all (fun q => decide (decode cX9_unitHere q.1 = .ok q.2)) = true := by decide +kernel
theorem dX9_unitHere_0 : decode cX9_unitHere 0 = .ok (.aload_n 0, 1) := xdt tbX9_unitHere_0_ok 0 rfl
theorem dX9_unitHere_1 : decode cX9_unitHere 1 = .ok (.getfield 110, 3) := xdt tbX9_unitHere_0_ok 1 rfl
theorem dX9_unitHere_4 : decode cX9_unitHere 4 = .ok (.istore_n 1, 1) := xdt tbX9_unitHere_0_ok 2 rfl
theorem dX9_unitHere_5 : decode cX9_unitHere 5 = .ok (.aload_n 0, 1) := xdt tbX9_unitHere_0_ok 3 rfl
theorem dX9_unitHere_6 : decode cX9_unitHere 6 = .ok (.getfield 23, 3) := xdt tbX9_unitHere_0_ok 4 rfl
theorem dX9_unitHere_9 : decode cX9_unitHere 9 = .ok (.iconst 0, 1) := xdt tbX9_unitHere_0_ok 5 rfl
theorem dX9_unitHere_10 : decode cX9_unitHere 10 = .ok (.iaload, 1) := xdt tbX9_unitHere_0_ok 6 rfl
theorem dX9_unitHere_11 : decode cX9_unitHere 11 = .ok (.bipush 7, 2) := xdt tbX9_unitHere_0_ok 7 rfl
theorem dX9_unitHere_13 : decode cX9_unitHere 13 = .ok (.if_icmp .ne 11, 3) := xdt tbX9_unitHere_0_ok 8 rfl
theorem dX9_unitHere_16 : decode cX9_unitHere 16 = .ok (.aload_n 0, 1) := xdt tbX9_unitHere_0_ok 9 rfl
theorem dX9_unitHere_17 : decode cX9_unitHere 17 = .ok (.iconst 3, 1) := xdt tbX9_unitHere_0_ok 10 rfl
theorem dX9_unitHere_18 : decode cX9_unitHere 18 = .ok (.iload_n 1, 1) := xdt tbX9_unitHere_0_ok 11 rfl
theorem dX9_unitHere_19 : decode cX9_unitHere 19 = .ok (.invokevirtual 151, 3) := xdt tbX9_unitHere_0_ok 12 rfl
theorem dX9_unitHere_22 : decode cX9_unitHere 22 = .ok (.pop, 1) := xdt tbX9_unitHere_0_ok 13 rfl
theorem dX9_unitHere_23 : decode cX9_unitHere 23 = .ok (.return_, 1) := xdt tbX9_unitHere_0_ok 14 rfl
theorem dX9_unitHere_24 : decode cX9_unitHere 24 = .ok (.aload_n 0, 1) := xdt tbX9_unitHere_0_ok 15 rfl
theorem dX9_unitHere_25 : decode cX9_unitHere 25 = .ok (.dup, 1) := xdt tbX9_unitHere_0_ok 16 rfl
theorem dX9_unitHere_26 : decode cX9_unitHere 26 = .ok (.getfield 110, 3) := xdt tbX9_unitHere_0_ok 17 rfl
theorem dX9_unitHere_29 : decode cX9_unitHere 29 = .ok (.iconst 4, 1) := xdt tbX9_unitHere_0_ok 18 rfl
theorem dX9_unitHere_30 : decode cX9_unitHere 30 = .ok (.iadd, 1) := xdt tbX9_unitHere_0_ok 19 rfl
theorem dX9_unitHere_31 : decode cX9_unitHere 31 = .ok (.putfield 110, 3) := xdt tbX9_unitHere_0_ok 20 rfl
theorem dX9_unitHere_34 : decode cX9_unitHere 34 = .ok (.aload_n 0, 1) := xdt tbX9_unitHere_0_ok 21 rfl
theorem dX9_unitHere_35 : decode cX9_unitHere 35 = .ok (.invokevirtual 123, 3) := xdt tbX9_unitHere_0_ok 22 rfl
theorem dX9_unitHere_38 : decode cX9_unitHere 38 = .ok (.pop, 1) := xdt tbX9_unitHere_0_ok 23 rfl
theorem dX9_unitHere_39 : decode cX9_unitHere 39 = .ok (.aload_n 0, 1) := xdt tbX9_unitHere_0_ok 24 rfl
theorem dX9_unitHere_40 : decode cX9_unitHere 40 = .ok (.getfield 110, 3) := xdt tbX9_unitHere_0_ok 25 rfl
theorem dX9_unitHere_43 : decode cX9_unitHere 43 = .ok (.istore_n 2, 1) := xdt tbX9_unitHere_0_ok 26 rfl
theorem dX9_unitHere_44 : decode cX9_unitHere 44 = .ok (.aload_n 0, 1) := xdt tbX9_unitHere_0_ok 27 rfl
theorem dX9_unitHere_45 : decode cX9_unitHere 45 = .ok (.invokevirtual 199, 3) := xdt tbX9_unitHere_0_ok 28 rfl
theorem dX9_unitHere_48 : decode cX9_unitHere 48 = .ok (.istore_n 3, 1) := xdt tbX9_unitHere_0_ok 29 rfl
theorem dX9_unitHere_49 : decode cX9_unitHere 49 = .ok (.aload_n 0, 1) := xdt tbX9_unitHere_0_ok 30 rfl
theorem dX9_unitHere_50 : decode cX9_unitHere 50 = .ok (.invokevirtual 140, 3) := xdt tbX9_unitHere_0_ok 31 rfl
theorem dX9_unitHere_53 : decode cX9_unitHere 53 = .ok (.ifCond .eq 22, 3) := xdt tbX9_unitHere_0_ok 32 rfl
theorem dX9_unitHere_56 : decode cX9_unitHere 56 = .ok (.aload_n 0, 1) := xdt tbX9_unitHere_0_ok 33 rfl
theorem dX9_unitHere_57 : decode cX9_unitHere 57 = .ok (.getfield 23, 3) := xdt tbX9_unitHere_0_ok 34 rfl
theorem dX9_unitHere_60 : decode cX9_unitHere 60 = .ok (.iload_n 3, 1) := xdt tbX9_unitHere_0_ok 35 rfl
theorem dX9_unitHere_61 : decode cX9_unitHere 61 = .ok (.invokestatic 247, 3) := xdt tbX9_unitHere_0_ok 36 rfl
theorem dX9_unitHere_64 : decode cX9_unitHere 64 = .ok (.iconst (-1), 1) := xdt tbX9_unitHere_0_ok 37 rfl
theorem dX9_unitHere_65 : decode cX9_unitHere 65 = .ok (.if_icmp .eq 10, 3) := xdt tbX9_unitHere_0_ok 38 rfl
theorem dX9_unitHere_68 : decode cX9_unitHere 68 = .ok (.aload_n 0, 1) := xdt tbX9_unitHere_0_ok 39 rfl
theorem dX9_unitHere_69 : decode cX9_unitHere 69 = .ok (.iconst 4, 1) := xdt tbX9_unitHere_0_ok 40 rfl
theorem dX9_unitHere_70 : decode cX9_unitHere 70 = .ok (.iload_n 2, 1) := xdt tbX9_unitHere_0_ok 41 rfl
theorem dX9_unitHere_71 : decode cX9_unitHere 71 = .ok (.invokevirtual 151, 3) := xdt tbX9_unitHere_0_ok 42 rfl
theorem dX9_unitHere_74 : decode cX9_unitHere 74 = .ok (.pop, 1) := xdt tbX9_unitHere_0_ok 43 rfl
theorem dX9_unitHere_75 : decode cX9_unitHere 75 = .ok (.iconst (-1), 1) := xdt tbX9_unitHere_0_ok 44 rfl
theorem dX9_unitHere_76 : decode cX9_unitHere 76 = .ok (.istore 4, 2) := xdt tbX9_unitHere_0_ok 45 rfl
theorem dX9_unitHere_78 : decode cX9_unitHere 78 = .ok (.aload_n 0, 1) := xdt tbX9_unitHere_0_ok 46 rfl
theorem dX9_unitHere_79 : decode cX9_unitHere 79 = .ok (.bipush 58, 2) := xdt tbX9_unitHere_0_ok 47 rfl
theorem dX9_unitHere_81 : decode cX9_unitHere 81 = .ok (.invokevirtual 148, 3) := xdt tbX9_unitHere_0_ok 48 rfl
theorem dX9_unitHere_84 : decode cX9_unitHere 84 = .ok (.ifCond .eq 63, 3) := xdt tbX9_unitHere_0_ok 49 rfl
theorem dX9_unitHere_87 : decode cX9_unitHere 87 = .ok (.aload_n 0, 1) := xdt tbX9_unitHere_0_ok 50 rfl
theorem dX9_unitHere_88 : decode cX9_unitHere 88 = .ok (.invokevirtual 123, 3) := xdt tbX9_unitHere_0_ok 51 rfl
theorem dX9_unitHere_91 : decode cX9_unitHere 91 = .ok (.pop, 1) := xdt tbX9_unitHere_0_ok 52 rfl
theorem dX9_unitHere_92 : decode cX9_unitHere 92 = .ok (.aload_n 0, 1) := xdt tbX9_unitHere_0_ok 53 rfl
theorem dX9_unitHere_93 : decode cX9_unitHere 93 = .ok (.getfield 110, 3) := xdt tbX9_unitHere_0_ok 54 rfl
theorem dX9_unitHere_96 : decode cX9_unitHere 96 = .ok (.istore 5, 2) := xdt tbX9_unitHere_0_ok 55 rfl
theorem dX9_unitHere_98 : decode cX9_unitHere 98 = .ok (.aload_n 0, 1) := xdt tbX9_unitHere_0_ok 56 rfl
theorem dX9_unitHere_99 : decode cX9_unitHere 99 = .ok (.invokevirtual 199, 3) := xdt tbX9_unitHere_0_ok 57 rfl
theorem dX9_unitHere_102 : decode cX9_unitHere 102 = .ok (.istore 6, 2) := xdt tbX9_unitHere_0_ok 58 rfl
theorem dX9_unitHere_104 : decode cX9_unitHere 104 = .ok (.aload_n 0, 1) := xdt tbX9_unitHere_0_ok 59 rfl
def tbX9_unitHere_60 : List (Nat × Instr × Nat) := [(105, .invokevirtual 140, 3), (108, .ifCond .eq 15, 3), (111, .aload_n 0, 1), (112, .getfield 23, 3), (115, .iload 6, 2), (117, .invokestatic 247, 3), (120, .goto 4, 3), (123, .iconst (-1), 1), (124, .istore 4, 2), (126, .aload_n 0, 1), (127, .invokevirtual 140, 3), (130, .ifCond .eq 17, 3), (133, .iload 4, 2), (135, .iconst (-1), 1), (136, .if_icmp .ne 11, 3), (139, .aload_n 0, 1), (140, .iconst 4, 1), (141, .iload 5, 2), (143, .invokevirtual 151, 3), (146, .pop, 1), (147, .aload_n 0, 1), (148, .bipush 123, 2), (150, .invokevirtual 195, 3), (153, .aload_n 0, 1), (154, .invokevirtual 140, 3), (157, .ifCond .ne 4, 3), (160, .return_, 1), (161, .aload_n 0, 1), (162, .getfield 23, 3), (165, .iconst 0, 1), (166, .iaload, 1), (167, .istore 5, 2), (169, .aload_n 0, 1), (170, .getfield 23, 3), (173, .iconst 5, 1), (174, .bipush 15, 2), (176, .iload 5, 2), (178, .imul, 1), (179, .iadd, 1), (180, .iload_n 3, 1), (181, .iastore, 1), (182, .aload_n 0, 1), (183, .getfield 23, 3), (186, .iconst 5, 1), (187, .bipush 15, 2), (189, .iload 5, 2), (191, .imul, 1), (192, .iadd, 1), (193, .iconst 1, 1), (194, .iadd, 1), (195, .iload 4, 2), (197, .iastore, 1), (198, .aload_n 0, 1), (199, .getfield 23, 3), (202, .iconst 5, 1), (203, .bipush 15, 2), (205, .iload 5, 2), (207, .imul, 1), (208, .iadd, 1), (209, .iconst 2, 1)]
theorem tbX9_unitHere_60_ok : tbX9_unitHere_60.all (fun q => decide (decode cX9_unitHere q.1 = .ok q.2)) = true := by decide +kernel
theorem dX9_unitHere_105 : decode cX9_unitHere 105 = .ok (.invokevirtual 140, 3) := xdt tbX9_unitHere_60_ok 0 rfl
theorem dX9_unitHere_108 : decode cX9_unitHere 108 = .ok (.ifCond .eq 15, 3) := xdt tbX9_unitHere_60_ok 1 rfl
theorem dX9_unitHere_111 : decode cX9_unitHere 111 = .ok (.aload_n 0, 1) := xdt tbX9_unitHere_60_ok 2 rfl
theorem dX9_unitHere_112 : decode cX9_unitHere 112 = .ok (.getfield 23, 3) := xdt tbX9_unitHere_60_ok 3 rfl
theorem dX9_unitHere_115 : decode cX9_unitHere 115 = .ok (.iload 6, 2) := xdt tbX9_unitHere_60_ok 4 rfl
theorem dX9_unitHere_117 : decode cX9_unitHere 117 = .ok (.invokestatic 247, 3) := xdt tbX9_unitHere_60_ok 5 rfl
theorem dX9_unitHere_120 : decode cX9_unitHere 120 = .ok (.goto 4, 3) := xdt tbX9_unitHere_60_ok 6 rfl
theorem dX9_unitHere_123 : decode cX9_unitHere 123 = .ok (.iconst (-1), 1) := xdt tbX9_unitHere_60_ok 7 rfl
theorem dX9_unitHere_124 : decode cX9_unitHere 124 = .ok (.istore 4, 2) := xdt tbX9_unitHere_60_ok 8 rfl
theorem dX9_unitHere_126 : decode cX9_unitHere 126 = .ok (.aload_n 0, 1) := xdt tbX9_unitHere_60_ok 9 rfl
theorem dX9_unitHere_127 : decode cX9_unitHere 127 = .ok (.invokevirtual 140, 3) := xdt tbX9_unitHere_60_ok 10 rfl
theorem dX9_unitHere_130 : decode cX9_unitHere 130 = .ok (.ifCond .eq 17, 3) := xdt tbX9_unitHere_60_ok 11 rfl
theorem dX9_unitHere_133 : decode cX9_unitHere 133 = .ok (.iload 4, 2) := xdt tbX9_unitHere_60_ok 12 rfl
theorem dX9_unitHere_135 : decode cX9_unitHere 135 = .ok (.iconst (-1), 1) := xdt tbX9_unitHere_60_ok 13 rfl
theorem dX9_unitHere_136 : decode cX9_unitHere 136 = .ok (.if_icmp .ne 11, 3) := xdt tbX9_unitHere_60_ok 14 rfl
theorem dX9_unitHere_139 : decode cX9_unitHere 139 = .ok (.aload_n 0, 1) := xdt tbX9_unitHere_60_ok 15 rfl
theorem dX9_unitHere_140 : decode cX9_unitHere 140 = .ok (.iconst 4, 1) := xdt tbX9_unitHere_60_ok 16 rfl
theorem dX9_unitHere_141 : decode cX9_unitHere 141 = .ok (.iload 5, 2) := xdt tbX9_unitHere_60_ok 17 rfl
theorem dX9_unitHere_143 : decode cX9_unitHere 143 = .ok (.invokevirtual 151, 3) := xdt tbX9_unitHere_60_ok 18 rfl
theorem dX9_unitHere_146 : decode cX9_unitHere 146 = .ok (.pop, 1) := xdt tbX9_unitHere_60_ok 19 rfl
theorem dX9_unitHere_147 : decode cX9_unitHere 147 = .ok (.aload_n 0, 1) := xdt tbX9_unitHere_60_ok 20 rfl
theorem dX9_unitHere_148 : decode cX9_unitHere 148 = .ok (.bipush 123, 2) := xdt tbX9_unitHere_60_ok 21 rfl
theorem dX9_unitHere_150 : decode cX9_unitHere 150 = .ok (.invokevirtual 195, 3) := xdt tbX9_unitHere_60_ok 22 rfl
theorem dX9_unitHere_153 : decode cX9_unitHere 153 = .ok (.aload_n 0, 1) := xdt tbX9_unitHere_60_ok 23 rfl
theorem dX9_unitHere_154 : decode cX9_unitHere 154 = .ok (.invokevirtual 140, 3) := xdt tbX9_unitHere_60_ok 24 rfl
theorem dX9_unitHere_157 : decode cX9_unitHere 157 = .ok (.ifCond .ne 4, 3) := xdt tbX9_unitHere_60_ok 25 rfl
theorem dX9_unitHere_160 : decode cX9_unitHere 160 = .ok (.return_, 1) := xdt tbX9_unitHere_60_ok 26 rfl
theorem dX9_unitHere_161 : decode cX9_unitHere 161 = .ok (.aload_n 0, 1) := xdt tbX9_unitHere_60_ok 27 rfl
theorem dX9_unitHere_162 : decode cX9_unitHere 162 = .ok (.getfield 23, 3) := xdt tbX9_unitHere_60_ok 28 rfl
theorem dX9_unitHere_165 : decode cX9_unitHere 165 = .ok (.iconst 0, 1) := xdt tbX9_unitHere_60_ok 29 rfl
theorem dX9_unitHere_166 : decode cX9_unitHere 166 = .ok (.iaload, 1) := xdt tbX9_unitHere_60_ok 30 rfl
theorem dX9_unitHere_167 : decode cX9_unitHere 167 = .ok (.istore 5, 2) := xdt tbX9_unitHere_60_ok 31 rfl
theorem dX9_unitHere_169 : decode cX9_unitHere 169 = .ok (.aload_n 0, 1) := xdt tbX9_unitHere_60_ok 32 rfl
theorem dX9_unitHere_170 : decode cX9_unitHere 170 = .ok (.getfield 23, 3) := xdt tbX9_unitHere_60_ok 33 rfl
theorem dX9_unitHere_173 : decode cX9_unitHere 173 = .ok (.iconst 5, 1) := xdt tbX9_unitHere_60_ok 34 rfl
theorem dX9_unitHere_174 : decode cX9_unitHere 174 = .ok (.bipush 15, 2) := xdt tbX9_unitHere_60_ok 35 rfl
theorem dX9_unitHere_176 : decode cX9_unitHere 176 = .ok (.iload 5, 2) := xdt tbX9_unitHere_60_ok 36 rfl
theorem dX9_unitHere_178 : decode cX9_unitHere 178 = .ok (.imul, 1) := xdt tbX9_unitHere_60_ok 37 rfl
theorem dX9_unitHere_179 : decode cX9_unitHere 179 = .ok (.iadd, 1) := xdt tbX9_unitHere_60_ok 38 rfl
theorem dX9_unitHere_180 : decode cX9_unitHere 180 = .ok (.iload_n 3, 1) := xdt tbX9_unitHere_60_ok 39 rfl
theorem dX9_unitHere_181 : decode cX9_unitHere 181 = .ok (.iastore, 1) := xdt tbX9_unitHere_60_ok 40 rfl
theorem dX9_unitHere_182 : decode cX9_unitHere 182 = .ok (.aload_n 0, 1) := xdt tbX9_unitHere_60_ok 41 rfl
theorem dX9_unitHere_183 : decode cX9_unitHere 183 = .ok (.getfield 23, 3) := xdt tbX9_unitHere_60_ok 42 rfl
theorem dX9_unitHere_186 : decode cX9_unitHere 186 = .ok (.iconst 5, 1) := xdt tbX9_unitHere_60_ok 43 rfl
theorem dX9_unitHere_187 : decode cX9_unitHere 187 = .ok (.bipush 15, 2) := xdt tbX9_unitHere_60_ok 44 rfl
theorem dX9_unitHere_189 : decode cX9_unitHere 189 = .ok (.iload 5, 2) := xdt tbX9_unitHere_60_ok 45 rfl
theorem dX9_unitHere_191 : decode cX9_unitHere 191 = .ok (.imul, 1) := xdt tbX9_unitHere_60_ok 46 rfl
theorem dX9_unitHere_192 : decode cX9_unitHere 192 = .ok (.iadd, 1) := xdt tbX9_unitHere_60_ok 47 rfl
theorem dX9_unitHere_193 : decode cX9_unitHere 193 = .ok (.iconst 1, 1) := xdt tbX9_unitHere_60_ok 48 rfl
theorem dX9_unitHere_194 : decode cX9_unitHere 194 = .ok (.iadd, 1) := xdt tbX9_unitHere_60_ok 49 rfl
theorem dX9_unitHere_195 : decode cX9_unitHere 195 = .ok (.iload 4, 2) := xdt tbX9_unitHere_60_ok 50 rfl
theorem dX9_unitHere_197 : decode cX9_unitHere 197 = .ok (.iastore, 1) := xdt tbX9_unitHere_60_ok 51 rfl
theorem dX9_unitHere_198 : decode cX9_unitHere 198 = .ok (.aload_n 0, 1) := xdt tbX9_unitHere_60_ok 52 rfl
theorem dX9_unitHere_199 : decode cX9_unitHere 199 = .ok (.getfield 23, 3) := xdt tbX9_unitHere_60_ok 53 rfl
theorem dX9_unitHere_202 : decode cX9_unitHere 202 = .ok (.iconst 5, 1) := xdt tbX9_unitHere_60_ok 54 rfl
theorem dX9_unitHere_203 : decode cX9_unitHere 203 = .ok (.bipush 15, 2) := xdt tbX9_unitHere_60_ok 55 rfl
theorem dX9_unitHere_205 : decode cX9_unitHere 205 = .ok (.iload 5, 2) := xdt tbX9_unitHere_60_ok 56 rfl
theorem dX9_unitHere_207 : decode cX9_unitHere 207 = .ok (.imul, 1) := xdt tbX9_unitHere_60_ok 57 rfl
theorem dX9_unitHere_208 : decode cX9_unitHere 208 = .ok (.iadd, 1) := xdt tbX9_unitHere_60_ok 58 rfl
theorem dX9_unitHere_209 : decode cX9_unitHere 209 = .ok (.iconst 2, 1) := xdt tbX9_unitHere_60_ok 59 rfl
def tbX9_unitHere_120 : List (Nat × Instr × Nat) := [(210, .iadd, 1), (211, .iconst 0, 1), (212, .iastore, 1), (213, .aload_n 0, 1), (214, .getfield 23, 3), (217, .iconst 0, 1), (218, .dup2, 1), (219, .iaload, 1), (220, .iconst 1, 1), (221, .iadd, 1), (222, .iastore, 1), (223, .aload_n 0, 1), (224, .invokevirtual 140, 3), (227, .ifCond .eq 21, 3), (230, .aload_n 0, 1), (231, .invokevirtual 123, 3), (234, .bipush 125, 2), (236, .if_icmp .eq 12, 3), (239, .aload_n 0, 1), (240, .iload 5, 2), (242, .invokevirtual 251, 3), (245, .goto (-22), 3), (248, .aload_n 0, 1), (249, .bipush 125, 2), (251, .invokevirtual 195, 3), (254, .return_, 1)]
theorem tbX9_unitHere_120_ok : tbX9_unitHere_120.all (fun q => decide (decode cX9_unitHere q.1 = .ok q.2)) = true := by decide +kernel
theorem dX9_unitHere_210 : decode cX9_unitHere 210 = .ok (.iadd, 1) := xdt tbX9_unitHere_120_ok 0 rfl
theorem dX9_unitHere_211 : decode cX9_unitHere 211 = .ok (.iconst 0, 1) := xdt tbX9_unitHere_120_ok 1 rfl
theorem dX9_unitHere_212 : decode cX9_unitHere 212 = .ok (.iastore, 1) := xdt tbX9_unitHere_120_ok 2 rfl
theorem dX9_unitHere_213 : decode cX9_unitHere 213 = .ok (.aload_n 0, 1) := xdt tbX9_unitHere_120_ok 3 rfl
theorem dX9_unitHere_214 : decode cX9_unitHere 214 = .ok (.getfield 23, 3) := xdt tbX9_unitHere_120_ok 4 rfl
theorem dX9_unitHere_217 : decode cX9_unitHere 217 = .ok (.iconst 0, 1) := xdt tbX9_unitHere_120_ok 5 rfl
theorem dX9_unitHere_218 : decode cX9_unitHere 218 = .ok (.dup2, 1) := xdt tbX9_unitHere_120_ok 6 rfl
theorem dX9_unitHere_219 : decode cX9_unitHere 219 = .ok (.iaload, 1) := xdt tbX9_unitHere_120_ok 7 rfl
theorem dX9_unitHere_220 : decode cX9_unitHere 220 = .ok (.iconst 1, 1) := xdt tbX9_unitHere_120_ok 8 rfl
theorem dX9_unitHere_221 : decode cX9_unitHere 221 = .ok (.iadd, 1) := xdt tbX9_unitHere_120_ok 9 rfl
theorem dX9_unitHere_222 : decode cX9_unitHere 222 = .ok (.iastore, 1) := xdt tbX9_unitHere_120_ok 10 rfl
theorem dX9_unitHere_223 : decode cX9_unitHere 223 = .ok (.aload_n 0, 1) := xdt tbX9_unitHere_120_ok 11 rfl
theorem dX9_unitHere_224 : decode cX9_unitHere 224 = .ok (.invokevirtual 140, 3) := xdt tbX9_unitHere_120_ok 12 rfl
theorem dX9_unitHere_227 : decode cX9_unitHere 227 = .ok (.ifCond .eq 21, 3) := xdt tbX9_unitHere_120_ok 13 rfl
theorem dX9_unitHere_230 : decode cX9_unitHere 230 = .ok (.aload_n 0, 1) := xdt tbX9_unitHere_120_ok 14 rfl
theorem dX9_unitHere_231 : decode cX9_unitHere 231 = .ok (.invokevirtual 123, 3) := xdt tbX9_unitHere_120_ok 15 rfl
theorem dX9_unitHere_234 : decode cX9_unitHere 234 = .ok (.bipush 125, 2) := xdt tbX9_unitHere_120_ok 16 rfl
theorem dX9_unitHere_236 : decode cX9_unitHere 236 = .ok (.if_icmp .eq 12, 3) := xdt tbX9_unitHere_120_ok 17 rfl
theorem dX9_unitHere_239 : decode cX9_unitHere 239 = .ok (.aload_n 0, 1) := xdt tbX9_unitHere_120_ok 18 rfl
theorem dX9_unitHere_240 : decode cX9_unitHere 240 = .ok (.iload 5, 2) := xdt tbX9_unitHere_120_ok 19 rfl
theorem dX9_unitHere_242 : decode cX9_unitHere 242 = .ok (.invokevirtual 251, 3) := xdt tbX9_unitHere_120_ok 20 rfl
theorem dX9_unitHere_245 : decode cX9_unitHere 245 = .ok (.goto (-22), 3) := xdt tbX9_unitHere_120_ok 21 rfl
theorem dX9_unitHere_248 : decode cX9_unitHere 248 = .ok (.aload_n 0, 1) := xdt tbX9_unitHere_120_ok 22 rfl
theorem dX9_unitHere_249 : decode cX9_unitHere 249 = .ok (.bipush 125, 2) := xdt tbX9_unitHere_120_ok 23 rfl
theorem dX9_unitHere_251 : decode cX9_unitHere 251 = .ok (.invokevirtual 195, 3) := xdt tbX9_unitHere_120_ok 24 rfl
theorem dX9_unitHere_254 : decode cX9_unitHere 254 = .ok (.return_, 1) := xdt tbX9_unitHere_120_ok 25 rfl
def tbX9_main_0 : List (Nat × Instr × Nat) := [(0, .aload_n 0, 1), (1, .bipush 123, 2), (3, .invokevirtual 195, 3), (6, .aload_n 0, 1), (7, .invokevirtual 140, 3), (10, .ifCond .eq 125, 3), (13, .aload_n 0, 1), (14, .invokevirtual 123, 3), (17, .bipush 125, 2), (19, .if_icmp .eq 116, 3), (22, .aload_n 0, 1), (23, .ldc 234, 2), (25, .invokevirtual 144, 3), (28, .istore_n 1, 1), (29, .iload_n 1, 1), (30, .ifCond .ne 23, 3), (33, .aload_n 0, 1), (34, .invokevirtual 162, 3), (37, .ifCond .ne 16, 3), (40, .aload_n 0, 1), (41, .iconst 1, 1), (42, .aload_n 0, 1), (43, .getfield 110, 3), (46, .invokevirtual 151, 3), (49, .pop, 1), (50, .goto 82, 3), (53, .aload_n 0, 1), (54, .getfield 23, 3), (57, .iconst 4, 1), (58, .iaload, 1), (59, .bipush 10, 2), (61, .if_icmp .ne 16, 3), (64, .aload_n 0, 1), (65, .iconst 3, 1), (66, .aload_n 0, 1), (67, .getfield 110, 3), (70, .invokevirtual 151, 3), (73, .pop, 1), (74, .goto 58, 3), (77, .aload_n 0, 1), (78, .ldc 234, 2), (80, .invokevirtual 189, 3), (83, .ifCond .eq 10, 3), (86, .aload_n 0, 1), (87, .invokevirtual 238, 3), (90, .goto 7, 3), (93, .aload_n 0, 1), (94, .invokevirtual 221, 3), (97, .istore_n 2, 1), (98, .aload_n 0, 1), (99, .invokevirtual 140, 3), (102, .ifCond .ne 4, 3), (105, .return_, 1), (106, .aload_n 0, 1), (107, .getfield 23, 3), (110, .sipush 3810, 3), (113, .aload_n 0, 1), (114, .getfield 23, 3), (117, .iconst 4, 1), (118, .iaload, 1)]
theorem tbX9_main_0_ok : tbX9_main_0.all (fun q => decide (decode cX9_main q.1 = .ok q.2)) = true := by decide +kernel
theorem dX9_main_0 : decode cX9_main 0 = .ok (.aload_n 0, 1) := xdt tbX9_main_0_ok 0 rfl
theorem dX9_main_1 : decode cX9_main 1 = .ok (.bipush 123, 2) := xdt tbX9_main_0_ok 1 rfl
theorem dX9_main_3 : decode cX9_main 3 = .ok (.invokevirtual 195, 3) := xdt tbX9_main_0_ok 2 rfl
theorem dX9_main_6 : decode cX9_main 6 = .ok (.aload_n 0, 1) := xdt tbX9_main_0_ok 3 rfl
theorem dX9_main_7 : decode cX9_main 7 = .ok (.invokevirtual 140, 3) := xdt tbX9_main_0_ok 4 rfl
theorem dX9_main_10 : decode cX9_main 10 = .ok (.ifCond .eq 125, 3) := xdt tbX9_main_0_ok 5 rfl
theorem dX9_main_13 : decode cX9_main 13 = .ok (.aload_n 0, 1) := xdt tbX9_main_0_ok 6 rfl
theorem dX9_main_14 : decode cX9_main 14 = .ok (.invokevirtual 123, 3) := xdt tbX9_main_0_ok 7 rfl
theorem dX9_main_17 : decode cX9_main 17 = .ok (.bipush 125, 2) := xdt tbX9_main_0_ok 8 rfl
theorem dX9_main_19 : decode cX9_main 19 = .ok (.if_icmp .eq 116, 3) := xdt tbX9_main_0_ok 9 rfl
theorem dX9_main_22 : decode cX9_main 22 = .ok (.aload_n 0, 1) := xdt tbX9_main_0_ok 10 rfl
theorem dX9_main_23 : decode cX9_main 23 = .ok (.ldc 234, 2) := xdt tbX9_main_0_ok 11 rfl
theorem dX9_main_25 : decode cX9_main 25 = .ok (.invokevirtual 144, 3) := xdt tbX9_main_0_ok 12 rfl
theorem dX9_main_28 : decode cX9_main 28 = .ok (.istore_n 1, 1) := xdt tbX9_main_0_ok 13 rfl
theorem dX9_main_29 : decode cX9_main 29 = .ok (.iload_n 1, 1) := xdt tbX9_main_0_ok 14 rfl
theorem dX9_main_30 : decode cX9_main 30 = .ok (.ifCond .ne 23, 3) := xdt tbX9_main_0_ok 15 rfl
theorem dX9_main_33 : decode cX9_main 33 = .ok (.aload_n 0, 1) := xdt tbX9_main_0_ok 16 rfl
theorem dX9_main_34 : decode cX9_main 34 = .ok (.invokevirtual 162, 3) := xdt tbX9_main_0_ok 17 rfl
theorem dX9_main_37 : decode cX9_main 37 = .ok (.ifCond .ne 16, 3) := xdt tbX9_main_0_ok 18 rfl
theorem dX9_main_40 : decode cX9_main 40 = .ok (.aload_n 0, 1) := xdt tbX9_main_0_ok 19 rfl
theorem dX9_main_41 : decode cX9_main 41 = .ok (.iconst 1, 1) := xdt tbX9_main_0_ok 20 rfl
theorem dX9_main_42 : decode cX9_main 42 = .ok (.aload_n 0, 1) := xdt tbX9_main_0_ok 21 rfl
theorem dX9_main_43 : decode cX9_main 43 = .ok (.getfield 110, 3) := xdt tbX9_main_0_ok 22 rfl
theorem dX9_main_46 : decode cX9_main 46 = .ok (.invokevirtual 151, 3) := xdt tbX9_main_0_ok 23 rfl
theorem dX9_main_49 : decode cX9_main 49 = .ok (.pop, 1) := xdt tbX9_main_0_ok 24 rfl
theorem dX9_main_50 : decode cX9_main 50 = .ok (.goto 82, 3) := xdt tbX9_main_0_ok 25 rfl
theorem dX9_main_53 : decode cX9_main 53 = .ok (.aload_n 0, 1) := xdt tbX9_main_0_ok 26 rfl
theorem dX9_main_54 : decode cX9_main 54 = .ok (.getfield 23, 3) := xdt tbX9_main_0_ok 27 rfl
theorem dX9_main_57 : decode cX9_main 57 = .ok (.iconst 4, 1) := xdt tbX9_main_0_ok 28 rfl
theorem dX9_main_58 : decode cX9_main 58 = .ok (.iaload, 1) := xdt tbX9_main_0_ok 29 rfl
theorem dX9_main_59 : decode cX9_main 59 = .ok (.bipush 10, 2) := xdt tbX9_main_0_ok 30 rfl
theorem dX9_main_61 : decode cX9_main 61 = .ok (.if_icmp .ne 16, 3) := xdt tbX9_main_0_ok 31 rfl
theorem dX9_main_64 : decode cX9_main 64 = .ok (.aload_n 0, 1) := xdt tbX9_main_0_ok 32 rfl
theorem dX9_main_65 : decode cX9_main 65 = .ok (.iconst 3, 1) := xdt tbX9_main_0_ok 33 rfl
theorem dX9_main_66 : decode cX9_main 66 = .ok (.aload_n 0, 1) := xdt tbX9_main_0_ok 34 rfl
theorem dX9_main_67 : decode cX9_main 67 = .ok (.getfield 110, 3) := xdt tbX9_main_0_ok 35 rfl
theorem dX9_main_70 : decode cX9_main 70 = .ok (.invokevirtual 151, 3) := xdt tbX9_main_0_ok 36 rfl
theorem dX9_main_73 : decode cX9_main 73 = .ok (.pop, 1) := xdt tbX9_main_0_ok 37 rfl
theorem dX9_main_74 : decode cX9_main 74 = .ok (.goto 58, 3) := xdt tbX9_main_0_ok 38 rfl
theorem dX9_main_77 : decode cX9_main 77 = .ok (.aload_n 0, 1) := xdt tbX9_main_0_ok 39 rfl
theorem dX9_main_78 : decode cX9_main 78 = .ok (.ldc 234, 2) := xdt tbX9_main_0_ok 40 rfl
theorem dX9_main_80 : decode cX9_main 80 = .ok (.invokevirtual 189, 3) := xdt tbX9_main_0_ok 41 rfl
theorem dX9_main_83 : decode cX9_main 83 = .ok (.ifCond .eq 10, 3) := xdt tbX9_main_0_ok 42 rfl
theorem dX9_main_86 : decode cX9_main 86 = .ok (.aload_n 0, 1) := xdt tbX9_main_0_ok 43 rfl
theorem dX9_main_87 : decode cX9_main 87 = .ok (.invokevirtual 238, 3) := xdt tbX9_main_0_ok 44 rfl
theorem dX9_main_90 : decode cX9_main 90 = .ok (.goto 7, 3) := xdt tbX9_main_0_ok 45 rfl
theorem dX9_main_93 : decode cX9_main 93 = .ok (.aload_n 0, 1) := xdt tbX9_main_0_ok 46 rfl
theorem dX9_main_94 : decode cX9_main 94 = .ok (.invokevirtual 221, 3) := xdt tbX9_main_0_ok 47 rfl
theorem dX9_main_97 : decode cX9_main 97 = .ok (.istore_n 2, 1) := xdt tbX9_main_0_ok 48 rfl
theorem dX9_main_98 : decode cX9_main 98 = .ok (.aload_n 0, 1) := xdt tbX9_main_0_ok 49 rfl
theorem dX9_main_99 : decode cX9_main 99 = .ok (.invokevirtual 140, 3) := xdt tbX9_main_0_ok 50 rfl
theorem dX9_main_102 : decode cX9_main 102 = .ok (.ifCond .ne 4, 3) := xdt tbX9_main_0_ok 51 rfl
theorem dX9_main_105 : decode cX9_main 105 = .ok (.return_, 1) := xdt tbX9_main_0_ok 52 rfl
theorem dX9_main_106 : decode cX9_main 106 = .ok (.aload_n 0, 1) := xdt tbX9_main_0_ok 53 rfl
theorem dX9_main_107 : decode cX9_main 107 = .ok (.getfield 23, 3) := xdt tbX9_main_0_ok 54 rfl
theorem dX9_main_110 : decode cX9_main 110 = .ok (.sipush 3810, 3) := xdt tbX9_main_0_ok 55 rfl
theorem dX9_main_113 : decode cX9_main 113 = .ok (.aload_n 0, 1) := xdt tbX9_main_0_ok 56 rfl
theorem dX9_main_114 : decode cX9_main 114 = .ok (.getfield 23, 3) := xdt tbX9_main_0_ok 57 rfl
theorem dX9_main_117 : decode cX9_main 117 = .ok (.iconst 4, 1) := xdt tbX9_main_0_ok 58 rfl
theorem dX9_main_118 : decode cX9_main 118 = .ok (.iaload, 1) := xdt tbX9_main_0_ok 59 rfl
def tbX9_main_60 : List (Nat × Instr × Nat) := [(119, .iadd, 1), (120, .iload_n 2, 1), (121, .iastore, 1), (122, .aload_n 0, 1), (123, .getfield 23, 3), (126, .iconst 4, 1), (127, .dup2, 1), (128, .iaload, 1), (129, .iconst 1, 1), (130, .iadd, 1), (131, .iastore, 1), (132, .goto (-126), 3), (135, .aload_n 0, 1), (136, .bipush 125, 2), (138, .invokevirtual 195, 3), (141, .return_, 1)]
theorem tbX9_main_60_ok : tbX9_main_60.all (fun q => decide (decode cX9_main q.1 = .ok q.2)) = true := by decide +kernel
theorem dX9_main_119 : decode cX9_main 119 = .ok (.iadd, 1) := xdt tbX9_main_60_ok 0 rfl
theorem dX9_main_120 : decode cX9_main 120 = .ok (.iload_n 2, 1) := xdt tbX9_main_60_ok 1 rfl
theorem dX9_main_121 : decode cX9_main 121 = .ok (.iastore, 1) := xdt tbX9_main_60_ok 2 rfl
theorem dX9_main_122 : decode cX9_main 122 = .ok (.aload_n 0, 1) := xdt tbX9_main_60_ok 3 rfl
theorem dX9_main_123 : decode cX9_main 123 = .ok (.getfield 23, 3) := xdt tbX9_main_60_ok 4 rfl
theorem dX9_main_126 : decode cX9_main 126 = .ok (.iconst 4, 1) := xdt tbX9_main_60_ok 5 rfl
theorem dX9_main_127 : decode cX9_main 127 = .ok (.dup2, 1) := xdt tbX9_main_60_ok 6 rfl
theorem dX9_main_128 : decode cX9_main 128 = .ok (.iaload, 1) := xdt tbX9_main_60_ok 7 rfl
theorem dX9_main_129 : decode cX9_main 129 = .ok (.iconst 1, 1) := xdt tbX9_main_60_ok 8 rfl
theorem dX9_main_130 : decode cX9_main 130 = .ok (.iadd, 1) := xdt tbX9_main_60_ok 9 rfl
theorem dX9_main_131 : decode cX9_main 131 = .ok (.iastore, 1) := xdt tbX9_main_60_ok 10 rfl
theorem dX9_main_132 : decode cX9_main 132 = .ok (.goto (-126), 3) := xdt tbX9_main_60_ok 11 rfl
theorem dX9_main_135 : decode cX9_main 135 = .ok (.aload_n 0, 1) := xdt tbX9_main_60_ok 12 rfl
theorem dX9_main_136 : decode cX9_main 136 = .ok (.bipush 125, 2) := xdt tbX9_main_60_ok 13 rfl
theorem dX9_main_138 : decode cX9_main 138 = .ok (.invokevirtual 195, 3) := xdt tbX9_main_60_ok 14 rfl
theorem dX9_main_141 : decode cX9_main 141 = .ok (.return_, 1) := xdt tbX9_main_60_ok 15 rfl
def tbX9_missing_0 : List (Nat × Instr × Nat) := [(0, .iconst (-1), 1), (1, .istore_n 1, 1), (2, .iconst 0, 1), (3, .istore_n 2, 1), (4, .iload_n 2, 1), (5, .aload_n 0, 1), (6, .getfield 23, 3), (9, .iconst 3, 1), (10, .iaload, 1), (11, .if_icmp .ge 143, 3), (14, .aload_n 0, 1), (15, .getfield 23, 3), (18, .iload_n 2, 1), (19, .iconst 1, 1), (20, .invokestatic 254, 3), (23, .istore_n 3, 1), (24, .aload_n 0, 1), (25, .getfield 23, 3), (28, .iload_n 2, 1), (29, .iconst 5, 1), (30, .invokestatic 254, 3), (33, .istore 4, 2), (35, .iload_n 3, 1), (36, .iconst 1, 1), (37, .if_icmp .eq 8, 3), (40, .iload_n 3, 1), (41, .iconst 2, 1), (42, .if_icmp .ne 106, 3), (45, .iload_n 1, 1), (46, .iconst (-1), 1), (47, .if_icmp .eq 12, 3), (50, .iload 4, 2), (52, .iload_n 1, 1), (53, .if_icmp .le 6, 3), (56, .goto 92, 3), (59, .aload_n 0, 1), (60, .getfield 23, 3), (63, .aload_n 0, 1), (64, .getfield 23, 3), (67, .iload_n 2, 1), (68, .iconst 2, 1), (69, .invokestatic 254, 3), (72, .invokestatic 247, 3), (75, .istore 5, 2), (77, .iload 5, 2), (79, .iconst (-1), 1), (80, .if_icmp .ne 7, 3), (83, .iconst (-1), 1), (84, .goto 21, 3), (87, .aload_n 0, 1), (88, .getfield 23, 3), (91, .iload 5, 2), (93, .aload_n 0, 1), (94, .getfield 23, 3), (97, .iload_n 2, 1), (98, .iconst 3, 1), (99, .invokestatic 254, 3), (102, .invokestatic 215, 3), (105, .istore 6, 2), (107, .iload 6, 2)]
theorem tbX9_missing_0_ok : tbX9_missing_0.all (fun q => decide (decode cX9_missing q.1 = .ok q.2)) = true := by decide +kernel
theorem dX9_missing_0 : decode cX9_missing 0 = .ok (.iconst (-1), 1) := xdt tbX9_missing_0_ok 0 rfl
theorem dX9_missing_1 : decode cX9_missing 1 = .ok (.istore_n 1, 1) := xdt tbX9_missing_0_ok 1 rfl
theorem dX9_missing_2 : decode cX9_missing 2 = .ok (.iconst 0, 1) := xdt tbX9_missing_0_ok 2 rfl
theorem dX9_missing_3 : decode cX9_missing 3 = .ok (.istore_n 2, 1) := xdt tbX9_missing_0_ok 3 rfl
theorem dX9_missing_4 : decode cX9_missing 4 = .ok (.iload_n 2, 1) := xdt tbX9_missing_0_ok 4 rfl
theorem dX9_missing_5 : decode cX9_missing 5 = .ok (.aload_n 0, 1) := xdt tbX9_missing_0_ok 5 rfl
theorem dX9_missing_6 : decode cX9_missing 6 = .ok (.getfield 23, 3) := xdt tbX9_missing_0_ok 6 rfl
theorem dX9_missing_9 : decode cX9_missing 9 = .ok (.iconst 3, 1) := xdt tbX9_missing_0_ok 7 rfl
theorem dX9_missing_10 : decode cX9_missing 10 = .ok (.iaload, 1) := xdt tbX9_missing_0_ok 8 rfl
theorem dX9_missing_11 : decode cX9_missing 11 = .ok (.if_icmp .ge 143, 3) := xdt tbX9_missing_0_ok 9 rfl
theorem dX9_missing_14 : decode cX9_missing 14 = .ok (.aload_n 0, 1) := xdt tbX9_missing_0_ok 10 rfl
theorem dX9_missing_15 : decode cX9_missing 15 = .ok (.getfield 23, 3) := xdt tbX9_missing_0_ok 11 rfl
theorem dX9_missing_18 : decode cX9_missing 18 = .ok (.iload_n 2, 1) := xdt tbX9_missing_0_ok 12 rfl
theorem dX9_missing_19 : decode cX9_missing 19 = .ok (.iconst 1, 1) := xdt tbX9_missing_0_ok 13 rfl
theorem dX9_missing_20 : decode cX9_missing 20 = .ok (.invokestatic 254, 3) := xdt tbX9_missing_0_ok 14 rfl
theorem dX9_missing_23 : decode cX9_missing 23 = .ok (.istore_n 3, 1) := xdt tbX9_missing_0_ok 15 rfl
theorem dX9_missing_24 : decode cX9_missing 24 = .ok (.aload_n 0, 1) := xdt tbX9_missing_0_ok 16 rfl
theorem dX9_missing_25 : decode cX9_missing 25 = .ok (.getfield 23, 3) := xdt tbX9_missing_0_ok 17 rfl
theorem dX9_missing_28 : decode cX9_missing 28 = .ok (.iload_n 2, 1) := xdt tbX9_missing_0_ok 18 rfl
theorem dX9_missing_29 : decode cX9_missing 29 = .ok (.iconst 5, 1) := xdt tbX9_missing_0_ok 19 rfl
theorem dX9_missing_30 : decode cX9_missing 30 = .ok (.invokestatic 254, 3) := xdt tbX9_missing_0_ok 20 rfl
theorem dX9_missing_33 : decode cX9_missing 33 = .ok (.istore 4, 2) := xdt tbX9_missing_0_ok 21 rfl
theorem dX9_missing_35 : decode cX9_missing 35 = .ok (.iload_n 3, 1) := xdt tbX9_missing_0_ok 22 rfl
theorem dX9_missing_36 : decode cX9_missing 36 = .ok (.iconst 1, 1) := xdt tbX9_missing_0_ok 23 rfl
theorem dX9_missing_37 : decode cX9_missing 37 = .ok (.if_icmp .eq 8, 3) := xdt tbX9_missing_0_ok 24 rfl
theorem dX9_missing_40 : decode cX9_missing 40 = .ok (.iload_n 3, 1) := xdt tbX9_missing_0_ok 25 rfl
theorem dX9_missing_41 : decode cX9_missing 41 = .ok (.iconst 2, 1) := xdt tbX9_missing_0_ok 26 rfl
theorem dX9_missing_42 : decode cX9_missing 42 = .ok (.if_icmp .ne 106, 3) := xdt tbX9_missing_0_ok 27 rfl
theorem dX9_missing_45 : decode cX9_missing 45 = .ok (.iload_n 1, 1) := xdt tbX9_missing_0_ok 28 rfl
theorem dX9_missing_46 : decode cX9_missing 46 = .ok (.iconst (-1), 1) := xdt tbX9_missing_0_ok 29 rfl
theorem dX9_missing_47 : decode cX9_missing 47 = .ok (.if_icmp .eq 12, 3) := xdt tbX9_missing_0_ok 30 rfl
theorem dX9_missing_50 : decode cX9_missing 50 = .ok (.iload 4, 2) := xdt tbX9_missing_0_ok 31 rfl
theorem dX9_missing_52 : decode cX9_missing 52 = .ok (.iload_n 1, 1) := xdt tbX9_missing_0_ok 32 rfl
theorem dX9_missing_53 : decode cX9_missing 53 = .ok (.if_icmp .le 6, 3) := xdt tbX9_missing_0_ok 33 rfl
theorem dX9_missing_56 : decode cX9_missing 56 = .ok (.goto 92, 3) := xdt tbX9_missing_0_ok 34 rfl
theorem dX9_missing_59 : decode cX9_missing 59 = .ok (.aload_n 0, 1) := xdt tbX9_missing_0_ok 35 rfl
theorem dX9_missing_60 : decode cX9_missing 60 = .ok (.getfield 23, 3) := xdt tbX9_missing_0_ok 36 rfl
theorem dX9_missing_63 : decode cX9_missing 63 = .ok (.aload_n 0, 1) := xdt tbX9_missing_0_ok 37 rfl
theorem dX9_missing_64 : decode cX9_missing 64 = .ok (.getfield 23, 3) := xdt tbX9_missing_0_ok 38 rfl
theorem dX9_missing_67 : decode cX9_missing 67 = .ok (.iload_n 2, 1) := xdt tbX9_missing_0_ok 39 rfl
theorem dX9_missing_68 : decode cX9_missing 68 = .ok (.iconst 2, 1) := xdt tbX9_missing_0_ok 40 rfl
theorem dX9_missing_69 : decode cX9_missing 69 = .ok (.invokestatic 254, 3) := xdt tbX9_missing_0_ok 41 rfl
theorem dX9_missing_72 : decode cX9_missing 72 = .ok (.invokestatic 247, 3) := xdt tbX9_missing_0_ok 42 rfl
theorem dX9_missing_75 : decode cX9_missing 75 = .ok (.istore 5, 2) := xdt tbX9_missing_0_ok 43 rfl
theorem dX9_missing_77 : decode cX9_missing 77 = .ok (.iload 5, 2) := xdt tbX9_missing_0_ok 44 rfl
theorem dX9_missing_79 : decode cX9_missing 79 = .ok (.iconst (-1), 1) := xdt tbX9_missing_0_ok 45 rfl
theorem dX9_missing_80 : decode cX9_missing 80 = .ok (.if_icmp .ne 7, 3) := xdt tbX9_missing_0_ok 46 rfl
theorem dX9_missing_83 : decode cX9_missing 83 = .ok (.iconst (-1), 1) := xdt tbX9_missing_0_ok 47 rfl
theorem dX9_missing_84 : decode cX9_missing 84 = .ok (.goto 21, 3) := xdt tbX9_missing_0_ok 48 rfl
theorem dX9_missing_87 : decode cX9_missing 87 = .ok (.aload_n 0, 1) := xdt tbX9_missing_0_ok 49 rfl
theorem dX9_missing_88 : decode cX9_missing 88 = .ok (.getfield 23, 3) := xdt tbX9_missing_0_ok 50 rfl
theorem dX9_missing_91 : decode cX9_missing 91 = .ok (.iload 5, 2) := xdt tbX9_missing_0_ok 51 rfl
theorem dX9_missing_93 : decode cX9_missing 93 = .ok (.aload_n 0, 1) := xdt tbX9_missing_0_ok 52 rfl
theorem dX9_missing_94 : decode cX9_missing 94 = .ok (.getfield 23, 3) := xdt tbX9_missing_0_ok 53 rfl
theorem dX9_missing_97 : decode cX9_missing 97 = .ok (.iload_n 2, 1) := xdt tbX9_missing_0_ok 54 rfl
theorem dX9_missing_98 : decode cX9_missing 98 = .ok (.iconst 3, 1) := xdt tbX9_missing_0_ok 55 rfl
theorem dX9_missing_99 : decode cX9_missing 99 = .ok (.invokestatic 254, 3) := xdt tbX9_missing_0_ok 56 rfl
theorem dX9_missing_102 : decode cX9_missing 102 = .ok (.invokestatic 215, 3) := xdt tbX9_missing_0_ok 57 rfl
theorem dX9_missing_105 : decode cX9_missing 105 = .ok (.istore 6, 2) := xdt tbX9_missing_0_ok 58 rfl
theorem dX9_missing_107 : decode cX9_missing 107 = .ok (.iload 6, 2) := xdt tbX9_missing_0_ok 59 rfl
def tbX9_missing_60 : List (Nat × Instr × Nat) := [(109, .iconst (-1), 1), (110, .if_icmp .eq 35, 3), (113, .aload_n 0, 1), (114, .getfield 23, 3), (117, .iload 6, 2), (119, .iconst 0, 1), (120, .invokestatic 104, 3), (123, .iconst 4, 1), (124, .if_icmp .ne 7, 3), (127, .iconst 1, 1), (128, .goto 4, 3), (131, .iconst 0, 1), (132, .iload_n 3, 1), (133, .iconst 2, 1), (134, .if_icmp .ne 7, 3), (137, .iconst 1, 1), (138, .goto 4, 3), (141, .iconst 0, 1), (142, .if_icmp .eq 6, 3), (145, .iload 4, 2), (147, .istore_n 1, 1), (148, .iinc 2 1, 3), (151, .goto (-147), 3), (154, .iconst 0, 1), (155, .istore_n 2, 1), (156, .iload_n 2, 1), (157, .aload_n 0, 1), (158, .getfield 23, 3), (161, .iconst 2, 1), (162, .iaload, 1), (163, .if_icmp .ge 115, 3), (166, .aload_n 0, 1), (167, .getfield 23, 3), (170, .iload_n 2, 1), (171, .iconst 3, 1), (172, .invokestatic 244, 3), (175, .istore_n 3, 1), (176, .aload_n 0, 1), (177, .getfield 23, 3), (180, .iload_n 2, 1), (181, .iconst 0, 1), (182, .invokestatic 244, 3), (185, .iconst (-1), 1), (186, .if_icmp .eq 86, 3), (189, .iload_n 1, 1), (190, .iconst (-1), 1), (191, .if_icmp .eq 11, 3), (194, .iload_n 3, 1), (195, .iload_n 1, 1), (196, .if_icmp .le 6, 3), (199, .goto 73, 3), (202, .aload_n 0, 1), (203, .getfield 23, 3), (206, .aload_n 0, 1), (207, .getfield 23, 3), (210, .iload_n 2, 1), (211, .iconst 0, 1), (212, .invokestatic 244, 3), (215, .invokestatic 247, 3), (218, .istore 4, 2)]
theorem tbX9_missing_60_ok : tbX9_missing_60.all (fun q => decide (decode cX9_missing q.1 = .ok q.2)) = true := by decide +kernel
theorem dX9_missing_109 : decode cX9_missing 109 = .ok (.iconst (-1), 1) := xdt tbX9_missing_60_ok 0 rfl
theorem dX9_missing_110 : decode cX9_missing 110 = .ok (.if_icmp .eq 35, 3) := xdt tbX9_missing_60_ok 1 rfl
theorem dX9_missing_113 : decode cX9_missing 113 = .ok (.aload_n 0, 1) := xdt tbX9_missing_60_ok 2 rfl
theorem dX9_missing_114 : decode cX9_missing 114 = .ok (.getfield 23, 3) := xdt tbX9_missing_60_ok 3 rfl
theorem dX9_missing_117 : decode cX9_missing 117 = .ok (.iload 6, 2) := xdt tbX9_missing_60_ok 4 rfl
theorem dX9_missing_119 : decode cX9_missing 119 = .ok (.iconst 0, 1) := xdt tbX9_missing_60_ok 5 rfl
theorem dX9_missing_120 : decode cX9_missing 120 = .ok (.invokestatic 104, 3) := xdt tbX9_missing_60_ok 6 rfl
theorem dX9_missing_123 : decode cX9_missing 123 = .ok (.iconst 4, 1) := xdt tbX9_missing_60_ok 7 rfl
theorem dX9_missing_124 : decode cX9_missing 124 = .ok (.if_icmp .ne 7, 3) := xdt tbX9_missing_60_ok 8 rfl
theorem dX9_missing_127 : decode cX9_missing 127 = .ok (.iconst 1, 1) := xdt tbX9_missing_60_ok 9 rfl
theorem dX9_missing_128 : decode cX9_missing 128 = .ok (.goto 4, 3) := xdt tbX9_missing_60_ok 10 rfl
theorem dX9_missing_131 : decode cX9_missing 131 = .ok (.iconst 0, 1) := xdt tbX9_missing_60_ok 11 rfl
theorem dX9_missing_132 : decode cX9_missing 132 = .ok (.iload_n 3, 1) := xdt tbX9_missing_60_ok 12 rfl
theorem dX9_missing_133 : decode cX9_missing 133 = .ok (.iconst 2, 1) := xdt tbX9_missing_60_ok 13 rfl
theorem dX9_missing_134 : decode cX9_missing 134 = .ok (.if_icmp .ne 7, 3) := xdt tbX9_missing_60_ok 14 rfl
theorem dX9_missing_137 : decode cX9_missing 137 = .ok (.iconst 1, 1) := xdt tbX9_missing_60_ok 15 rfl
theorem dX9_missing_138 : decode cX9_missing 138 = .ok (.goto 4, 3) := xdt tbX9_missing_60_ok 16 rfl
theorem dX9_missing_141 : decode cX9_missing 141 = .ok (.iconst 0, 1) := xdt tbX9_missing_60_ok 17 rfl
theorem dX9_missing_142 : decode cX9_missing 142 = .ok (.if_icmp .eq 6, 3) := xdt tbX9_missing_60_ok 18 rfl
theorem dX9_missing_145 : decode cX9_missing 145 = .ok (.iload 4, 2) := xdt tbX9_missing_60_ok 19 rfl
theorem dX9_missing_147 : decode cX9_missing 147 = .ok (.istore_n 1, 1) := xdt tbX9_missing_60_ok 20 rfl
theorem dX9_missing_148 : decode cX9_missing 148 = .ok (.iinc 2 1, 3) := xdt tbX9_missing_60_ok 21 rfl
theorem dX9_missing_151 : decode cX9_missing 151 = .ok (.goto (-147), 3) := xdt tbX9_missing_60_ok 22 rfl
theorem dX9_missing_154 : decode cX9_missing 154 = .ok (.iconst 0, 1) := xdt tbX9_missing_60_ok 23 rfl
theorem dX9_missing_155 : decode cX9_missing 155 = .ok (.istore_n 2, 1) := xdt tbX9_missing_60_ok 24 rfl
theorem dX9_missing_156 : decode cX9_missing 156 = .ok (.iload_n 2, 1) := xdt tbX9_missing_60_ok 25 rfl
theorem dX9_missing_157 : decode cX9_missing 157 = .ok (.aload_n 0, 1) := xdt tbX9_missing_60_ok 26 rfl
theorem dX9_missing_158 : decode cX9_missing 158 = .ok (.getfield 23, 3) := xdt tbX9_missing_60_ok 27 rfl
theorem dX9_missing_161 : decode cX9_missing 161 = .ok (.iconst 2, 1) := xdt tbX9_missing_60_ok 28 rfl
theorem dX9_missing_162 : decode cX9_missing 162 = .ok (.iaload, 1) := xdt tbX9_missing_60_ok 29 rfl
theorem dX9_missing_163 : decode cX9_missing 163 = .ok (.if_icmp .ge 115, 3) := xdt tbX9_missing_60_ok 30 rfl
theorem dX9_missing_166 : decode cX9_missing 166 = .ok (.aload_n 0, 1) := xdt tbX9_missing_60_ok 31 rfl
theorem dX9_missing_167 : decode cX9_missing 167 = .ok (.getfield 23, 3) := xdt tbX9_missing_60_ok 32 rfl
theorem dX9_missing_170 : decode cX9_missing 170 = .ok (.iload_n 2, 1) := xdt tbX9_missing_60_ok 33 rfl
theorem dX9_missing_171 : decode cX9_missing 171 = .ok (.iconst 3, 1) := xdt tbX9_missing_60_ok 34 rfl
theorem dX9_missing_172 : decode cX9_missing 172 = .ok (.invokestatic 244, 3) := xdt tbX9_missing_60_ok 35 rfl
theorem dX9_missing_175 : decode cX9_missing 175 = .ok (.istore_n 3, 1) := xdt tbX9_missing_60_ok 36 rfl
theorem dX9_missing_176 : decode cX9_missing 176 = .ok (.aload_n 0, 1) := xdt tbX9_missing_60_ok 37 rfl
theorem dX9_missing_177 : decode cX9_missing 177 = .ok (.getfield 23, 3) := xdt tbX9_missing_60_ok 38 rfl
theorem dX9_missing_180 : decode cX9_missing 180 = .ok (.iload_n 2, 1) := xdt tbX9_missing_60_ok 39 rfl
theorem dX9_missing_181 : decode cX9_missing 181 = .ok (.iconst 0, 1) := xdt tbX9_missing_60_ok 40 rfl
theorem dX9_missing_182 : decode cX9_missing 182 = .ok (.invokestatic 244, 3) := xdt tbX9_missing_60_ok 41 rfl
theorem dX9_missing_185 : decode cX9_missing 185 = .ok (.iconst (-1), 1) := xdt tbX9_missing_60_ok 42 rfl
theorem dX9_missing_186 : decode cX9_missing 186 = .ok (.if_icmp .eq 86, 3) := xdt tbX9_missing_60_ok 43 rfl
theorem dX9_missing_189 : decode cX9_missing 189 = .ok (.iload_n 1, 1) := xdt tbX9_missing_60_ok 44 rfl
theorem dX9_missing_190 : decode cX9_missing 190 = .ok (.iconst (-1), 1) := xdt tbX9_missing_60_ok 45 rfl
theorem dX9_missing_191 : decode cX9_missing 191 = .ok (.if_icmp .eq 11, 3) := xdt tbX9_missing_60_ok 46 rfl
theorem dX9_missing_194 : decode cX9_missing 194 = .ok (.iload_n 3, 1) := xdt tbX9_missing_60_ok 47 rfl
theorem dX9_missing_195 : decode cX9_missing 195 = .ok (.iload_n 1, 1) := xdt tbX9_missing_60_ok 48 rfl
theorem dX9_missing_196 : decode cX9_missing 196 = .ok (.if_icmp .le 6, 3) := xdt tbX9_missing_60_ok 49 rfl
theorem dX9_missing_199 : decode cX9_missing 199 = .ok (.goto 73, 3) := xdt tbX9_missing_60_ok 50 rfl
theorem dX9_missing_202 : decode cX9_missing 202 = .ok (.aload_n 0, 1) := xdt tbX9_missing_60_ok 51 rfl
theorem dX9_missing_203 : decode cX9_missing 203 = .ok (.getfield 23, 3) := xdt tbX9_missing_60_ok 52 rfl
theorem dX9_missing_206 : decode cX9_missing 206 = .ok (.aload_n 0, 1) := xdt tbX9_missing_60_ok 53 rfl
theorem dX9_missing_207 : decode cX9_missing 207 = .ok (.getfield 23, 3) := xdt tbX9_missing_60_ok 54 rfl
theorem dX9_missing_210 : decode cX9_missing 210 = .ok (.iload_n 2, 1) := xdt tbX9_missing_60_ok 55 rfl
theorem dX9_missing_211 : decode cX9_missing 211 = .ok (.iconst 0, 1) := xdt tbX9_missing_60_ok 56 rfl
theorem dX9_missing_212 : decode cX9_missing 212 = .ok (.invokestatic 244, 3) := xdt tbX9_missing_60_ok 57 rfl
theorem dX9_missing_215 : decode cX9_missing 215 = .ok (.invokestatic 247, 3) := xdt tbX9_missing_60_ok 58 rfl
theorem dX9_missing_218 : decode cX9_missing 218 = .ok (.istore 4, 2) := xdt tbX9_missing_60_ok 59 rfl
def tbX9_missing_120 : List (Nat × Instr × Nat) := [(220, .iload 4, 2), (222, .iconst (-1), 1), (223, .if_icmp .ne 7, 3), (226, .iconst (-1), 1), (227, .goto 21, 3), (230, .aload_n 0, 1), (231, .getfield 23, 3), (234, .iload 4, 2), (236, .aload_n 0, 1), (237, .getfield 23, 3), (240, .iload_n 2, 1), (241, .iconst 1, 1), (242, .invokestatic 244, 3), (245, .invokestatic 215, 3), (248, .istore 5, 2), (250, .iload 5, 2), (252, .iconst (-1), 1), (253, .if_icmp .eq 17, 3), (256, .aload_n 0, 1), (257, .getfield 23, 3), (260, .iload 5, 2), (262, .iconst 0, 1), (263, .invokestatic 104, 3), (266, .iconst 1, 1), (267, .if_icmp .eq 5, 3), (270, .iload_n 3, 1), (271, .istore_n 1, 1), (272, .iinc 2 1, 3), (275, .goto (-119), 3), (278, .iload_n 1, 1), (279, .ireturn, 1)]
theorem tbX9_missing_120_ok : tbX9_missing_120.all (fun q => decide (decode cX9_missing q.1 = .ok q.2)) = true := by decide +kernel
theorem dX9_missing_220 : decode cX9_missing 220 = .ok (.iload 4, 2) := xdt tbX9_missing_120_ok 0 rfl
theorem dX9_missing_222 : decode cX9_missing 222 = .ok (.iconst (-1), 1) := xdt tbX9_missing_120_ok 1 rfl
theorem dX9_missing_223 : decode cX9_missing 223 = .ok (.if_icmp .ne 7, 3) := xdt tbX9_missing_120_ok 2 rfl
theorem dX9_missing_226 : decode cX9_missing 226 = .ok (.iconst (-1), 1) := xdt tbX9_missing_120_ok 3 rfl
theorem dX9_missing_227 : decode cX9_missing 227 = .ok (.goto 21, 3) := xdt tbX9_missing_120_ok 4 rfl
theorem dX9_missing_230 : decode cX9_missing 230 = .ok (.aload_n 0, 1) := xdt tbX9_missing_120_ok 5 rfl
theorem dX9_missing_231 : decode cX9_missing 231 = .ok (.getfield 23, 3) := xdt tbX9_missing_120_ok 6 rfl
theorem dX9_missing_234 : decode cX9_missing 234 = .ok (.iload 4, 2) := xdt tbX9_missing_120_ok 7 rfl
theorem dX9_missing_236 : decode cX9_missing 236 = .ok (.aload_n 0, 1) := xdt tbX9_missing_120_ok 8 rfl
theorem dX9_missing_237 : decode cX9_missing 237 = .ok (.getfield 23, 3) := xdt tbX9_missing_120_ok 9 rfl
