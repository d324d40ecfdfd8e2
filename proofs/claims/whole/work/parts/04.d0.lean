theorem xdt {c : ByteArray} {tb : List (Nat × Instr × Nat)} (h : tb.all (fun q => decide (decode c q.1 = .ok q.2)) = true) (i : Nat) {pc : Nat} {x : Instr × Nat} (hi : tb[i]? = some (pc, x)) : decode c pc = .ok x := of_decide_eq_true (List.all_eq_true.mp h (pc, x) (List.mem_of_getElem? hi))
def tbX0_forget_0 : List (Nat × Instr × Nat) := [(0, .aload_n 0, 1), (1, .iconst 0, 1), (2, .putfield 21, 3), (5, .return_, 1)]
theorem tbX0_forget_0_ok : tbX0_forget_0.all (fun q => decide (decode cX0_forget q.1 = .ok q.2)) = true := by decide +kernel
theorem dX0_forget_0 : decode cX0_forget 0 = .ok (.aload_n 0, 1) := xdt tbX0_forget_0_ok 0 rfl
theorem dX0_forget_1 : decode cX0_forget 1 = .ok (.iconst 0, 1) := xdt tbX0_forget_0_ok 1 rfl
theorem dX0_forget_2 : decode cX0_forget 2 = .ok (.putfield 21, 3) := xdt tbX0_forget_0_ok 2 rfl
theorem dX0_forget_5 : decode cX0_forget 5 = .ok (.return_, 1) := xdt tbX0_forget_0_ok 3 rfl
def tbJ9_min_7cf53_0 : List (Nat × Instr × Nat) := [(0, .iload_n 0, 1), (1, .iload_n 1, 1), (2, .if_icmp .gt 7, 3), (5, .iload_n 0, 1), (6, .goto 4, 3), (9, .iload_n 1, 1), (10, .ireturn, 1)]
theorem tbJ9_min_7cf53_0_ok : tbJ9_min_7cf53_0.all (fun q => decide (decode cJ9_min_7cf53 q.1 = .ok q.2)) = true := by decide +kernel
theorem dJ9_min_7cf53_0 : decode cJ9_min_7cf53 0 = .ok (.iload_n 0, 1) := xdt tbJ9_min_7cf53_0_ok 0 rfl
theorem dJ9_min_7cf53_1 : decode cJ9_min_7cf53 1 = .ok (.iload_n 1, 1) := xdt tbJ9_min_7cf53_0_ok 1 rfl
theorem dJ9_min_7cf53_2 : decode cJ9_min_7cf53 2 = .ok (.if_icmp .gt 7, 3) := xdt tbJ9_min_7cf53_0_ok 2 rfl
theorem dJ9_min_7cf53_5 : decode cJ9_min_7cf53 5 = .ok (.iload_n 0, 1) := xdt tbJ9_min_7cf53_0_ok 3 rfl
theorem dJ9_min_7cf53_6 : decode cJ9_min_7cf53 6 = .ok (.goto 4, 3) := xdt tbJ9_min_7cf53_0_ok 4 rfl
theorem dJ9_min_7cf53_9 : decode cJ9_min_7cf53 9 = .ok (.iload_n 1, 1) := xdt tbJ9_min_7cf53_0_ok 5 rfl
theorem dJ9_min_7cf53_10 : decode cJ9_min_7cf53 10 = .ok (.ireturn, 1) := xdt tbJ9_min_7cf53_0_ok 6 rfl
def tbX0_note_0 : List (Nat × Instr × Nat) := [(0, .aload_n 0, 1), (1, .getfield 9, 3), (4, .aload_n 0, 1), (5, .getfield 25, 3), (8, .iload_n 1, 1), (9, .iastore, 1), (10, .aload_n 0, 1), (11, .getfield 15, 3), (14, .aload_n 0, 1), (15, .getfield 25, 3), (18, .iload_n 2, 1), (19, .iastore, 1), (20, .aload_n 0, 1), (21, .getfield 18, 3), (24, .aload_n 0, 1), (25, .getfield 25, 3), (28, .iload_n 3, 1), (29, .iastore, 1), (30, .aload_n 0, 1), (31, .aload_n 0, 1), (32, .getfield 25, 3), (35, .iconst 1, 1), (36, .iadd, 1), (37, .bipush 16, 2), (39, .irem, 1), (40, .putfield 25, 3), (43, .aload_n 0, 1), (44, .aload_n 0, 1), (45, .getfield 21, 3), (48, .iconst 1, 1), (49, .iadd, 1), (50, .bipush 16, 2), (52, .invokestatic 28, 3), (55, .putfield 21, 3), (58, .return_, 1)]
theorem tbX0_note_0_ok : tbX0_note_0.all (fun q => decide (decode cX0_note q.1 = .ok q.2)) = true := by decide +kernel
theorem dX0_note_0 : decode cX0_note 0 = .ok (.aload_n 0, 1) := xdt tbX0_note_0_ok 0 rfl
theorem dX0_note_1 : decode cX0_note 1 = .ok (.getfield 9, 3) := xdt tbX0_note_0_ok 1 rfl
theorem dX0_note_4 : decode cX0_note 4 = .ok (.aload_n 0, 1) := xdt tbX0_note_0_ok 2 rfl
theorem dX0_note_5 : decode cX0_note 5 = .ok (.getfield 25, 3) := xdt tbX0_note_0_ok 3 rfl
theorem dX0_note_8 : decode cX0_note 8 = .ok (.iload_n 1, 1) := xdt tbX0_note_0_ok 4 rfl
theorem dX0_note_9 : decode cX0_note 9 = .ok (.iastore, 1) := xdt tbX0_note_0_ok 5 rfl
theorem dX0_note_10 : decode cX0_note 10 = .ok (.aload_n 0, 1) := xdt tbX0_note_0_ok 6 rfl
theorem dX0_note_11 : decode cX0_note 11 = .ok (.getfield 15, 3) := xdt tbX0_note_0_ok 7 rfl
theorem dX0_note_14 : decode cX0_note 14 = .ok (.aload_n 0, 1) := xdt tbX0_note_0_ok 8 rfl
theorem dX0_note_15 : decode cX0_note 15 = .ok (.getfield 25, 3) := xdt tbX0_note_0_ok 9 rfl
theorem dX0_note_18 : decode cX0_note 18 = .ok (.iload_n 2, 1) := xdt tbX0_note_0_ok 10 rfl
theorem dX0_note_19 : decode cX0_note 19 = .ok (.iastore, 1) := xdt tbX0_note_0_ok 11 rfl
theorem dX0_note_20 : decode cX0_note 20 = .ok (.aload_n 0, 1) := xdt tbX0_note_0_ok 12 rfl
theorem dX0_note_21 : decode cX0_note 21 = .ok (.getfield 18, 3) := xdt tbX0_note_0_ok 13 rfl
theorem dX0_note_24 : decode cX0_note 24 = .ok (.aload_n 0, 1) := xdt tbX0_note_0_ok 14 rfl
theorem dX0_note_25 : decode cX0_note 25 = .ok (.getfield 25, 3) := xdt tbX0_note_0_ok 15 rfl
theorem dX0_note_28 : decode cX0_note 28 = .ok (.iload_n 3, 1) := xdt tbX0_note_0_ok 16 rfl
theorem dX0_note_29 : decode cX0_note 29 = .ok (.iastore, 1) := xdt tbX0_note_0_ok 17 rfl
theorem dX0_note_30 : decode cX0_note 30 = .ok (.aload_n 0, 1) := xdt tbX0_note_0_ok 18 rfl
theorem dX0_note_31 : decode cX0_note 31 = .ok (.aload_n 0, 1) := xdt tbX0_note_0_ok 19 rfl
theorem dX0_note_32 : decode cX0_note 32 = .ok (.getfield 25, 3) := xdt tbX0_note_0_ok 20 rfl
theorem dX0_note_35 : decode cX0_note 35 = .ok (.iconst 1, 1) := xdt tbX0_note_0_ok 21 rfl
theorem dX0_note_36 : decode cX0_note 36 = .ok (.iadd, 1) := xdt tbX0_note_0_ok 22 rfl
theorem dX0_note_37 : decode cX0_note 37 = .ok (.bipush 16, 2) := xdt tbX0_note_0_ok 23 rfl
theorem dX0_note_39 : decode cX0_note 39 = .ok (.irem, 1) := xdt tbX0_note_0_ok 24 rfl
theorem dX0_note_40 : decode cX0_note 40 = .ok (.putfield 25, 3) := xdt tbX0_note_0_ok 25 rfl
theorem dX0_note_43 : decode cX0_note 43 = .ok (.aload_n 0, 1) := xdt tbX0_note_0_ok 26 rfl
theorem dX0_note_44 : decode cX0_note 44 = .ok (.aload_n 0, 1) := xdt tbX0_note_0_ok 27 rfl
theorem dX0_note_45 : decode cX0_note 45 = .ok (.getfield 21, 3) := xdt tbX0_note_0_ok 28 rfl
theorem dX0_note_48 : decode cX0_note 48 = .ok (.iconst 1, 1) := xdt tbX0_note_0_ok 29 rfl
theorem dX0_note_49 : decode cX0_note 49 = .ok (.iadd, 1) := xdt tbX0_note_0_ok 30 rfl
theorem dX0_note_50 : decode cX0_note 50 = .ok (.bipush 16, 2) := xdt tbX0_note_0_ok 31 rfl
theorem dX0_note_52 : decode cX0_note 52 = .ok (.invokestatic 28, 3) := xdt tbX0_note_0_ok 32 rfl
theorem dX0_note_55 : decode cX0_note 55 = .ok (.putfield 21, 3) := xdt tbX0_note_0_ok 33 rfl
theorem dX0_note_58 : decode cX0_note 58 = .ok (.return_, 1) := xdt tbX0_note_0_ok 34 rfl
def tbX6_memberAt_0 : List (Nat × Instr × Nat) := [(0, .aload_n 0, 1), (1, .getfield 36, 3), (4, .iload_n 1, 1), (5, .bipush 12, 2), (7, .imul, 1), (8, .iload_n 2, 1), (9, .iadd, 1), (10, .iaload, 1), (11, .ireturn, 1)]
theorem tbX6_memberAt_0_ok : tbX6_memberAt_0.all (fun q => decide (decode cX6_memberAt q.1 = .ok q.2)) = true := by decide +kernel
theorem dX6_memberAt_0 : decode cX6_memberAt 0 = .ok (.aload_n 0, 1) := xdt tbX6_memberAt_0_ok 0 rfl
theorem dX6_memberAt_1 : decode cX6_memberAt 1 = .ok (.getfield 36, 3) := xdt tbX6_memberAt_0_ok 1 rfl
theorem dX6_memberAt_4 : decode cX6_memberAt 4 = .ok (.iload_n 1, 1) := xdt tbX6_memberAt_0_ok 2 rfl
theorem dX6_memberAt_5 : decode cX6_memberAt 5 = .ok (.bipush 12, 2) := xdt tbX6_memberAt_0_ok 3 rfl
theorem dX6_memberAt_7 : decode cX6_memberAt 7 = .ok (.imul, 1) := xdt tbX6_memberAt_0_ok 4 rfl
theorem dX6_memberAt_8 : decode cX6_memberAt 8 = .ok (.iload_n 2, 1) := xdt tbX6_memberAt_0_ok 5 rfl
theorem dX6_memberAt_9 : decode cX6_memberAt 9 = .ok (.iadd, 1) := xdt tbX6_memberAt_0_ok 6 rfl
theorem dX6_memberAt_10 : decode cX6_memberAt 10 = .ok (.iaload, 1) := xdt tbX6_memberAt_0_ok 7 rfl
theorem dX6_memberAt_11 : decode cX6_memberAt 11 = .ok (.ireturn, 1) := xdt tbX6_memberAt_0_ok 8 rfl
def tbX6_flip_0 : List (Nat × Instr × Nat) := [(0, .aload_n 0, 1), (1, .iload_n 1, 1), (2, .iload_n 2, 1), (3, .invokevirtual 78, 3), (6, .istore_n 3, 1), (7, .aload_n 0, 1), (8, .getfield 33, 3), (11, .iload_n 3, 1), (12, .iconst 1, 1), (13, .aload_n 0, 1), (14, .getfield 33, 3), (17, .iload_n 3, 1), (18, .iaload, 1), (19, .isub, 1), (20, .iastore, 1), (21, .return_, 1)]
theorem tbX6_flip_0_ok : tbX6_flip_0.all (fun q => decide (decode cX6_flip q.1 = .ok q.2)) = true := by decide +kernel
theorem dX6_flip_0 : decode cX6_flip 0 = .ok (.aload_n 0, 1) := xdt tbX6_flip_0_ok 0 rfl
theorem dX6_flip_1 : decode cX6_flip 1 = .ok (.iload_n 1, 1) := xdt tbX6_flip_0_ok 1 rfl
theorem dX6_flip_2 : decode cX6_flip 2 = .ok (.iload_n 2, 1) := xdt tbX6_flip_0_ok 2 rfl
theorem dX6_flip_3 : decode cX6_flip 3 = .ok (.invokevirtual 78, 3) := xdt tbX6_flip_0_ok 3 rfl
theorem dX6_flip_6 : decode cX6_flip 6 = .ok (.istore_n 3, 1) := xdt tbX6_flip_0_ok 4 rfl
theorem dX6_flip_7 : decode cX6_flip 7 = .ok (.aload_n 0, 1) := xdt tbX6_flip_0_ok 5 rfl
theorem dX6_flip_8 : decode cX6_flip 8 = .ok (.getfield 33, 3) := xdt tbX6_flip_0_ok 6 rfl
theorem dX6_flip_11 : decode cX6_flip 11 = .ok (.iload_n 3, 1) := xdt tbX6_flip_0_ok 7 rfl
theorem dX6_flip_12 : decode cX6_flip 12 = .ok (.iconst 1, 1) := xdt tbX6_flip_0_ok 8 rfl
theorem dX6_flip_13 : decode cX6_flip 13 = .ok (.aload_n 0, 1) := xdt tbX6_flip_0_ok 9 rfl
theorem dX6_flip_14 : decode cX6_flip 14 = .ok (.getfield 33, 3) := xdt tbX6_flip_0_ok 10 rfl
theorem dX6_flip_17 : decode cX6_flip 17 = .ok (.iload_n 3, 1) := xdt tbX6_flip_0_ok 11 rfl
theorem dX6_flip_18 : decode cX6_flip 18 = .ok (.iaload, 1) := xdt tbX6_flip_0_ok 12 rfl
theorem dX6_flip_19 : decode cX6_flip 19 = .ok (.isub, 1) := xdt tbX6_flip_0_ok 13 rfl
theorem dX6_flip_20 : decode cX6_flip 20 = .ok (.iastore, 1) := xdt tbX6_flip_0_ok 14 rfl
theorem dX6_flip_21 : decode cX6_flip 21 = .ok (.return_, 1) := xdt tbX6_flip_0_ok 15 rfl
def tbX6_shift_0 : List (Nat × Instr × Nat) := [(0, .iload_n 1, 1), (1, .bipush 12, 2), (3, .imul, 1), (4, .istore 4, 2), (6, .aload_n 0, 1), (7, .getfield 36, 3), (10, .iload 4, 2), (12, .iload_n 2, 1), (13, .iadd, 1), (14, .iaload, 1), (15, .istore 5, 2), (17, .iload_n 2, 1), (18, .istore 6, 2), (20, .iload 6, 2), (22, .iload_n 3, 1), (23, .if_icmp .ge 31, 3), (26, .aload_n 0, 1), (27, .getfield 36, 3), (30, .iload 4, 2), (32, .iload 6, 2), (34, .iadd, 1), (35, .aload_n 0, 1), (36, .getfield 36, 3), (39, .iload 4, 2), (41, .iload 6, 2), (43, .iadd, 1), (44, .iconst 1, 1), (45, .iadd, 1), (46, .iaload, 1), (47, .iastore, 1), (48, .iinc 6 1, 3), (51, .goto (-31), 3), (54, .iload_n 2, 1), (55, .istore 6, 2), (57, .iload 6, 2), (59, .iload_n 3, 1), (60, .if_icmp .le 31, 3), (63, .aload_n 0, 1), (64, .getfield 36, 3), (67, .iload 4, 2), (69, .iload 6, 2), (71, .iadd, 1), (72, .aload_n 0, 1), (73, .getfield 36, 3), (76, .iload 4, 2), (78, .iload 6, 2), (80, .iadd, 1), (81, .iconst 1, 1), (82, .isub, 1), (83, .iaload, 1), (84, .iastore, 1), (85, .iinc 6 (-1), 3), (88, .goto (-31), 3), (91, .aload_n 0, 1), (92, .getfield 36, 3), (95, .iload 4, 2), (97, .iload_n 3, 1), (98, .iadd, 1), (99, .iload 5, 2), (101, .iastore, 1)]
theorem tbX6_shift_0_ok : tbX6_shift_0.all (fun q => decide (decode cX6_shift q.1 = .ok q.2)) = true := by decide +kernel
theorem dX6_shift_0 : decode cX6_shift 0 = .ok (.iload_n 1, 1) := xdt tbX6_shift_0_ok 0 rfl
theorem dX6_shift_1 : decode cX6_shift 1 = .ok (.bipush 12, 2) := xdt tbX6_shift_0_ok 1 rfl
theorem dX6_shift_3 : decode cX6_shift 3 = .ok (.imul, 1) := xdt tbX6_shift_0_ok 2 rfl
theorem dX6_shift_4 : decode cX6_shift 4 = .ok (.istore 4, 2) := xdt tbX6_shift_0_ok 3 rfl
theorem dX6_shift_6 : decode cX6_shift 6 = .ok (.aload_n 0, 1) := xdt tbX6_shift_0_ok 4 rfl
theorem dX6_shift_7 : decode cX6_shift 7 = .ok (.getfield 36, 3) := xdt tbX6_shift_0_ok 5 rfl
theorem dX6_shift_10 : decode cX6_shift 10 = .ok (.iload 4, 2) := xdt tbX6_shift_0_ok 6 rfl
theorem dX6_shift_12 : decode cX6_shift 12 = .ok (.iload_n 2, 1) := xdt tbX6_shift_0_ok 7 rfl
theorem dX6_shift_13 : decode cX6_shift 13 = .ok (.iadd, 1) := xdt tbX6_shift_0_ok 8 rfl
theorem dX6_shift_14 : decode cX6_shift 14 = .ok (.iaload, 1) := xdt tbX6_shift_0_ok 9 rfl
theorem dX6_shift_15 : decode cX6_shift 15 = .ok (.istore 5, 2) := xdt tbX6_shift_0_ok 10 rfl
theorem dX6_shift_17 : decode cX6_shift 17 = .ok (.iload_n 2, 1) := xdt tbX6_shift_0_ok 11 rfl
theorem dX6_shift_18 : decode cX6_shift 18 = .ok (.istore 6, 2) := xdt tbX6_shift_0_ok 12 rfl
theorem dX6_shift_20 : decode cX6_shift 20 = .ok (.iload 6, 2) := xdt tbX6_shift_0_ok 13 rfl
theorem dX6_shift_22 : decode cX6_shift 22 = .ok (.iload_n 3, 1) := xdt tbX6_shift_0_ok 14 rfl
theorem dX6_shift_23 : decode cX6_shift 23 = .ok (.if_icmp .ge 31, 3) := xdt tbX6_shift_0_ok 15 rfl
theorem dX6_shift_26 : decode cX6_shift 26 = .ok (.aload_n 0, 1) := xdt tbX6_shift_0_ok 16 rfl
theorem dX6_shift_27 : decode cX6_shift 27 = .ok (.getfield 36, 3) := xdt tbX6_shift_0_ok 17 rfl
theorem dX6_shift_30 : decode cX6_shift 30 = .ok (.iload 4, 2) := xdt tbX6_shift_0_ok 18 rfl
theorem dX6_shift_32 : decode cX6_shift 32 = .ok (.iload 6, 2) := xdt tbX6_shift_0_ok 19 rfl
theorem dX6_shift_34 : decode cX6_shift 34 = .ok (.iadd, 1) := xdt tbX6_shift_0_ok 20 rfl
theorem dX6_shift_35 : decode cX6_shift 35 = .ok (.aload_n 0, 1) := xdt tbX6_shift_0_ok 21 rfl
theorem dX6_shift_36 : decode cX6_shift 36 = .ok (.getfield 36, 3) := xdt tbX6_shift_0_ok 22 rfl
theorem dX6_shift_39 : decode cX6_shift 39 = .ok (.iload 4, 2) := xdt tbX6_shift_0_ok 23 rfl
theorem dX6_shift_41 : decode cX6_shift 41 = .ok (.iload 6, 2) := xdt tbX6_shift_0_ok 24 rfl
theorem dX6_shift_43 : decode cX6_shift 43 = .ok (.iadd, 1) := xdt tbX6_shift_0_ok 25 rfl
theorem dX6_shift_44 : decode cX6_shift 44 = .ok (.iconst 1, 1) := xdt tbX6_shift_0_ok 26 rfl
theorem dX6_shift_45 : decode cX6_shift 45 = .ok (.iadd, 1) := xdt tbX6_shift_0_ok 27 rfl
theorem dX6_shift_46 : decode cX6_shift 46 = .ok (.iaload, 1) := xdt tbX6_shift_0_ok 28 rfl
theorem dX6_shift_47 : decode cX6_shift 47 = .ok (.iastore, 1) := xdt tbX6_shift_0_ok 29 rfl
theorem dX6_shift_48 : decode cX6_shift 48 = .ok (.iinc 6 1, 3) := xdt tbX6_shift_0_ok 30 rfl
theorem dX6_shift_51 : decode cX6_shift 51 = .ok (.goto (-31), 3) := xdt tbX6_shift_0_ok 31 rfl
theorem dX6_shift_54 : decode cX6_shift 54 = .ok (.iload_n 2, 1) := xdt tbX6_shift_0_ok 32 rfl
theorem dX6_shift_55 : decode cX6_shift 55 = .ok (.istore 6, 2) := xdt tbX6_shift_0_ok 33 rfl
theorem dX6_shift_57 : decode cX6_shift 57 = .ok (.iload 6, 2) := xdt tbX6_shift_0_ok 34 rfl
theorem dX6_shift_59 : decode cX6_shift 59 = .ok (.iload_n 3, 1) := xdt tbX6_shift_0_ok 35 rfl
theorem dX6_shift_60 : decode cX6_shift 60 = .ok (.if_icmp .le 31, 3) := xdt tbX6_shift_0_ok 36 rfl
theorem dX6_shift_63 : decode cX6_shift 63 = .ok (.aload_n 0, 1) := xdt tbX6_shift_0_ok 37 rfl
theorem dX6_shift_64 : decode cX6_shift 64 = .ok (.getfield 36, 3) := xdt tbX6_shift_0_ok 38 rfl
theorem dX6_shift_67 : decode cX6_shift 67 = .ok (.iload 4, 2) := xdt tbX6_shift_0_ok 39 rfl
theorem dX6_shift_69 : decode cX6_shift 69 = .ok (.iload 6, 2) := xdt tbX6_shift_0_ok 40 rfl
theorem dX6_shift_71 : decode cX6_shift 71 = .ok (.iadd, 1) := xdt tbX6_shift_0_ok 41 rfl
theorem dX6_shift_72 : decode cX6_shift 72 = .ok (.aload_n 0, 1) := xdt tbX6_shift_0_ok 42 rfl
theorem dX6_shift_73 : decode cX6_shift 73 = .ok (.getfield 36, 3) := xdt tbX6_shift_0_ok 43 rfl
theorem dX6_shift_76 : decode cX6_shift 76 = .ok (.iload 4, 2) := xdt tbX6_shift_0_ok 44 rfl
theorem dX6_shift_78 : decode cX6_shift 78 = .ok (.iload 6, 2) := xdt tbX6_shift_0_ok 45 rfl
theorem dX6_shift_80 : decode cX6_shift 80 = .ok (.iadd, 1) := xdt tbX6_shift_0_ok 46 rfl
theorem dX6_shift_81 : decode cX6_shift 81 = .ok (.iconst 1, 1) := xdt tbX6_shift_0_ok 47 rfl
theorem dX6_shift_82 : decode cX6_shift 82 = .ok (.isub, 1) := xdt tbX6_shift_0_ok 48 rfl
theorem dX6_shift_83 : decode cX6_shift 83 = .ok (.iaload, 1) := xdt tbX6_shift_0_ok 49 rfl
theorem dX6_shift_84 : decode cX6_shift 84 = .ok (.iastore, 1) := xdt tbX6_shift_0_ok 50 rfl
theorem dX6_shift_85 : decode cX6_shift 85 = .ok (.iinc 6 (-1), 3) := xdt tbX6_shift_0_ok 51 rfl
theorem dX6_shift_88 : decode cX6_shift 88 = .ok (.goto (-31), 3) := xdt tbX6_shift_0_ok 52 rfl
theorem dX6_shift_91 : decode cX6_shift 91 = .ok (.aload_n 0, 1) := xdt tbX6_shift_0_ok 53 rfl
theorem dX6_shift_92 : decode cX6_shift 92 = .ok (.getfield 36, 3) := xdt tbX6_shift_0_ok 54 rfl
theorem dX6_shift_95 : decode cX6_shift 95 = .ok (.iload 4, 2) := xdt tbX6_shift_0_ok 55 rfl
theorem dX6_shift_97 : decode cX6_shift 97 = .ok (.iload_n 3, 1) := xdt tbX6_shift_0_ok 56 rfl
theorem dX6_shift_98 : decode cX6_shift 98 = .ok (.iadd, 1) := xdt tbX6_shift_0_ok 57 rfl
theorem dX6_shift_99 : decode cX6_shift 99 = .ok (.iload 5, 2) := xdt tbX6_shift_0_ok 58 rfl
theorem dX6_shift_101 : decode cX6_shift 101 = .ok (.iastore, 1) := xdt tbX6_shift_0_ok 59 rfl
def tbX6_shift_60 : List (Nat × Instr × Nat) := [(102, .return_, 1)]
theorem tbX6_shift_60_ok : tbX6_shift_60.all (fun q => decide (decode cX6_shift q.1 = .ok q.2)) = true := by decide +kernel
theorem dX6_shift_102 : decode cX6_shift 102 = .ok (.return_, 1) := xdt tbX6_shift_60_ok 0 rfl
def tbX0_takeBack_0 : List (Nat × Instr × Nat) := [(0, .aload_n 0, 1), (1, .getfield 21, 3), (4, .ifCond .ne 5, 3), (7, .iconst 0, 1), (8, .ireturn, 1), (9, .aload_n 0, 1), (10, .dup, 1), (11, .getfield 21, 3), (14, .iconst 1, 1), (15, .isub, 1), (16, .putfield 21, 3), (19, .aload_n 0, 1), (20, .aload_n 0, 1), (21, .getfield 25, 3), (24, .bipush 16, 2), (26, .iadd, 1), (27, .iconst 1, 1), (28, .isub, 1), (29, .bipush 16, 2), (31, .irem, 1), (32, .putfield 25, 3), (35, .aload_n 0, 1), (36, .getfield 18, 3), (39, .aload_n 0, 1), (40, .getfield 25, 3), (43, .iaload, 1), (44, .iconst (-1), 1), (45, .if_icmp .ne 28, 3), (48, .aload_n 1, 1), (49, .aload_n 0, 1), (50, .getfield 9, 3), (53, .aload_n 0, 1), (54, .getfield 25, 3), (57, .iaload, 1), (58, .aload_n 0, 1), (59, .getfield 15, 3), (62, .aload_n 0, 1), (63, .getfield 25, 3), (66, .iaload, 1), (67, .invokevirtual 34, 3), (70, .goto 34, 3), (73, .aload_n 1, 1), (74, .aload_n 0, 1), (75, .getfield 9, 3), (78, .aload_n 0, 1), (79, .getfield 25, 3), (82, .iaload, 1), (83, .aload_n 0, 1), (84, .getfield 18, 3), (87, .aload_n 0, 1), (88, .getfield 25, 3), (91, .iaload, 1), (92, .aload_n 0, 1), (93, .getfield 15, 3), (96, .aload_n 0, 1), (97, .getfield 25, 3), (100, .iaload, 1), (101, .invokevirtual 40, 3), (104, .iconst 1, 1), (105, .ireturn, 1)]
theorem tbX0_takeBack_0_ok : tbX0_takeBack_0.all (fun q => decide (decode cX0_takeBack q.1 = .ok q.2)) = true := by decide +kernel
theorem dX0_takeBack_0 : decode cX0_takeBack 0 = .ok (.aload_n 0, 1) := xdt tbX0_takeBack_0_ok 0 rfl
theorem dX0_takeBack_1 : decode cX0_takeBack 1 = .ok (.getfield 21, 3) := xdt tbX0_takeBack_0_ok 1 rfl
theorem dX0_takeBack_4 : decode cX0_takeBack 4 = .ok (.ifCond .ne 5, 3) := xdt tbX0_takeBack_0_ok 2 rfl
theorem dX0_takeBack_7 : decode cX0_takeBack 7 = .ok (.iconst 0, 1) := xdt tbX0_takeBack_0_ok 3 rfl
theorem dX0_takeBack_8 : decode cX0_takeBack 8 = .ok (.ireturn, 1) := xdt tbX0_takeBack_0_ok 4 rfl
theorem dX0_takeBack_9 : decode cX0_takeBack 9 = .ok (.aload_n 0, 1) := xdt tbX0_takeBack_0_ok 5 rfl
theorem dX0_takeBack_10 : decode cX0_takeBack 10 = .ok (.dup, 1) := xdt tbX0_takeBack_0_ok 6 rfl
theorem dX0_takeBack_11 : decode cX0_takeBack 11 = .ok (.getfield 21, 3) := xdt tbX0_takeBack_0_ok 7 rfl
theorem dX0_takeBack_14 : decode cX0_takeBack 14 = .ok (.iconst 1, 1) := xdt tbX0_takeBack_0_ok 8 rfl
theorem dX0_takeBack_15 : decode cX0_takeBack 15 = .ok (.isub, 1) := xdt tbX0_takeBack_0_ok 9 rfl
theorem dX0_takeBack_16 : decode cX0_takeBack 16 = .ok (.putfield 21, 3) := xdt tbX0_takeBack_0_ok 10 rfl
theorem dX0_takeBack_19 : decode cX0_takeBack 19 = .ok (.aload_n 0, 1) := xdt tbX0_takeBack_0_ok 11 rfl
theorem dX0_takeBack_20 : decode cX0_takeBack 20 = .ok (.aload_n 0, 1) := xdt tbX0_takeBack_0_ok 12 rfl
theorem dX0_takeBack_21 : decode cX0_takeBack 21 = .ok (.getfield 25, 3) := xdt tbX0_takeBack_0_ok 13 rfl
theorem dX0_takeBack_24 : decode cX0_takeBack 24 = .ok (.bipush 16, 2) := xdt tbX0_takeBack_0_ok 14 rfl
theorem dX0_takeBack_26 : decode cX0_takeBack 26 = .ok (.iadd, 1) := xdt tbX0_takeBack_0_ok 15 rfl
theorem dX0_takeBack_27 : decode cX0_takeBack 27 = .ok (.iconst 1, 1) := xdt tbX0_takeBack_0_ok 16 rfl
theorem dX0_takeBack_28 : decode cX0_takeBack 28 = .ok (.isub, 1) := xdt tbX0_takeBack_0_ok 17 rfl
theorem dX0_takeBack_29 : decode cX0_takeBack 29 = .ok (.bipush 16, 2) := xdt tbX0_takeBack_0_ok 18 rfl
theorem dX0_takeBack_31 : decode cX0_takeBack 31 = .ok (.irem, 1) := xdt tbX0_takeBack_0_ok 19 rfl
theorem dX0_takeBack_32 : decode cX0_takeBack 32 = .ok (.putfield 25, 3) := xdt tbX0_takeBack_0_ok 20 rfl
theorem dX0_takeBack_35 : decode cX0_takeBack 35 = .ok (.aload_n 0, 1) := xdt tbX0_takeBack_0_ok 21 rfl
theorem dX0_takeBack_36 : decode cX0_takeBack 36 = .ok (.getfield 18, 3) := xdt tbX0_takeBack_0_ok 22 rfl
theorem dX0_takeBack_39 : decode cX0_takeBack 39 = .ok (.aload_n 0, 1) := xdt tbX0_takeBack_0_ok 23 rfl
theorem dX0_takeBack_40 : decode cX0_takeBack 40 = .ok (.getfield 25, 3) := xdt tbX0_takeBack_0_ok 24 rfl
theorem dX0_takeBack_43 : decode cX0_takeBack 43 = .ok (.iaload, 1) := xdt tbX0_takeBack_0_ok 25 rfl
theorem dX0_takeBack_44 : decode cX0_takeBack 44 = .ok (.iconst (-1), 1) := xdt tbX0_takeBack_0_ok 26 rfl
theorem dX0_takeBack_45 : decode cX0_takeBack 45 = .ok (.if_icmp .ne 28, 3) := xdt tbX0_takeBack_0_ok 27 rfl
theorem dX0_takeBack_48 : decode cX0_takeBack 48 = .ok (.aload_n 1, 1) := xdt tbX0_takeBack_0_ok 28 rfl
theorem dX0_takeBack_49 : decode cX0_takeBack 49 = .ok (.aload_n 0, 1) := xdt tbX0_takeBack_0_ok 29 rfl
theorem dX0_takeBack_50 : decode cX0_takeBack 50 = .ok (.getfield 9, 3) := xdt tbX0_takeBack_0_ok 30 rfl
theorem dX0_takeBack_53 : decode cX0_takeBack 53 = .ok (.aload_n 0, 1) := xdt tbX0_takeBack_0_ok 31 rfl
theorem dX0_takeBack_54 : decode cX0_takeBack 54 = .ok (.getfield 25, 3) := xdt tbX0_takeBack_0_ok 32 rfl
theorem dX0_takeBack_57 : decode cX0_takeBack 57 = .ok (.iaload, 1) := xdt tbX0_takeBack_0_ok 33 rfl
theorem dX0_takeBack_58 : decode cX0_takeBack 58 = .ok (.aload_n 0, 1) := xdt tbX0_takeBack_0_ok 34 rfl
theorem dX0_takeBack_59 : decode cX0_takeBack 59 = .ok (.getfield 15, 3) := xdt tbX0_takeBack_0_ok 35 rfl
theorem dX0_takeBack_62 : decode cX0_takeBack 62 = .ok (.aload_n 0, 1) := xdt tbX0_takeBack_0_ok 36 rfl
theorem dX0_takeBack_63 : decode cX0_takeBack 63 = .ok (.getfield 25, 3) := xdt tbX0_takeBack_0_ok 37 rfl
theorem dX0_takeBack_66 : decode cX0_takeBack 66 = .ok (.iaload, 1) := xdt tbX0_takeBack_0_ok 38 rfl
theorem dX0_takeBack_67 : decode cX0_takeBack 67 = .ok (.invokevirtual 34, 3) := xdt tbX0_takeBack_0_ok 39 rfl
theorem dX0_takeBack_70 : decode cX0_takeBack 70 = .ok (.goto 34, 3) := xdt tbX0_takeBack_0_ok 40 rfl
theorem dX0_takeBack_73 : decode cX0_takeBack 73 = .ok (.aload_n 1, 1) := xdt tbX0_takeBack_0_ok 41 rfl
theorem dX0_takeBack_74 : decode cX0_takeBack 74 = .ok (.aload_n 0, 1) := xdt tbX0_takeBack_0_ok 42 rfl
theorem dX0_takeBack_75 : decode cX0_takeBack 75 = .ok (.getfield 9, 3) := xdt tbX0_takeBack_0_ok 43 rfl
theorem dX0_takeBack_78 : decode cX0_takeBack 78 = .ok (.aload_n 0, 1) := xdt tbX0_takeBack_0_ok 44 rfl
theorem dX0_takeBack_79 : decode cX0_takeBack 79 = .ok (.getfield 25, 3) := xdt tbX0_takeBack_0_ok 45 rfl
theorem dX0_takeBack_82 : decode cX0_takeBack 82 = .ok (.iaload, 1) := xdt tbX0_takeBack_0_ok 46 rfl
theorem dX0_takeBack_83 : decode cX0_takeBack 83 = .ok (.aload_n 0, 1) := xdt tbX0_takeBack_0_ok 47 rfl
theorem dX0_takeBack_84 : decode cX0_takeBack 84 = .ok (.getfield 18, 3) := xdt tbX0_takeBack_0_ok 48 rfl
theorem dX0_takeBack_87 : decode cX0_takeBack 87 = .ok (.aload_n 0, 1) := xdt tbX0_takeBack_0_ok 49 rfl
theorem dX0_takeBack_88 : decode cX0_takeBack 88 = .ok (.getfield 25, 3) := xdt tbX0_takeBack_0_ok 50 rfl
theorem dX0_takeBack_91 : decode cX0_takeBack 91 = .ok (.iaload, 1) := xdt tbX0_takeBack_0_ok 51 rfl
theorem dX0_takeBack_92 : decode cX0_takeBack 92 = .ok (.aload_n 0, 1) := xdt tbX0_takeBack_0_ok 52 rfl
theorem dX0_takeBack_93 : decode cX0_takeBack 93 = .ok (.getfield 15, 3) := xdt tbX0_takeBack_0_ok 53 rfl
theorem dX0_takeBack_96 : decode cX0_takeBack 96 = .ok (.aload_n 0, 1) := xdt tbX0_takeBack_0_ok 54 rfl
theorem dX0_takeBack_97 : decode cX0_takeBack 97 = .ok (.getfield 25, 3) := xdt tbX0_takeBack_0_ok 55 rfl
theorem dX0_takeBack_100 : decode cX0_takeBack 100 = .ok (.iaload, 1) := xdt tbX0_takeBack_0_ok 56 rfl
theorem dX0_takeBack_101 : decode cX0_takeBack 101 = .ok (.invokevirtual 40, 3) := xdt tbX0_takeBack_0_ok 57 rfl
theorem dX0_takeBack_104 : decode cX0_takeBack 104 = .ok (.iconst 1, 1) := xdt tbX0_takeBack_0_ok 58 rfl
theorem dX0_takeBack_105 : decode cX0_takeBack 105 = .ok (.ireturn, 1) := xdt tbX0_takeBack_0_ok 59 rfl
def tbX1_isDigit_0 : List (Nat × Instr × Nat) := [(0, .iload_n 1, 1), (1, .bipush 48, 2), (3, .if_icmp .lt 13, 3), (6, .iload_n 1, 1), (7, .bipush 57, 2), (9, .if_icmp .gt 7, 3), (12, .iconst 1, 1), (13, .goto 4, 3), (16, .iconst 0, 1), (17, .ireturn, 1)]
theorem tbX1_isDigit_0_ok : tbX1_isDigit_0.all (fun q => decide (decode cX1_isDigit q.1 = .ok q.2)) = true := by decide +kernel
theorem dX1_isDigit_0 : decode cX1_isDigit 0 = .ok (.iload_n 1, 1) := xdt tbX1_isDigit_0_ok 0 rfl
theorem dX1_isDigit_1 : decode cX1_isDigit 1 = .ok (.bipush 48, 2) := xdt tbX1_isDigit_0_ok 1 rfl
theorem dX1_isDigit_3 : decode cX1_isDigit 3 = .ok (.if_icmp .lt 13, 3) := xdt tbX1_isDigit_0_ok 2 rfl
theorem dX1_isDigit_6 : decode cX1_isDigit 6 = .ok (.iload_n 1, 1) := xdt tbX1_isDigit_0_ok 3 rfl
theorem dX1_isDigit_7 : decode cX1_isDigit 7 = .ok (.bipush 57, 2) := xdt tbX1_isDigit_0_ok 4 rfl
theorem dX1_isDigit_9 : decode cX1_isDigit 9 = .ok (.if_icmp .gt 7, 3) := xdt tbX1_isDigit_0_ok 5 rfl
theorem dX1_isDigit_12 : decode cX1_isDigit 12 = .ok (.iconst 1, 1) := xdt tbX1_isDigit_0_ok 6 rfl
theorem dX1_isDigit_13 : decode cX1_isDigit 13 = .ok (.goto 4, 3) := xdt tbX1_isDigit_0_ok 7 rfl
theorem dX1_isDigit_16 : decode cX1_isDigit 16 = .ok (.iconst 0, 1) := xdt tbX1_isDigit_0_ok 8 rfl
theorem dX1_isDigit_17 : decode cX1_isDigit 17 = .ok (.ireturn, 1) := xdt tbX1_isDigit_0_ok 9 rfl
def tbX1_putToken_0 : List (Nat × Instr × Nat) := [(0, .aload_n 0, 1), (1, .getfield 85, 3), (4, .aload_n 0, 1), (5, .getfield 31, 3), (8, .arraylength, 1), (9, .if_icmp .ge 43, 3), (12, .aload_n 0, 1), (13, .getfield 31, 3), (16, .aload_n 0, 1), (17, .getfield 85, 3), (20, .iload_n 1, 1), (21, .iastore, 1), (22, .aload_n 0, 1), (23, .getfield 34, 3), (26, .aload_n 0, 1), (27, .getfield 85, 3), (30, .iload_n 2, 1), (31, .iastore, 1), (32, .aload_n 0, 1), (33, .getfield 37, 3), (36, .aload_n 0, 1), (37, .getfield 85, 3), (40, .iload_n 3, 1), (41, .iastore, 1), (42, .aload_n 0, 1), (43, .dup, 1), (44, .getfield 85, 3), (47, .iconst 1, 1), (48, .iadd, 1), (49, .putfield 85, 3), (52, .return_, 1)]
theorem tbX1_putToken_0_ok : tbX1_putToken_0.all (fun q => decide (decode cX1_putToken q.1 = .ok q.2)) = true := by decide +kernel
theorem dX1_putToken_0 : decode cX1_putToken 0 = .ok (.aload_n 0, 1) := xdt tbX1_putToken_0_ok 0 rfl
theorem dX1_putToken_1 : decode cX1_putToken 1 = .ok (.getfield 85, 3) := xdt tbX1_putToken_0_ok 1 rfl
theorem dX1_putToken_4 : decode cX1_putToken 4 = .ok (.aload_n 0, 1) := xdt tbX1_putToken_0_ok 2 rfl
theorem dX1_putToken_5 : decode cX1_putToken 5 = .ok (.getfield 31, 3) := xdt tbX1_putToken_0_ok 3 rfl
theorem dX1_putToken_8 : decode cX1_putToken 8 = .ok (.arraylength, 1) := xdt tbX1_putToken_0_ok 4 rfl
theorem dX1_putToken_9 : decode cX1_putToken 9 = .ok (.if_icmp .ge 43, 3) := xdt tbX1_putToken_0_ok 5 rfl
theorem dX1_putToken_12 : decode cX1_putToken 12 = .ok (.aload_n 0, 1) := xdt tbX1_putToken_0_ok 6 rfl
theorem dX1_putToken_13 : decode cX1_putToken 13 = .ok (.getfield 31, 3) := xdt tbX1_putToken_0_ok 7 rfl
theorem dX1_putToken_16 : decode cX1_putToken 16 = .ok (.aload_n 0, 1) := xdt tbX1_putToken_0_ok 8 rfl
theorem dX1_putToken_17 : decode cX1_putToken 17 = .ok (.getfield 85, 3) := xdt tbX1_putToken_0_ok 9 rfl
theorem dX1_putToken_20 : decode cX1_putToken 20 = .ok (.iload_n 1, 1) := xdt tbX1_putToken_0_ok 10 rfl
theorem dX1_putToken_21 : decode cX1_putToken 21 = .ok (.iastore, 1) := xdt tbX1_putToken_0_ok 11 rfl
theorem dX1_putToken_22 : decode cX1_putToken 22 = .ok (.aload_n 0, 1) := xdt tbX1_putToken_0_ok 12 rfl
theorem dX1_putToken_23 : decode cX1_putToken 23 = .ok (.getfield 34, 3) := xdt tbX1_putToken_0_ok 13 rfl
theorem dX1_putToken_26 : decode cX1_putToken 26 = .ok (.aload_n 0, 1) := xdt tbX1_putToken_0_ok 14 rfl
theorem dX1_putToken_27 : decode cX1_putToken 27 = .ok (.getfield 85, 3) := xdt tbX1_putToken_0_ok 15 rfl
theorem dX1_putToken_30 : decode cX1_putToken 30 = .ok (.iload_n 2, 1) := xdt tbX1_putToken_0_ok 16 rfl
theorem dX1_putToken_31 : decode cX1_putToken 31 = .ok (.iastore, 1) := xdt tbX1_putToken_0_ok 17 rfl
theorem dX1_putToken_32 : decode cX1_putToken 32 = .ok (.aload_n 0, 1) := xdt tbX1_putToken_0_ok 18 rfl
theorem dX1_putToken_33 : decode cX1_putToken 33 = .ok (.getfield 37, 3) := xdt tbX1_putToken_0_ok 19 rfl
theorem dX1_putToken_36 : decode cX1_putToken 36 = .ok (.aload_n 0, 1) := xdt tbX1_putToken_0_ok 20 rfl
theorem dX1_putToken_37 : decode cX1_putToken 37 = .ok (.getfield 85, 3) := xdt tbX1_putToken_0_ok 21 rfl
theorem dX1_putToken_40 : decode cX1_putToken 40 = .ok (.iload_n 3, 1) := xdt tbX1_putToken_0_ok 22 rfl
theorem dX1_putToken_41 : decode cX1_putToken 41 = .ok (.iastore, 1) := xdt tbX1_putToken_0_ok 23 rfl
theorem dX1_putToken_42 : decode cX1_putToken 42 = .ok (.aload_n 0, 1) := xdt tbX1_putToken_0_ok 24 rfl
theorem dX1_putToken_43 : decode cX1_putToken 43 = .ok (.dup, 1) := xdt tbX1_putToken_0_ok 25 rfl
theorem dX1_putToken_44 : decode cX1_putToken 44 = .ok (.getfield 85, 3) := xdt tbX1_putToken_0_ok 26 rfl
theorem dX1_putToken_47 : decode cX1_putToken 47 = .ok (.iconst 1, 1) := xdt tbX1_putToken_0_ok 27 rfl
theorem dX1_putToken_48 : decode cX1_putToken 48 = .ok (.iadd, 1) := xdt tbX1_putToken_0_ok 28 rfl
theorem dX1_putToken_49 : decode cX1_putToken 49 = .ok (.putfield 85, 3) := xdt tbX1_putToken_0_ok 29 rfl
theorem dX1_putToken_52 : decode cX1_putToken 52 = .ok (.return_, 1) := xdt tbX1_putToken_0_ok 30 rfl
def tbX1_cutNumber_0 : List (Nat × Instr × Nat) := [(0, .iconst 0, 1), (1, .istore_n 2, 1), (2, .iload_n 1, 1), (3, .istore_n 3, 1), (4, .iload_n 3, 1), (5, .aload_n 0, 1), (6, .getfield 82, 3), (9, .if_icmp .ge 43, 3), (12, .aload_n 0, 1), (13, .aload_n 0, 1), (14, .getfield 28, 3), (17, .iload_n 3, 1), (18, .iaload, 1), (19, .invokevirtual 96, 3), (22, .ifCond .eq 30, 3), (25, .iload_n 2, 1), (26, .bipush 10, 2), (28, .imul, 1), (29, .aload_n 0, 1), (30, .getfield 28, 3), (33, .iload_n 3, 1), (34, .iaload, 1), (35, .iadd, 1), (36, .bipush 48, 2), (38, .isub, 1), (39, .sipush 1000, 3), (42, .invokestatic 76, 3), (45, .istore_n 2, 1), (46, .iinc 3 1, 3), (49, .goto (-45), 3), (52, .aload_n 0, 1), (53, .sipush 259, 3), (56, .iload_n 1, 1), (57, .iload_n 2, 1), (58, .invokevirtual 92, 3), (61, .iload_n 3, 1), (62, .ireturn, 1)]
theorem tbX1_cutNumber_0_ok : tbX1_cutNumber_0.all (fun q => decide (decode cX1_cutNumber q.1 = .ok q.2)) = true := by decide +kernel
theorem dX1_cutNumber_0 : decode cX1_cutNumber 0 = .ok (.iconst 0, 1) := xdt tbX1_cutNumber_0_ok 0 rfl
theorem dX1_cutNumber_1 : decode cX1_cutNumber 1 = .ok (.istore_n 2, 1) := xdt tbX1_cutNumber_0_ok 1 rfl
theorem dX1_cutNumber_2 : decode cX1_cutNumber 2 = .ok (.iload_n 1, 1) := xdt tbX1_cutNumber_0_ok 2 rfl
theorem dX1_cutNumber_3 : decode cX1_cutNumber 3 = .ok (.istore_n 3, 1) := xdt tbX1_cutNumber_0_ok 3 rfl
theorem dX1_cutNumber_4 : decode cX1_cutNumber 4 = .ok (.iload_n 3, 1) := xdt tbX1_cutNumber_0_ok 4 rfl
theorem dX1_cutNumber_5 : decode cX1_cutNumber 5 = .ok (.aload_n 0, 1) := xdt tbX1_cutNumber_0_ok 5 rfl
theorem dX1_cutNumber_6 : decode cX1_cutNumber 6 = .ok (.getfield 82, 3) := xdt tbX1_cutNumber_0_ok 6 rfl
theorem dX1_cutNumber_9 : decode cX1_cutNumber 9 = .ok (.if_icmp .ge 43, 3) := xdt tbX1_cutNumber_0_ok 7 rfl
theorem dX1_cutNumber_12 : decode cX1_cutNumber 12 = .ok (.aload_n 0, 1) := xdt tbX1_cutNumber_0_ok 8 rfl
theorem dX1_cutNumber_13 : decode cX1_cutNumber 13 = .ok (.aload_n 0, 1) := xdt tbX1_cutNumber_0_ok 9 rfl
theorem dX1_cutNumber_14 : decode cX1_cutNumber 14 = .ok (.getfield 28, 3) := xdt tbX1_cutNumber_0_ok 10 rfl
theorem dX1_cutNumber_17 : decode cX1_cutNumber 17 = .ok (.iload_n 3, 1) := xdt tbX1_cutNumber_0_ok 11 rfl
theorem dX1_cutNumber_18 : decode cX1_cutNumber 18 = .ok (.iaload, 1) := xdt tbX1_cutNumber_0_ok 12 rfl
theorem dX1_cutNumber_19 : decode cX1_cutNumber 19 = .ok (.invokevirtual 96, 3) := xdt tbX1_cutNumber_0_ok 13 rfl
theorem dX1_cutNumber_22 : decode cX1_cutNumber 22 = .ok (.ifCond .eq 30, 3) := xdt tbX1_cutNumber_0_ok 14 rfl
theorem dX1_cutNumber_25 : decode cX1_cutNumber 25 = .ok (.iload_n 2, 1) := xdt tbX1_cutNumber_0_ok 15 rfl
theorem dX1_cutNumber_26 : decode cX1_cutNumber 26 = .ok (.bipush 10, 2) := xdt tbX1_cutNumber_0_ok 16 rfl
theorem dX1_cutNumber_28 : decode cX1_cutNumber 28 = .ok (.imul, 1) := xdt tbX1_cutNumber_0_ok 17 rfl
theorem dX1_cutNumber_29 : decode cX1_cutNumber 29 = .ok (.aload_n 0, 1) := xdt tbX1_cutNumber_0_ok 18 rfl
theorem dX1_cutNumber_30 : decode cX1_cutNumber 30 = .ok (.getfield 28, 3) := xdt tbX1_cutNumber_0_ok 19 rfl
theorem dX1_cutNumber_33 : decode cX1_cutNumber 33 = .ok (.iload_n 3, 1) := xdt tbX1_cutNumber_0_ok 20 rfl
theorem dX1_cutNumber_34 : decode cX1_cutNumber 34 = .ok (.iaload, 1) := xdt tbX1_cutNumber_0_ok 21 rfl
theorem dX1_cutNumber_35 : decode cX1_cutNumber 35 = .ok (.iadd, 1) := xdt tbX1_cutNumber_0_ok 22 rfl
theorem dX1_cutNumber_36 : decode cX1_cutNumber 36 = .ok (.bipush 48, 2) := xdt tbX1_cutNumber_0_ok 23 rfl
theorem dX1_cutNumber_38 : decode cX1_cutNumber 38 = .ok (.isub, 1) := xdt tbX1_cutNumber_0_ok 24 rfl
theorem dX1_cutNumber_39 : decode cX1_cutNumber 39 = .ok (.sipush 1000, 3) := xdt tbX1_cutNumber_0_ok 25 rfl
theorem dX1_cutNumber_42 : decode cX1_cutNumber 42 = .ok (.invokestatic 76, 3) := xdt tbX1_cutNumber_0_ok 26 rfl
theorem dX1_cutNumber_45 : decode cX1_cutNumber 45 = .ok (.istore_n 2, 1) := xdt tbX1_cutNumber_0_ok 27 rfl
theorem dX1_cutNumber_46 : decode cX1_cutNumber 46 = .ok (.iinc 3 1, 3) := xdt tbX1_cutNumber_0_ok 28 rfl
theorem dX1_cutNumber_49 : decode cX1_cutNumber 49 = .ok (.goto (-45), 3) := xdt tbX1_cutNumber_0_ok 29 rfl
theorem dX1_cutNumber_52 : decode cX1_cutNumber 52 = .ok (.aload_n 0, 1) := xdt tbX1_cutNumber_0_ok 30 rfl
theorem dX1_cutNumber_53 : decode cX1_cutNumber 53 = .ok (.sipush 259, 3) := xdt tbX1_cutNumber_0_ok 31 rfl
theorem dX1_cutNumber_56 : decode cX1_cutNumber 56 = .ok (.iload_n 1, 1) := xdt tbX1_cutNumber_0_ok 32 rfl
theorem dX1_cutNumber_57 : decode cX1_cutNumber 57 = .ok (.iload_n 2, 1) := xdt tbX1_cutNumber_0_ok 33 rfl
theorem dX1_cutNumber_58 : decode cX1_cutNumber 58 = .ok (.invokevirtual 92, 3) := xdt tbX1_cutNumber_0_ok 34 rfl
theorem dX1_cutNumber_61 : decode cX1_cutNumber 61 = .ok (.iload_n 3, 1) := xdt tbX1_cutNumber_0_ok 35 rfl
theorem dX1_cutNumber_62 : decode cX1_cutNumber 62 = .ok (.ireturn, 1) := xdt tbX1_cutNumber_0_ok 36 rfl
def tbX1_isSmall_0 : List (Nat × Instr × Nat) := [(0, .iload_n 1, 1), (1, .bipush 97, 2), (3, .if_icmp .lt 13, 3), (6, .iload_n 1, 1), (7, .bipush 122, 2), (9, .if_icmp .gt 7, 3), (12, .iconst 1, 1), (13, .goto 4, 3), (16, .iconst 0, 1), (17, .ireturn, 1)]
theorem tbX1_isSmall_0_ok : tbX1_isSmall_0.all (fun q => decide (decode cX1_isSmall q.1 = .ok q.2)) = true := by decide +kernel
theorem dX1_isSmall_0 : decode cX1_isSmall 0 = .ok (.iload_n 1, 1) := xdt tbX1_isSmall_0_ok 0 rfl
theorem dX1_isSmall_1 : decode cX1_isSmall 1 = .ok (.bipush 97, 2) := xdt tbX1_isSmall_0_ok 1 rfl
theorem dX1_isSmall_3 : decode cX1_isSmall 3 = .ok (.if_icmp .lt 13, 3) := xdt tbX1_isSmall_0_ok 2 rfl
theorem dX1_isSmall_6 : decode cX1_isSmall 6 = .ok (.iload_n 1, 1) := xdt tbX1_isSmall_0_ok 3 rfl
theorem dX1_isSmall_7 : decode cX1_isSmall 7 = .ok (.bipush 122, 2) := xdt tbX1_isSmall_0_ok 4 rfl
theorem dX1_isSmall_9 : decode cX1_isSmall 9 = .ok (.if_icmp .gt 7, 3) := xdt tbX1_isSmall_0_ok 5 rfl
theorem dX1_isSmall_12 : decode cX1_isSmall 12 = .ok (.iconst 1, 1) := xdt tbX1_isSmall_0_ok 6 rfl
theorem dX1_isSmall_13 : decode cX1_isSmall 13 = .ok (.goto 4, 3) := xdt tbX1_isSmall_0_ok 7 rfl
theorem dX1_isSmall_16 : decode cX1_isSmall 16 = .ok (.iconst 0, 1) := xdt tbX1_isSmall_0_ok 8 rfl
theorem dX1_isSmall_17 : decode cX1_isSmall 17 = .ok (.ireturn, 1) := xdt tbX1_isSmall_0_ok 9 rfl
def tbX1_spells_0 : List (Nat × Instr × Nat) := [(0, .iload_n 3, 1), (1, .iload_n 2, 1), (2, .isub, 1), (3, .aload_n 1, 1), (4, .invokevirtual 137, 3), (7, .if_icmp .eq 5, 3), (10, .iconst 0, 1), (11, .ireturn, 1), (12, .iconst 0, 1), (13, .istore 4, 2), (15, .iload 4, 2), (17, .aload_n 1, 1), (18, .invokevirtual 137, 3), (21, .if_icmp .ge 29, 3), (24, .aload_n 0, 1), (25, .getfield 28, 3), (28, .iload_n 2, 1), (29, .iload 4, 2), (31, .iadd, 1), (32, .iaload, 1), (33, .aload_n 1, 1), (34, .iload 4, 2), (36, .invokevirtual 142, 3), (39, .if_icmp .eq 5, 3), (42, .iconst 0, 1), (43, .ireturn, 1), (44, .iinc 4 1, 3), (47, .goto (-32), 3), (50, .iconst 1, 1), (51, .ireturn, 1)]
theorem tbX1_spells_0_ok : tbX1_spells_0.all (fun q => decide (decode cX1_spells q.1 = .ok q.2)) = true := by decide +kernel
theorem dX1_spells_0 : decode cX1_spells 0 = .ok (.iload_n 3, 1) := xdt tbX1_spells_0_ok 0 rfl
theorem dX1_spells_1 : decode cX1_spells 1 = .ok (.iload_n 2, 1) := xdt tbX1_spells_0_ok 1 rfl
theorem dX1_spells_2 : decode cX1_spells 2 = .ok (.isub, 1) := xdt tbX1_spells_0_ok 2 rfl
theorem dX1_spells_3 : decode cX1_spells 3 = .ok (.aload_n 1, 1) := xdt tbX1_spells_0_ok 3 rfl
theorem dX1_spells_4 : decode cX1_spells 4 = .ok (.invokevirtual 137, 3) := xdt tbX1_spells_0_ok 4 rfl
theorem dX1_spells_7 : decode cX1_spells 7 = .ok (.if_icmp .eq 5, 3) := xdt tbX1_spells_0_ok 5 rfl
theorem dX1_spells_10 : decode cX1_spells 10 = .ok (.iconst 0, 1) := xdt tbX1_spells_0_ok 6 rfl
theorem dX1_spells_11 : decode cX1_spells 11 = .ok (.ireturn, 1) := xdt tbX1_spells_0_ok 7 rfl
theorem dX1_spells_12 : decode cX1_spells 12 = .ok (.iconst 0, 1) := xdt tbX1_spells_0_ok 8 rfl
theorem dX1_spells_13 : decode cX1_spells 13 = .ok (.istore 4, 2) := xdt tbX1_spells_0_ok 9 rfl
theorem dX1_spells_15 : decode cX1_spells 15 = .ok (.iload 4, 2) := xdt tbX1_spells_0_ok 10 rfl
theorem dX1_spells_17 : decode cX1_spells 17 = .ok (.aload_n 1, 1) := xdt tbX1_spells_0_ok 11 rfl
theorem dX1_spells_18 : decode cX1_spells 18 = .ok (.invokevirtual 137, 3) := xdt tbX1_spells_0_ok 12 rfl
theorem dX1_spells_21 : decode cX1_spells 21 = .ok (.if_icmp .ge 29, 3) := xdt tbX1_spells_0_ok 13 rfl
theorem dX1_spells_24 : decode cX1_spells 24 = .ok (.aload_n 0, 1) := xdt tbX1_spells_0_ok 14 rfl
theorem dX1_spells_25 : decode cX1_spells 25 = .ok (.getfield 28, 3) := xdt tbX1_spells_0_ok 15 rfl
theorem dX1_spells_28 : decode cX1_spells 28 = .ok (.iload_n 2, 1) := xdt tbX1_spells_0_ok 16 rfl
theorem dX1_spells_29 : decode cX1_spells 29 = .ok (.iload 4, 2) := xdt tbX1_spells_0_ok 17 rfl
theorem dX1_spells_31 : decode cX1_spells 31 = .ok (.iadd, 1) := xdt tbX1_spells_0_ok 18 rfl
theorem dX1_spells_32 : decode cX1_spells 32 = .ok (.iaload, 1) := xdt tbX1_spells_0_ok 19 rfl
theorem dX1_spells_33 : decode cX1_spells 33 = .ok (.aload_n 1, 1) := xdt tbX1_spells_0_ok 20 rfl
theorem dX1_spells_34 : decode cX1_spells 34 = .ok (.iload 4, 2) := xdt tbX1_spells_0_ok 21 rfl
theorem dX1_spells_36 : decode cX1_spells 36 = .ok (.invokevirtual 142, 3) := xdt tbX1_spells_0_ok 22 rfl
theorem dX1_spells_39 : decode cX1_spells 39 = .ok (.if_icmp .eq 5, 3) := xdt tbX1_spells_0_ok 23 rfl
theorem dX1_spells_42 : decode cX1_spells 42 = .ok (.iconst 0, 1) := xdt tbX1_spells_0_ok 24 rfl
theorem dX1_spells_43 : decode cX1_spells 43 = .ok (.ireturn, 1) := xdt tbX1_spells_0_ok 25 rfl
theorem dX1_spells_44 : decode cX1_spells 44 = .ok (.iinc 4 1, 3) := xdt tbX1_spells_0_ok 26 rfl
theorem dX1_spells_47 : decode cX1_spells 47 = .ok (.goto (-32), 3) := xdt tbX1_spells_0_ok 27 rfl
theorem dX1_spells_50 : decode cX1_spells 50 = .ok (.iconst 1, 1) := xdt tbX1_spells_0_ok 28 rfl
theorem dX1_spells_51 : decode cX1_spells 51 = .ok (.ireturn, 1) := xdt tbX1_spells_0_ok 29 rfl
def tbX1_wordKind_0 : List (Nat × Instr × Nat) := [(0, .aload_n 0, 1), (1, .ldc 117, 2), (3, .iload_n 1, 1), (4, .iload_n 2, 1), (5, .invokevirtual 119, 3), (8, .ifCond .eq 7, 3), (11, .sipush 260, 3), (14, .ireturn, 1), (15, .aload_n 0, 1), (16, .ldc 123, 2), (18, .iload_n 1, 1), (19, .iload_n 2, 1), (20, .invokevirtual 119, 3), (23, .ifCond .eq 7, 3), (26, .sipush 261, 3), (29, .ireturn, 1), (30, .aload_n 0, 1), (31, .ldc 125, 2), (33, .iload_n 1, 1), (34, .iload_n 2, 1), (35, .invokevirtual 119, 3), (38, .ifCond .eq 7, 3), (41, .sipush 262, 3), (44, .ireturn, 1), (45, .aload_n 0, 1), (46, .ldc 127, 2), (48, .iload_n 1, 1), (49, .iload_n 2, 1), (50, .invokevirtual 119, 3), (53, .ifCond .eq 7, 3), (56, .sipush 263, 3), (59, .ireturn, 1), (60, .aload_n 0, 1), (61, .ldc 129, 2), (63, .iload_n 1, 1), (64, .iload_n 2, 1), (65, .invokevirtual 119, 3), (68, .ifCond .eq 7, 3), (71, .sipush 264, 3), (74, .ireturn, 1), (75, .aload_n 0, 1), (76, .ldc 131, 2), (78, .iload_n 1, 1), (79, .iload_n 2, 1), (80, .invokevirtual 119, 3), (83, .ifCond .eq 7, 3), (86, .sipush 265, 3), (89, .ireturn, 1), (90, .aload_n 0, 1), (91, .ldc 133, 2), (93, .iload_n 1, 1), (94, .iload_n 2, 1), (95, .invokevirtual 119, 3), (98, .ifCond .eq 7, 3), (101, .sipush 266, 3), (104, .ireturn, 1), (105, .aload_n 0, 1), (106, .ldc 135, 2), (108, .iload_n 1, 1), (109, .iload_n 2, 1)]
theorem tbX1_wordKind_0_ok : tbX1_wordKind_0.all (fun q => decide (decode cX1_wordKind q.1 = .ok q.2)) = true := by decide +kernel
theorem dX1_wordKind_0 : decode cX1_wordKind 0 = .ok (.aload_n 0, 1) := xdt tbX1_wordKind_0_ok 0 rfl
theorem dX1_wordKind_1 : decode cX1_wordKind 1 = .ok (.ldc 117, 2) := xdt tbX1_wordKind_0_ok 1 rfl
theorem dX1_wordKind_3 : decode cX1_wordKind 3 = .ok (.iload_n 1, 1) := xdt tbX1_wordKind_0_ok 2 rfl
theorem dX1_wordKind_4 : decode cX1_wordKind 4 = .ok (.iload_n 2, 1) := xdt tbX1_wordKind_0_ok 3 rfl
theorem dX1_wordKind_5 : decode cX1_wordKind 5 = .ok (.invokevirtual 119, 3) := xdt tbX1_wordKind_0_ok 4 rfl
theorem dX1_wordKind_8 : decode cX1_wordKind 8 = .ok (.ifCond .eq 7, 3) := xdt tbX1_wordKind_0_ok 5 rfl
theorem dX1_wordKind_11 : decode cX1_wordKind 11 = .ok (.sipush 260, 3) := xdt tbX1_wordKind_0_ok 6 rfl
theorem dX1_wordKind_14 : decode cX1_wordKind 14 = .ok (.ireturn, 1) := xdt tbX1_wordKind_0_ok 7 rfl
theorem dX1_wordKind_15 : decode cX1_wordKind 15 = .ok (.aload_n 0, 1) := xdt tbX1_wordKind_0_ok 8 rfl
theorem dX1_wordKind_16 : decode cX1_wordKind 16 = .ok (.ldc 123, 2) := xdt tbX1_wordKind_0_ok 9 rfl
theorem dX1_wordKind_18 : decode cX1_wordKind 18 = .ok (.iload_n 1, 1) := xdt tbX1_wordKind_0_ok 10 rfl
theorem dX1_wordKind_19 : decode cX1_wordKind 19 = .ok (.iload_n 2, 1) := xdt tbX1_wordKind_0_ok 11 rfl
theorem dX1_wordKind_20 : decode cX1_wordKind 20 = .ok (.invokevirtual 119, 3) := xdt tbX1_wordKind_0_ok 12 rfl
theorem dX1_wordKind_23 : decode cX1_wordKind 23 = .ok (.ifCond .eq 7, 3) := xdt tbX1_wordKind_0_ok 13 rfl
theorem dX1_wordKind_26 : decode cX1_wordKind 26 = .ok (.sipush 261, 3) := xdt tbX1_wordKind_0_ok 14 rfl
theorem dX1_wordKind_29 : decode cX1_wordKind 29 = .ok (.ireturn, 1) := xdt tbX1_wordKind_0_ok 15 rfl
theorem dX1_wordKind_30 : decode cX1_wordKind 30 = .ok (.aload_n 0, 1) := xdt tbX1_wordKind_0_ok 16 rfl
theorem dX1_wordKind_31 : decode cX1_wordKind 31 = .ok (.ldc 125, 2) := xdt tbX1_wordKind_0_ok 17 rfl
theorem dX1_wordKind_33 : decode cX1_wordKind 33 = .ok (.iload_n 1, 1) := xdt tbX1_wordKind_0_ok 18 rfl
theorem dX1_wordKind_34 : decode cX1_wordKind 34 = .ok (.iload_n 2, 1) := xdt tbX1_wordKind_0_ok 19 rfl
theorem dX1_wordKind_35 : decode cX1_wordKind 35 = .ok (.invokevirtual 119, 3) := xdt tbX1_wordKind_0_ok 20 rfl
theorem dX1_wordKind_38 : decode cX1_wordKind 38 = .ok (.ifCond .eq 7, 3) := xdt tbX1_wordKind_0_ok 21 rfl
theorem dX1_wordKind_41 : decode cX1_wordKind 41 = .ok (.sipush 262, 3) := xdt tbX1_wordKind_0_ok 22 rfl
theorem dX1_wordKind_44 : decode cX1_wordKind 44 = .ok (.ireturn, 1) := xdt tbX1_wordKind_0_ok 23 rfl
theorem dX1_wordKind_45 : decode cX1_wordKind 45 = .ok (.aload_n 0, 1) := xdt tbX1_wordKind_0_ok 24 rfl
theorem dX1_wordKind_46 : decode cX1_wordKind 46 = .ok (.ldc 127, 2) := xdt tbX1_wordKind_0_ok 25 rfl
theorem dX1_wordKind_48 : decode cX1_wordKind 48 = .ok (.iload_n 1, 1) := xdt tbX1_wordKind_0_ok 26 rfl
theorem dX1_wordKind_49 : decode cX1_wordKind 49 = .ok (.iload_n 2, 1) := xdt tbX1_wordKind_0_ok 27 rfl
theorem dX1_wordKind_50 : decode cX1_wordKind 50 = .ok (.invokevirtual 119, 3) := xdt tbX1_wordKind_0_ok 28 rfl
theorem dX1_wordKind_53 : decode cX1_wordKind 53 = .ok (.ifCond .eq 7, 3) := xdt tbX1_wordKind_0_ok 29 rfl
theorem dX1_wordKind_56 : decode cX1_wordKind 56 = .ok (.sipush 263, 3) := xdt tbX1_wordKind_0_ok 30 rfl
theorem dX1_wordKind_59 : decode cX1_wordKind 59 = .ok (.ireturn, 1) := xdt tbX1_wordKind_0_ok 31 rfl
theorem dX1_wordKind_60 : decode cX1_wordKind 60 = .ok (.aload_n 0, 1) := xdt tbX1_wordKind_0_ok 32 rfl
theorem dX1_wordKind_61 : decode cX1_wordKind 61 = .ok (.ldc 129, 2) := xdt tbX1_wordKind_0_ok 33 rfl
theorem dX1_wordKind_63 : decode cX1_wordKind 63 = .ok (.iload_n 1, 1) := xdt tbX1_wordKind_0_ok 34 rfl
theorem dX1_wordKind_64 : decode cX1_wordKind 64 = .ok (.iload_n 2, 1) := xdt tbX1_wordKind_0_ok 35 rfl
theorem dX1_wordKind_65 : decode cX1_wordKind 65 = .ok (.invokevirtual 119, 3) := xdt tbX1_wordKind_0_ok 36 rfl
theorem dX1_wordKind_68 : decode cX1_wordKind 68 = .ok (.ifCond .eq 7, 3) := xdt tbX1_wordKind_0_ok 37 rfl
theorem dX1_wordKind_71 : decode cX1_wordKind 71 = .ok (.sipush 264, 3) := xdt tbX1_wordKind_0_ok 38 rfl
theorem dX1_wordKind_74 : decode cX1_wordKind 74 = .ok (.ireturn, 1) := xdt tbX1_wordKind_0_ok 39 rfl
theorem dX1_wordKind_75 : decode cX1_wordKind 75 = .ok (.aload_n 0, 1) := xdt tbX1_wordKind_0_ok 40 rfl
theorem dX1_wordKind_76 : decode cX1_wordKind 76 = .ok (.ldc 131, 2) := xdt tbX1_wordKind_0_ok 41 rfl
theorem dX1_wordKind_78 : decode cX1_wordKind 78 = .ok (.iload_n 1, 1) := xdt tbX1_wordKind_0_ok 42 rfl
theorem dX1_wordKind_79 : decode cX1_wordKind 79 = .ok (.iload_n 2, 1) := xdt tbX1_wordKind_0_ok 43 rfl
theorem dX1_wordKind_80 : decode cX1_wordKind 80 = .ok (.invokevirtual 119, 3) := xdt tbX1_wordKind_0_ok 44 rfl
theorem dX1_wordKind_83 : decode cX1_wordKind 83 = .ok (.ifCond .eq 7, 3) := xdt tbX1_wordKind_0_ok 45 rfl
theorem dX1_wordKind_86 : decode cX1_wordKind 86 = .ok (.sipush 265, 3) := xdt tbX1_wordKind_0_ok 46 rfl
theorem dX1_wordKind_89 : decode cX1_wordKind 89 = .ok (.ireturn, 1) := xdt tbX1_wordKind_0_ok 47 rfl
theorem dX1_wordKind_90 : decode cX1_wordKind 90 = .ok (.aload_n 0, 1) := xdt tbX1_wordKind_0_ok 48 rfl
theorem dX1_wordKind_91 : decode cX1_wordKind 91 = .ok (.ldc 133, 2) := xdt tbX1_wordKind_0_ok 49 rfl
theorem dX1_wordKind_93 : decode cX1_wordKind 93 = .ok (.iload_n 1, 1) := xdt tbX1_wordKind_0_ok 50 rfl
theorem dX1_wordKind_94 : decode cX1_wordKind 94 = .ok (.iload_n 2, 1) := xdt tbX1_wordKind_0_ok 51 rfl
theorem dX1_wordKind_95 : decode cX1_wordKind 95 = .ok (.invokevirtual 119, 3) := xdt tbX1_wordKind_0_ok 52 rfl
theorem dX1_wordKind_98 : decode cX1_wordKind 98 = .ok (.ifCond .eq 7, 3) := xdt tbX1_wordKind_0_ok 53 rfl
theorem dX1_wordKind_101 : decode cX1_wordKind 101 = .ok (.sipush 266, 3) := xdt tbX1_wordKind_0_ok 54 rfl
theorem dX1_wordKind_104 : decode cX1_wordKind 104 = .ok (.ireturn, 1) := xdt tbX1_wordKind_0_ok 55 rfl
theorem dX1_wordKind_105 : decode cX1_wordKind 105 = .ok (.aload_n 0, 1) := xdt tbX1_wordKind_0_ok 56 rfl
theorem dX1_wordKind_106 : decode cX1_wordKind 106 = .ok (.ldc 135, 2) := xdt tbX1_wordKind_0_ok 57 rfl
theorem dX1_wordKind_108 : decode cX1_wordKind 108 = .ok (.iload_n 1, 1) := xdt tbX1_wordKind_0_ok 58 rfl
theorem dX1_wordKind_109 : decode cX1_wordKind 109 = .ok (.iload_n 2, 1) := xdt tbX1_wordKind_0_ok 59 rfl
def tbX1_wordKind_60 : List (Nat × Instr × Nat) := [(110, .invokevirtual 119, 3), (113, .ifCond .eq 9, 3), (116, .sipush 267, 3), (119, .goto 6, 3), (122, .sipush 256, 3), (125, .ireturn, 1)]
theorem tbX1_wordKind_60_ok : tbX1_wordKind_60.all (fun q => decide (decode cX1_wordKind q.1 = .ok q.2)) = true := by decide +kernel
theorem dX1_wordKind_110 : decode cX1_wordKind 110 = .ok (.invokevirtual 119, 3) := xdt tbX1_wordKind_60_ok 0 rfl
theorem dX1_wordKind_113 : decode cX1_wordKind 113 = .ok (.ifCond .eq 9, 3) := xdt tbX1_wordKind_60_ok 1 rfl
theorem dX1_wordKind_116 : decode cX1_wordKind 116 = .ok (.sipush 267, 3) := xdt tbX1_wordKind_60_ok 2 rfl
theorem dX1_wordKind_119 : decode cX1_wordKind 119 = .ok (.goto 6, 3) := xdt tbX1_wordKind_60_ok 3 rfl
theorem dX1_wordKind_122 : decode cX1_wordKind 122 = .ok (.sipush 256, 3) := xdt tbX1_wordKind_60_ok 4 rfl
theorem dX1_wordKind_125 : decode cX1_wordKind 125 = .ok (.ireturn, 1) := xdt tbX1_wordKind_60_ok 5 rfl
def tbX1_isLetter_0 : List (Nat × Instr × Nat) := [(0, .iload_n 1, 1), (1, .bipush 97, 2), (3, .if_icmp .lt 9, 3), (6, .iload_n 1, 1), (7, .bipush 122, 2), (9, .if_icmp .le 15, 3), (12, .iload_n 1, 1), (13, .bipush 65, 2), (15, .if_icmp .lt 13, 3), (18, .iload_n 1, 1), (19, .bipush 90, 2), (21, .if_icmp .gt 7, 3), (24, .iconst 1, 1), (25, .goto 4, 3), (28, .iconst 0, 1), (29, .ireturn, 1)]
theorem tbX1_isLetter_0_ok : tbX1_isLetter_0.all (fun q => decide (decode cX1_isLetter q.1 = .ok q.2)) = true := by decide +kernel
theorem dX1_isLetter_0 : decode cX1_isLetter 0 = .ok (.iload_n 1, 1) := xdt tbX1_isLetter_0_ok 0 rfl
theorem dX1_isLetter_1 : decode cX1_isLetter 1 = .ok (.bipush 97, 2) := xdt tbX1_isLetter_0_ok 1 rfl
theorem dX1_isLetter_3 : decode cX1_isLetter 3 = .ok (.if_icmp .lt 9, 3) := xdt tbX1_isLetter_0_ok 2 rfl
theorem dX1_isLetter_6 : decode cX1_isLetter 6 = .ok (.iload_n 1, 1) := xdt tbX1_isLetter_0_ok 3 rfl
theorem dX1_isLetter_7 : decode cX1_isLetter 7 = .ok (.bipush 122, 2) := xdt tbX1_isLetter_0_ok 4 rfl
theorem dX1_isLetter_9 : decode cX1_isLetter 9 = .ok (.if_icmp .le 15, 3) := xdt tbX1_isLetter_0_ok 5 rfl
theorem dX1_isLetter_12 : decode cX1_isLetter 12 = .ok (.iload_n 1, 1) := xdt tbX1_isLetter_0_ok 6 rfl
theorem dX1_isLetter_13 : decode cX1_isLetter 13 = .ok (.bipush 65, 2) := xdt tbX1_isLetter_0_ok 7 rfl
theorem dX1_isLetter_15 : decode cX1_isLetter 15 = .ok (.if_icmp .lt 13, 3) := xdt tbX1_isLetter_0_ok 8 rfl
theorem dX1_isLetter_18 : decode cX1_isLetter 18 = .ok (.iload_n 1, 1) := xdt tbX1_isLetter_0_ok 9 rfl
theorem dX1_isLetter_19 : decode cX1_isLetter 19 = .ok (.bipush 90, 2) := xdt tbX1_isLetter_0_ok 10 rfl
theorem dX1_isLetter_21 : decode cX1_isLetter 21 = .ok (.if_icmp .gt 7, 3) := xdt tbX1_isLetter_0_ok 11 rfl
theorem dX1_isLetter_24 : decode cX1_isLetter 24 = .ok (.iconst 1, 1) := xdt tbX1_isLetter_0_ok 12 rfl
theorem dX1_isLetter_25 : decode cX1_isLetter 25 = .ok (.goto 4, 3) := xdt tbX1_isLetter_0_ok 13 rfl
theorem dX1_isLetter_28 : decode cX1_isLetter 28 = .ok (.iconst 0, 1) := xdt tbX1_isLetter_0_ok 14 rfl
theorem dX1_isLetter_29 : decode cX1_isLetter 29 = .ok (.ireturn, 1) := xdt tbX1_isLetter_0_ok 15 rfl
def tbX1_standsAlone_0 : List (Nat × Instr × Nat) := [(0, .iload_n 1, 1), (1, .iconst 1, 1), (2, .iadd, 1), (3, .aload_n 0, 1), (4, .getfield 82, 3), (7, .if_icmp .ge 18, 3), (10, .aload_n 0, 1), (11, .aload_n 0, 1), (12, .getfield 28, 3), (15, .iload_n 1, 1), (16, .iconst 1, 1), (17, .iadd, 1), (18, .iaload, 1), (19, .invokevirtual 108, 3), (22, .ifCond .ne 7, 3), (25, .iconst 1, 1), (26, .goto 4, 3), (29, .iconst 0, 1), (30, .ireturn, 1)]
theorem tbX1_standsAlone_0_ok : tbX1_standsAlone_0.all (fun q => decide (decode cX1_standsAlone q.1 = .ok q.2)) = true := by decide +kernel
theorem dX1_standsAlone_0 : decode cX1_standsAlone 0 = .ok (.iload_n 1, 1) := xdt tbX1_standsAlone_0_ok 0 rfl
theorem dX1_standsAlone_1 : decode cX1_standsAlone 1 = .ok (.iconst 1, 1) := xdt tbX1_standsAlone_0_ok 1 rfl
theorem dX1_standsAlone_2 : decode cX1_standsAlone 2 = .ok (.iadd, 1) := xdt tbX1_standsAlone_0_ok 2 rfl
theorem dX1_standsAlone_3 : decode cX1_standsAlone 3 = .ok (.aload_n 0, 1) := xdt tbX1_standsAlone_0_ok 3 rfl
theorem dX1_standsAlone_4 : decode cX1_standsAlone 4 = .ok (.getfield 82, 3) := xdt tbX1_standsAlone_0_ok 4 rfl
theorem dX1_standsAlone_7 : decode cX1_standsAlone 7 = .ok (.if_icmp .ge 18, 3) := xdt tbX1_standsAlone_0_ok 5 rfl
theorem dX1_standsAlone_10 : decode cX1_standsAlone 10 = .ok (.aload_n 0, 1) := xdt tbX1_standsAlone_0_ok 6 rfl
theorem dX1_standsAlone_11 : decode cX1_standsAlone 11 = .ok (.aload_n 0, 1) := xdt tbX1_standsAlone_0_ok 7 rfl
theorem dX1_standsAlone_12 : decode cX1_standsAlone 12 = .ok (.getfield 28, 3) := xdt tbX1_standsAlone_0_ok 8 rfl
theorem dX1_standsAlone_15 : decode cX1_standsAlone 15 = .ok (.iload_n 1, 1) := xdt tbX1_standsAlone_0_ok 9 rfl
theorem dX1_standsAlone_16 : decode cX1_standsAlone 16 = .ok (.iconst 1, 1) := xdt tbX1_standsAlone_0_ok 10 rfl
theorem dX1_standsAlone_17 : decode cX1_standsAlone 17 = .ok (.iadd, 1) := xdt tbX1_standsAlone_0_ok 11 rfl
theorem dX1_standsAlone_18 : decode cX1_standsAlone 18 = .ok (.iaload, 1) := xdt tbX1_standsAlone_0_ok 12 rfl
theorem dX1_standsAlone_19 : decode cX1_standsAlone 19 = .ok (.invokevirtual 108, 3) := xdt tbX1_standsAlone_0_ok 13 rfl
theorem dX1_standsAlone_22 : decode cX1_standsAlone 22 = .ok (.ifCond .ne 7, 3) := xdt tbX1_standsAlone_0_ok 14 rfl
theorem dX1_standsAlone_25 : decode cX1_standsAlone 25 = .ok (.iconst 1, 1) := xdt tbX1_standsAlone_0_ok 15 rfl
theorem dX1_standsAlone_26 : decode cX1_standsAlone 26 = .ok (.goto 4, 3) := xdt tbX1_standsAlone_0_ok 16 rfl
theorem dX1_standsAlone_29 : decode cX1_standsAlone 29 = .ok (.iconst 0, 1) := xdt tbX1_standsAlone_0_ok 17 rfl
theorem dX1_standsAlone_30 : decode cX1_standsAlone 30 = .ok (.ireturn, 1) := xdt tbX1_standsAlone_0_ok 18 rfl
def tbX1_cutWord_0 : List (Nat × Instr × Nat) := [(0, .iload_n 1, 1), (1, .iconst 1, 1), (2, .iadd, 1), (3, .istore_n 2, 1), (4, .iload_n 2, 1), (5, .aload_n 0, 1), (6, .getfield 82, 3), (9, .if_icmp .ge 22, 3), (12, .aload_n 0, 1), (13, .aload_n 0, 1), (14, .getfield 28, 3), (17, .iload_n 2, 1), (18, .iaload, 1), (19, .invokevirtual 102, 3), (22, .ifCond .eq 9, 3), (25, .iinc 2 1, 3), (28, .goto (-24), 3), (31, .iload_n 2, 1), (32, .iload_n 1, 1), (33, .iconst 1, 1), (34, .iadd, 1), (35, .if_icmp .le 18, 3), (38, .aload_n 0, 1), (39, .aload_n 0, 1), (40, .iload_n 1, 1), (41, .iload_n 2, 1), (42, .invokevirtual 114, 3), (45, .iload_n 1, 1), (46, .iconst 0, 1), (47, .invokevirtual 92, 3), (50, .goto 34, 3), (53, .aload_n 0, 1), (54, .aload_n 0, 1), (55, .iload_n 1, 1), (56, .invokevirtual 111, 3), (59, .ifCond .eq 9, 3), (62, .sipush 258, 3), (65, .goto 6, 3), (68, .sipush 256, 3), (71, .iload_n 1, 1), (72, .aload_n 0, 1), (73, .getfield 28, 3), (76, .iload_n 1, 1), (77, .iaload, 1), (78, .bipush 97, 2), (80, .isub, 1), (81, .invokevirtual 92, 3), (84, .iload_n 2, 1), (85, .ireturn, 1)]
theorem tbX1_cutWord_0_ok : tbX1_cutWord_0.all (fun q => decide (decode cX1_cutWord q.1 = .ok q.2)) = true := by decide +kernel
theorem dX1_cutWord_0 : decode cX1_cutWord 0 = .ok (.iload_n 1, 1) := xdt tbX1_cutWord_0_ok 0 rfl
theorem dX1_cutWord_1 : decode cX1_cutWord 1 = .ok (.iconst 1, 1) := xdt tbX1_cutWord_0_ok 1 rfl
theorem dX1_cutWord_2 : decode cX1_cutWord 2 = .ok (.iadd, 1) := xdt tbX1_cutWord_0_ok 2 rfl
theorem dX1_cutWord_3 : decode cX1_cutWord 3 = .ok (.istore_n 2, 1) := xdt tbX1_cutWord_0_ok 3 rfl
theorem dX1_cutWord_4 : decode cX1_cutWord 4 = .ok (.iload_n 2, 1) := xdt tbX1_cutWord_0_ok 4 rfl
theorem dX1_cutWord_5 : decode cX1_cutWord 5 = .ok (.aload_n 0, 1) := xdt tbX1_cutWord_0_ok 5 rfl
theorem dX1_cutWord_6 : decode cX1_cutWord 6 = .ok (.getfield 82, 3) := xdt tbX1_cutWord_0_ok 6 rfl
theorem dX1_cutWord_9 : decode cX1_cutWord 9 = .ok (.if_icmp .ge 22, 3) := xdt tbX1_cutWord_0_ok 7 rfl
theorem dX1_cutWord_12 : decode cX1_cutWord 12 = .ok (.aload_n 0, 1) := xdt tbX1_cutWord_0_ok 8 rfl
theorem dX1_cutWord_13 : decode cX1_cutWord 13 = .ok (.aload_n 0, 1) := xdt tbX1_cutWord_0_ok 9 rfl
theorem dX1_cutWord_14 : decode cX1_cutWord 14 = .ok (.getfield 28, 3) := xdt tbX1_cutWord_0_ok 10 rfl
theorem dX1_cutWord_17 : decode cX1_cutWord 17 = .ok (.iload_n 2, 1) := xdt tbX1_cutWord_0_ok 11 rfl
theorem dX1_cutWord_18 : decode cX1_cutWord 18 = .ok (.iaload, 1) := xdt tbX1_cutWord_0_ok 12 rfl
theorem dX1_cutWord_19 : decode cX1_cutWord 19 = .ok (.invokevirtual 102, 3) := xdt tbX1_cutWord_0_ok 13 rfl
theorem dX1_cutWord_22 : decode cX1_cutWord 22 = .ok (.ifCond .eq 9, 3) := xdt tbX1_cutWord_0_ok 14 rfl
theorem dX1_cutWord_25 : decode cX1_cutWord 25 = .ok (.iinc 2 1, 3) := xdt tbX1_cutWord_0_ok 15 rfl
theorem dX1_cutWord_28 : decode cX1_cutWord 28 = .ok (.goto (-24), 3) := xdt tbX1_cutWord_0_ok 16 rfl
theorem dX1_cutWord_31 : decode cX1_cutWord 31 = .ok (.iload_n 2, 1) := xdt tbX1_cutWord_0_ok 17 rfl
theorem dX1_cutWord_32 : decode cX1_cutWord 32 = .ok (.iload_n 1, 1) := xdt tbX1_cutWord_0_ok 18 rfl
theorem dX1_cutWord_33 : decode cX1_cutWord 33 = .ok (.iconst 1, 1) := xdt tbX1_cutWord_0_ok 19 rfl
theorem dX1_cutWord_34 : decode cX1_cutWord 34 = .ok (.iadd, 1) := xdt tbX1_cutWord_0_ok 20 rfl
theorem dX1_cutWord_35 : decode cX1_cutWord 35 = .ok (.if_icmp .le 18, 3) := xdt tbX1_cutWord_0_ok 21 rfl
theorem dX1_cutWord_38 : decode cX1_cutWord 38 = .ok (.aload_n 0, 1) := xdt tbX1_cutWord_0_ok 22 rfl
theorem dX1_cutWord_39 : decode cX1_cutWord 39 = .ok (.aload_n 0, 1) := xdt tbX1_cutWord_0_ok 23 rfl
theorem dX1_cutWord_40 : decode cX1_cutWord 40 = .ok (.iload_n 1, 1) := xdt tbX1_cutWord_0_ok 24 rfl
theorem dX1_cutWord_41 : decode cX1_cutWord 41 = .ok (.iload_n 2, 1) := xdt tbX1_cutWord_0_ok 25 rfl
theorem dX1_cutWord_42 : decode cX1_cutWord 42 = .ok (.invokevirtual 114, 3) := xdt tbX1_cutWord_0_ok 26 rfl
theorem dX1_cutWord_45 : decode cX1_cutWord 45 = .ok (.iload_n 1, 1) := xdt tbX1_cutWord_0_ok 27 rfl
theorem dX1_cutWord_46 : decode cX1_cutWord 46 = .ok (.iconst 0, 1) := xdt tbX1_cutWord_0_ok 28 rfl
theorem dX1_cutWord_47 : decode cX1_cutWord 47 = .ok (.invokevirtual 92, 3) := xdt tbX1_cutWord_0_ok 29 rfl
theorem dX1_cutWord_50 : decode cX1_cutWord 50 = .ok (.goto 34, 3) := xdt tbX1_cutWord_0_ok 30 rfl
theorem dX1_cutWord_53 : decode cX1_cutWord 53 = .ok (.aload_n 0, 1) := xdt tbX1_cutWord_0_ok 31 rfl
theorem dX1_cutWord_54 : decode cX1_cutWord 54 = .ok (.aload_n 0, 1) := xdt tbX1_cutWord_0_ok 32 rfl
theorem dX1_cutWord_55 : decode cX1_cutWord 55 = .ok (.iload_n 1, 1) := xdt tbX1_cutWord_0_ok 33 rfl
theorem dX1_cutWord_56 : decode cX1_cutWord 56 = .ok (.invokevirtual 111, 3) := xdt tbX1_cutWord_0_ok 34 rfl
theorem dX1_cutWord_59 : decode cX1_cutWord 59 = .ok (.ifCond .eq 9, 3) := xdt tbX1_cutWord_0_ok 35 rfl
theorem dX1_cutWord_62 : decode cX1_cutWord 62 = .ok (.sipush 258, 3) := xdt tbX1_cutWord_0_ok 36 rfl
theorem dX1_cutWord_65 : decode cX1_cutWord 65 = .ok (.goto 6, 3) := xdt tbX1_cutWord_0_ok 37 rfl
theorem dX1_cutWord_68 : decode cX1_cutWord 68 = .ok (.sipush 256, 3) := xdt tbX1_cutWord_0_ok 38 rfl
theorem dX1_cutWord_71 : decode cX1_cutWord 71 = .ok (.iload_n 1, 1) := xdt tbX1_cutWord_0_ok 39 rfl
theorem dX1_cutWord_72 : decode cX1_cutWord 72 = .ok (.aload_n 0, 1) := xdt tbX1_cutWord_0_ok 40 rfl
theorem dX1_cutWord_73 : decode cX1_cutWord 73 = .ok (.getfield 28, 3) := xdt tbX1_cutWord_0_ok 41 rfl
theorem dX1_cutWord_76 : decode cX1_cutWord 76 = .ok (.iload_n 1, 1) := xdt tbX1_cutWord_0_ok 42 rfl
theorem dX1_cutWord_77 : decode cX1_cutWord 77 = .ok (.iaload, 1) := xdt tbX1_cutWord_0_ok 43 rfl
theorem dX1_cutWord_78 : decode cX1_cutWord 78 = .ok (.bipush 97, 2) := xdt tbX1_cutWord_0_ok 44 rfl
theorem dX1_cutWord_80 : decode cX1_cutWord 80 = .ok (.isub, 1) := xdt tbX1_cutWord_0_ok 45 rfl
theorem dX1_cutWord_81 : decode cX1_cutWord 81 = .ok (.invokevirtual 92, 3) := xdt tbX1_cutWord_0_ok 46 rfl
theorem dX1_cutWord_84 : decode cX1_cutWord 84 = .ok (.iload_n 2, 1) := xdt tbX1_cutWord_0_ok 47 rfl
theorem dX1_cutWord_85 : decode cX1_cutWord 85 = .ok (.ireturn, 1) := xdt tbX1_cutWord_0_ok 48 rfl
def tbX1_cutToken_0 : List (Nat × Instr × Nat) := [(0, .aload_n 0, 1), (1, .getfield 28, 3), (4, .iload_n 1, 1), (5, .iaload, 1), (6, .istore_n 2, 1), (7, .aload_n 0, 1), (8, .iload_n 2, 1), (9, .invokevirtual 96, 3), (12, .ifCond .eq 9, 3), (15, .aload_n 0, 1), (16, .iload_n 1, 1), (17, .invokevirtual 99, 3), (20, .ireturn, 1), (21, .aload_n 0, 1), (22, .iload_n 2, 1), (23, .invokevirtual 102, 3), (26, .ifCond .eq 9, 3), (29, .aload_n 0, 1), (30, .iload_n 1, 1), (31, .invokevirtual 105, 3), (34, .ireturn, 1), (35, .aload_n 0, 1), (36, .iload_n 2, 1), (37, .invokevirtual 108, 3), (40, .ifCond .eq 38, 3), (43, .aload_n 0, 1), (44, .iload_n 2, 1), (45, .bipush 71, 2), (47, .if_icmp .gt 17, 3), (50, .aload_n 0, 1), (51, .iload_n 1, 1), (52, .invokevirtual 111, 3), (55, .ifCond .eq 9, 3), (58, .sipush 257, 3), (61, .goto 6, 3), (64, .sipush 256, 3), (67, .iload_n 1, 1), (68, .iload_n 2, 1), (69, .bipush 65, 2), (71, .isub, 1), (72, .invokevirtual 92, 3), (75, .goto 10, 3), (78, .aload_n 0, 1), (79, .iload_n 2, 1), (80, .iload_n 1, 1), (81, .iconst 0, 1), (82, .invokevirtual 92, 3), (85, .iload_n 1, 1), (86, .iconst 1, 1), (87, .iadd, 1), (88, .ireturn, 1)]
theorem tbX1_cutToken_0_ok : tbX1_cutToken_0.all (fun q => decide (decode cX1_cutToken q.1 = .ok q.2)) = true := by decide +kernel
theorem dX1_cutToken_0 : decode cX1_cutToken 0 = .ok (.aload_n 0, 1) := xdt tbX1_cutToken_0_ok 0 rfl
theorem dX1_cutToken_1 : decode cX1_cutToken 1 = .ok (.getfield 28, 3) := xdt tbX1_cutToken_0_ok 1 rfl
theorem dX1_cutToken_4 : decode cX1_cutToken 4 = .ok (.iload_n 1, 1) := xdt tbX1_cutToken_0_ok 2 rfl
theorem dX1_cutToken_5 : decode cX1_cutToken 5 = .ok (.iaload, 1) := xdt tbX1_cutToken_0_ok 3 rfl
theorem dX1_cutToken_6 : decode cX1_cutToken 6 = .ok (.istore_n 2, 1) := xdt tbX1_cutToken_0_ok 4 rfl
theorem dX1_cutToken_7 : decode cX1_cutToken 7 = .ok (.aload_n 0, 1) := xdt tbX1_cutToken_0_ok 5 rfl
theorem dX1_cutToken_8 : decode cX1_cutToken 8 = .ok (.iload_n 2, 1) := xdt tbX1_cutToken_0_ok 6 rfl
theorem dX1_cutToken_9 : decode cX1_cutToken 9 = .ok (.invokevirtual 96, 3) := xdt tbX1_cutToken_0_ok 7 rfl
theorem dX1_cutToken_12 : decode cX1_cutToken 12 = .ok (.ifCond .eq 9, 3) := xdt tbX1_cutToken_0_ok 8 rfl
theorem dX1_cutToken_15 : decode cX1_cutToken 15 = .ok (.aload_n 0, 1) := xdt tbX1_cutToken_0_ok 9 rfl
theorem dX1_cutToken_16 : decode cX1_cutToken 16 = .ok (.iload_n 1, 1) := xdt tbX1_cutToken_0_ok 10 rfl
theorem dX1_cutToken_17 : decode cX1_cutToken 17 = .ok (.invokevirtual 99, 3) := xdt tbX1_cutToken_0_ok 11 rfl
theorem dX1_cutToken_20 : decode cX1_cutToken 20 = .ok (.ireturn, 1) := xdt tbX1_cutToken_0_ok 12 rfl
theorem dX1_cutToken_21 : decode cX1_cutToken 21 = .ok (.aload_n 0, 1) := xdt tbX1_cutToken_0_ok 13 rfl
theorem dX1_cutToken_22 : decode cX1_cutToken 22 = .ok (.iload_n 2, 1) := xdt tbX1_cutToken_0_ok 14 rfl
theorem dX1_cutToken_23 : decode cX1_cutToken 23 = .ok (.invokevirtual 102, 3) := xdt tbX1_cutToken_0_ok 15 rfl
theorem dX1_cutToken_26 : decode cX1_cutToken 26 = .ok (.ifCond .eq 9, 3) := xdt tbX1_cutToken_0_ok 16 rfl
theorem dX1_cutToken_29 : decode cX1_cutToken 29 = .ok (.aload_n 0, 1) := xdt tbX1_cutToken_0_ok 17 rfl
theorem dX1_cutToken_30 : decode cX1_cutToken 30 = .ok (.iload_n 1, 1) := xdt tbX1_cutToken_0_ok 18 rfl
theorem dX1_cutToken_31 : decode cX1_cutToken 31 = .ok (.invokevirtual 105, 3) := xdt tbX1_cutToken_0_ok 19 rfl
theorem dX1_cutToken_34 : decode cX1_cutToken 34 = .ok (.ireturn, 1) := xdt tbX1_cutToken_0_ok 20 rfl
theorem dX1_cutToken_35 : decode cX1_cutToken 35 = .ok (.aload_n 0, 1) := xdt tbX1_cutToken_0_ok 21 rfl
theorem dX1_cutToken_36 : decode cX1_cutToken 36 = .ok (.iload_n 2, 1) := xdt tbX1_cutToken_0_ok 22 rfl
theorem dX1_cutToken_37 : decode cX1_cutToken 37 = .ok (.invokevirtual 108, 3) := xdt tbX1_cutToken_0_ok 23 rfl
theorem dX1_cutToken_40 : decode cX1_cutToken 40 = .ok (.ifCond .eq 38, 3) := xdt tbX1_cutToken_0_ok 24 rfl
theorem dX1_cutToken_43 : decode cX1_cutToken 43 = .ok (.aload_n 0, 1) := xdt tbX1_cutToken_0_ok 25 rfl
theorem dX1_cutToken_44 : decode cX1_cutToken 44 = .ok (.iload_n 2, 1) := xdt tbX1_cutToken_0_ok 26 rfl
theorem dX1_cutToken_45 : decode cX1_cutToken 45 = .ok (.bipush 71, 2) := xdt tbX1_cutToken_0_ok 27 rfl
theorem dX1_cutToken_47 : decode cX1_cutToken 47 = .ok (.if_icmp .gt 17, 3) := xdt tbX1_cutToken_0_ok 28 rfl
theorem dX1_cutToken_50 : decode cX1_cutToken 50 = .ok (.aload_n 0, 1) := xdt tbX1_cutToken_0_ok 29 rfl
theorem dX1_cutToken_51 : decode cX1_cutToken 51 = .ok (.iload_n 1, 1) := xdt tbX1_cutToken_0_ok 30 rfl
theorem dX1_cutToken_52 : decode cX1_cutToken 52 = .ok (.invokevirtual 111, 3) := xdt tbX1_cutToken_0_ok 31 rfl
theorem dX1_cutToken_55 : decode cX1_cutToken 55 = .ok (.ifCond .eq 9, 3) := xdt tbX1_cutToken_0_ok 32 rfl
theorem dX1_cutToken_58 : decode cX1_cutToken 58 = .ok (.sipush 257, 3) := xdt tbX1_cutToken_0_ok 33 rfl
theorem dX1_cutToken_61 : decode cX1_cutToken 61 = .ok (.goto 6, 3) := xdt tbX1_cutToken_0_ok 34 rfl
theorem dX1_cutToken_64 : decode cX1_cutToken 64 = .ok (.sipush 256, 3) := xdt tbX1_cutToken_0_ok 35 rfl
theorem dX1_cutToken_67 : decode cX1_cutToken 67 = .ok (.iload_n 1, 1) := xdt tbX1_cutToken_0_ok 36 rfl
theorem dX1_cutToken_68 : decode cX1_cutToken 68 = .ok (.iload_n 2, 1) := xdt tbX1_cutToken_0_ok 37 rfl
theorem dX1_cutToken_69 : decode cX1_cutToken 69 = .ok (.bipush 65, 2) := xdt tbX1_cutToken_0_ok 38 rfl
theorem dX1_cutToken_71 : decode cX1_cutToken 71 = .ok (.isub, 1) := xdt tbX1_cutToken_0_ok 39 rfl
theorem dX1_cutToken_72 : decode cX1_cutToken 72 = .ok (.invokevirtual 92, 3) := xdt tbX1_cutToken_0_ok 40 rfl
theorem dX1_cutToken_75 : decode cX1_cutToken 75 = .ok (.goto 10, 3) := xdt tbX1_cutToken_0_ok 41 rfl
theorem dX1_cutToken_78 : decode cX1_cutToken 78 = .ok (.aload_n 0, 1) := xdt tbX1_cutToken_0_ok 42 rfl
theorem dX1_cutToken_79 : decode cX1_cutToken 79 = .ok (.iload_n 2, 1) := xdt tbX1_cutToken_0_ok 43 rfl
theorem dX1_cutToken_80 : decode cX1_cutToken 80 = .ok (.iload_n 1, 1) := xdt tbX1_cutToken_0_ok 44 rfl
theorem dX1_cutToken_81 : decode cX1_cutToken 81 = .ok (.iconst 0, 1) := xdt tbX1_cutToken_0_ok 45 rfl
theorem dX1_cutToken_82 : decode cX1_cutToken 82 = .ok (.invokevirtual 92, 3) := xdt tbX1_cutToken_0_ok 46 rfl
theorem dX1_cutToken_85 : decode cX1_cutToken 85 = .ok (.iload_n 1, 1) := xdt tbX1_cutToken_0_ok 47 rfl
theorem dX1_cutToken_86 : decode cX1_cutToken 86 = .ok (.iconst 1, 1) := xdt tbX1_cutToken_0_ok 48 rfl
theorem dX1_cutToken_87 : decode cX1_cutToken 87 = .ok (.iadd, 1) := xdt tbX1_cutToken_0_ok 49 rfl
theorem dX1_cutToken_88 : decode cX1_cutToken 88 = .ok (.ireturn, 1) := xdt tbX1_cutToken_0_ok 50 rfl
def tbX1_cutTokens_0 : List (Nat × Instr × Nat) := [(0, .aload_n 0, 1), (1, .aload_n 1, 1), (2, .putfield 28, 3), (5, .aload_n 0, 1), (6, .iload_n 2, 1), (7, .aload_n 1, 1), (8, .arraylength, 1), (9, .sipush 600, 3), (12, .invokestatic 76, 3), (15, .invokestatic 76, 3), (18, .putfield 82, 3), (21, .aload_n 0, 1), (22, .iconst 0, 1), (23, .putfield 85, 3), (26, .iconst 0, 1), (27, .istore_n 3, 1), (28, .iconst 0, 1), (29, .istore 4, 2), (31, .iload 4, 2), (33, .aload_n 0, 1), (34, .getfield 82, 3), (37, .if_icmp .ge 34, 3), (40, .iload 4, 2), (42, .iload_n 3, 1), (43, .if_icmp .lt 22, 3), (46, .aload_n 0, 1), (47, .getfield 28, 3), (50, .iload 4, 2), (52, .iaload, 1), (53, .bipush 32, 2), (55, .if_icmp .eq 10, 3), (58, .aload_n 0, 1), (59, .iload 4, 2), (61, .invokevirtual 88, 3), (64, .istore_n 3, 1), (65, .iinc 4 1, 3), (68, .goto (-37), 3), (71, .iconst 0, 1), (72, .istore 4, 2), (74, .iload 4, 2), (76, .iconst 2, 1), (77, .if_icmp .ge 19, 3), (80, .aload_n 0, 1), (81, .iconst (-1), 1), (82, .aload_n 0, 1), (83, .getfield 82, 3), (86, .iconst 0, 1), (87, .invokevirtual 92, 3), (90, .iinc 4 1, 3), (93, .goto (-19), 3), (96, .return_, 1)]
theorem tbX1_cutTokens_0_ok : tbX1_cutTokens_0.all (fun q => decide (decode cX1_cutTokens q.1 = .ok q.2)) = true := by decide +kernel
theorem dX1_cutTokens_0 : decode cX1_cutTokens 0 = .ok (.aload_n 0, 1) := xdt tbX1_cutTokens_0_ok 0 rfl
theorem dX1_cutTokens_1 : decode cX1_cutTokens 1 = .ok (.aload_n 1, 1) := xdt tbX1_cutTokens_0_ok 1 rfl
theorem dX1_cutTokens_2 : decode cX1_cutTokens 2 = .ok (.putfield 28, 3) := xdt tbX1_cutTokens_0_ok 2 rfl
theorem dX1_cutTokens_5 : decode cX1_cutTokens 5 = .ok (.aload_n 0, 1) := xdt tbX1_cutTokens_0_ok 3 rfl
theorem dX1_cutTokens_6 : decode cX1_cutTokens 6 = .ok (.iload_n 2, 1) := xdt tbX1_cutTokens_0_ok 4 rfl
theorem dX1_cutTokens_7 : decode cX1_cutTokens 7 = .ok (.aload_n 1, 1) := xdt tbX1_cutTokens_0_ok 5 rfl
theorem dX1_cutTokens_8 : decode cX1_cutTokens 8 = .ok (.arraylength, 1) := xdt tbX1_cutTokens_0_ok 6 rfl
theorem dX1_cutTokens_9 : decode cX1_cutTokens 9 = .ok (.sipush 600, 3) := xdt tbX1_cutTokens_0_ok 7 rfl
theorem dX1_cutTokens_12 : decode cX1_cutTokens 12 = .ok (.invokestatic 76, 3) := xdt tbX1_cutTokens_0_ok 8 rfl
theorem dX1_cutTokens_15 : decode cX1_cutTokens 15 = .ok (.invokestatic 76, 3) := xdt tbX1_cutTokens_0_ok 9 rfl
theorem dX1_cutTokens_18 : decode cX1_cutTokens 18 = .ok (.putfield 82, 3) := xdt tbX1_cutTokens_0_ok 10 rfl
theorem dX1_cutTokens_21 : decode cX1_cutTokens 21 = .ok (.aload_n 0, 1) := xdt tbX1_cutTokens_0_ok 11 rfl
theorem dX1_cutTokens_22 : decode cX1_cutTokens 22 = .ok (.iconst 0, 1) := xdt tbX1_cutTokens_0_ok 12 rfl
theorem dX1_cutTokens_23 : decode cX1_cutTokens 23 = .ok (.putfield 85, 3) := xdt tbX1_cutTokens_0_ok 13 rfl
theorem dX1_cutTokens_26 : decode cX1_cutTokens 26 = .ok (.iconst 0, 1) := xdt tbX1_cutTokens_0_ok 14 rfl
theorem dX1_cutTokens_27 : decode cX1_cutTokens 27 = .ok (.istore_n 3, 1) := xdt tbX1_cutTokens_0_ok 15 rfl
theorem dX1_cutTokens_28 : decode cX1_cutTokens 28 = .ok (.iconst 0, 1) := xdt tbX1_cutTokens_0_ok 16 rfl
theorem dX1_cutTokens_29 : decode cX1_cutTokens 29 = .ok (.istore 4, 2) := xdt tbX1_cutTokens_0_ok 17 rfl
theorem dX1_cutTokens_31 : decode cX1_cutTokens 31 = .ok (.iload 4, 2) := xdt tbX1_cutTokens_0_ok 18 rfl
theorem dX1_cutTokens_33 : decode cX1_cutTokens 33 = .ok (.aload_n 0, 1) := xdt tbX1_cutTokens_0_ok 19 rfl
theorem dX1_cutTokens_34 : decode cX1_cutTokens 34 = .ok (.getfield 82, 3) := xdt tbX1_cutTokens_0_ok 20 rfl
theorem dX1_cutTokens_37 : decode cX1_cutTokens 37 = .ok (.if_icmp .ge 34, 3) := xdt tbX1_cutTokens_0_ok 21 rfl
theorem dX1_cutTokens_40 : decode cX1_cutTokens 40 = .ok (.iload 4, 2) := xdt tbX1_cutTokens_0_ok 22 rfl
theorem dX1_cutTokens_42 : decode cX1_cutTokens 42 = .ok (.iload_n 3, 1) := xdt tbX1_cutTokens_0_ok 23 rfl
theorem dX1_cutTokens_43 : decode cX1_cutTokens 43 = .ok (.if_icmp .lt 22, 3) := xdt tbX1_cutTokens_0_ok 24 rfl
theorem dX1_cutTokens_46 : decode cX1_cutTokens 46 = .ok (.aload_n 0, 1) := xdt tbX1_cutTokens_0_ok 25 rfl
theorem dX1_cutTokens_47 : decode cX1_cutTokens 47 = .ok (.getfield 28, 3) := xdt tbX1_cutTokens_0_ok 26 rfl
theorem dX1_cutTokens_50 : decode cX1_cutTokens 50 = .ok (.iload 4, 2) := xdt tbX1_cutTokens_0_ok 27 rfl
theorem dX1_cutTokens_52 : decode cX1_cutTokens 52 = .ok (.iaload, 1) := xdt tbX1_cutTokens_0_ok 28 rfl
theorem dX1_cutTokens_53 : decode cX1_cutTokens 53 = .ok (.bipush 32, 2) := xdt tbX1_cutTokens_0_ok 29 rfl
theorem dX1_cutTokens_55 : decode cX1_cutTokens 55 = .ok (.if_icmp .eq 10, 3) := xdt tbX1_cutTokens_0_ok 30 rfl
theorem dX1_cutTokens_58 : decode cX1_cutTokens 58 = .ok (.aload_n 0, 1) := xdt tbX1_cutTokens_0_ok 31 rfl
theorem dX1_cutTokens_59 : decode cX1_cutTokens 59 = .ok (.iload 4, 2) := xdt tbX1_cutTokens_0_ok 32 rfl
theorem dX1_cutTokens_61 : decode cX1_cutTokens 61 = .ok (.invokevirtual 88, 3) := xdt tbX1_cutTokens_0_ok 33 rfl
theorem dX1_cutTokens_64 : decode cX1_cutTokens 64 = .ok (.istore_n 3, 1) := xdt tbX1_cutTokens_0_ok 34 rfl
theorem dX1_cutTokens_65 : decode cX1_cutTokens 65 = .ok (.iinc 4 1, 3) := xdt tbX1_cutTokens_0_ok 35 rfl
theorem dX1_cutTokens_68 : decode cX1_cutTokens 68 = .ok (.goto (-37), 3) := xdt tbX1_cutTokens_0_ok 36 rfl
theorem dX1_cutTokens_71 : decode cX1_cutTokens 71 = .ok (.iconst 0, 1) := xdt tbX1_cutTokens_0_ok 37 rfl
theorem dX1_cutTokens_72 : decode cX1_cutTokens 72 = .ok (.istore 4, 2) := xdt tbX1_cutTokens_0_ok 38 rfl
theorem dX1_cutTokens_74 : decode cX1_cutTokens 74 = .ok (.iload 4, 2) := xdt tbX1_cutTokens_0_ok 39 rfl
theorem dX1_cutTokens_76 : decode cX1_cutTokens 76 = .ok (.iconst 2, 1) := xdt tbX1_cutTokens_0_ok 40 rfl
theorem dX1_cutTokens_77 : decode cX1_cutTokens 77 = .ok (.if_icmp .ge 19, 3) := xdt tbX1_cutTokens_0_ok 41 rfl
theorem dX1_cutTokens_80 : decode cX1_cutTokens 80 = .ok (.aload_n 0, 1) := xdt tbX1_cutTokens_0_ok 42 rfl
theorem dX1_cutTokens_81 : decode cX1_cutTokens 81 = .ok (.iconst (-1), 1) := xdt tbX1_cutTokens_0_ok 43 rfl
theorem dX1_cutTokens_82 : decode cX1_cutTokens 82 = .ok (.aload_n 0, 1) := xdt tbX1_cutTokens_0_ok 44 rfl
theorem dX1_cutTokens_83 : decode cX1_cutTokens 83 = .ok (.getfield 82, 3) := xdt tbX1_cutTokens_0_ok 45 rfl
theorem dX1_cutTokens_86 : decode cX1_cutTokens 86 = .ok (.iconst 0, 1) := xdt tbX1_cutTokens_0_ok 46 rfl
theorem dX1_cutTokens_87 : decode cX1_cutTokens 87 = .ok (.invokevirtual 92, 3) := xdt tbX1_cutTokens_0_ok 47 rfl
theorem dX1_cutTokens_90 : decode cX1_cutTokens 90 = .ok (.iinc 4 1, 3) := xdt tbX1_cutTokens_0_ok 48 rfl
theorem dX1_cutTokens_93 : decode cX1_cutTokens 93 = .ok (.goto (-19), 3) := xdt tbX1_cutTokens_0_ok 49 rfl
theorem dX1_cutTokens_96 : decode cX1_cutTokens 96 = .ok (.return_, 1) := xdt tbX1_cutTokens_0_ok 50 rfl
def tbJ7_fill_53178_0 : List (Nat × Instr × Nat) := [(0, .iconst 0, 1), (1, .istore_n 2, 1), (2, .aload_n 0, 1), (3, .arraylength, 1), (4, .istore_n 3, 1), (5, .iload_n 2, 1), (6, .iload_n 3, 1), (7, .if_icmp .ge 13, 3), (10, .aload_n 0, 1), (11, .iload_n 2, 1), (12, .iload_n 1, 1), (13, .iastore, 1), (14, .iinc 2 1, 3), (17, .goto (-12), 3), (20, .return_, 1)]
theorem tbJ7_fill_53178_0_ok : tbJ7_fill_53178_0.all (fun q => decide (decode cJ7_fill_53178 q.1 = .ok q.2)) = true := by decide +kernel
theorem dJ7_fill_53178_0 : decode cJ7_fill_53178 0 = .ok (.iconst 0, 1) := xdt tbJ7_fill_53178_0_ok 0 rfl
theorem dJ7_fill_53178_1 : decode cJ7_fill_53178 1 = .ok (.istore_n 2, 1) := xdt tbJ7_fill_53178_0_ok 1 rfl
theorem dJ7_fill_53178_2 : decode cJ7_fill_53178 2 = .ok (.aload_n 0, 1) := xdt tbJ7_fill_53178_0_ok 2 rfl
theorem dJ7_fill_53178_3 : decode cJ7_fill_53178 3 = .ok (.arraylength, 1) := xdt tbJ7_fill_53178_0_ok 3 rfl
theorem dJ7_fill_53178_4 : decode cJ7_fill_53178 4 = .ok (.istore_n 3, 1) := xdt tbJ7_fill_53178_0_ok 4 rfl
theorem dJ7_fill_53178_5 : decode cJ7_fill_53178 5 = .ok (.iload_n 2, 1) := xdt tbJ7_fill_53178_0_ok 5 rfl
theorem dJ7_fill_53178_6 : decode cJ7_fill_53178 6 = .ok (.iload_n 3, 1) := xdt tbJ7_fill_53178_0_ok 6 rfl
theorem dJ7_fill_53178_7 : decode cJ7_fill_53178 7 = .ok (.if_icmp .ge 13, 3) := xdt tbJ7_fill_53178_0_ok 7 rfl
theorem dJ7_fill_53178_10 : decode cJ7_fill_53178 10 = .ok (.aload_n 0, 1) := xdt tbJ7_fill_53178_0_ok 8 rfl
theorem dJ7_fill_53178_11 : decode cJ7_fill_53178 11 = .ok (.iload_n 2, 1) := xdt tbJ7_fill_53178_0_ok 9 rfl
theorem dJ7_fill_53178_12 : decode cJ7_fill_53178 12 = .ok (.iload_n 1, 1) := xdt tbJ7_fill_53178_0_ok 10 rfl
theorem dJ7_fill_53178_13 : decode cJ7_fill_53178 13 = .ok (.iastore, 1) := xdt tbJ7_fill_53178_0_ok 11 rfl
theorem dJ7_fill_53178_14 : decode cJ7_fill_53178 14 = .ok (.iinc 2 1, 3) := xdt tbJ7_fill_53178_0_ok 12 rfl
theorem dJ7_fill_53178_17 : decode cJ7_fill_53178 17 = .ok (.goto (-12), 3) := xdt tbJ7_fill_53178_0_ok 13 rfl
theorem dJ7_fill_53178_20 : decode cJ7_fill_53178 20 = .ok (.return_, 1) := xdt tbJ7_fill_53178_0_ok 14 rfl
def tbX6_clear_0 : List (Nat × Instr × Nat) := [(0, .aload_n 0, 1), (1, .iconst 0, 1), (2, .putfield 52, 3), (5, .aload_n 0, 1), (6, .iconst 0, 1), (7, .putfield 56, 3), (10, .aload_n 0, 1), (11, .getfield 48, 3), (14, .iconst 0, 1), (15, .putfield 59, 3), (18, .aload_n 0, 1), (19, .getfield 48, 3), (22, .iconst 0, 1), (23, .putfield 62, 3), (26, .aload_n 0, 1), (27, .getfield 18, 3), (30, .iconst 0, 1), (31, .invokestatic 65, 3), (34, .aload_n 0, 1), (35, .getfield 39, 3), (38, .iconst (-1), 1), (39, .invokestatic 65, 3), (42, .return_, 1)]
theorem tbX6_clear_0_ok : tbX6_clear_0.all (fun q => decide (decode cX6_clear q.1 = .ok q.2)) = true := by decide +kernel
theorem dX6_clear_0 : decode cX6_clear 0 = .ok (.aload_n 0, 1) := xdt tbX6_clear_0_ok 0 rfl
theorem dX6_clear_1 : decode cX6_clear 1 = .ok (.iconst 0, 1) := xdt tbX6_clear_0_ok 1 rfl
theorem dX6_clear_2 : decode cX6_clear 2 = .ok (.putfield 52, 3) := xdt tbX6_clear_0_ok 2 rfl
theorem dX6_clear_5 : decode cX6_clear 5 = .ok (.aload_n 0, 1) := xdt tbX6_clear_0_ok 3 rfl
theorem dX6_clear_6 : decode cX6_clear 6 = .ok (.iconst 0, 1) := xdt tbX6_clear_0_ok 4 rfl
theorem dX6_clear_7 : decode cX6_clear 7 = .ok (.putfield 56, 3) := xdt tbX6_clear_0_ok 5 rfl
theorem dX6_clear_10 : decode cX6_clear 10 = .ok (.aload_n 0, 1) := xdt tbX6_clear_0_ok 6 rfl
theorem dX6_clear_11 : decode cX6_clear 11 = .ok (.getfield 48, 3) := xdt tbX6_clear_0_ok 7 rfl
theorem dX6_clear_14 : decode cX6_clear 14 = .ok (.iconst 0, 1) := xdt tbX6_clear_0_ok 8 rfl
theorem dX6_clear_15 : decode cX6_clear 15 = .ok (.putfield 59, 3) := xdt tbX6_clear_0_ok 9 rfl
theorem dX6_clear_18 : decode cX6_clear 18 = .ok (.aload_n 0, 1) := xdt tbX6_clear_0_ok 10 rfl
theorem dX6_clear_19 : decode cX6_clear 19 = .ok (.getfield 48, 3) := xdt tbX6_clear_0_ok 11 rfl
theorem dX6_clear_22 : decode cX6_clear 22 = .ok (.iconst 0, 1) := xdt tbX6_clear_0_ok 12 rfl
theorem dX6_clear_23 : decode cX6_clear 23 = .ok (.putfield 62, 3) := xdt tbX6_clear_0_ok 13 rfl
theorem dX6_clear_26 : decode cX6_clear 26 = .ok (.aload_n 0, 1) := xdt tbX6_clear_0_ok 14 rfl
theorem dX6_clear_27 : decode cX6_clear 27 = .ok (.getfield 18, 3) := xdt tbX6_clear_0_ok 15 rfl
theorem dX6_clear_30 : decode cX6_clear 30 = .ok (.iconst 0, 1) := xdt tbX6_clear_0_ok 16 rfl
theorem dX6_clear_31 : decode cX6_clear 31 = .ok (.invokestatic 65, 3) := xdt tbX6_clear_0_ok 17 rfl
theorem dX6_clear_34 : decode cX6_clear 34 = .ok (.aload_n 0, 1) := xdt tbX6_clear_0_ok 18 rfl
theorem dX6_clear_35 : decode cX6_clear 35 = .ok (.getfield 39, 3) := xdt tbX6_clear_0_ok 19 rfl
theorem dX6_clear_38 : decode cX6_clear 38 = .ok (.iconst (-1), 1) := xdt tbX6_clear_0_ok 20 rfl
theorem dX6_clear_39 : decode cX6_clear 39 = .ok (.invokestatic 65, 3) := xdt tbX6_clear_0_ok 21 rfl
theorem dX6_clear_42 : decode cX6_clear 42 = .ok (.return_, 1) := xdt tbX6_clear_0_ok 22 rfl
def tbX1_refuse_0 : List (Nat × Instr × Nat) := [(0, .aload_n 0, 1), (1, .iload_n 1, 1), (2, .putfield 56, 3), (5, .aload_n 0, 1), (6, .aload_n 0, 1), (7, .getfield 34, 3), (10, .aload_n 0, 1), (11, .getfield 52, 3), (14, .iaload, 1), (15, .putfield 73, 3), (18, .iconst 0, 1), (19, .ireturn, 1)]
theorem tbX1_refuse_0_ok : tbX1_refuse_0.all (fun q => decide (decode cX1_refuse q.1 = .ok q.2)) = true := by decide +kernel
theorem dX1_refuse_0 : decode cX1_refuse 0 = .ok (.aload_n 0, 1) := xdt tbX1_refuse_0_ok 0 rfl
theorem dX1_refuse_1 : decode cX1_refuse 1 = .ok (.iload_n 1, 1) := xdt tbX1_refuse_0_ok 1 rfl
theorem dX1_refuse_2 : decode cX1_refuse 2 = .ok (.putfield 56, 3) := xdt tbX1_refuse_0_ok 2 rfl
theorem dX1_refuse_5 : decode cX1_refuse 5 = .ok (.aload_n 0, 1) := xdt tbX1_refuse_0_ok 3 rfl
theorem dX1_refuse_6 : decode cX1_refuse 6 = .ok (.aload_n 0, 1) := xdt tbX1_refuse_0_ok 4 rfl
theorem dX1_refuse_7 : decode cX1_refuse 7 = .ok (.getfield 34, 3) := xdt tbX1_refuse_0_ok 5 rfl
theorem dX1_refuse_10 : decode cX1_refuse 10 = .ok (.aload_n 0, 1) := xdt tbX1_refuse_0_ok 6 rfl
theorem dX1_refuse_11 : decode cX1_refuse 11 = .ok (.getfield 52, 3) := xdt tbX1_refuse_0_ok 7 rfl
theorem dX1_refuse_14 : decode cX1_refuse 14 = .ok (.iaload, 1) := xdt tbX1_refuse_0_ok 8 rfl
theorem dX1_refuse_15 : decode cX1_refuse 15 = .ok (.putfield 73, 3) := xdt tbX1_refuse_0_ok 9 rfl
theorem dX1_refuse_18 : decode cX1_refuse 18 = .ok (.iconst 0, 1) := xdt tbX1_refuse_0_ok 10 rfl
theorem dX1_refuse_19 : decode cX1_refuse 19 = .ok (.ireturn, 1) := xdt tbX1_refuse_0_ok 11 rfl
def tbX1_take_0 : List (Nat × Instr × Nat) := [(0, .aload_n 0, 1), (1, .getfield 31, 3), (4, .aload_n 0, 1), (5, .getfield 52, 3), (8, .iaload, 1), (9, .iload_n 1, 1), (10, .if_icmp .eq 5, 3), (13, .iconst 0, 1), (14, .ireturn, 1), (15, .aload_n 0, 1), (16, .dup, 1), (17, .getfield 52, 3), (20, .iconst 1, 1), (21, .iadd, 1), (22, .putfield 52, 3), (25, .iconst 1, 1), (26, .ireturn, 1)]
theorem tbX1_take_0_ok : tbX1_take_0.all (fun q => decide (decode cX1_take q.1 = .ok q.2)) = true := by decide +kernel
theorem dX1_take_0 : decode cX1_take 0 = .ok (.aload_n 0, 1) := xdt tbX1_take_0_ok 0 rfl
theorem dX1_take_1 : decode cX1_take 1 = .ok (.getfield 31, 3) := xdt tbX1_take_0_ok 1 rfl
theorem dX1_take_4 : decode cX1_take 4 = .ok (.aload_n 0, 1) := xdt tbX1_take_0_ok 2 rfl
theorem dX1_take_5 : decode cX1_take 5 = .ok (.getfield 52, 3) := xdt tbX1_take_0_ok 3 rfl
theorem dX1_take_8 : decode cX1_take 8 = .ok (.iaload, 1) := xdt tbX1_take_0_ok 4 rfl
theorem dX1_take_9 : decode cX1_take 9 = .ok (.iload_n 1, 1) := xdt tbX1_take_0_ok 5 rfl
theorem dX1_take_10 : decode cX1_take 10 = .ok (.if_icmp .eq 5, 3) := xdt tbX1_take_0_ok 6 rfl
theorem dX1_take_13 : decode cX1_take 13 = .ok (.iconst 0, 1) := xdt tbX1_take_0_ok 7 rfl
theorem dX1_take_14 : decode cX1_take 14 = .ok (.ireturn, 1) := xdt tbX1_take_0_ok 8 rfl
theorem dX1_take_15 : decode cX1_take 15 = .ok (.aload_n 0, 1) := xdt tbX1_take_0_ok 9 rfl
theorem dX1_take_16 : decode cX1_take 16 = .ok (.dup, 1) := xdt tbX1_take_0_ok 10 rfl
theorem dX1_take_17 : decode cX1_take 17 = .ok (.getfield 52, 3) := xdt tbX1_take_0_ok 11 rfl
theorem dX1_take_20 : decode cX1_take 20 = .ok (.iconst 1, 1) := xdt tbX1_take_0_ok 12 rfl
theorem dX1_take_21 : decode cX1_take 21 = .ok (.iadd, 1) := xdt tbX1_take_0_ok 13 rfl
theorem dX1_take_22 : decode cX1_take 22 = .ok (.putfield 52, 3) := xdt tbX1_take_0_ok 14 rfl
theorem dX1_take_25 : decode cX1_take 25 = .ok (.iconst 1, 1) := xdt tbX1_take_0_ok 15 rfl
theorem dX1_take_26 : decode cX1_take 26 = .ok (.ireturn, 1) := xdt tbX1_take_0_ok 16 rfl
def tbX6_addUnit_0 : List (Nat × Instr × Nat) := [(0, .aload_n 0, 1), (1, .getfield 9, 3), (4, .iload_n 1, 1), (5, .iload_n 2, 1), (6, .iastore, 1), (7, .aload_n 0, 1), (8, .getfield 15, 3), (11, .iload_n 1, 1), (12, .iload_n 3, 1), (13, .iastore, 1), (14, .aload_n 0, 1), (15, .iload_n 1, 1), (16, .iconst 1, 1), (17, .iadd, 1), (18, .putfield 52, 3), (21, .return_, 1)]
theorem tbX6_addUnit_0_ok : tbX6_addUnit_0.all (fun q => decide (decode cX6_addUnit q.1 = .ok q.2)) = true := by decide +kernel
theorem dX6_addUnit_0 : decode cX6_addUnit 0 = .ok (.aload_n 0, 1) := xdt tbX6_addUnit_0_ok 0 rfl
theorem dX6_addUnit_1 : decode cX6_addUnit 1 = .ok (.getfield 9, 3) := xdt tbX6_addUnit_0_ok 1 rfl
theorem dX6_addUnit_4 : decode cX6_addUnit 4 = .ok (.iload_n 1, 1) := xdt tbX6_addUnit_0_ok 2 rfl
theorem dX6_addUnit_5 : decode cX6_addUnit 5 = .ok (.iload_n 2, 1) := xdt tbX6_addUnit_0_ok 3 rfl
theorem dX6_addUnit_6 : decode cX6_addUnit 6 = .ok (.iastore, 1) := xdt tbX6_addUnit_0_ok 4 rfl
theorem dX6_addUnit_7 : decode cX6_addUnit 7 = .ok (.aload_n 0, 1) := xdt tbX6_addUnit_0_ok 5 rfl
theorem dX6_addUnit_8 : decode cX6_addUnit 8 = .ok (.getfield 15, 3) := xdt tbX6_addUnit_0_ok 6 rfl
theorem dX6_addUnit_11 : decode cX6_addUnit 11 = .ok (.iload_n 1, 1) := xdt tbX6_addUnit_0_ok 7 rfl
theorem dX6_addUnit_12 : decode cX6_addUnit 12 = .ok (.iload_n 3, 1) := xdt tbX6_addUnit_0_ok 8 rfl
theorem dX6_addUnit_13 : decode cX6_addUnit 13 = .ok (.iastore, 1) := xdt tbX6_addUnit_0_ok 9 rfl
theorem dX6_addUnit_14 : decode cX6_addUnit 14 = .ok (.aload_n 0, 1) := xdt tbX6_addUnit_0_ok 10 rfl
theorem dX6_addUnit_15 : decode cX6_addUnit 15 = .ok (.iload_n 1, 1) := xdt tbX6_addUnit_0_ok 11 rfl
theorem dX6_addUnit_16 : decode cX6_addUnit 16 = .ok (.iconst 1, 1) := xdt tbX6_addUnit_0_ok 12 rfl
theorem dX6_addUnit_17 : decode cX6_addUnit 17 = .ok (.iadd, 1) := xdt tbX6_addUnit_0_ok 13 rfl
theorem dX6_addUnit_18 : decode cX6_addUnit 18 = .ok (.putfield 52, 3) := xdt tbX6_addUnit_0_ok 14 rfl
theorem dX6_addUnit_21 : decode cX6_addUnit 21 = .ok (.return_, 1) := xdt tbX6_addUnit_0_ok 15 rfl
def tbX1_mustTake_0 : List (Nat × Instr × Nat) := [(0, .aload_n 0, 1), (1, .getfield 31, 3), (4, .aload_n 0, 1), (5, .getfield 52, 3), (8, .iaload, 1), (9, .iload_n 1, 1), (10, .if_icmp .eq 23, 3), (13, .aload_n 0, 1), (14, .iconst 1, 1), (15, .putfield 56, 3), (18, .aload_n 0, 1), (19, .aload_n 0, 1), (20, .getfield 34, 3), (23, .aload_n 0, 1), (24, .getfield 52, 3), (27, .iaload, 1), (28, .putfield 73, 3), (31, .iconst 0, 1), (32, .ireturn, 1), (33, .aload_n 0, 1), (34, .dup, 1), (35, .getfield 52, 3), (38, .iconst 1, 1), (39, .iadd, 1), (40, .putfield 52, 3), (43, .iconst 1, 1), (44, .ireturn, 1)]
theorem tbX1_mustTake_0_ok : tbX1_mustTake_0.all (fun q => decide (decode cX1_mustTake q.1 = .ok q.2)) = true := by decide +kernel
theorem dX1_mustTake_0 : decode cX1_mustTake 0 = .ok (.aload_n 0, 1) := xdt tbX1_mustTake_0_ok 0 rfl
theorem dX1_mustTake_1 : decode cX1_mustTake 1 = .ok (.getfield 31, 3) := xdt tbX1_mustTake_0_ok 1 rfl
theorem dX1_mustTake_4 : decode cX1_mustTake 4 = .ok (.aload_n 0, 1) := xdt tbX1_mustTake_0_ok 2 rfl
theorem dX1_mustTake_5 : decode cX1_mustTake 5 = .ok (.getfield 52, 3) := xdt tbX1_mustTake_0_ok 3 rfl
theorem dX1_mustTake_8 : decode cX1_mustTake 8 = .ok (.iaload, 1) := xdt tbX1_mustTake_0_ok 4 rfl
theorem dX1_mustTake_9 : decode cX1_mustTake 9 = .ok (.iload_n 1, 1) := xdt tbX1_mustTake_0_ok 5 rfl
theorem dX1_mustTake_10 : decode cX1_mustTake 10 = .ok (.if_icmp .eq 23, 3) := xdt tbX1_mustTake_0_ok 6 rfl
theorem dX1_mustTake_13 : decode cX1_mustTake 13 = .ok (.aload_n 0, 1) := xdt tbX1_mustTake_0_ok 7 rfl
theorem dX1_mustTake_14 : decode cX1_mustTake 14 = .ok (.iconst 1, 1) := xdt tbX1_mustTake_0_ok 8 rfl
theorem dX1_mustTake_15 : decode cX1_mustTake 15 = .ok (.putfield 56, 3) := xdt tbX1_mustTake_0_ok 9 rfl
theorem dX1_mustTake_18 : decode cX1_mustTake 18 = .ok (.aload_n 0, 1) := xdt tbX1_mustTake_0_ok 10 rfl
theorem dX1_mustTake_19 : decode cX1_mustTake 19 = .ok (.aload_n 0, 1) := xdt tbX1_mustTake_0_ok 11 rfl
theorem dX1_mustTake_20 : decode cX1_mustTake 20 = .ok (.getfield 34, 3) := xdt tbX1_mustTake_0_ok 12 rfl
theorem dX1_mustTake_23 : decode cX1_mustTake 23 = .ok (.aload_n 0, 1) := xdt tbX1_mustTake_0_ok 13 rfl
theorem dX1_mustTake_24 : decode cX1_mustTake 24 = .ok (.getfield 52, 3) := xdt tbX1_mustTake_0_ok 14 rfl
theorem dX1_mustTake_27 : decode cX1_mustTake 27 = .ok (.iaload, 1) := xdt tbX1_mustTake_0_ok 15 rfl
theorem dX1_mustTake_28 : decode cX1_mustTake 28 = .ok (.putfield 73, 3) := xdt tbX1_mustTake_0_ok 16 rfl
theorem dX1_mustTake_31 : decode cX1_mustTake 31 = .ok (.iconst 0, 1) := xdt tbX1_mustTake_0_ok 17 rfl
theorem dX1_mustTake_32 : decode cX1_mustTake 32 = .ok (.ireturn, 1) := xdt tbX1_mustTake_0_ok 18 rfl
theorem dX1_mustTake_33 : decode cX1_mustTake 33 = .ok (.aload_n 0, 1) := xdt tbX1_mustTake_0_ok 19 rfl
theorem dX1_mustTake_34 : decode cX1_mustTake 34 = .ok (.dup, 1) := xdt tbX1_mustTake_0_ok 20 rfl
theorem dX1_mustTake_35 : decode cX1_mustTake 35 = .ok (.getfield 52, 3) := xdt tbX1_mustTake_0_ok 21 rfl
theorem dX1_mustTake_38 : decode cX1_mustTake 38 = .ok (.iconst 1, 1) := xdt tbX1_mustTake_0_ok 22 rfl
theorem dX1_mustTake_39 : decode cX1_mustTake 39 = .ok (.iadd, 1) := xdt tbX1_mustTake_0_ok 23 rfl
theorem dX1_mustTake_40 : decode cX1_mustTake 40 = .ok (.putfield 52, 3) := xdt tbX1_mustTake_0_ok 24 rfl
theorem dX1_mustTake_43 : decode cX1_mustTake 43 = .ok (.iconst 1, 1) := xdt tbX1_mustTake_0_ok 25 rfl
theorem dX1_mustTake_44 : decode cX1_mustTake 44 = .ok (.ireturn, 1) := xdt tbX1_mustTake_0_ok 26 rfl
def tbX1_readHead_0 : List (Nat × Instr × Nat) := [(0, .aload_n 0, 1), (1, .getfield 31, 3), (4, .aload_n 0, 1), (5, .getfield 52, 3), (8, .iaload, 1), (9, .sipush 257, 3), (12, .if_icmp .eq 9, 3), (15, .aload_n 0, 1), (16, .iconst 1, 1), (17, .invokevirtual 146, 3), (20, .ireturn, 1), (21, .aload_n 0, 1), (22, .getfield 37, 3), (25, .aload_n 0, 1), (26, .getfield 52, 3), (29, .iaload, 1), (30, .istore_n 2, 1), (31, .aload_n 0, 1), (32, .getfield 18, 3), (35, .iload_n 2, 1), (36, .iaload, 1), (37, .iconst (-1), 1), (38, .if_icmp .eq 9, 3), (41, .aload_n 0, 1), (42, .iconst 4, 1), (43, .invokevirtual 146, 3), (46, .ireturn, 1), (47, .aload_n 0, 1), (48, .dup, 1), (49, .getfield 52, 3), (52, .iconst 1, 1), (53, .iadd, 1), (54, .putfield 52, 3), (57, .iconst (-1), 1), (58, .istore_n 3, 1), (59, .aload_n 0, 1), (60, .bipush 58, 2), (62, .invokevirtual 152, 3), (65, .ifCond .eq 60, 3), (68, .aload_n 0, 1), (69, .getfield 31, 3), (72, .aload_n 0, 1), (73, .getfield 52, 3), (76, .iaload, 1), (77, .sipush 257, 3), (80, .if_icmp .eq 9, 3), (83, .aload_n 0, 1), (84, .iconst 1, 1), (85, .invokevirtual 146, 3), (88, .ireturn, 1), (89, .aload_n 0, 1), (90, .getfield 18, 3), (93, .aload_n 0, 1), (94, .getfield 37, 3), (97, .aload_n 0, 1), (98, .getfield 52, 3), (101, .iaload, 1), (102, .iaload, 1), (103, .istore_n 3, 1), (104, .iload_n 3, 1)]
theorem tbX1_readHead_0_ok : tbX1_readHead_0.all (fun q => decide (decode cX1_readHead q.1 = .ok q.2)) = true := by decide +kernel
theorem dX1_readHead_0 : decode cX1_readHead 0 = .ok (.aload_n 0, 1) := xdt tbX1_readHead_0_ok 0 rfl
theorem dX1_readHead_1 : decode cX1_readHead 1 = .ok (.getfield 31, 3) := xdt tbX1_readHead_0_ok 1 rfl
theorem dX1_readHead_4 : decode cX1_readHead 4 = .ok (.aload_n 0, 1) := xdt tbX1_readHead_0_ok 2 rfl
theorem dX1_readHead_5 : decode cX1_readHead 5 = .ok (.getfield 52, 3) := xdt tbX1_readHead_0_ok 3 rfl
theorem dX1_readHead_8 : decode cX1_readHead 8 = .ok (.iaload, 1) := xdt tbX1_readHead_0_ok 4 rfl
theorem dX1_readHead_9 : decode cX1_readHead 9 = .ok (.sipush 257, 3) := xdt tbX1_readHead_0_ok 5 rfl
theorem dX1_readHead_12 : decode cX1_readHead 12 = .ok (.if_icmp .eq 9, 3) := xdt tbX1_readHead_0_ok 6 rfl
theorem dX1_readHead_15 : decode cX1_readHead 15 = .ok (.aload_n 0, 1) := xdt tbX1_readHead_0_ok 7 rfl
theorem dX1_readHead_16 : decode cX1_readHead 16 = .ok (.iconst 1, 1) := xdt tbX1_readHead_0_ok 8 rfl
theorem dX1_readHead_17 : decode cX1_readHead 17 = .ok (.invokevirtual 146, 3) := xdt tbX1_readHead_0_ok 9 rfl
theorem dX1_readHead_20 : decode cX1_readHead 20 = .ok (.ireturn, 1) := xdt tbX1_readHead_0_ok 10 rfl
theorem dX1_readHead_21 : decode cX1_readHead 21 = .ok (.aload_n 0, 1) := xdt tbX1_readHead_0_ok 11 rfl
theorem dX1_readHead_22 : decode cX1_readHead 22 = .ok (.getfield 37, 3) := xdt tbX1_readHead_0_ok 12 rfl
theorem dX1_readHead_25 : decode cX1_readHead 25 = .ok (.aload_n 0, 1) := xdt tbX1_readHead_0_ok 13 rfl
theorem dX1_readHead_26 : decode cX1_readHead 26 = .ok (.getfield 52, 3) := xdt tbX1_readHead_0_ok 14 rfl
theorem dX1_readHead_29 : decode cX1_readHead 29 = .ok (.iaload, 1) := xdt tbX1_readHead_0_ok 15 rfl
theorem dX1_readHead_30 : decode cX1_readHead 30 = .ok (.istore_n 2, 1) := xdt tbX1_readHead_0_ok 16 rfl
theorem dX1_readHead_31 : decode cX1_readHead 31 = .ok (.aload_n 0, 1) := xdt tbX1_readHead_0_ok 17 rfl
theorem dX1_readHead_32 : decode cX1_readHead 32 = .ok (.getfield 18, 3) := xdt tbX1_readHead_0_ok 18 rfl
theorem dX1_readHead_35 : decode cX1_readHead 35 = .ok (.iload_n 2, 1) := xdt tbX1_readHead_0_ok 19 rfl
theorem dX1_readHead_36 : decode cX1_readHead 36 = .ok (.iaload, 1) := xdt tbX1_readHead_0_ok 20 rfl
theorem dX1_readHead_37 : decode cX1_readHead 37 = .ok (.iconst (-1), 1) := xdt tbX1_readHead_0_ok 21 rfl
theorem dX1_readHead_38 : decode cX1_readHead 38 = .ok (.if_icmp .eq 9, 3) := xdt tbX1_readHead_0_ok 22 rfl
theorem dX1_readHead_41 : decode cX1_readHead 41 = .ok (.aload_n 0, 1) := xdt tbX1_readHead_0_ok 23 rfl
theorem dX1_readHead_42 : decode cX1_readHead 42 = .ok (.iconst 4, 1) := xdt tbX1_readHead_0_ok 24 rfl
theorem dX1_readHead_43 : decode cX1_readHead 43 = .ok (.invokevirtual 146, 3) := xdt tbX1_readHead_0_ok 25 rfl
theorem dX1_readHead_46 : decode cX1_readHead 46 = .ok (.ireturn, 1) := xdt tbX1_readHead_0_ok 26 rfl
theorem dX1_readHead_47 : decode cX1_readHead 47 = .ok (.aload_n 0, 1) := xdt tbX1_readHead_0_ok 27 rfl
theorem dX1_readHead_48 : decode cX1_readHead 48 = .ok (.dup, 1) := xdt tbX1_readHead_0_ok 28 rfl
theorem dX1_readHead_49 : decode cX1_readHead 49 = .ok (.getfield 52, 3) := xdt tbX1_readHead_0_ok 29 rfl
theorem dX1_readHead_52 : decode cX1_readHead 52 = .ok (.iconst 1, 1) := xdt tbX1_readHead_0_ok 30 rfl
theorem dX1_readHead_53 : decode cX1_readHead 53 = .ok (.iadd, 1) := xdt tbX1_readHead_0_ok 31 rfl
theorem dX1_readHead_54 : decode cX1_readHead 54 = .ok (.putfield 52, 3) := xdt tbX1_readHead_0_ok 32 rfl
theorem dX1_readHead_57 : decode cX1_readHead 57 = .ok (.iconst (-1), 1) := xdt tbX1_readHead_0_ok 33 rfl
theorem dX1_readHead_58 : decode cX1_readHead 58 = .ok (.istore_n 3, 1) := xdt tbX1_readHead_0_ok 34 rfl
theorem dX1_readHead_59 : decode cX1_readHead 59 = .ok (.aload_n 0, 1) := xdt tbX1_readHead_0_ok 35 rfl
theorem dX1_readHead_60 : decode cX1_readHead 60 = .ok (.bipush 58, 2) := xdt tbX1_readHead_0_ok 36 rfl
theorem dX1_readHead_62 : decode cX1_readHead 62 = .ok (.invokevirtual 152, 3) := xdt tbX1_readHead_0_ok 37 rfl
theorem dX1_readHead_65 : decode cX1_readHead 65 = .ok (.ifCond .eq 60, 3) := xdt tbX1_readHead_0_ok 38 rfl
theorem dX1_readHead_68 : decode cX1_readHead 68 = .ok (.aload_n 0, 1) := xdt tbX1_readHead_0_ok 39 rfl
theorem dX1_readHead_69 : decode cX1_readHead 69 = .ok (.getfield 31, 3) := xdt tbX1_readHead_0_ok 40 rfl
theorem dX1_readHead_72 : decode cX1_readHead 72 = .ok (.aload_n 0, 1) := xdt tbX1_readHead_0_ok 41 rfl
theorem dX1_readHead_73 : decode cX1_readHead 73 = .ok (.getfield 52, 3) := xdt tbX1_readHead_0_ok 42 rfl
theorem dX1_readHead_76 : decode cX1_readHead 76 = .ok (.iaload, 1) := xdt tbX1_readHead_0_ok 43 rfl
theorem dX1_readHead_77 : decode cX1_readHead 77 = .ok (.sipush 257, 3) := xdt tbX1_readHead_0_ok 44 rfl
theorem dX1_readHead_80 : decode cX1_readHead 80 = .ok (.if_icmp .eq 9, 3) := xdt tbX1_readHead_0_ok 45 rfl
theorem dX1_readHead_83 : decode cX1_readHead 83 = .ok (.aload_n 0, 1) := xdt tbX1_readHead_0_ok 46 rfl
theorem dX1_readHead_84 : decode cX1_readHead 84 = .ok (.iconst 1, 1) := xdt tbX1_readHead_0_ok 47 rfl
theorem dX1_readHead_85 : decode cX1_readHead 85 = .ok (.invokevirtual 146, 3) := xdt tbX1_readHead_0_ok 48 rfl
theorem dX1_readHead_88 : decode cX1_readHead 88 = .ok (.ireturn, 1) := xdt tbX1_readHead_0_ok 49 rfl
theorem dX1_readHead_89 : decode cX1_readHead 89 = .ok (.aload_n 0, 1) := xdt tbX1_readHead_0_ok 50 rfl
theorem dX1_readHead_90 : decode cX1_readHead 90 = .ok (.getfield 18, 3) := xdt tbX1_readHead_0_ok 51 rfl
theorem dX1_readHead_93 : decode cX1_readHead 93 = .ok (.aload_n 0, 1) := xdt tbX1_readHead_0_ok 52 rfl
theorem dX1_readHead_94 : decode cX1_readHead 94 = .ok (.getfield 37, 3) := xdt tbX1_readHead_0_ok 53 rfl
theorem dX1_readHead_97 : decode cX1_readHead 97 = .ok (.aload_n 0, 1) := xdt tbX1_readHead_0_ok 54 rfl
theorem dX1_readHead_98 : decode cX1_readHead 98 = .ok (.getfield 52, 3) := xdt tbX1_readHead_0_ok 55 rfl
theorem dX1_readHead_101 : decode cX1_readHead 101 = .ok (.iaload, 1) := xdt tbX1_readHead_0_ok 56 rfl
theorem dX1_readHead_102 : decode cX1_readHead 102 = .ok (.iaload, 1) := xdt tbX1_readHead_0_ok 57 rfl
theorem dX1_readHead_103 : decode cX1_readHead 103 = .ok (.istore_n 3, 1) := xdt tbX1_readHead_0_ok 58 rfl
theorem dX1_readHead_104 : decode cX1_readHead 104 = .ok (.iload_n 3, 1) := xdt tbX1_readHead_0_ok 59 rfl
def tbX1_readHead_60 : List (Nat × Instr × Nat) := [(105, .iconst (-1), 1), (106, .if_icmp .ne 9, 3), (109, .aload_n 0, 1), (110, .iconst 4, 1), (111, .invokevirtual 146, 3), (114, .ireturn, 1), (115, .aload_n 0, 1), (116, .dup, 1), (117, .getfield 52, 3), (120, .iconst 1, 1), (121, .iadd, 1), (122, .putfield 52, 3), (125, .aload_n 0, 1), (126, .getfield 12, 3), (129, .iload_n 1, 1), (130, .iload_n 2, 1), (131, .iload_n 3, 1), (132, .invokevirtual 162, 3), (135, .aload_n 0, 1), (136, .getfield 18, 3), (139, .iload_n 2, 1), (140, .iload_n 1, 1), (141, .iastore, 1), (142, .aload_n 0, 1), (143, .bipush 123, 2), (145, .invokevirtual 67, 3), (148, .ireturn, 1)]
theorem tbX1_readHead_60_ok : tbX1_readHead_60.all (fun q => decide (decode cX1_readHead q.1 = .ok q.2)) = true := by decide +kernel
theorem dX1_readHead_105 : decode cX1_readHead 105 = .ok (.iconst (-1), 1) := xdt tbX1_readHead_60_ok 0 rfl
theorem dX1_readHead_106 : decode cX1_readHead 106 = .ok (.if_icmp .ne 9, 3) := xdt tbX1_readHead_60_ok 1 rfl
theorem dX1_readHead_109 : decode cX1_readHead 109 = .ok (.aload_n 0, 1) := xdt tbX1_readHead_60_ok 2 rfl
theorem dX1_readHead_110 : decode cX1_readHead 110 = .ok (.iconst 4, 1) := xdt tbX1_readHead_60_ok 3 rfl
theorem dX1_readHead_111 : decode cX1_readHead 111 = .ok (.invokevirtual 146, 3) := xdt tbX1_readHead_60_ok 4 rfl
theorem dX1_readHead_114 : decode cX1_readHead 114 = .ok (.ireturn, 1) := xdt tbX1_readHead_60_ok 5 rfl
theorem dX1_readHead_115 : decode cX1_readHead 115 = .ok (.aload_n 0, 1) := xdt tbX1_readHead_60_ok 6 rfl
theorem dX1_readHead_116 : decode cX1_readHead 116 = .ok (.dup, 1) := xdt tbX1_readHead_60_ok 7 rfl
theorem dX1_readHead_117 : decode cX1_readHead 117 = .ok (.getfield 52, 3) := xdt tbX1_readHead_60_ok 8 rfl
theorem dX1_readHead_120 : decode cX1_readHead 120 = .ok (.iconst 1, 1) := xdt tbX1_readHead_60_ok 9 rfl
theorem dX1_readHead_121 : decode cX1_readHead 121 = .ok (.iadd, 1) := xdt tbX1_readHead_60_ok 10 rfl
theorem dX1_readHead_122 : decode cX1_readHead 122 = .ok (.putfield 52, 3) := xdt tbX1_readHead_60_ok 11 rfl
theorem dX1_readHead_125 : decode cX1_readHead 125 = .ok (.aload_n 0, 1) := xdt tbX1_readHead_60_ok 12 rfl
theorem dX1_readHead_126 : decode cX1_readHead 126 = .ok (.getfield 12, 3) := xdt tbX1_readHead_60_ok 13 rfl
theorem dX1_readHead_129 : decode cX1_readHead 129 = .ok (.iload_n 1, 1) := xdt tbX1_readHead_60_ok 14 rfl
theorem dX1_readHead_130 : decode cX1_readHead 130 = .ok (.iload_n 2, 1) := xdt tbX1_readHead_60_ok 15 rfl
theorem dX1_readHead_131 : decode cX1_readHead 131 = .ok (.iload_n 3, 1) := xdt tbX1_readHead_60_ok 16 rfl
theorem dX1_readHead_132 : decode cX1_readHead 132 = .ok (.invokevirtual 162, 3) := xdt tbX1_readHead_60_ok 17 rfl
theorem dX1_readHead_135 : decode cX1_readHead 135 = .ok (.aload_n 0, 1) := xdt tbX1_readHead_60_ok 18 rfl
theorem dX1_readHead_136 : decode cX1_readHead 136 = .ok (.getfield 18, 3) := xdt tbX1_readHead_60_ok 19 rfl
theorem dX1_readHead_139 : decode cX1_readHead 139 = .ok (.iload_n 2, 1) := xdt tbX1_readHead_60_ok 20 rfl
theorem dX1_readHead_140 : decode cX1_readHead 140 = .ok (.iload_n 1, 1) := xdt tbX1_readHead_60_ok 21 rfl
theorem dX1_readHead_141 : decode cX1_readHead 141 = .ok (.iastore, 1) := xdt tbX1_readHead_60_ok 22 rfl
theorem dX1_readHead_142 : decode cX1_readHead 142 = .ok (.aload_n 0, 1) := xdt tbX1_readHead_60_ok 23 rfl
theorem dX1_readHead_143 : decode cX1_readHead 143 = .ok (.bipush 123, 2) := xdt tbX1_readHead_60_ok 24 rfl
theorem dX1_readHead_145 : decode cX1_readHead 145 = .ok (.invokevirtual 67, 3) := xdt tbX1_readHead_60_ok 25 rfl
theorem dX1_readHead_148 : decode cX1_readHead 148 = .ok (.ireturn, 1) := xdt tbX1_readHead_60_ok 26 rfl
def tbX1_isMemberHere_0 : List (Nat × Instr × Nat) := [(0, .aload_n 0, 1), (1, .getfield 31, 3), (4, .aload_n 0, 1), (5, .getfield 52, 3), (8, .iaload, 1), (9, .tableswitch 53 257 265 #[51, 53, 53, 53, 53, 51, 51, 51, 51], 51), (60, .iconst 1, 1), (61, .ireturn, 1), (62, .iconst 0, 1), (63, .ireturn, 1)]
theorem tbX1_isMemberHere_0_ok : tbX1_isMemberHere_0.all (fun q => decide (decode cX1_isMemberHere q.1 = .ok q.2)) = true := by decide +kernel
theorem dX1_isMemberHere_0 : decode cX1_isMemberHere 0 = .ok (.aload_n 0, 1) := xdt tbX1_isMemberHere_0_ok 0 rfl
theorem dX1_isMemberHere_1 : decode cX1_isMemberHere 1 = .ok (.getfield 31, 3) := xdt tbX1_isMemberHere_0_ok 1 rfl
theorem dX1_isMemberHere_4 : decode cX1_isMemberHere 4 = .ok (.aload_n 0, 1) := xdt tbX1_isMemberHere_0_ok 2 rfl
theorem dX1_isMemberHere_5 : decode cX1_isMemberHere 5 = .ok (.getfield 52, 3) := xdt tbX1_isMemberHere_0_ok 3 rfl
theorem dX1_isMemberHere_8 : decode cX1_isMemberHere 8 = .ok (.iaload, 1) := xdt tbX1_isMemberHere_0_ok 4 rfl
theorem dX1_isMemberHere_9 : decode cX1_isMemberHere 9 = .ok (.tableswitch 53 257 265 #[51, 53, 53, 53, 53, 51, 51, 51, 51], 51) := xdt tbX1_isMemberHere_0_ok 5 rfl
theorem dX1_isMemberHere_60 : decode cX1_isMemberHere 60 = .ok (.iconst 1, 1) := xdt tbX1_isMemberHere_0_ok 6 rfl
theorem dX1_isMemberHere_61 : decode cX1_isMemberHere 61 = .ok (.ireturn, 1) := xdt tbX1_isMemberHere_0_ok 7 rfl
theorem dX1_isMemberHere_62 : decode cX1_isMemberHere 62 = .ok (.iconst 0, 1) := xdt tbX1_isMemberHere_0_ok 8 rfl
theorem dX1_isMemberHere_63 : decode cX1_isMemberHere 63 = .ok (.ireturn, 1) := xdt tbX1_isMemberHere_0_ok 9 rfl
def tbX6_addMember_0 : List (Nat × Instr × Nat) := [(0, .aload_n 0, 1), (1, .getfield 21, 3), (4, .iload_n 1, 1), (5, .iload_n 2, 1), (6, .iastore, 1), (7, .aload_n 0, 1), (8, .getfield 24, 3), (11, .iload_n 1, 1), (12, .iconst (-1), 1), (13, .iastore, 1), (14, .aload_n 0, 1), (15, .getfield 27, 3), (18, .iload_n 1, 1), (19, .iconst (-1), 1), (20, .iastore, 1), (21, .aload_n 0, 1), (22, .getfield 30, 3), (25, .iload_n 1, 1), (26, .iconst (-1), 1), (27, .iastore, 1), (28, .aload_n 0, 1), (29, .getfield 33, 3), (32, .iload_n 1, 1), (33, .iconst 1, 1), (34, .iastore, 1), (35, .aload_n 0, 1), (36, .getfield 36, 3), (39, .iload_n 1, 1), (40, .iload_n 1, 1), (41, .iastore, 1), (42, .aload_n 0, 1), (43, .getfield 18, 3), (46, .iload_n 1, 1), (47, .bipush 12, 2), (49, .idiv, 1), (50, .dup2, 1), (51, .iaload, 1), (52, .iconst 1, 1), (53, .iadd, 1), (54, .iastore, 1), (55, .return_, 1)]
theorem tbX6_addMember_0_ok : tbX6_addMember_0.all (fun q => decide (decode cX6_addMember q.1 = .ok q.2)) = true := by decide +kernel
theorem dX6_addMember_0 : decode cX6_addMember 0 = .ok (.aload_n 0, 1) := xdt tbX6_addMember_0_ok 0 rfl
theorem dX6_addMember_1 : decode cX6_addMember 1 = .ok (.getfield 21, 3) := xdt tbX6_addMember_0_ok 1 rfl
theorem dX6_addMember_4 : decode cX6_addMember 4 = .ok (.iload_n 1, 1) := xdt tbX6_addMember_0_ok 2 rfl
theorem dX6_addMember_5 : decode cX6_addMember 5 = .ok (.iload_n 2, 1) := xdt tbX6_addMember_0_ok 3 rfl
theorem dX6_addMember_6 : decode cX6_addMember 6 = .ok (.iastore, 1) := xdt tbX6_addMember_0_ok 4 rfl
theorem dX6_addMember_7 : decode cX6_addMember 7 = .ok (.aload_n 0, 1) := xdt tbX6_addMember_0_ok 5 rfl
theorem dX6_addMember_8 : decode cX6_addMember 8 = .ok (.getfield 24, 3) := xdt tbX6_addMember_0_ok 6 rfl
theorem dX6_addMember_11 : decode cX6_addMember 11 = .ok (.iload_n 1, 1) := xdt tbX6_addMember_0_ok 7 rfl
theorem dX6_addMember_12 : decode cX6_addMember 12 = .ok (.iconst (-1), 1) := xdt tbX6_addMember_0_ok 8 rfl
theorem dX6_addMember_13 : decode cX6_addMember 13 = .ok (.iastore, 1) := xdt tbX6_addMember_0_ok 9 rfl
theorem dX6_addMember_14 : decode cX6_addMember 14 = .ok (.aload_n 0, 1) := xdt tbX6_addMember_0_ok 10 rfl
theorem dX6_addMember_15 : decode cX6_addMember 15 = .ok (.getfield 27, 3) := xdt tbX6_addMember_0_ok 11 rfl
theorem dX6_addMember_18 : decode cX6_addMember 18 = .ok (.iload_n 1, 1) := xdt tbX6_addMember_0_ok 12 rfl
theorem dX6_addMember_19 : decode cX6_addMember 19 = .ok (.iconst (-1), 1) := xdt tbX6_addMember_0_ok 13 rfl
theorem dX6_addMember_20 : decode cX6_addMember 20 = .ok (.iastore, 1) := xdt tbX6_addMember_0_ok 14 rfl
theorem dX6_addMember_21 : decode cX6_addMember 21 = .ok (.aload_n 0, 1) := xdt tbX6_addMember_0_ok 15 rfl
theorem dX6_addMember_22 : decode cX6_addMember 22 = .ok (.getfield 30, 3) := xdt tbX6_addMember_0_ok 16 rfl
theorem dX6_addMember_25 : decode cX6_addMember 25 = .ok (.iload_n 1, 1) := xdt tbX6_addMember_0_ok 17 rfl
theorem dX6_addMember_26 : decode cX6_addMember 26 = .ok (.iconst (-1), 1) := xdt tbX6_addMember_0_ok 18 rfl
theorem dX6_addMember_27 : decode cX6_addMember 27 = .ok (.iastore, 1) := xdt tbX6_addMember_0_ok 19 rfl
theorem dX6_addMember_28 : decode cX6_addMember 28 = .ok (.aload_n 0, 1) := xdt tbX6_addMember_0_ok 20 rfl
theorem dX6_addMember_29 : decode cX6_addMember 29 = .ok (.getfield 33, 3) := xdt tbX6_addMember_0_ok 21 rfl
theorem dX6_addMember_32 : decode cX6_addMember 32 = .ok (.iload_n 1, 1) := xdt tbX6_addMember_0_ok 22 rfl
theorem dX6_addMember_33 : decode cX6_addMember 33 = .ok (.iconst 1, 1) := xdt tbX6_addMember_0_ok 23 rfl
theorem dX6_addMember_34 : decode cX6_addMember 34 = .ok (.iastore, 1) := xdt tbX6_addMember_0_ok 24 rfl
theorem dX6_addMember_35 : decode cX6_addMember 35 = .ok (.aload_n 0, 1) := xdt tbX6_addMember_0_ok 25 rfl
theorem dX6_addMember_36 : decode cX6_addMember 36 = .ok (.getfield 36, 3) := xdt tbX6_addMember_0_ok 26 rfl
theorem dX6_addMember_39 : decode cX6_addMember 39 = .ok (.iload_n 1, 1) := xdt tbX6_addMember_0_ok 27 rfl
theorem dX6_addMember_40 : decode cX6_addMember 40 = .ok (.iload_n 1, 1) := xdt tbX6_addMember_0_ok 28 rfl
theorem dX6_addMember_41 : decode cX6_addMember 41 = .ok (.iastore, 1) := xdt tbX6_addMember_0_ok 29 rfl
theorem dX6_addMember_42 : decode cX6_addMember 42 = .ok (.aload_n 0, 1) := xdt tbX6_addMember_0_ok 30 rfl
theorem dX6_addMember_43 : decode cX6_addMember 43 = .ok (.getfield 18, 3) := xdt tbX6_addMember_0_ok 31 rfl
theorem dX6_addMember_46 : decode cX6_addMember 46 = .ok (.iload_n 1, 1) := xdt tbX6_addMember_0_ok 32 rfl
theorem dX6_addMember_47 : decode cX6_addMember 47 = .ok (.bipush 12, 2) := xdt tbX6_addMember_0_ok 33 rfl
theorem dX6_addMember_49 : decode cX6_addMember 49 = .ok (.idiv, 1) := xdt tbX6_addMember_0_ok 34 rfl
theorem dX6_addMember_50 : decode cX6_addMember 50 = .ok (.dup2, 1) := xdt tbX6_addMember_0_ok 35 rfl
theorem dX6_addMember_51 : decode cX6_addMember 51 = .ok (.iaload, 1) := xdt tbX6_addMember_0_ok 36 rfl
theorem dX6_addMember_52 : decode cX6_addMember 52 = .ok (.iconst 1, 1) := xdt tbX6_addMember_0_ok 37 rfl
theorem dX6_addMember_53 : decode cX6_addMember 53 = .ok (.iadd, 1) := xdt tbX6_addMember_0_ok 38 rfl
theorem dX6_addMember_54 : decode cX6_addMember 54 = .ok (.iastore, 1) := xdt tbX6_addMember_0_ok 39 rfl
theorem dX6_addMember_55 : decode cX6_addMember 55 = .ok (.return_, 1) := xdt tbX6_addMember_0_ok 40 rfl
def tbX1_readName_0 : List (Nat × Instr × Nat) := [(0, .aload_n 0, 1), (1, .dup, 1), (2, .getfield 52, 3), (5, .iconst 1, 1), (6, .iadd, 1), (7, .putfield 52, 3), (10, .aload_n 0, 1), (11, .getfield 31, 3), (14, .aload_n 0, 1), (15, .getfield 52, 3), (18, .iaload, 1), (19, .sipush 258, 3), (22, .if_icmp .eq 9, 3), (25, .aload_n 0, 1), (26, .iconst 1, 1), (27, .invokevirtual 146, 3), (30, .ireturn, 1), (31, .aload_n 0, 1), (32, .getfield 37, 3), (35, .aload_n 0, 1), (36, .getfield 52, 3), (39, .iaload, 1), (40, .istore_n 3, 1), (41, .aload_n 0, 1), (42, .getfield 12, 3), (45, .getfield 182, 3), (48, .iload_n 1, 1), (49, .bipush 26, 2), (51, .imul, 1), (52, .iload_n 3, 1), (53, .iadd, 1), (54, .iaload, 1), (55, .iconst (-1), 1), (56, .if_icmp .eq 9, 3), (59, .aload_n 0, 1), (60, .iconst 4, 1), (61, .invokevirtual 146, 3), (64, .ireturn, 1), (65, .aload_n 0, 1), (66, .dup, 1), (67, .getfield 52, 3), (70, .iconst 1, 1), (71, .iadd, 1), (72, .putfield 52, 3), (75, .aload_n 0, 1), (76, .getfield 12, 3), (79, .getfield 185, 3), (82, .iload_n 2, 1), (83, .iload_n 3, 1), (84, .iastore, 1), (85, .aload_n 0, 1), (86, .getfield 12, 3), (89, .getfield 182, 3), (92, .iload_n 1, 1), (93, .bipush 26, 2), (95, .imul, 1), (96, .iload_n 3, 1), (97, .iadd, 1), (98, .iload_n 2, 1), (99, .iastore, 1)]
theorem tbX1_readName_0_ok : tbX1_readName_0.all (fun q => decide (decode cX1_readName q.1 = .ok q.2)) = true := by decide +kernel
theorem dX1_readName_0 : decode cX1_readName 0 = .ok (.aload_n 0, 1) := xdt tbX1_readName_0_ok 0 rfl
theorem dX1_readName_1 : decode cX1_readName 1 = .ok (.dup, 1) := xdt tbX1_readName_0_ok 1 rfl
theorem dX1_readName_2 : decode cX1_readName 2 = .ok (.getfield 52, 3) := xdt tbX1_readName_0_ok 2 rfl
theorem dX1_readName_5 : decode cX1_readName 5 = .ok (.iconst 1, 1) := xdt tbX1_readName_0_ok 3 rfl
theorem dX1_readName_6 : decode cX1_readName 6 = .ok (.iadd, 1) := xdt tbX1_readName_0_ok 4 rfl
theorem dX1_readName_7 : decode cX1_readName 7 = .ok (.putfield 52, 3) := xdt tbX1_readName_0_ok 5 rfl
theorem dX1_readName_10 : decode cX1_readName 10 = .ok (.aload_n 0, 1) := xdt tbX1_readName_0_ok 6 rfl
theorem dX1_readName_11 : decode cX1_readName 11 = .ok (.getfield 31, 3) := xdt tbX1_readName_0_ok 7 rfl
theorem dX1_readName_14 : decode cX1_readName 14 = .ok (.aload_n 0, 1) := xdt tbX1_readName_0_ok 8 rfl
theorem dX1_readName_15 : decode cX1_readName 15 = .ok (.getfield 52, 3) := xdt tbX1_readName_0_ok 9 rfl
theorem dX1_readName_18 : decode cX1_readName 18 = .ok (.iaload, 1) := xdt tbX1_readName_0_ok 10 rfl
theorem dX1_readName_19 : decode cX1_readName 19 = .ok (.sipush 258, 3) := xdt tbX1_readName_0_ok 11 rfl
theorem dX1_readName_22 : decode cX1_readName 22 = .ok (.if_icmp .eq 9, 3) := xdt tbX1_readName_0_ok 12 rfl
theorem dX1_readName_25 : decode cX1_readName 25 = .ok (.aload_n 0, 1) := xdt tbX1_readName_0_ok 13 rfl
theorem dX1_readName_26 : decode cX1_readName 26 = .ok (.iconst 1, 1) := xdt tbX1_readName_0_ok 14 rfl
theorem dX1_readName_27 : decode cX1_readName 27 = .ok (.invokevirtual 146, 3) := xdt tbX1_readName_0_ok 15 rfl
theorem dX1_readName_30 : decode cX1_readName 30 = .ok (.ireturn, 1) := xdt tbX1_readName_0_ok 16 rfl
theorem dX1_readName_31 : decode cX1_readName 31 = .ok (.aload_n 0, 1) := xdt tbX1_readName_0_ok 17 rfl
theorem dX1_readName_32 : decode cX1_readName 32 = .ok (.getfield 37, 3) := xdt tbX1_readName_0_ok 18 rfl
theorem dX1_readName_35 : decode cX1_readName 35 = .ok (.aload_n 0, 1) := xdt tbX1_readName_0_ok 19 rfl
theorem dX1_readName_36 : decode cX1_readName 36 = .ok (.getfield 52, 3) := xdt tbX1_readName_0_ok 20 rfl
theorem dX1_readName_39 : decode cX1_readName 39 = .ok (.iaload, 1) := xdt tbX1_readName_0_ok 21 rfl
theorem dX1_readName_40 : decode cX1_readName 40 = .ok (.istore_n 3, 1) := xdt tbX1_readName_0_ok 22 rfl
theorem dX1_readName_41 : decode cX1_readName 41 = .ok (.aload_n 0, 1) := xdt tbX1_readName_0_ok 23 rfl
theorem dX1_readName_42 : decode cX1_readName 42 = .ok (.getfield 12, 3) := xdt tbX1_readName_0_ok 24 rfl
theorem dX1_readName_45 : decode cX1_readName 45 = .ok (.getfield 182, 3) := xdt tbX1_readName_0_ok 25 rfl
theorem dX1_readName_48 : decode cX1_readName 48 = .ok (.iload_n 1, 1) := xdt tbX1_readName_0_ok 26 rfl
theorem dX1_readName_49 : decode cX1_readName 49 = .ok (.bipush 26, 2) := xdt tbX1_readName_0_ok 27 rfl
theorem dX1_readName_51 : decode cX1_readName 51 = .ok (.imul, 1) := xdt tbX1_readName_0_ok 28 rfl
theorem dX1_readName_52 : decode cX1_readName 52 = .ok (.iload_n 3, 1) := xdt tbX1_readName_0_ok 29 rfl
theorem dX1_readName_53 : decode cX1_readName 53 = .ok (.iadd, 1) := xdt tbX1_readName_0_ok 30 rfl
theorem dX1_readName_54 : decode cX1_readName 54 = .ok (.iaload, 1) := xdt tbX1_readName_0_ok 31 rfl
theorem dX1_readName_55 : decode cX1_readName 55 = .ok (.iconst (-1), 1) := xdt tbX1_readName_0_ok 32 rfl
theorem dX1_readName_56 : decode cX1_readName 56 = .ok (.if_icmp .eq 9, 3) := xdt tbX1_readName_0_ok 33 rfl
theorem dX1_readName_59 : decode cX1_readName 59 = .ok (.aload_n 0, 1) := xdt tbX1_readName_0_ok 34 rfl
theorem dX1_readName_60 : decode cX1_readName 60 = .ok (.iconst 4, 1) := xdt tbX1_readName_0_ok 35 rfl
theorem dX1_readName_61 : decode cX1_readName 61 = .ok (.invokevirtual 146, 3) := xdt tbX1_readName_0_ok 36 rfl
theorem dX1_readName_64 : decode cX1_readName 64 = .ok (.ireturn, 1) := xdt tbX1_readName_0_ok 37 rfl
theorem dX1_readName_65 : decode cX1_readName 65 = .ok (.aload_n 0, 1) := xdt tbX1_readName_0_ok 38 rfl
theorem dX1_readName_66 : decode cX1_readName 66 = .ok (.dup, 1) := xdt tbX1_readName_0_ok 39 rfl
theorem dX1_readName_67 : decode cX1_readName 67 = .ok (.getfield 52, 3) := xdt tbX1_readName_0_ok 40 rfl
theorem dX1_readName_70 : decode cX1_readName 70 = .ok (.iconst 1, 1) := xdt tbX1_readName_0_ok 41 rfl
theorem dX1_readName_71 : decode cX1_readName 71 = .ok (.iadd, 1) := xdt tbX1_readName_0_ok 42 rfl
theorem dX1_readName_72 : decode cX1_readName 72 = .ok (.putfield 52, 3) := xdt tbX1_readName_0_ok 43 rfl
theorem dX1_readName_75 : decode cX1_readName 75 = .ok (.aload_n 0, 1) := xdt tbX1_readName_0_ok 44 rfl
theorem dX1_readName_76 : decode cX1_readName 76 = .ok (.getfield 12, 3) := xdt tbX1_readName_0_ok 45 rfl
theorem dX1_readName_79 : decode cX1_readName 79 = .ok (.getfield 185, 3) := xdt tbX1_readName_0_ok 46 rfl
theorem dX1_readName_82 : decode cX1_readName 82 = .ok (.iload_n 2, 1) := xdt tbX1_readName_0_ok 47 rfl
theorem dX1_readName_83 : decode cX1_readName 83 = .ok (.iload_n 3, 1) := xdt tbX1_readName_0_ok 48 rfl
theorem dX1_readName_84 : decode cX1_readName 84 = .ok (.iastore, 1) := xdt tbX1_readName_0_ok 49 rfl
theorem dX1_readName_85 : decode cX1_readName 85 = .ok (.aload_n 0, 1) := xdt tbX1_readName_0_ok 50 rfl
theorem dX1_readName_86 : decode cX1_readName 86 = .ok (.getfield 12, 3) := xdt tbX1_readName_0_ok 51 rfl
theorem dX1_readName_89 : decode cX1_readName 89 = .ok (.getfield 182, 3) := xdt tbX1_readName_0_ok 52 rfl
theorem dX1_readName_92 : decode cX1_readName 92 = .ok (.iload_n 1, 1) := xdt tbX1_readName_0_ok 53 rfl
theorem dX1_readName_93 : decode cX1_readName 93 = .ok (.bipush 26, 2) := xdt tbX1_readName_0_ok 54 rfl
theorem dX1_readName_95 : decode cX1_readName 95 = .ok (.imul, 1) := xdt tbX1_readName_0_ok 55 rfl
theorem dX1_readName_96 : decode cX1_readName 96 = .ok (.iload_n 3, 1) := xdt tbX1_readName_0_ok 56 rfl
theorem dX1_readName_97 : decode cX1_readName 97 = .ok (.iadd, 1) := xdt tbX1_readName_0_ok 57 rfl
theorem dX1_readName_98 : decode cX1_readName 98 = .ok (.iload_n 2, 1) := xdt tbX1_readName_0_ok 58 rfl
theorem dX1_readName_99 : decode cX1_readName 99 = .ok (.iastore, 1) := xdt tbX1_readName_0_ok 59 rfl
def tbX1_readName_60 : List (Nat × Instr × Nat) := [(100, .iconst 1, 1), (101, .ireturn, 1)]
theorem tbX1_readName_60_ok : tbX1_readName_60.all (fun q => decide (decode cX1_readName q.1 = .ok q.2)) = true := by decide +kernel
theorem dX1_readName_100 : decode cX1_readName 100 = .ok (.iconst 1, 1) := xdt tbX1_readName_60_ok 0 rfl
theorem dX1_readName_101 : decode cX1_readName 101 = .ok (.ireturn, 1) := xdt tbX1_readName_60_ok 1 rfl
def tbX1_readConstant_0 : List (Nat × Instr × Nat) := [(0, .aload_n 0, 1), (1, .iload_n 1, 1), (2, .iload_n 2, 1), (3, .invokevirtual 188, 3), (6, .ifCond .eq 12, 3), (9, .aload_n 0, 1), (10, .bipush 61, 2), (12, .invokevirtual 67, 3), (15, .ifCond .ne 5, 3), (18, .iconst 0, 1), (19, .ireturn, 1), (20, .aload_n 0, 1), (21, .getfield 31, 3), (24, .aload_n 0, 1), (25, .getfield 52, 3), (28, .iaload, 1), (29, .sipush 259, 3), (32, .if_icmp .eq 9, 3), (35, .aload_n 0, 1), (36, .iconst 1, 1), (37, .invokevirtual 146, 3), (40, .ireturn, 1), (41, .aload_n 0, 1), (42, .getfield 37, 3), (45, .aload_n 0, 1), (46, .getfield 52, 3), (49, .iaload, 1), (50, .sipush 999, 3), (53, .if_icmp .le 9, 3), (56, .aload_n 0, 1), (57, .iconst 2, 1), (58, .invokevirtual 146, 3), (61, .ireturn, 1), (62, .aload_n 0, 1), (63, .getfield 12, 3), (66, .getfield 191, 3), (69, .iload_n 2, 1), (70, .aload_n 0, 1), (71, .getfield 37, 3), (74, .aload_n 0, 1), (75, .getfield 52, 3), (78, .iaload, 1), (79, .iastore, 1), (80, .aload_n 0, 1), (81, .dup, 1), (82, .getfield 52, 3), (85, .iconst 1, 1), (86, .iadd, 1), (87, .putfield 52, 3), (90, .aload_n 0, 1), (91, .bipush 59, 2), (93, .invokevirtual 67, 3), (96, .ireturn, 1)]
theorem tbX1_readConstant_0_ok : tbX1_readConstant_0.all (fun q => decide (decode cX1_readConstant q.1 = .ok q.2)) = true := by decide +kernel
theorem dX1_readConstant_0 : decode cX1_readConstant 0 = .ok (.aload_n 0, 1) := xdt tbX1_readConstant_0_ok 0 rfl
theorem dX1_readConstant_1 : decode cX1_readConstant 1 = .ok (.iload_n 1, 1) := xdt tbX1_readConstant_0_ok 1 rfl
theorem dX1_readConstant_2 : decode cX1_readConstant 2 = .ok (.iload_n 2, 1) := xdt tbX1_readConstant_0_ok 2 rfl
theorem dX1_readConstant_3 : decode cX1_readConstant 3 = .ok (.invokevirtual 188, 3) := xdt tbX1_readConstant_0_ok 3 rfl
theorem dX1_readConstant_6 : decode cX1_readConstant 6 = .ok (.ifCond .eq 12, 3) := xdt tbX1_readConstant_0_ok 4 rfl
theorem dX1_readConstant_9 : decode cX1_readConstant 9 = .ok (.aload_n 0, 1) := xdt tbX1_readConstant_0_ok 5 rfl
theorem dX1_readConstant_10 : decode cX1_readConstant 10 = .ok (.bipush 61, 2) := xdt tbX1_readConstant_0_ok 6 rfl
theorem dX1_readConstant_12 : decode cX1_readConstant 12 = .ok (.invokevirtual 67, 3) := xdt tbX1_readConstant_0_ok 7 rfl
theorem dX1_readConstant_15 : decode cX1_readConstant 15 = .ok (.ifCond .ne 5, 3) := xdt tbX1_readConstant_0_ok 8 rfl
theorem dX1_readConstant_18 : decode cX1_readConstant 18 = .ok (.iconst 0, 1) := xdt tbX1_readConstant_0_ok 9 rfl
theorem dX1_readConstant_19 : decode cX1_readConstant 19 = .ok (.ireturn, 1) := xdt tbX1_readConstant_0_ok 10 rfl
theorem dX1_readConstant_20 : decode cX1_readConstant 20 = .ok (.aload_n 0, 1) := xdt tbX1_readConstant_0_ok 11 rfl
theorem dX1_readConstant_21 : decode cX1_readConstant 21 = .ok (.getfield 31, 3) := xdt tbX1_readConstant_0_ok 12 rfl
theorem dX1_readConstant_24 : decode cX1_readConstant 24 = .ok (.aload_n 0, 1) := xdt tbX1_readConstant_0_ok 13 rfl
theorem dX1_readConstant_25 : decode cX1_readConstant 25 = .ok (.getfield 52, 3) := xdt tbX1_readConstant_0_ok 14 rfl
theorem dX1_readConstant_28 : decode cX1_readConstant 28 = .ok (.iaload, 1) := xdt tbX1_readConstant_0_ok 15 rfl
theorem dX1_readConstant_29 : decode cX1_readConstant 29 = .ok (.sipush 259, 3) := xdt tbX1_readConstant_0_ok 16 rfl
theorem dX1_readConstant_32 : decode cX1_readConstant 32 = .ok (.if_icmp .eq 9, 3) := xdt tbX1_readConstant_0_ok 17 rfl
theorem dX1_readConstant_35 : decode cX1_readConstant 35 = .ok (.aload_n 0, 1) := xdt tbX1_readConstant_0_ok 18 rfl
theorem dX1_readConstant_36 : decode cX1_readConstant 36 = .ok (.iconst 1, 1) := xdt tbX1_readConstant_0_ok 19 rfl
theorem dX1_readConstant_37 : decode cX1_readConstant 37 = .ok (.invokevirtual 146, 3) := xdt tbX1_readConstant_0_ok 20 rfl
theorem dX1_readConstant_40 : decode cX1_readConstant 40 = .ok (.ireturn, 1) := xdt tbX1_readConstant_0_ok 21 rfl
theorem dX1_readConstant_41 : decode cX1_readConstant 41 = .ok (.aload_n 0, 1) := xdt tbX1_readConstant_0_ok 22 rfl
theorem dX1_readConstant_42 : decode cX1_readConstant 42 = .ok (.getfield 37, 3) := xdt tbX1_readConstant_0_ok 23 rfl
theorem dX1_readConstant_45 : decode cX1_readConstant 45 = .ok (.aload_n 0, 1) := xdt tbX1_readConstant_0_ok 24 rfl
theorem dX1_readConstant_46 : decode cX1_readConstant 46 = .ok (.getfield 52, 3) := xdt tbX1_readConstant_0_ok 25 rfl
theorem dX1_readConstant_49 : decode cX1_readConstant 49 = .ok (.iaload, 1) := xdt tbX1_readConstant_0_ok 26 rfl
theorem dX1_readConstant_50 : decode cX1_readConstant 50 = .ok (.sipush 999, 3) := xdt tbX1_readConstant_0_ok 27 rfl
theorem dX1_readConstant_53 : decode cX1_readConstant 53 = .ok (.if_icmp .le 9, 3) := xdt tbX1_readConstant_0_ok 28 rfl
theorem dX1_readConstant_56 : decode cX1_readConstant 56 = .ok (.aload_n 0, 1) := xdt tbX1_readConstant_0_ok 29 rfl
theorem dX1_readConstant_57 : decode cX1_readConstant 57 = .ok (.iconst 2, 1) := xdt tbX1_readConstant_0_ok 30 rfl
theorem dX1_readConstant_58 : decode cX1_readConstant 58 = .ok (.invokevirtual 146, 3) := xdt tbX1_readConstant_0_ok 31 rfl
theorem dX1_readConstant_61 : decode cX1_readConstant 61 = .ok (.ireturn, 1) := xdt tbX1_readConstant_0_ok 32 rfl
theorem dX1_readConstant_62 : decode cX1_readConstant 62 = .ok (.aload_n 0, 1) := xdt tbX1_readConstant_0_ok 33 rfl
theorem dX1_readConstant_63 : decode cX1_readConstant 63 = .ok (.getfield 12, 3) := xdt tbX1_readConstant_0_ok 34 rfl
theorem dX1_readConstant_66 : decode cX1_readConstant 66 = .ok (.getfield 191, 3) := xdt tbX1_readConstant_0_ok 35 rfl
theorem dX1_readConstant_69 : decode cX1_readConstant 69 = .ok (.iload_n 2, 1) := xdt tbX1_readConstant_0_ok 36 rfl
theorem dX1_readConstant_70 : decode cX1_readConstant 70 = .ok (.aload_n 0, 1) := xdt tbX1_readConstant_0_ok 37 rfl
theorem dX1_readConstant_71 : decode cX1_readConstant 71 = .ok (.getfield 37, 3) := xdt tbX1_readConstant_0_ok 38 rfl
theorem dX1_readConstant_74 : decode cX1_readConstant 74 = .ok (.aload_n 0, 1) := xdt tbX1_readConstant_0_ok 39 rfl
theorem dX1_readConstant_75 : decode cX1_readConstant 75 = .ok (.getfield 52, 3) := xdt tbX1_readConstant_0_ok 40 rfl
theorem dX1_readConstant_78 : decode cX1_readConstant 78 = .ok (.iaload, 1) := xdt tbX1_readConstant_0_ok 41 rfl
theorem dX1_readConstant_79 : decode cX1_readConstant 79 = .ok (.iastore, 1) := xdt tbX1_readConstant_0_ok 42 rfl
theorem dX1_readConstant_80 : decode cX1_readConstant 80 = .ok (.aload_n 0, 1) := xdt tbX1_readConstant_0_ok 43 rfl
theorem dX1_readConstant_81 : decode cX1_readConstant 81 = .ok (.dup, 1) := xdt tbX1_readConstant_0_ok 44 rfl
theorem dX1_readConstant_82 : decode cX1_readConstant 82 = .ok (.getfield 52, 3) := xdt tbX1_readConstant_0_ok 45 rfl
theorem dX1_readConstant_85 : decode cX1_readConstant 85 = .ok (.iconst 1, 1) := xdt tbX1_readConstant_0_ok 46 rfl
theorem dX1_readConstant_86 : decode cX1_readConstant 86 = .ok (.iadd, 1) := xdt tbX1_readConstant_0_ok 47 rfl
theorem dX1_readConstant_87 : decode cX1_readConstant 87 = .ok (.putfield 52, 3) := xdt tbX1_readConstant_0_ok 48 rfl
theorem dX1_readConstant_90 : decode cX1_readConstant 90 = .ok (.aload_n 0, 1) := xdt tbX1_readConstant_0_ok 49 rfl
theorem dX1_readConstant_91 : decode cX1_readConstant 91 = .ok (.bipush 59, 2) := xdt tbX1_readConstant_0_ok 50 rfl
theorem dX1_readConstant_93 : decode cX1_readConstant 93 = .ok (.invokevirtual 67, 3) := xdt tbX1_readConstant_0_ok 51 rfl
theorem dX1_readConstant_96 : decode cX1_readConstant 96 = .ok (.ireturn, 1) := xdt tbX1_readConstant_0_ok 52 rfl
def tbX1_readKey_0 : List (Nat × Instr × Nat) := [(0, .aload_n 0, 1), (1, .getfield 37, 3), (4, .aload_n 0, 1), (5, .getfield 52, 3), (8, .iaload, 1), (9, .istore_n 1, 1), (10, .aload_n 0, 1), (11, .dup, 1), (12, .getfield 52, 3), (15, .iconst 1, 1), (16, .iadd, 1), (17, .putfield 52, 3), (20, .aload_n 0, 1), (21, .getfield 31, 3), (24, .aload_n 0, 1), (25, .getfield 52, 3), (28, .iaload, 1), (29, .bipush 46, 2), (31, .if_icmp .ne 55, 3), (34, .aload_n 0, 1), (35, .dup, 1), (36, .getfield 52, 3), (39, .iconst 1, 1), (40, .iadd, 1), (41, .putfield 52, 3), (44, .aload_n 0, 1), (45, .getfield 31, 3), (48, .aload_n 0, 1), (49, .getfield 52, 3), (52, .iaload, 1), (53, .sipush 258, 3), (56, .if_icmp .ne 30, 3), (59, .aload_n 0, 1), (60, .dup, 1), (61, .getfield 52, 3), (64, .iconst 1, 1), (65, .iadd, 1), (66, .putfield 52, 3), (69, .iload_n 1, 1), (70, .bipush 26, 2), (72, .imul, 1), (73, .aload_n 0, 1), (74, .getfield 37, 3), (77, .aload_n 0, 1), (78, .getfield 52, 3), (81, .iconst 1, 1), (82, .isub, 1), (83, .iaload, 1), (84, .iadd, 1), (85, .ireturn, 1), (86, .aload_n 0, 1), (87, .iconst 1, 1), (88, .putfield 56, 3), (91, .aload_n 0, 1), (92, .aload_n 0, 1), (93, .getfield 34, 3), (96, .aload_n 0, 1), (97, .getfield 52, 3), (100, .iaload, 1), (101, .putfield 73, 3)]
theorem tbX1_readKey_0_ok : tbX1_readKey_0.all (fun q => decide (decode cX1_readKey q.1 = .ok q.2)) = true := by decide +kernel
theorem dX1_readKey_0 : decode cX1_readKey 0 = .ok (.aload_n 0, 1) := xdt tbX1_readKey_0_ok 0 rfl
theorem dX1_readKey_1 : decode cX1_readKey 1 = .ok (.getfield 37, 3) := xdt tbX1_readKey_0_ok 1 rfl
theorem dX1_readKey_4 : decode cX1_readKey 4 = .ok (.aload_n 0, 1) := xdt tbX1_readKey_0_ok 2 rfl
theorem dX1_readKey_5 : decode cX1_readKey 5 = .ok (.getfield 52, 3) := xdt tbX1_readKey_0_ok 3 rfl
theorem dX1_readKey_8 : decode cX1_readKey 8 = .ok (.iaload, 1) := xdt tbX1_readKey_0_ok 4 rfl
theorem dX1_readKey_9 : decode cX1_readKey 9 = .ok (.istore_n 1, 1) := xdt tbX1_readKey_0_ok 5 rfl
theorem dX1_readKey_10 : decode cX1_readKey 10 = .ok (.aload_n 0, 1) := xdt tbX1_readKey_0_ok 6 rfl
theorem dX1_readKey_11 : decode cX1_readKey 11 = .ok (.dup, 1) := xdt tbX1_readKey_0_ok 7 rfl
theorem dX1_readKey_12 : decode cX1_readKey 12 = .ok (.getfield 52, 3) := xdt tbX1_readKey_0_ok 8 rfl
theorem dX1_readKey_15 : decode cX1_readKey 15 = .ok (.iconst 1, 1) := xdt tbX1_readKey_0_ok 9 rfl
theorem dX1_readKey_16 : decode cX1_readKey 16 = .ok (.iadd, 1) := xdt tbX1_readKey_0_ok 10 rfl
theorem dX1_readKey_17 : decode cX1_readKey 17 = .ok (.putfield 52, 3) := xdt tbX1_readKey_0_ok 11 rfl
theorem dX1_readKey_20 : decode cX1_readKey 20 = .ok (.aload_n 0, 1) := xdt tbX1_readKey_0_ok 12 rfl
theorem dX1_readKey_21 : decode cX1_readKey 21 = .ok (.getfield 31, 3) := xdt tbX1_readKey_0_ok 13 rfl
theorem dX1_readKey_24 : decode cX1_readKey 24 = .ok (.aload_n 0, 1) := xdt tbX1_readKey_0_ok 14 rfl
theorem dX1_readKey_25 : decode cX1_readKey 25 = .ok (.getfield 52, 3) := xdt tbX1_readKey_0_ok 15 rfl
theorem dX1_readKey_28 : decode cX1_readKey 28 = .ok (.iaload, 1) := xdt tbX1_readKey_0_ok 16 rfl
theorem dX1_readKey_29 : decode cX1_readKey 29 = .ok (.bipush 46, 2) := xdt tbX1_readKey_0_ok 17 rfl
theorem dX1_readKey_31 : decode cX1_readKey 31 = .ok (.if_icmp .ne 55, 3) := xdt tbX1_readKey_0_ok 18 rfl
theorem dX1_readKey_34 : decode cX1_readKey 34 = .ok (.aload_n 0, 1) := xdt tbX1_readKey_0_ok 19 rfl
theorem dX1_readKey_35 : decode cX1_readKey 35 = .ok (.dup, 1) := xdt tbX1_readKey_0_ok 20 rfl
theorem dX1_readKey_36 : decode cX1_readKey 36 = .ok (.getfield 52, 3) := xdt tbX1_readKey_0_ok 21 rfl
theorem dX1_readKey_39 : decode cX1_readKey 39 = .ok (.iconst 1, 1) := xdt tbX1_readKey_0_ok 22 rfl
theorem dX1_readKey_40 : decode cX1_readKey 40 = .ok (.iadd, 1) := xdt tbX1_readKey_0_ok 23 rfl
theorem dX1_readKey_41 : decode cX1_readKey 41 = .ok (.putfield 52, 3) := xdt tbX1_readKey_0_ok 24 rfl
theorem dX1_readKey_44 : decode cX1_readKey 44 = .ok (.aload_n 0, 1) := xdt tbX1_readKey_0_ok 25 rfl
theorem dX1_readKey_45 : decode cX1_readKey 45 = .ok (.getfield 31, 3) := xdt tbX1_readKey_0_ok 26 rfl
theorem dX1_readKey_48 : decode cX1_readKey 48 = .ok (.aload_n 0, 1) := xdt tbX1_readKey_0_ok 27 rfl
theorem dX1_readKey_49 : decode cX1_readKey 49 = .ok (.getfield 52, 3) := xdt tbX1_readKey_0_ok 28 rfl
theorem dX1_readKey_52 : decode cX1_readKey 52 = .ok (.iaload, 1) := xdt tbX1_readKey_0_ok 29 rfl
theorem dX1_readKey_53 : decode cX1_readKey 53 = .ok (.sipush 258, 3) := xdt tbX1_readKey_0_ok 30 rfl
theorem dX1_readKey_56 : decode cX1_readKey 56 = .ok (.if_icmp .ne 30, 3) := xdt tbX1_readKey_0_ok 31 rfl
theorem dX1_readKey_59 : decode cX1_readKey 59 = .ok (.aload_n 0, 1) := xdt tbX1_readKey_0_ok 32 rfl
theorem dX1_readKey_60 : decode cX1_readKey 60 = .ok (.dup, 1) := xdt tbX1_readKey_0_ok 33 rfl
theorem dX1_readKey_61 : decode cX1_readKey 61 = .ok (.getfield 52, 3) := xdt tbX1_readKey_0_ok 34 rfl
theorem dX1_readKey_64 : decode cX1_readKey 64 = .ok (.iconst 1, 1) := xdt tbX1_readKey_0_ok 35 rfl
theorem dX1_readKey_65 : decode cX1_readKey 65 = .ok (.iadd, 1) := xdt tbX1_readKey_0_ok 36 rfl
theorem dX1_readKey_66 : decode cX1_readKey 66 = .ok (.putfield 52, 3) := xdt tbX1_readKey_0_ok 37 rfl
theorem dX1_readKey_69 : decode cX1_readKey 69 = .ok (.iload_n 1, 1) := xdt tbX1_readKey_0_ok 38 rfl
theorem dX1_readKey_70 : decode cX1_readKey 70 = .ok (.bipush 26, 2) := xdt tbX1_readKey_0_ok 39 rfl
theorem dX1_readKey_72 : decode cX1_readKey 72 = .ok (.imul, 1) := xdt tbX1_readKey_0_ok 40 rfl
theorem dX1_readKey_73 : decode cX1_readKey 73 = .ok (.aload_n 0, 1) := xdt tbX1_readKey_0_ok 41 rfl
theorem dX1_readKey_74 : decode cX1_readKey 74 = .ok (.getfield 37, 3) := xdt tbX1_readKey_0_ok 42 rfl
theorem dX1_readKey_77 : decode cX1_readKey 77 = .ok (.aload_n 0, 1) := xdt tbX1_readKey_0_ok 43 rfl
theorem dX1_readKey_78 : decode cX1_readKey 78 = .ok (.getfield 52, 3) := xdt tbX1_readKey_0_ok 44 rfl
theorem dX1_readKey_81 : decode cX1_readKey 81 = .ok (.iconst 1, 1) := xdt tbX1_readKey_0_ok 45 rfl
theorem dX1_readKey_82 : decode cX1_readKey 82 = .ok (.isub, 1) := xdt tbX1_readKey_0_ok 46 rfl
theorem dX1_readKey_83 : decode cX1_readKey 83 = .ok (.iaload, 1) := xdt tbX1_readKey_0_ok 47 rfl
theorem dX1_readKey_84 : decode cX1_readKey 84 = .ok (.iadd, 1) := xdt tbX1_readKey_0_ok 48 rfl
theorem dX1_readKey_85 : decode cX1_readKey 85 = .ok (.ireturn, 1) := xdt tbX1_readKey_0_ok 49 rfl
theorem dX1_readKey_86 : decode cX1_readKey 86 = .ok (.aload_n 0, 1) := xdt tbX1_readKey_0_ok 50 rfl
theorem dX1_readKey_87 : decode cX1_readKey 87 = .ok (.iconst 1, 1) := xdt tbX1_readKey_0_ok 51 rfl
theorem dX1_readKey_88 : decode cX1_readKey 88 = .ok (.putfield 56, 3) := xdt tbX1_readKey_0_ok 52 rfl
theorem dX1_readKey_91 : decode cX1_readKey 91 = .ok (.aload_n 0, 1) := xdt tbX1_readKey_0_ok 53 rfl
theorem dX1_readKey_92 : decode cX1_readKey 92 = .ok (.aload_n 0, 1) := xdt tbX1_readKey_0_ok 54 rfl
theorem dX1_readKey_93 : decode cX1_readKey 93 = .ok (.getfield 34, 3) := xdt tbX1_readKey_0_ok 55 rfl
theorem dX1_readKey_96 : decode cX1_readKey 96 = .ok (.aload_n 0, 1) := xdt tbX1_readKey_0_ok 56 rfl
theorem dX1_readKey_97 : decode cX1_readKey 97 = .ok (.getfield 52, 3) := xdt tbX1_readKey_0_ok 57 rfl
theorem dX1_readKey_100 : decode cX1_readKey 100 = .ok (.iaload, 1) := xdt tbX1_readKey_0_ok 58 rfl
theorem dX1_readKey_101 : decode cX1_readKey 101 = .ok (.putfield 73, 3) := xdt tbX1_readKey_0_ok 59 rfl
def tbX1_readKey_60 : List (Nat × Instr × Nat) := [(104, .iconst (-1), 1), (105, .ireturn, 1)]
theorem tbX1_readKey_60_ok : tbX1_readKey_60.all (fun q => decide (decode cX1_readKey q.1 = .ok q.2)) = true := by decide +kernel
theorem dX1_readKey_104 : decode cX1_readKey 104 = .ok (.iconst (-1), 1) := xdt tbX1_readKey_60_ok 0 rfl
theorem dX1_readKey_105 : decode cX1_readKey 105 = .ok (.ireturn, 1) := xdt tbX1_readKey_60_ok 1 rfl
def tbX1_termFaultHere_0 : List (Nat × Instr × Nat) := [(0, .aload_n 0, 1), (1, .getfield 31, 3), (4, .aload_n 0, 1), (5, .getfield 52, 3), (8, .iaload, 1), (9, .lookupswitch 63 #[(40, 60), (257, 60), (259, 43), (267, 60)], 43), (52, .aload_n 0, 1), (53, .getfield 37, 3), (56, .aload_n 0, 1), (57, .getfield 52, 3), (60, .iaload, 1), (61, .sipush 999, 3), (64, .if_icmp .le 10, 3), (67, .iconst 2, 1), (68, .ireturn, 1), (69, .goto 5, 3), (72, .iconst 1, 1), (73, .ireturn, 1), (74, .aload_n 0, 1), (75, .getfield 222, 3), (78, .bipush 8, 2), (80, .if_icmp .ge 7, 3), (83, .iconst 0, 1), (84, .goto 4, 3), (87, .iconst 3, 1), (88, .ireturn, 1)]
theorem tbX1_termFaultHere_0_ok : tbX1_termFaultHere_0.all (fun q => decide (decode cX1_termFaultHere q.1 = .ok q.2)) = true := by decide +kernel
theorem dX1_termFaultHere_0 : decode cX1_termFaultHere 0 = .ok (.aload_n 0, 1) := xdt tbX1_termFaultHere_0_ok 0 rfl
theorem dX1_termFaultHere_1 : decode cX1_termFaultHere 1 = .ok (.getfield 31, 3) := xdt tbX1_termFaultHere_0_ok 1 rfl
theorem dX1_termFaultHere_4 : decode cX1_termFaultHere 4 = .ok (.aload_n 0, 1) := xdt tbX1_termFaultHere_0_ok 2 rfl
theorem dX1_termFaultHere_5 : decode cX1_termFaultHere 5 = .ok (.getfield 52, 3) := xdt tbX1_termFaultHere_0_ok 3 rfl
theorem dX1_termFaultHere_8 : decode cX1_termFaultHere 8 = .ok (.iaload, 1) := xdt tbX1_termFaultHere_0_ok 4 rfl
theorem dX1_termFaultHere_9 : decode cX1_termFaultHere 9 = .ok (.lookupswitch 63 #[(40, 60), (257, 60), (259, 43), (267, 60)], 43) := xdt tbX1_termFaultHere_0_ok 5 rfl
theorem dX1_termFaultHere_52 : decode cX1_termFaultHere 52 = .ok (.aload_n 0, 1) := xdt tbX1_termFaultHere_0_ok 6 rfl
theorem dX1_termFaultHere_53 : decode cX1_termFaultHere 53 = .ok (.getfield 37, 3) := xdt tbX1_termFaultHere_0_ok 7 rfl
theorem dX1_termFaultHere_56 : decode cX1_termFaultHere 56 = .ok (.aload_n 0, 1) := xdt tbX1_termFaultHere_0_ok 8 rfl
theorem dX1_termFaultHere_57 : decode cX1_termFaultHere 57 = .ok (.getfield 52, 3) := xdt tbX1_termFaultHere_0_ok 9 rfl
theorem dX1_termFaultHere_60 : decode cX1_termFaultHere 60 = .ok (.iaload, 1) := xdt tbX1_termFaultHere_0_ok 10 rfl
theorem dX1_termFaultHere_61 : decode cX1_termFaultHere 61 = .ok (.sipush 999, 3) := xdt tbX1_termFaultHere_0_ok 11 rfl
theorem dX1_termFaultHere_64 : decode cX1_termFaultHere 64 = .ok (.if_icmp .le 10, 3) := xdt tbX1_termFaultHere_0_ok 12 rfl
theorem dX1_termFaultHere_67 : decode cX1_termFaultHere 67 = .ok (.iconst 2, 1) := xdt tbX1_termFaultHere_0_ok 13 rfl
theorem dX1_termFaultHere_68 : decode cX1_termFaultHere 68 = .ok (.ireturn, 1) := xdt tbX1_termFaultHere_0_ok 14 rfl
theorem dX1_termFaultHere_69 : decode cX1_termFaultHere 69 = .ok (.goto 5, 3) := xdt tbX1_termFaultHere_0_ok 15 rfl
theorem dX1_termFaultHere_72 : decode cX1_termFaultHere 72 = .ok (.iconst 1, 1) := xdt tbX1_termFaultHere_0_ok 16 rfl
theorem dX1_termFaultHere_73 : decode cX1_termFaultHere 73 = .ok (.ireturn, 1) := xdt tbX1_termFaultHere_0_ok 17 rfl
theorem dX1_termFaultHere_74 : decode cX1_termFaultHere 74 = .ok (.aload_n 0, 1) := xdt tbX1_termFaultHere_0_ok 18 rfl
theorem dX1_termFaultHere_75 : decode cX1_termFaultHere 75 = .ok (.getfield 222, 3) := xdt tbX1_termFaultHere_0_ok 19 rfl
theorem dX1_termFaultHere_78 : decode cX1_termFaultHere 78 = .ok (.bipush 8, 2) := xdt tbX1_termFaultHere_0_ok 20 rfl
theorem dX1_termFaultHere_80 : decode cX1_termFaultHere 80 = .ok (.if_icmp .ge 7, 3) := xdt tbX1_termFaultHere_0_ok 21 rfl
theorem dX1_termFaultHere_83 : decode cX1_termFaultHere 83 = .ok (.iconst 0, 1) := xdt tbX1_termFaultHere_0_ok 22 rfl
theorem dX1_termFaultHere_84 : decode cX1_termFaultHere 84 = .ok (.goto 4, 3) := xdt tbX1_termFaultHere_0_ok 23 rfl
theorem dX1_termFaultHere_87 : decode cX1_termFaultHere 87 = .ok (.iconst 3, 1) := xdt tbX1_termFaultHere_0_ok 24 rfl
theorem dX1_termFaultHere_88 : decode cX1_termFaultHere 88 = .ok (.ireturn, 1) := xdt tbX1_termFaultHere_0_ok 25 rfl
def tbX1_putCode_0 : List (Nat × Instr × Nat) := [(0, .aload_n 0, 1), (1, .getfield 12, 3), (4, .getfield 195, 3), (7, .astore 4, 2), (9, .aload 4, 2), (11, .getfield 219, 3), (14, .sipush 600, 3), (17, .if_icmp .ge 49, 3), (20, .aload 4, 2), (22, .getfield 243, 3), (25, .aload 4, 2), (27, .getfield 219, 3), (30, .iload_n 1, 1), (31, .iastore, 1), (32, .aload 4, 2), (34, .getfield 246, 3), (37, .aload 4, 2), (39, .getfield 219, 3), (42, .iload_n 2, 1), (43, .iastore, 1), (44, .aload_n 0, 1), (45, .getfield 22, 3), (48, .aload 4, 2), (50, .getfield 219, 3), (53, .iload_n 3, 1), (54, .iastore, 1), (55, .aload 4, 2), (57, .dup, 1), (58, .getfield 219, 3), (61, .iconst 1, 1), (62, .iadd, 1), (63, .putfield 219, 3), (66, .return_, 1)]
theorem tbX1_putCode_0_ok : tbX1_putCode_0.all (fun q => decide (decode cX1_putCode q.1 = .ok q.2)) = true := by decide +kernel
theorem dX1_putCode_0 : decode cX1_putCode 0 = .ok (.aload_n 0, 1) := xdt tbX1_putCode_0_ok 0 rfl
theorem dX1_putCode_1 : decode cX1_putCode 1 = .ok (.getfield 12, 3) := xdt tbX1_putCode_0_ok 1 rfl
theorem dX1_putCode_4 : decode cX1_putCode 4 = .ok (.getfield 195, 3) := xdt tbX1_putCode_0_ok 2 rfl
theorem dX1_putCode_7 : decode cX1_putCode 7 = .ok (.astore 4, 2) := xdt tbX1_putCode_0_ok 3 rfl
theorem dX1_putCode_9 : decode cX1_putCode 9 = .ok (.aload 4, 2) := xdt tbX1_putCode_0_ok 4 rfl
theorem dX1_putCode_11 : decode cX1_putCode 11 = .ok (.getfield 219, 3) := xdt tbX1_putCode_0_ok 5 rfl
theorem dX1_putCode_14 : decode cX1_putCode 14 = .ok (.sipush 600, 3) := xdt tbX1_putCode_0_ok 6 rfl
theorem dX1_putCode_17 : decode cX1_putCode 17 = .ok (.if_icmp .ge 49, 3) := xdt tbX1_putCode_0_ok 7 rfl
theorem dX1_putCode_20 : decode cX1_putCode 20 = .ok (.aload 4, 2) := xdt tbX1_putCode_0_ok 8 rfl
theorem dX1_putCode_22 : decode cX1_putCode 22 = .ok (.getfield 243, 3) := xdt tbX1_putCode_0_ok 9 rfl
theorem dX1_putCode_25 : decode cX1_putCode 25 = .ok (.aload 4, 2) := xdt tbX1_putCode_0_ok 10 rfl
theorem dX1_putCode_27 : decode cX1_putCode 27 = .ok (.getfield 219, 3) := xdt tbX1_putCode_0_ok 11 rfl
theorem dX1_putCode_30 : decode cX1_putCode 30 = .ok (.iload_n 1, 1) := xdt tbX1_putCode_0_ok 12 rfl
theorem dX1_putCode_31 : decode cX1_putCode 31 = .ok (.iastore, 1) := xdt tbX1_putCode_0_ok 13 rfl
theorem dX1_putCode_32 : decode cX1_putCode 32 = .ok (.aload 4, 2) := xdt tbX1_putCode_0_ok 14 rfl
theorem dX1_putCode_34 : decode cX1_putCode 34 = .ok (.getfield 246, 3) := xdt tbX1_putCode_0_ok 15 rfl
theorem dX1_putCode_37 : decode cX1_putCode 37 = .ok (.aload 4, 2) := xdt tbX1_putCode_0_ok 16 rfl
theorem dX1_putCode_39 : decode cX1_putCode 39 = .ok (.getfield 219, 3) := xdt tbX1_putCode_0_ok 17 rfl
theorem dX1_putCode_42 : decode cX1_putCode 42 = .ok (.iload_n 2, 1) := xdt tbX1_putCode_0_ok 18 rfl
theorem dX1_putCode_43 : decode cX1_putCode 43 = .ok (.iastore, 1) := xdt tbX1_putCode_0_ok 19 rfl
theorem dX1_putCode_44 : decode cX1_putCode 44 = .ok (.aload_n 0, 1) := xdt tbX1_putCode_0_ok 20 rfl
theorem dX1_putCode_45 : decode cX1_putCode 45 = .ok (.getfield 22, 3) := xdt tbX1_putCode_0_ok 21 rfl
theorem dX1_putCode_48 : decode cX1_putCode 48 = .ok (.aload 4, 2) := xdt tbX1_putCode_0_ok 22 rfl
theorem dX1_putCode_50 : decode cX1_putCode 50 = .ok (.getfield 219, 3) := xdt tbX1_putCode_0_ok 23 rfl
theorem dX1_putCode_53 : decode cX1_putCode 53 = .ok (.iload_n 3, 1) := xdt tbX1_putCode_0_ok 24 rfl
theorem dX1_putCode_54 : decode cX1_putCode 54 = .ok (.iastore, 1) := xdt tbX1_putCode_0_ok 25 rfl
theorem dX1_putCode_55 : decode cX1_putCode 55 = .ok (.aload 4, 2) := xdt tbX1_putCode_0_ok 26 rfl
theorem dX1_putCode_57 : decode cX1_putCode 57 = .ok (.dup, 1) := xdt tbX1_putCode_0_ok 27 rfl
theorem dX1_putCode_58 : decode cX1_putCode 58 = .ok (.getfield 219, 3) := xdt tbX1_putCode_0_ok 28 rfl
theorem dX1_putCode_61 : decode cX1_putCode 61 = .ok (.iconst 1, 1) := xdt tbX1_putCode_0_ok 29 rfl
theorem dX1_putCode_62 : decode cX1_putCode 62 = .ok (.iadd, 1) := xdt tbX1_putCode_0_ok 30 rfl
theorem dX1_putCode_63 : decode cX1_putCode 63 = .ok (.putfield 219, 3) := xdt tbX1_putCode_0_ok 31 rfl
theorem dX1_putCode_66 : decode cX1_putCode 66 = .ok (.return_, 1) := xdt tbX1_putCode_0_ok 32 rfl
def tbX1_operatorHere_0 : List (Nat × Instr × Nat) := [(0, .aload_n 0, 1), (1, .getfield 31, 3), (4, .aload_n 0, 1), (5, .getfield 52, 3), (8, .iaload, 1), (9, .tableswitch 38 42 45 #[35, 31, 38, 33], 31), (40, .iconst 4, 1), (41, .ireturn, 1), (42, .iconst 5, 1), (43, .ireturn, 1), (44, .bipush 6, 2), (46, .ireturn, 1), (47, .iconst (-1), 1), (48, .ireturn, 1)]
theorem tbX1_operatorHere_0_ok : tbX1_operatorHere_0.all (fun q => decide (decode cX1_operatorHere q.1 = .ok q.2)) = true := by decide +kernel
theorem dX1_operatorHere_0 : decode cX1_operatorHere 0 = .ok (.aload_n 0, 1) := xdt tbX1_operatorHere_0_ok 0 rfl
theorem dX1_operatorHere_1 : decode cX1_operatorHere 1 = .ok (.getfield 31, 3) := xdt tbX1_operatorHere_0_ok 1 rfl
theorem dX1_operatorHere_4 : decode cX1_operatorHere 4 = .ok (.aload_n 0, 1) := xdt tbX1_operatorHere_0_ok 2 rfl
theorem dX1_operatorHere_5 : decode cX1_operatorHere 5 = .ok (.getfield 52, 3) := xdt tbX1_operatorHere_0_ok 3 rfl
theorem dX1_operatorHere_8 : decode cX1_operatorHere 8 = .ok (.iaload, 1) := xdt tbX1_operatorHere_0_ok 4 rfl
theorem dX1_operatorHere_9 : decode cX1_operatorHere 9 = .ok (.tableswitch 38 42 45 #[35, 31, 38, 33], 31) := xdt tbX1_operatorHere_0_ok 5 rfl
theorem dX1_operatorHere_40 : decode cX1_operatorHere 40 = .ok (.iconst 4, 1) := xdt tbX1_operatorHere_0_ok 6 rfl
theorem dX1_operatorHere_41 : decode cX1_operatorHere 41 = .ok (.ireturn, 1) := xdt tbX1_operatorHere_0_ok 7 rfl
theorem dX1_operatorHere_42 : decode cX1_operatorHere 42 = .ok (.iconst 5, 1) := xdt tbX1_operatorHere_0_ok 8 rfl
theorem dX1_operatorHere_43 : decode cX1_operatorHere 43 = .ok (.ireturn, 1) := xdt tbX1_operatorHere_0_ok 9 rfl
theorem dX1_operatorHere_44 : decode cX1_operatorHere 44 = .ok (.bipush 6, 2) := xdt tbX1_operatorHere_0_ok 10 rfl
theorem dX1_operatorHere_46 : decode cX1_operatorHere 46 = .ok (.ireturn, 1) := xdt tbX1_operatorHere_0_ok 11 rfl
theorem dX1_operatorHere_47 : decode cX1_operatorHere 47 = .ok (.iconst (-1), 1) := xdt tbX1_operatorHere_0_ok 12 rfl
theorem dX1_operatorHere_48 : decode cX1_operatorHere 48 = .ok (.ireturn, 1) := xdt tbX1_operatorHere_0_ok 13 rfl
def tbX1_readTerms_0 : List (Nat × Instr × Nat) := [(0, .aload_n 0, 1), (1, .invokevirtual 231, 3), (4, .ifCond .ne 5, 3), (7, .iconst 0, 1), (8, .ireturn, 1), (9, .iconst 0, 1), (10, .istore_n 1, 1), (11, .iload_n 1, 1), (12, .bipush 8, 2), (14, .if_icmp .ge 47, 3), (17, .aload_n 0, 1), (18, .invokevirtual 234, 3), (21, .istore_n 2, 1), (22, .iload_n 2, 1), (23, .iconst (-1), 1), (24, .if_icmp .ne 5, 3), (27, .iconst 1, 1), (28, .ireturn, 1), (29, .aload_n 0, 1), (30, .dup, 1), (31, .getfield 52, 3), (34, .iconst 1, 1), (35, .iadd, 1), (36, .putfield 52, 3), (39, .aload_n 0, 1), (40, .invokevirtual 231, 3), (43, .ifCond .ne 5, 3), (46, .iconst 0, 1), (47, .ireturn, 1), (48, .aload_n 0, 1), (49, .iload_n 2, 1), (50, .iconst 0, 1), (51, .iconst 0, 1), (52, .invokevirtual 237, 3), (55, .iinc 1 1, 3), (58, .goto (-47), 3), (61, .iconst 1, 1), (62, .ireturn, 1)]
theorem tbX1_readTerms_0_ok : tbX1_readTerms_0.all (fun q => decide (decode cX1_readTerms q.1 = .ok q.2)) = true := by decide +kernel
theorem dX1_readTerms_0 : decode cX1_readTerms 0 = .ok (.aload_n 0, 1) := xdt tbX1_readTerms_0_ok 0 rfl
theorem dX1_readTerms_1 : decode cX1_readTerms 1 = .ok (.invokevirtual 231, 3) := xdt tbX1_readTerms_0_ok 1 rfl
theorem dX1_readTerms_4 : decode cX1_readTerms 4 = .ok (.ifCond .ne 5, 3) := xdt tbX1_readTerms_0_ok 2 rfl
theorem dX1_readTerms_7 : decode cX1_readTerms 7 = .ok (.iconst 0, 1) := xdt tbX1_readTerms_0_ok 3 rfl
theorem dX1_readTerms_8 : decode cX1_readTerms 8 = .ok (.ireturn, 1) := xdt tbX1_readTerms_0_ok 4 rfl
theorem dX1_readTerms_9 : decode cX1_readTerms 9 = .ok (.iconst 0, 1) := xdt tbX1_readTerms_0_ok 5 rfl
theorem dX1_readTerms_10 : decode cX1_readTerms 10 = .ok (.istore_n 1, 1) := xdt tbX1_readTerms_0_ok 6 rfl
theorem dX1_readTerms_11 : decode cX1_readTerms 11 = .ok (.iload_n 1, 1) := xdt tbX1_readTerms_0_ok 7 rfl
theorem dX1_readTerms_12 : decode cX1_readTerms 12 = .ok (.bipush 8, 2) := xdt tbX1_readTerms_0_ok 8 rfl
theorem dX1_readTerms_14 : decode cX1_readTerms 14 = .ok (.if_icmp .ge 47, 3) := xdt tbX1_readTerms_0_ok 9 rfl
theorem dX1_readTerms_17 : decode cX1_readTerms 17 = .ok (.aload_n 0, 1) := xdt tbX1_readTerms_0_ok 10 rfl
theorem dX1_readTerms_18 : decode cX1_readTerms 18 = .ok (.invokevirtual 234, 3) := xdt tbX1_readTerms_0_ok 11 rfl
theorem dX1_readTerms_21 : decode cX1_readTerms 21 = .ok (.istore_n 2, 1) := xdt tbX1_readTerms_0_ok 12 rfl
theorem dX1_readTerms_22 : decode cX1_readTerms 22 = .ok (.iload_n 2, 1) := xdt tbX1_readTerms_0_ok 13 rfl
theorem dX1_readTerms_23 : decode cX1_readTerms 23 = .ok (.iconst (-1), 1) := xdt tbX1_readTerms_0_ok 14 rfl
theorem dX1_readTerms_24 : decode cX1_readTerms 24 = .ok (.if_icmp .ne 5, 3) := xdt tbX1_readTerms_0_ok 15 rfl
theorem dX1_readTerms_27 : decode cX1_readTerms 27 = .ok (.iconst 1, 1) := xdt tbX1_readTerms_0_ok 16 rfl
theorem dX1_readTerms_28 : decode cX1_readTerms 28 = .ok (.ireturn, 1) := xdt tbX1_readTerms_0_ok 17 rfl
theorem dX1_readTerms_29 : decode cX1_readTerms 29 = .ok (.aload_n 0, 1) := xdt tbX1_readTerms_0_ok 18 rfl
theorem dX1_readTerms_30 : decode cX1_readTerms 30 = .ok (.dup, 1) := xdt tbX1_readTerms_0_ok 19 rfl
theorem dX1_readTerms_31 : decode cX1_readTerms 31 = .ok (.getfield 52, 3) := xdt tbX1_readTerms_0_ok 20 rfl
theorem dX1_readTerms_34 : decode cX1_readTerms 34 = .ok (.iconst 1, 1) := xdt tbX1_readTerms_0_ok 21 rfl
theorem dX1_readTerms_35 : decode cX1_readTerms 35 = .ok (.iadd, 1) := xdt tbX1_readTerms_0_ok 22 rfl
theorem dX1_readTerms_36 : decode cX1_readTerms 36 = .ok (.putfield 52, 3) := xdt tbX1_readTerms_0_ok 23 rfl
theorem dX1_readTerms_39 : decode cX1_readTerms 39 = .ok (.aload_n 0, 1) := xdt tbX1_readTerms_0_ok 24 rfl
theorem dX1_readTerms_40 : decode cX1_readTerms 40 = .ok (.invokevirtual 231, 3) := xdt tbX1_readTerms_0_ok 25 rfl
theorem dX1_readTerms_43 : decode cX1_readTerms 43 = .ok (.ifCond .ne 5, 3) := xdt tbX1_readTerms_0_ok 26 rfl
theorem dX1_readTerms_46 : decode cX1_readTerms 46 = .ok (.iconst 0, 1) := xdt tbX1_readTerms_0_ok 27 rfl
theorem dX1_readTerms_47 : decode cX1_readTerms 47 = .ok (.ireturn, 1) := xdt tbX1_readTerms_0_ok 28 rfl
theorem dX1_readTerms_48 : decode cX1_readTerms 48 = .ok (.aload_n 0, 1) := xdt tbX1_readTerms_0_ok 29 rfl
theorem dX1_readTerms_49 : decode cX1_readTerms 49 = .ok (.iload_n 2, 1) := xdt tbX1_readTerms_0_ok 30 rfl
theorem dX1_readTerms_50 : decode cX1_readTerms 50 = .ok (.iconst 0, 1) := xdt tbX1_readTerms_0_ok 31 rfl
theorem dX1_readTerms_51 : decode cX1_readTerms 51 = .ok (.iconst 0, 1) := xdt tbX1_readTerms_0_ok 32 rfl
theorem dX1_readTerms_52 : decode cX1_readTerms 52 = .ok (.invokevirtual 237, 3) := xdt tbX1_readTerms_0_ok 33 rfl
theorem dX1_readTerms_55 : decode cX1_readTerms 55 = .ok (.iinc 1 1, 3) := xdt tbX1_readTerms_0_ok 34 rfl
theorem dX1_readTerms_58 : decode cX1_readTerms 58 = .ok (.goto (-47), 3) := xdt tbX1_readTerms_0_ok 35 rfl
theorem dX1_readTerms_61 : decode cX1_readTerms 61 = .ok (.iconst 1, 1) := xdt tbX1_readTerms_0_ok 36 rfl
theorem dX1_readTerms_62 : decode cX1_readTerms 62 = .ok (.ireturn, 1) := xdt tbX1_readTerms_0_ok 37 rfl
def tbX1_readTerm_0 : List (Nat × Instr × Nat) := [(0, .aload_n 0, 1), (1, .invokevirtual 240, 3), (4, .istore_n 1, 1), (5, .iload_n 1, 1), (6, .ifCond .eq 9, 3), (9, .aload_n 0, 1), (10, .iload_n 1, 1), (11, .invokevirtual 146, 3), (14, .ireturn, 1), (15, .aload_n 0, 1), (16, .dup, 1), (17, .getfield 222, 3), (20, .iconst 1, 1), (21, .iadd, 1), (22, .putfield 222, 3), (25, .aload_n 0, 1), (26, .bipush 40, 2), (28, .invokevirtual 152, 3), (31, .ifCond .eq 25, 3), (34, .aload_n 0, 1), (35, .invokevirtual 225, 3), (38, .ifCond .eq 16, 3), (41, .aload_n 0, 1), (42, .bipush 41, 2), (44, .invokevirtual 67, 3), (47, .ifCond .eq 7, 3), (50, .iconst 1, 1), (51, .goto 4, 3), (54, .iconst 0, 1), (55, .ireturn, 1), (56, .aload_n 0, 1), (57, .sipush 267, 3), (60, .invokevirtual 152, 3), (63, .ifCond .eq 12, 3), (66, .aload_n 0, 1), (67, .iconst 3, 1), (68, .iconst 0, 1), (69, .iconst 0, 1), (70, .invokevirtual 237, 3), (73, .iconst 1, 1), (74, .ireturn, 1), (75, .aload_n 0, 1), (76, .sipush 259, 3), (79, .invokevirtual 152, 3), (82, .ifCond .eq 22, 3), (85, .aload_n 0, 1), (86, .iconst 0, 1), (87, .aload_n 0, 1), (88, .getfield 37, 3), (91, .aload_n 0, 1), (92, .getfield 52, 3), (95, .iconst 1, 1), (96, .isub, 1), (97, .iaload, 1), (98, .iconst 0, 1), (99, .invokevirtual 237, 3), (102, .iconst 1, 1), (103, .ireturn, 1), (104, .aload_n 0, 1), (105, .getfield 34, 3)]
theorem tbX1_readTerm_0_ok : tbX1_readTerm_0.all (fun q => decide (decode cX1_readTerm q.1 = .ok q.2)) = true := by decide +kernel
theorem dX1_readTerm_0 : decode cX1_readTerm 0 = .ok (.aload_n 0, 1) := xdt tbX1_readTerm_0_ok 0 rfl
theorem dX1_readTerm_1 : decode cX1_readTerm 1 = .ok (.invokevirtual 240, 3) := xdt tbX1_readTerm_0_ok 1 rfl
theorem dX1_readTerm_4 : decode cX1_readTerm 4 = .ok (.istore_n 1, 1) := xdt tbX1_readTerm_0_ok 2 rfl
theorem dX1_readTerm_5 : decode cX1_readTerm 5 = .ok (.iload_n 1, 1) := xdt tbX1_readTerm_0_ok 3 rfl
theorem dX1_readTerm_6 : decode cX1_readTerm 6 = .ok (.ifCond .eq 9, 3) := xdt tbX1_readTerm_0_ok 4 rfl
theorem dX1_readTerm_9 : decode cX1_readTerm 9 = .ok (.aload_n 0, 1) := xdt tbX1_readTerm_0_ok 5 rfl
theorem dX1_readTerm_10 : decode cX1_readTerm 10 = .ok (.iload_n 1, 1) := xdt tbX1_readTerm_0_ok 6 rfl
theorem dX1_readTerm_11 : decode cX1_readTerm 11 = .ok (.invokevirtual 146, 3) := xdt tbX1_readTerm_0_ok 7 rfl
theorem dX1_readTerm_14 : decode cX1_readTerm 14 = .ok (.ireturn, 1) := xdt tbX1_readTerm_0_ok 8 rfl
theorem dX1_readTerm_15 : decode cX1_readTerm 15 = .ok (.aload_n 0, 1) := xdt tbX1_readTerm_0_ok 9 rfl
theorem dX1_readTerm_16 : decode cX1_readTerm 16 = .ok (.dup, 1) := xdt tbX1_readTerm_0_ok 10 rfl
theorem dX1_readTerm_17 : decode cX1_readTerm 17 = .ok (.getfield 222, 3) := xdt tbX1_readTerm_0_ok 11 rfl
theorem dX1_readTerm_20 : decode cX1_readTerm 20 = .ok (.iconst 1, 1) := xdt tbX1_readTerm_0_ok 12 rfl
theorem dX1_readTerm_21 : decode cX1_readTerm 21 = .ok (.iadd, 1) := xdt tbX1_readTerm_0_ok 13 rfl
theorem dX1_readTerm_22 : decode cX1_readTerm 22 = .ok (.putfield 222, 3) := xdt tbX1_readTerm_0_ok 14 rfl
theorem dX1_readTerm_25 : decode cX1_readTerm 25 = .ok (.aload_n 0, 1) := xdt tbX1_readTerm_0_ok 15 rfl
theorem dX1_readTerm_26 : decode cX1_readTerm 26 = .ok (.bipush 40, 2) := xdt tbX1_readTerm_0_ok 16 rfl
theorem dX1_readTerm_28 : decode cX1_readTerm 28 = .ok (.invokevirtual 152, 3) := xdt tbX1_readTerm_0_ok 17 rfl
theorem dX1_readTerm_31 : decode cX1_readTerm 31 = .ok (.ifCond .eq 25, 3) := xdt tbX1_readTerm_0_ok 18 rfl
theorem dX1_readTerm_34 : decode cX1_readTerm 34 = .ok (.aload_n 0, 1) := xdt tbX1_readTerm_0_ok 19 rfl
theorem dX1_readTerm_35 : decode cX1_readTerm 35 = .ok (.invokevirtual 225, 3) := xdt tbX1_readTerm_0_ok 20 rfl
theorem dX1_readTerm_38 : decode cX1_readTerm 38 = .ok (.ifCond .eq 16, 3) := xdt tbX1_readTerm_0_ok 21 rfl
theorem dX1_readTerm_41 : decode cX1_readTerm 41 = .ok (.aload_n 0, 1) := xdt tbX1_readTerm_0_ok 22 rfl
theorem dX1_readTerm_42 : decode cX1_readTerm 42 = .ok (.bipush 41, 2) := xdt tbX1_readTerm_0_ok 23 rfl
theorem dX1_readTerm_44 : decode cX1_readTerm 44 = .ok (.invokevirtual 67, 3) := xdt tbX1_readTerm_0_ok 24 rfl
theorem dX1_readTerm_47 : decode cX1_readTerm 47 = .ok (.ifCond .eq 7, 3) := xdt tbX1_readTerm_0_ok 25 rfl
theorem dX1_readTerm_50 : decode cX1_readTerm 50 = .ok (.iconst 1, 1) := xdt tbX1_readTerm_0_ok 26 rfl
theorem dX1_readTerm_51 : decode cX1_readTerm 51 = .ok (.goto 4, 3) := xdt tbX1_readTerm_0_ok 27 rfl
theorem dX1_readTerm_54 : decode cX1_readTerm 54 = .ok (.iconst 0, 1) := xdt tbX1_readTerm_0_ok 28 rfl
theorem dX1_readTerm_55 : decode cX1_readTerm 55 = .ok (.ireturn, 1) := xdt tbX1_readTerm_0_ok 29 rfl
theorem dX1_readTerm_56 : decode cX1_readTerm 56 = .ok (.aload_n 0, 1) := xdt tbX1_readTerm_0_ok 30 rfl
theorem dX1_readTerm_57 : decode cX1_readTerm 57 = .ok (.sipush 267, 3) := xdt tbX1_readTerm_0_ok 31 rfl
theorem dX1_readTerm_60 : decode cX1_readTerm 60 = .ok (.invokevirtual 152, 3) := xdt tbX1_readTerm_0_ok 32 rfl
theorem dX1_readTerm_63 : decode cX1_readTerm 63 = .ok (.ifCond .eq 12, 3) := xdt tbX1_readTerm_0_ok 33 rfl
theorem dX1_readTerm_66 : decode cX1_readTerm 66 = .ok (.aload_n 0, 1) := xdt tbX1_readTerm_0_ok 34 rfl
theorem dX1_readTerm_67 : decode cX1_readTerm 67 = .ok (.iconst 3, 1) := xdt tbX1_readTerm_0_ok 35 rfl
theorem dX1_readTerm_68 : decode cX1_readTerm 68 = .ok (.iconst 0, 1) := xdt tbX1_readTerm_0_ok 36 rfl
theorem dX1_readTerm_69 : decode cX1_readTerm 69 = .ok (.iconst 0, 1) := xdt tbX1_readTerm_0_ok 37 rfl
theorem dX1_readTerm_70 : decode cX1_readTerm 70 = .ok (.invokevirtual 237, 3) := xdt tbX1_readTerm_0_ok 38 rfl
theorem dX1_readTerm_73 : decode cX1_readTerm 73 = .ok (.iconst 1, 1) := xdt tbX1_readTerm_0_ok 39 rfl
theorem dX1_readTerm_74 : decode cX1_readTerm 74 = .ok (.ireturn, 1) := xdt tbX1_readTerm_0_ok 40 rfl
theorem dX1_readTerm_75 : decode cX1_readTerm 75 = .ok (.aload_n 0, 1) := xdt tbX1_readTerm_0_ok 41 rfl
theorem dX1_readTerm_76 : decode cX1_readTerm 76 = .ok (.sipush 259, 3) := xdt tbX1_readTerm_0_ok 42 rfl
theorem dX1_readTerm_79 : decode cX1_readTerm 79 = .ok (.invokevirtual 152, 3) := xdt tbX1_readTerm_0_ok 43 rfl
theorem dX1_readTerm_82 : decode cX1_readTerm 82 = .ok (.ifCond .eq 22, 3) := xdt tbX1_readTerm_0_ok 44 rfl
theorem dX1_readTerm_85 : decode cX1_readTerm 85 = .ok (.aload_n 0, 1) := xdt tbX1_readTerm_0_ok 45 rfl
theorem dX1_readTerm_86 : decode cX1_readTerm 86 = .ok (.iconst 0, 1) := xdt tbX1_readTerm_0_ok 46 rfl
theorem dX1_readTerm_87 : decode cX1_readTerm 87 = .ok (.aload_n 0, 1) := xdt tbX1_readTerm_0_ok 47 rfl
theorem dX1_readTerm_88 : decode cX1_readTerm 88 = .ok (.getfield 37, 3) := xdt tbX1_readTerm_0_ok 48 rfl
theorem dX1_readTerm_91 : decode cX1_readTerm 91 = .ok (.aload_n 0, 1) := xdt tbX1_readTerm_0_ok 49 rfl
theorem dX1_readTerm_92 : decode cX1_readTerm 92 = .ok (.getfield 52, 3) := xdt tbX1_readTerm_0_ok 50 rfl
theorem dX1_readTerm_95 : decode cX1_readTerm 95 = .ok (.iconst 1, 1) := xdt tbX1_readTerm_0_ok 51 rfl
theorem dX1_readTerm_96 : decode cX1_readTerm 96 = .ok (.isub, 1) := xdt tbX1_readTerm_0_ok 52 rfl
theorem dX1_readTerm_97 : decode cX1_readTerm 97 = .ok (.iaload, 1) := xdt tbX1_readTerm_0_ok 53 rfl
theorem dX1_readTerm_98 : decode cX1_readTerm 98 = .ok (.iconst 0, 1) := xdt tbX1_readTerm_0_ok 54 rfl
theorem dX1_readTerm_99 : decode cX1_readTerm 99 = .ok (.invokevirtual 237, 3) := xdt tbX1_readTerm_0_ok 55 rfl
theorem dX1_readTerm_102 : decode cX1_readTerm 102 = .ok (.iconst 1, 1) := xdt tbX1_readTerm_0_ok 56 rfl
theorem dX1_readTerm_103 : decode cX1_readTerm 103 = .ok (.ireturn, 1) := xdt tbX1_readTerm_0_ok 57 rfl
theorem dX1_readTerm_104 : decode cX1_readTerm 104 = .ok (.aload_n 0, 1) := xdt tbX1_readTerm_0_ok 58 rfl
theorem dX1_readTerm_105 : decode cX1_readTerm 105 = .ok (.getfield 34, 3) := xdt tbX1_readTerm_0_ok 59 rfl
def tbX1_readTerm_60 : List (Nat × Instr × Nat) := [(108, .aload_n 0, 1), (109, .getfield 52, 3), (112, .iaload, 1), (113, .istore_n 2, 1), (114, .aload_n 0, 1), (115, .invokevirtual 213, 3), (118, .istore_n 3, 1), (119, .iload_n 3, 1), (120, .iconst (-1), 1), (121, .if_icmp .ne 5, 3), (124, .iconst 0, 1), (125, .ireturn, 1), (126, .aload_n 0, 1), (127, .bipush 40, 2), (129, .invokevirtual 152, 3), (132, .istore 4, 2), (134, .aload_n 0, 1), (135, .iload 4, 2), (137, .ifCond .eq 7, 3), (140, .iconst 2, 1), (141, .goto 4, 3), (144, .iconst 1, 1), (145, .iload_n 3, 1), (146, .iload_n 2, 1), (147, .invokevirtual 237, 3), (150, .iload 4, 2), (152, .ifCond .eq 12, 3), (155, .aload_n 0, 1), (156, .bipush 41, 2), (158, .invokevirtual 67, 3), (161, .ifCond .eq 7, 3), (164, .iconst 1, 1), (165, .goto 4, 3), (168, .iconst 0, 1), (169, .ireturn, 1)]
theorem tbX1_readTerm_60_ok : tbX1_readTerm_60.all (fun q => decide (decode cX1_readTerm q.1 = .ok q.2)) = true := by decide +kernel
theorem dX1_readTerm_108 : decode cX1_readTerm 108 = .ok (.aload_n 0, 1) := xdt tbX1_readTerm_60_ok 0 rfl
theorem dX1_readTerm_109 : decode cX1_readTerm 109 = .ok (.getfield 52, 3) := xdt tbX1_readTerm_60_ok 1 rfl
theorem dX1_readTerm_112 : decode cX1_readTerm 112 = .ok (.iaload, 1) := xdt tbX1_readTerm_60_ok 2 rfl
theorem dX1_readTerm_113 : decode cX1_readTerm 113 = .ok (.istore_n 2, 1) := xdt tbX1_readTerm_60_ok 3 rfl
theorem dX1_readTerm_114 : decode cX1_readTerm 114 = .ok (.aload_n 0, 1) := xdt tbX1_readTerm_60_ok 4 rfl
theorem dX1_readTerm_115 : decode cX1_readTerm 115 = .ok (.invokevirtual 213, 3) := xdt tbX1_readTerm_60_ok 5 rfl
theorem dX1_readTerm_118 : decode cX1_readTerm 118 = .ok (.istore_n 3, 1) := xdt tbX1_readTerm_60_ok 6 rfl
theorem dX1_readTerm_119 : decode cX1_readTerm 119 = .ok (.iload_n 3, 1) := xdt tbX1_readTerm_60_ok 7 rfl
theorem dX1_readTerm_120 : decode cX1_readTerm 120 = .ok (.iconst (-1), 1) := xdt tbX1_readTerm_60_ok 8 rfl
theorem dX1_readTerm_121 : decode cX1_readTerm 121 = .ok (.if_icmp .ne 5, 3) := xdt tbX1_readTerm_60_ok 9 rfl
theorem dX1_readTerm_124 : decode cX1_readTerm 124 = .ok (.iconst 0, 1) := xdt tbX1_readTerm_60_ok 10 rfl
theorem dX1_readTerm_125 : decode cX1_readTerm 125 = .ok (.ireturn, 1) := xdt tbX1_readTerm_60_ok 11 rfl
theorem dX1_readTerm_126 : decode cX1_readTerm 126 = .ok (.aload_n 0, 1) := xdt tbX1_readTerm_60_ok 12 rfl
theorem dX1_readTerm_127 : decode cX1_readTerm 127 = .ok (.bipush 40, 2) := xdt tbX1_readTerm_60_ok 13 rfl
theorem dX1_readTerm_129 : decode cX1_readTerm 129 = .ok (.invokevirtual 152, 3) := xdt tbX1_readTerm_60_ok 14 rfl
theorem dX1_readTerm_132 : decode cX1_readTerm 132 = .ok (.istore 4, 2) := xdt tbX1_readTerm_60_ok 15 rfl
theorem dX1_readTerm_134 : decode cX1_readTerm 134 = .ok (.aload_n 0, 1) := xdt tbX1_readTerm_60_ok 16 rfl
theorem dX1_readTerm_135 : decode cX1_readTerm 135 = .ok (.iload 4, 2) := xdt tbX1_readTerm_60_ok 17 rfl
theorem dX1_readTerm_137 : decode cX1_readTerm 137 = .ok (.ifCond .eq 7, 3) := xdt tbX1_readTerm_60_ok 18 rfl
theorem dX1_readTerm_140 : decode cX1_readTerm 140 = .ok (.iconst 2, 1) := xdt tbX1_readTerm_60_ok 19 rfl
theorem dX1_readTerm_141 : decode cX1_readTerm 141 = .ok (.goto 4, 3) := xdt tbX1_readTerm_60_ok 20 rfl
theorem dX1_readTerm_144 : decode cX1_readTerm 144 = .ok (.iconst 1, 1) := xdt tbX1_readTerm_60_ok 21 rfl
theorem dX1_readTerm_145 : decode cX1_readTerm 145 = .ok (.iload_n 3, 1) := xdt tbX1_readTerm_60_ok 22 rfl
theorem dX1_readTerm_146 : decode cX1_readTerm 146 = .ok (.iload_n 2, 1) := xdt tbX1_readTerm_60_ok 23 rfl
theorem dX1_readTerm_147 : decode cX1_readTerm 147 = .ok (.invokevirtual 237, 3) := xdt tbX1_readTerm_60_ok 24 rfl
theorem dX1_readTerm_150 : decode cX1_readTerm 150 = .ok (.iload 4, 2) := xdt tbX1_readTerm_60_ok 25 rfl
theorem dX1_readTerm_152 : decode cX1_readTerm 152 = .ok (.ifCond .eq 12, 3) := xdt tbX1_readTerm_60_ok 26 rfl
theorem dX1_readTerm_155 : decode cX1_readTerm 155 = .ok (.aload_n 0, 1) := xdt tbX1_readTerm_60_ok 27 rfl
theorem dX1_readTerm_156 : decode cX1_readTerm 156 = .ok (.bipush 41, 2) := xdt tbX1_readTerm_60_ok 28 rfl
theorem dX1_readTerm_158 : decode cX1_readTerm 158 = .ok (.invokevirtual 67, 3) := xdt tbX1_readTerm_60_ok 29 rfl
theorem dX1_readTerm_161 : decode cX1_readTerm 161 = .ok (.ifCond .eq 7, 3) := xdt tbX1_readTerm_60_ok 30 rfl
theorem dX1_readTerm_164 : decode cX1_readTerm 164 = .ok (.iconst 1, 1) := xdt tbX1_readTerm_60_ok 31 rfl
theorem dX1_readTerm_165 : decode cX1_readTerm 165 = .ok (.goto 4, 3) := xdt tbX1_readTerm_60_ok 32 rfl
theorem dX1_readTerm_168 : decode cX1_readTerm 168 = .ok (.iconst 0, 1) := xdt tbX1_readTerm_60_ok 33 rfl
theorem dX1_readTerm_169 : decode cX1_readTerm 169 = .ok (.ireturn, 1) := xdt tbX1_readTerm_60_ok 34 rfl
def tbX1_readDeed_0 : List (Nat × Instr × Nat) := [(0, .aload_n 0, 1), (1, .getfield 12, 3), (4, .getfield 195, 3), (7, .astore_n 3, 1), (8, .aload_n 3, 1), (9, .getfield 199, 3), (12, .istore 4, 2), (14, .iload 4, 2), (16, .sipush 300, 3), (19, .if_icmp .lt 9, 3), (22, .aload_n 0, 1), (23, .iconst 3, 1), (24, .invokevirtual 146, 3), (27, .ireturn, 1), (28, .aload_n 3, 1), (29, .dup, 1), (30, .getfield 199, 3), (33, .iconst 1, 1), (34, .iadd, 1), (35, .putfield 199, 3), (38, .iload_n 1, 1), (39, .iconst (-1), 1), (40, .if_icmp .eq 27, 3), (43, .aload_n 0, 1), (44, .getfield 12, 3), (47, .getfield 207, 3), (50, .iload_n 1, 1), (51, .iaload, 1), (52, .iconst (-1), 1), (53, .if_icmp .ne 14, 3), (56, .aload_n 0, 1), (57, .getfield 12, 3), (60, .getfield 207, 3), (63, .iload_n 1, 1), (64, .iload 4, 2), (66, .iastore, 1), (67, .aload_n 0, 1), (68, .getfield 25, 3), (71, .iload 4, 2), (73, .aload_n 0, 1), (74, .getfield 34, 3), (77, .aload_n 0, 1), (78, .getfield 52, 3), (81, .iaload, 1), (82, .iastore, 1), (83, .aload_n 3, 1), (84, .getfield 210, 3), (87, .iload 4, 2), (89, .iload_n 2, 1), (90, .ifCond .eq 10, 3), (93, .aload_n 0, 1), (94, .invokevirtual 213, 3), (97, .goto 4, 3), (100, .iconst (-1), 1), (101, .iastore, 1), (102, .iload_n 2, 1), (103, .ifCond .eq 25, 3), (106, .aload_n 3, 1), (107, .getfield 210, 3), (110, .iload 4, 2)]
theorem tbX1_readDeed_0_ok : tbX1_readDeed_0.all (fun q => decide (decode cX1_readDeed q.1 = .ok q.2)) = true := by decide +kernel
theorem dX1_readDeed_0 : decode cX1_readDeed 0 = .ok (.aload_n 0, 1) := xdt tbX1_readDeed_0_ok 0 rfl
theorem dX1_readDeed_1 : decode cX1_readDeed 1 = .ok (.getfield 12, 3) := xdt tbX1_readDeed_0_ok 1 rfl
theorem dX1_readDeed_4 : decode cX1_readDeed 4 = .ok (.getfield 195, 3) := xdt tbX1_readDeed_0_ok 2 rfl
theorem dX1_readDeed_7 : decode cX1_readDeed 7 = .ok (.astore_n 3, 1) := xdt tbX1_readDeed_0_ok 3 rfl
theorem dX1_readDeed_8 : decode cX1_readDeed 8 = .ok (.aload_n 3, 1) := xdt tbX1_readDeed_0_ok 4 rfl
theorem dX1_readDeed_9 : decode cX1_readDeed 9 = .ok (.getfield 199, 3) := xdt tbX1_readDeed_0_ok 5 rfl
theorem dX1_readDeed_12 : decode cX1_readDeed 12 = .ok (.istore 4, 2) := xdt tbX1_readDeed_0_ok 6 rfl
theorem dX1_readDeed_14 : decode cX1_readDeed 14 = .ok (.iload 4, 2) := xdt tbX1_readDeed_0_ok 7 rfl
theorem dX1_readDeed_16 : decode cX1_readDeed 16 = .ok (.sipush 300, 3) := xdt tbX1_readDeed_0_ok 8 rfl
theorem dX1_readDeed_19 : decode cX1_readDeed 19 = .ok (.if_icmp .lt 9, 3) := xdt tbX1_readDeed_0_ok 9 rfl
theorem dX1_readDeed_22 : decode cX1_readDeed 22 = .ok (.aload_n 0, 1) := xdt tbX1_readDeed_0_ok 10 rfl
theorem dX1_readDeed_23 : decode cX1_readDeed 23 = .ok (.iconst 3, 1) := xdt tbX1_readDeed_0_ok 11 rfl
theorem dX1_readDeed_24 : decode cX1_readDeed 24 = .ok (.invokevirtual 146, 3) := xdt tbX1_readDeed_0_ok 12 rfl
theorem dX1_readDeed_27 : decode cX1_readDeed 27 = .ok (.ireturn, 1) := xdt tbX1_readDeed_0_ok 13 rfl
theorem dX1_readDeed_28 : decode cX1_readDeed 28 = .ok (.aload_n 3, 1) := xdt tbX1_readDeed_0_ok 14 rfl
theorem dX1_readDeed_29 : decode cX1_readDeed 29 = .ok (.dup, 1) := xdt tbX1_readDeed_0_ok 15 rfl
theorem dX1_readDeed_30 : decode cX1_readDeed 30 = .ok (.getfield 199, 3) := xdt tbX1_readDeed_0_ok 16 rfl
theorem dX1_readDeed_33 : decode cX1_readDeed 33 = .ok (.iconst 1, 1) := xdt tbX1_readDeed_0_ok 17 rfl
theorem dX1_readDeed_34 : decode cX1_readDeed 34 = .ok (.iadd, 1) := xdt tbX1_readDeed_0_ok 18 rfl
theorem dX1_readDeed_35 : decode cX1_readDeed 35 = .ok (.putfield 199, 3) := xdt tbX1_readDeed_0_ok 19 rfl
theorem dX1_readDeed_38 : decode cX1_readDeed 38 = .ok (.iload_n 1, 1) := xdt tbX1_readDeed_0_ok 20 rfl
theorem dX1_readDeed_39 : decode cX1_readDeed 39 = .ok (.iconst (-1), 1) := xdt tbX1_readDeed_0_ok 21 rfl
theorem dX1_readDeed_40 : decode cX1_readDeed 40 = .ok (.if_icmp .eq 27, 3) := xdt tbX1_readDeed_0_ok 22 rfl
theorem dX1_readDeed_43 : decode cX1_readDeed 43 = .ok (.aload_n 0, 1) := xdt tbX1_readDeed_0_ok 23 rfl
theorem dX1_readDeed_44 : decode cX1_readDeed 44 = .ok (.getfield 12, 3) := xdt tbX1_readDeed_0_ok 24 rfl
theorem dX1_readDeed_47 : decode cX1_readDeed 47 = .ok (.getfield 207, 3) := xdt tbX1_readDeed_0_ok 25 rfl
theorem dX1_readDeed_50 : decode cX1_readDeed 50 = .ok (.iload_n 1, 1) := xdt tbX1_readDeed_0_ok 26 rfl
theorem dX1_readDeed_51 : decode cX1_readDeed 51 = .ok (.iaload, 1) := xdt tbX1_readDeed_0_ok 27 rfl
theorem dX1_readDeed_52 : decode cX1_readDeed 52 = .ok (.iconst (-1), 1) := xdt tbX1_readDeed_0_ok 28 rfl
theorem dX1_readDeed_53 : decode cX1_readDeed 53 = .ok (.if_icmp .ne 14, 3) := xdt tbX1_readDeed_0_ok 29 rfl
theorem dX1_readDeed_56 : decode cX1_readDeed 56 = .ok (.aload_n 0, 1) := xdt tbX1_readDeed_0_ok 30 rfl
theorem dX1_readDeed_57 : decode cX1_readDeed 57 = .ok (.getfield 12, 3) := xdt tbX1_readDeed_0_ok 31 rfl
theorem dX1_readDeed_60 : decode cX1_readDeed 60 = .ok (.getfield 207, 3) := xdt tbX1_readDeed_0_ok 32 rfl
theorem dX1_readDeed_63 : decode cX1_readDeed 63 = .ok (.iload_n 1, 1) := xdt tbX1_readDeed_0_ok 33 rfl
theorem dX1_readDeed_64 : decode cX1_readDeed 64 = .ok (.iload 4, 2) := xdt tbX1_readDeed_0_ok 34 rfl
theorem dX1_readDeed_66 : decode cX1_readDeed 66 = .ok (.iastore, 1) := xdt tbX1_readDeed_0_ok 35 rfl
theorem dX1_readDeed_67 : decode cX1_readDeed 67 = .ok (.aload_n 0, 1) := xdt tbX1_readDeed_0_ok 36 rfl
theorem dX1_readDeed_68 : decode cX1_readDeed 68 = .ok (.getfield 25, 3) := xdt tbX1_readDeed_0_ok 37 rfl
theorem dX1_readDeed_71 : decode cX1_readDeed 71 = .ok (.iload 4, 2) := xdt tbX1_readDeed_0_ok 38 rfl
theorem dX1_readDeed_73 : decode cX1_readDeed 73 = .ok (.aload_n 0, 1) := xdt tbX1_readDeed_0_ok 39 rfl
theorem dX1_readDeed_74 : decode cX1_readDeed 74 = .ok (.getfield 34, 3) := xdt tbX1_readDeed_0_ok 40 rfl
theorem dX1_readDeed_77 : decode cX1_readDeed 77 = .ok (.aload_n 0, 1) := xdt tbX1_readDeed_0_ok 41 rfl
theorem dX1_readDeed_78 : decode cX1_readDeed 78 = .ok (.getfield 52, 3) := xdt tbX1_readDeed_0_ok 42 rfl
theorem dX1_readDeed_81 : decode cX1_readDeed 81 = .ok (.iaload, 1) := xdt tbX1_readDeed_0_ok 43 rfl
theorem dX1_readDeed_82 : decode cX1_readDeed 82 = .ok (.iastore, 1) := xdt tbX1_readDeed_0_ok 44 rfl
theorem dX1_readDeed_83 : decode cX1_readDeed 83 = .ok (.aload_n 3, 1) := xdt tbX1_readDeed_0_ok 45 rfl
theorem dX1_readDeed_84 : decode cX1_readDeed 84 = .ok (.getfield 210, 3) := xdt tbX1_readDeed_0_ok 46 rfl
theorem dX1_readDeed_87 : decode cX1_readDeed 87 = .ok (.iload 4, 2) := xdt tbX1_readDeed_0_ok 47 rfl
theorem dX1_readDeed_89 : decode cX1_readDeed 89 = .ok (.iload_n 2, 1) := xdt tbX1_readDeed_0_ok 48 rfl
theorem dX1_readDeed_90 : decode cX1_readDeed 90 = .ok (.ifCond .eq 10, 3) := xdt tbX1_readDeed_0_ok 49 rfl
theorem dX1_readDeed_93 : decode cX1_readDeed 93 = .ok (.aload_n 0, 1) := xdt tbX1_readDeed_0_ok 50 rfl
theorem dX1_readDeed_94 : decode cX1_readDeed 94 = .ok (.invokevirtual 213, 3) := xdt tbX1_readDeed_0_ok 51 rfl
theorem dX1_readDeed_97 : decode cX1_readDeed 97 = .ok (.goto 4, 3) := xdt tbX1_readDeed_0_ok 52 rfl
theorem dX1_readDeed_100 : decode cX1_readDeed 100 = .ok (.iconst (-1), 1) := xdt tbX1_readDeed_0_ok 53 rfl
theorem dX1_readDeed_101 : decode cX1_readDeed 101 = .ok (.iastore, 1) := xdt tbX1_readDeed_0_ok 54 rfl
theorem dX1_readDeed_102 : decode cX1_readDeed 102 = .ok (.iload_n 2, 1) := xdt tbX1_readDeed_0_ok 55 rfl
theorem dX1_readDeed_103 : decode cX1_readDeed 103 = .ok (.ifCond .eq 25, 3) := xdt tbX1_readDeed_0_ok 56 rfl
theorem dX1_readDeed_106 : decode cX1_readDeed 106 = .ok (.aload_n 3, 1) := xdt tbX1_readDeed_0_ok 57 rfl
theorem dX1_readDeed_107 : decode cX1_readDeed 107 = .ok (.getfield 210, 3) := xdt tbX1_readDeed_0_ok 58 rfl
theorem dX1_readDeed_110 : decode cX1_readDeed 110 = .ok (.iload 4, 2) := xdt tbX1_readDeed_0_ok 59 rfl
def tbX1_readDeed_60 : List (Nat × Instr × Nat) := [(112, .iaload, 1), (113, .iconst (-1), 1), (114, .if_icmp .eq 12, 3), (117, .aload_n 0, 1), (118, .bipush 61, 2), (120, .invokevirtual 67, 3), (123, .ifCond .ne 5, 3), (126, .iconst 0, 1), (127, .ireturn, 1), (128, .aload_n 3, 1), (129, .getfield 216, 3), (132, .iload 4, 2), (134, .aload_n 3, 1), (135, .getfield 219, 3), (138, .iastore, 1), (139, .aload_n 0, 1), (140, .iconst 0, 1), (141, .putfield 222, 3), (144, .aload_n 0, 1), (145, .invokevirtual 225, 3), (148, .istore 5, 2), (150, .aload_n 3, 1), (151, .getfield 228, 3), (154, .iload 4, 2), (156, .aload_n 3, 1), (157, .getfield 219, 3), (160, .iastore, 1), (161, .iload 5, 2), (163, .ifCond .eq 16, 3), (166, .aload_n 0, 1), (167, .bipush 59, 2), (169, .invokevirtual 67, 3), (172, .ifCond .eq 7, 3), (175, .iconst 1, 1), (176, .goto 4, 3), (179, .iconst 0, 1), (180, .ireturn, 1)]
theorem tbX1_readDeed_60_ok : tbX1_readDeed_60.all (fun q => decide (decode cX1_readDeed q.1 = .ok q.2)) = true := by decide +kernel
theorem dX1_readDeed_112 : decode cX1_readDeed 112 = .ok (.iaload, 1) := xdt tbX1_readDeed_60_ok 0 rfl
theorem dX1_readDeed_113 : decode cX1_readDeed 113 = .ok (.iconst (-1), 1) := xdt tbX1_readDeed_60_ok 1 rfl
theorem dX1_readDeed_114 : decode cX1_readDeed 114 = .ok (.if_icmp .eq 12, 3) := xdt tbX1_readDeed_60_ok 2 rfl
theorem dX1_readDeed_117 : decode cX1_readDeed 117 = .ok (.aload_n 0, 1) := xdt tbX1_readDeed_60_ok 3 rfl
theorem dX1_readDeed_118 : decode cX1_readDeed 118 = .ok (.bipush 61, 2) := xdt tbX1_readDeed_60_ok 4 rfl
theorem dX1_readDeed_120 : decode cX1_readDeed 120 = .ok (.invokevirtual 67, 3) := xdt tbX1_readDeed_60_ok 5 rfl
theorem dX1_readDeed_123 : decode cX1_readDeed 123 = .ok (.ifCond .ne 5, 3) := xdt tbX1_readDeed_60_ok 6 rfl
theorem dX1_readDeed_126 : decode cX1_readDeed 126 = .ok (.iconst 0, 1) := xdt tbX1_readDeed_60_ok 7 rfl
theorem dX1_readDeed_127 : decode cX1_readDeed 127 = .ok (.ireturn, 1) := xdt tbX1_readDeed_60_ok 8 rfl
theorem dX1_readDeed_128 : decode cX1_readDeed 128 = .ok (.aload_n 3, 1) := xdt tbX1_readDeed_60_ok 9 rfl
theorem dX1_readDeed_129 : decode cX1_readDeed 129 = .ok (.getfield 216, 3) := xdt tbX1_readDeed_60_ok 10 rfl
theorem dX1_readDeed_132 : decode cX1_readDeed 132 = .ok (.iload 4, 2) := xdt tbX1_readDeed_60_ok 11 rfl
theorem dX1_readDeed_134 : decode cX1_readDeed 134 = .ok (.aload_n 3, 1) := xdt tbX1_readDeed_60_ok 12 rfl
theorem dX1_readDeed_135 : decode cX1_readDeed 135 = .ok (.getfield 219, 3) := xdt tbX1_readDeed_60_ok 13 rfl
theorem dX1_readDeed_138 : decode cX1_readDeed 138 = .ok (.iastore, 1) := xdt tbX1_readDeed_60_ok 14 rfl
theorem dX1_readDeed_139 : decode cX1_readDeed 139 = .ok (.aload_n 0, 1) := xdt tbX1_readDeed_60_ok 15 rfl
theorem dX1_readDeed_140 : decode cX1_readDeed 140 = .ok (.iconst 0, 1) := xdt tbX1_readDeed_60_ok 16 rfl
theorem dX1_readDeed_141 : decode cX1_readDeed 141 = .ok (.putfield 222, 3) := xdt tbX1_readDeed_60_ok 17 rfl
theorem dX1_readDeed_144 : decode cX1_readDeed 144 = .ok (.aload_n 0, 1) := xdt tbX1_readDeed_60_ok 18 rfl
theorem dX1_readDeed_145 : decode cX1_readDeed 145 = .ok (.invokevirtual 225, 3) := xdt tbX1_readDeed_60_ok 19 rfl
theorem dX1_readDeed_148 : decode cX1_readDeed 148 = .ok (.istore 5, 2) := xdt tbX1_readDeed_60_ok 20 rfl
theorem dX1_readDeed_150 : decode cX1_readDeed 150 = .ok (.aload_n 3, 1) := xdt tbX1_readDeed_60_ok 21 rfl
theorem dX1_readDeed_151 : decode cX1_readDeed 151 = .ok (.getfield 228, 3) := xdt tbX1_readDeed_60_ok 22 rfl
theorem dX1_readDeed_154 : decode cX1_readDeed 154 = .ok (.iload 4, 2) := xdt tbX1_readDeed_60_ok 23 rfl
theorem dX1_readDeed_156 : decode cX1_readDeed 156 = .ok (.aload_n 3, 1) := xdt tbX1_readDeed_60_ok 24 rfl
theorem dX1_readDeed_157 : decode cX1_readDeed 157 = .ok (.getfield 219, 3) := xdt tbX1_readDeed_60_ok 25 rfl
theorem dX1_readDeed_160 : decode cX1_readDeed 160 = .ok (.iastore, 1) := xdt tbX1_readDeed_60_ok 26 rfl
theorem dX1_readDeed_161 : decode cX1_readDeed 161 = .ok (.iload 5, 2) := xdt tbX1_readDeed_60_ok 27 rfl
theorem dX1_readDeed_163 : decode cX1_readDeed 163 = .ok (.ifCond .eq 16, 3) := xdt tbX1_readDeed_60_ok 28 rfl
theorem dX1_readDeed_166 : decode cX1_readDeed 166 = .ok (.aload_n 0, 1) := xdt tbX1_readDeed_60_ok 29 rfl
theorem dX1_readDeed_167 : decode cX1_readDeed 167 = .ok (.bipush 59, 2) := xdt tbX1_readDeed_60_ok 30 rfl
theorem dX1_readDeed_169 : decode cX1_readDeed 169 = .ok (.invokevirtual 67, 3) := xdt tbX1_readDeed_60_ok 31 rfl
theorem dX1_readDeed_172 : decode cX1_readDeed 172 = .ok (.ifCond .eq 7, 3) := xdt tbX1_readDeed_60_ok 32 rfl
theorem dX1_readDeed_175 : decode cX1_readDeed 175 = .ok (.iconst 1, 1) := xdt tbX1_readDeed_60_ok 33 rfl
theorem dX1_readDeed_176 : decode cX1_readDeed 176 = .ok (.goto 4, 3) := xdt tbX1_readDeed_60_ok 34 rfl
theorem dX1_readDeed_179 : decode cX1_readDeed 179 = .ok (.iconst 0, 1) := xdt tbX1_readDeed_60_ok 35 rfl
theorem dX1_readDeed_180 : decode cX1_readDeed 180 = .ok (.ireturn, 1) := xdt tbX1_readDeed_60_ok 36 rfl
def tbX1_readVariable_0 : List (Nat × Instr × Nat) := [(0, .aload_n 0, 1), (1, .iload_n 1, 1), (2, .iload_n 2, 1), (3, .invokevirtual 188, 3), (6, .ifCond .ne 5, 3), (9, .iconst 0, 1), (10, .ireturn, 1), (11, .aload_n 0, 1), (12, .bipush 61, 2), (14, .invokevirtual 152, 3), (17, .ifCond .eq 12, 3), (20, .aload_n 0, 1), (21, .iload_n 2, 1), (22, .iconst 0, 1), (23, .invokevirtual 178, 3), (26, .goto 9, 3), (29, .aload_n 0, 1), (30, .bipush 59, 2), (32, .invokevirtual 67, 3), (35, .ireturn, 1)]
theorem tbX1_readVariable_0_ok : tbX1_readVariable_0.all (fun q => decide (decode cX1_readVariable q.1 = .ok q.2)) = true := by decide +kernel
theorem dX1_readVariable_0 : decode cX1_readVariable 0 = .ok (.aload_n 0, 1) := xdt tbX1_readVariable_0_ok 0 rfl
theorem dX1_readVariable_1 : decode cX1_readVariable 1 = .ok (.iload_n 1, 1) := xdt tbX1_readVariable_0_ok 1 rfl
theorem dX1_readVariable_2 : decode cX1_readVariable 2 = .ok (.iload_n 2, 1) := xdt tbX1_readVariable_0_ok 2 rfl
theorem dX1_readVariable_3 : decode cX1_readVariable 3 = .ok (.invokevirtual 188, 3) := xdt tbX1_readVariable_0_ok 3 rfl
theorem dX1_readVariable_6 : decode cX1_readVariable 6 = .ok (.ifCond .ne 5, 3) := xdt tbX1_readVariable_0_ok 4 rfl
theorem dX1_readVariable_9 : decode cX1_readVariable 9 = .ok (.iconst 0, 1) := xdt tbX1_readVariable_0_ok 5 rfl
theorem dX1_readVariable_10 : decode cX1_readVariable 10 = .ok (.ireturn, 1) := xdt tbX1_readVariable_0_ok 6 rfl
theorem dX1_readVariable_11 : decode cX1_readVariable 11 = .ok (.aload_n 0, 1) := xdt tbX1_readVariable_0_ok 7 rfl
theorem dX1_readVariable_12 : decode cX1_readVariable 12 = .ok (.bipush 61, 2) := xdt tbX1_readVariable_0_ok 8 rfl
theorem dX1_readVariable_14 : decode cX1_readVariable 14 = .ok (.invokevirtual 152, 3) := xdt tbX1_readVariable_0_ok 9 rfl
theorem dX1_readVariable_17 : decode cX1_readVariable 17 = .ok (.ifCond .eq 12, 3) := xdt tbX1_readVariable_0_ok 10 rfl
theorem dX1_readVariable_20 : decode cX1_readVariable 20 = .ok (.aload_n 0, 1) := xdt tbX1_readVariable_0_ok 11 rfl
theorem dX1_readVariable_21 : decode cX1_readVariable 21 = .ok (.iload_n 2, 1) := xdt tbX1_readVariable_0_ok 12 rfl
theorem dX1_readVariable_22 : decode cX1_readVariable 22 = .ok (.iconst 0, 1) := xdt tbX1_readVariable_0_ok 13 rfl
theorem dX1_readVariable_23 : decode cX1_readVariable 23 = .ok (.invokevirtual 178, 3) := xdt tbX1_readVariable_0_ok 14 rfl
theorem dX1_readVariable_26 : decode cX1_readVariable 26 = .ok (.goto 9, 3) := xdt tbX1_readVariable_0_ok 15 rfl
theorem dX1_readVariable_29 : decode cX1_readVariable 29 = .ok (.aload_n 0, 1) := xdt tbX1_readVariable_0_ok 16 rfl
theorem dX1_readVariable_30 : decode cX1_readVariable 30 = .ok (.bipush 59, 2) := xdt tbX1_readVariable_0_ok 17 rfl
theorem dX1_readVariable_32 : decode cX1_readVariable 32 = .ok (.invokevirtual 67, 3) := xdt tbX1_readVariable_0_ok 18 rfl
theorem dX1_readVariable_35 : decode cX1_readVariable 35 = .ok (.ireturn, 1) := xdt tbX1_readVariable_0_ok 19 rfl
def tbX1_readFunction_0 : List (Nat × Instr × Nat) := [(0, .aload_n 0, 1), (1, .iload_n 1, 1), (2, .iload_n 2, 1), (3, .invokevirtual 188, 3), (6, .ifCond .eq 12, 3), (9, .aload_n 0, 1), (10, .bipush 123, 2), (12, .invokevirtual 67, 3), (15, .ifCond .ne 5, 3), (18, .iconst 0, 1), (19, .ireturn, 1), (20, .iconst 0, 1), (21, .istore_n 3, 1), (22, .aload_n 0, 1), (23, .getfield 31, 3), (26, .aload_n 0, 1), (27, .getfield 52, 3), (30, .iaload, 1), (31, .sipush 257, 3), (34, .if_icmp .ne 31, 3), (37, .iload_n 3, 1), (38, .iconst 4, 1), (39, .if_icmp .lt 9, 3), (42, .aload_n 0, 1), (43, .iconst 3, 1), (44, .invokevirtual 146, 3), (47, .ireturn, 1), (48, .aload_n 0, 1), (49, .iload_n 2, 1), (50, .iconst 1, 1), (51, .invokevirtual 178, 3), (54, .ifCond .ne 5, 3), (57, .iconst 0, 1), (58, .ireturn, 1), (59, .iinc 3 1, 3), (62, .goto (-40), 3), (65, .aload_n 0, 1), (66, .getfield 12, 3), (69, .getfield 191, 3), (72, .iload_n 2, 1), (73, .iload_n 3, 1), (74, .iastore, 1), (75, .aload_n 0, 1), (76, .sipush 266, 3), (79, .invokevirtual 67, 3), (82, .ifCond .eq 25, 3), (85, .aload_n 0, 1), (86, .iload_n 2, 1), (87, .iconst 0, 1), (88, .invokevirtual 178, 3), (91, .ifCond .eq 16, 3), (94, .aload_n 0, 1), (95, .bipush 125, 2), (97, .invokevirtual 67, 3), (100, .ifCond .eq 7, 3), (103, .iconst 1, 1), (104, .goto 4, 3), (107, .iconst 0, 1), (108, .ireturn, 1)]
theorem tbX1_readFunction_0_ok : tbX1_readFunction_0.all (fun q => decide (decode cX1_readFunction q.1 = .ok q.2)) = true := by decide +kernel
theorem dX1_readFunction_0 : decode cX1_readFunction 0 = .ok (.aload_n 0, 1) := xdt tbX1_readFunction_0_ok 0 rfl
theorem dX1_readFunction_1 : decode cX1_readFunction 1 = .ok (.iload_n 1, 1) := xdt tbX1_readFunction_0_ok 1 rfl
theorem dX1_readFunction_2 : decode cX1_readFunction 2 = .ok (.iload_n 2, 1) := xdt tbX1_readFunction_0_ok 2 rfl
theorem dX1_readFunction_3 : decode cX1_readFunction 3 = .ok (.invokevirtual 188, 3) := xdt tbX1_readFunction_0_ok 3 rfl
theorem dX1_readFunction_6 : decode cX1_readFunction 6 = .ok (.ifCond .eq 12, 3) := xdt tbX1_readFunction_0_ok 4 rfl
theorem dX1_readFunction_9 : decode cX1_readFunction 9 = .ok (.aload_n 0, 1) := xdt tbX1_readFunction_0_ok 5 rfl
theorem dX1_readFunction_10 : decode cX1_readFunction 10 = .ok (.bipush 123, 2) := xdt tbX1_readFunction_0_ok 6 rfl
theorem dX1_readFunction_12 : decode cX1_readFunction 12 = .ok (.invokevirtual 67, 3) := xdt tbX1_readFunction_0_ok 7 rfl
theorem dX1_readFunction_15 : decode cX1_readFunction 15 = .ok (.ifCond .ne 5, 3) := xdt tbX1_readFunction_0_ok 8 rfl
theorem dX1_readFunction_18 : decode cX1_readFunction 18 = .ok (.iconst 0, 1) := xdt tbX1_readFunction_0_ok 9 rfl
theorem dX1_readFunction_19 : decode cX1_readFunction 19 = .ok (.ireturn, 1) := xdt tbX1_readFunction_0_ok 10 rfl
theorem dX1_readFunction_20 : decode cX1_readFunction 20 = .ok (.iconst 0, 1) := xdt tbX1_readFunction_0_ok 11 rfl
theorem dX1_readFunction_21 : decode cX1_readFunction 21 = .ok (.istore_n 3, 1) := xdt tbX1_readFunction_0_ok 12 rfl
theorem dX1_readFunction_22 : decode cX1_readFunction 22 = .ok (.aload_n 0, 1) := xdt tbX1_readFunction_0_ok 13 rfl
theorem dX1_readFunction_23 : decode cX1_readFunction 23 = .ok (.getfield 31, 3) := xdt tbX1_readFunction_0_ok 14 rfl
theorem dX1_readFunction_26 : decode cX1_readFunction 26 = .ok (.aload_n 0, 1) := xdt tbX1_readFunction_0_ok 15 rfl
theorem dX1_readFunction_27 : decode cX1_readFunction 27 = .ok (.getfield 52, 3) := xdt tbX1_readFunction_0_ok 16 rfl
theorem dX1_readFunction_30 : decode cX1_readFunction 30 = .ok (.iaload, 1) := xdt tbX1_readFunction_0_ok 17 rfl
theorem dX1_readFunction_31 : decode cX1_readFunction 31 = .ok (.sipush 257, 3) := xdt tbX1_readFunction_0_ok 18 rfl
theorem dX1_readFunction_34 : decode cX1_readFunction 34 = .ok (.if_icmp .ne 31, 3) := xdt tbX1_readFunction_0_ok 19 rfl
theorem dX1_readFunction_37 : decode cX1_readFunction 37 = .ok (.iload_n 3, 1) := xdt tbX1_readFunction_0_ok 20 rfl
theorem dX1_readFunction_38 : decode cX1_readFunction 38 = .ok (.iconst 4, 1) := xdt tbX1_readFunction_0_ok 21 rfl
theorem dX1_readFunction_39 : decode cX1_readFunction 39 = .ok (.if_icmp .lt 9, 3) := xdt tbX1_readFunction_0_ok 22 rfl
theorem dX1_readFunction_42 : decode cX1_readFunction 42 = .ok (.aload_n 0, 1) := xdt tbX1_readFunction_0_ok 23 rfl
theorem dX1_readFunction_43 : decode cX1_readFunction 43 = .ok (.iconst 3, 1) := xdt tbX1_readFunction_0_ok 24 rfl
theorem dX1_readFunction_44 : decode cX1_readFunction 44 = .ok (.invokevirtual 146, 3) := xdt tbX1_readFunction_0_ok 25 rfl
theorem dX1_readFunction_47 : decode cX1_readFunction 47 = .ok (.ireturn, 1) := xdt tbX1_readFunction_0_ok 26 rfl
theorem dX1_readFunction_48 : decode cX1_readFunction 48 = .ok (.aload_n 0, 1) := xdt tbX1_readFunction_0_ok 27 rfl
theorem dX1_readFunction_49 : decode cX1_readFunction 49 = .ok (.iload_n 2, 1) := xdt tbX1_readFunction_0_ok 28 rfl
theorem dX1_readFunction_50 : decode cX1_readFunction 50 = .ok (.iconst 1, 1) := xdt tbX1_readFunction_0_ok 29 rfl
theorem dX1_readFunction_51 : decode cX1_readFunction 51 = .ok (.invokevirtual 178, 3) := xdt tbX1_readFunction_0_ok 30 rfl
theorem dX1_readFunction_54 : decode cX1_readFunction 54 = .ok (.ifCond .ne 5, 3) := xdt tbX1_readFunction_0_ok 31 rfl
theorem dX1_readFunction_57 : decode cX1_readFunction 57 = .ok (.iconst 0, 1) := xdt tbX1_readFunction_0_ok 32 rfl
theorem dX1_readFunction_58 : decode cX1_readFunction 58 = .ok (.ireturn, 1) := xdt tbX1_readFunction_0_ok 33 rfl
theorem dX1_readFunction_59 : decode cX1_readFunction 59 = .ok (.iinc 3 1, 3) := xdt tbX1_readFunction_0_ok 34 rfl
theorem dX1_readFunction_62 : decode cX1_readFunction 62 = .ok (.goto (-40), 3) := xdt tbX1_readFunction_0_ok 35 rfl
theorem dX1_readFunction_65 : decode cX1_readFunction 65 = .ok (.aload_n 0, 1) := xdt tbX1_readFunction_0_ok 36 rfl
theorem dX1_readFunction_66 : decode cX1_readFunction 66 = .ok (.getfield 12, 3) := xdt tbX1_readFunction_0_ok 37 rfl
theorem dX1_readFunction_69 : decode cX1_readFunction 69 = .ok (.getfield 191, 3) := xdt tbX1_readFunction_0_ok 38 rfl
theorem dX1_readFunction_72 : decode cX1_readFunction 72 = .ok (.iload_n 2, 1) := xdt tbX1_readFunction_0_ok 39 rfl
theorem dX1_readFunction_73 : decode cX1_readFunction 73 = .ok (.iload_n 3, 1) := xdt tbX1_readFunction_0_ok 40 rfl
theorem dX1_readFunction_74 : decode cX1_readFunction 74 = .ok (.iastore, 1) := xdt tbX1_readFunction_0_ok 41 rfl
theorem dX1_readFunction_75 : decode cX1_readFunction 75 = .ok (.aload_n 0, 1) := xdt tbX1_readFunction_0_ok 42 rfl
theorem dX1_readFunction_76 : decode cX1_readFunction 76 = .ok (.sipush 266, 3) := xdt tbX1_readFunction_0_ok 43 rfl
theorem dX1_readFunction_79 : decode cX1_readFunction 79 = .ok (.invokevirtual 67, 3) := xdt tbX1_readFunction_0_ok 44 rfl
theorem dX1_readFunction_82 : decode cX1_readFunction 82 = .ok (.ifCond .eq 25, 3) := xdt tbX1_readFunction_0_ok 45 rfl
theorem dX1_readFunction_85 : decode cX1_readFunction 85 = .ok (.aload_n 0, 1) := xdt tbX1_readFunction_0_ok 46 rfl
theorem dX1_readFunction_86 : decode cX1_readFunction 86 = .ok (.iload_n 2, 1) := xdt tbX1_readFunction_0_ok 47 rfl
theorem dX1_readFunction_87 : decode cX1_readFunction 87 = .ok (.iconst 0, 1) := xdt tbX1_readFunction_0_ok 48 rfl
theorem dX1_readFunction_88 : decode cX1_readFunction 88 = .ok (.invokevirtual 178, 3) := xdt tbX1_readFunction_0_ok 49 rfl
theorem dX1_readFunction_91 : decode cX1_readFunction 91 = .ok (.ifCond .eq 16, 3) := xdt tbX1_readFunction_0_ok 50 rfl
theorem dX1_readFunction_94 : decode cX1_readFunction 94 = .ok (.aload_n 0, 1) := xdt tbX1_readFunction_0_ok 51 rfl
theorem dX1_readFunction_95 : decode cX1_readFunction 95 = .ok (.bipush 125, 2) := xdt tbX1_readFunction_0_ok 52 rfl
theorem dX1_readFunction_97 : decode cX1_readFunction 97 = .ok (.invokevirtual 67, 3) := xdt tbX1_readFunction_0_ok 53 rfl
theorem dX1_readFunction_100 : decode cX1_readFunction 100 = .ok (.ifCond .eq 7, 3) := xdt tbX1_readFunction_0_ok 54 rfl
theorem dX1_readFunction_103 : decode cX1_readFunction 103 = .ok (.iconst 1, 1) := xdt tbX1_readFunction_0_ok 55 rfl
theorem dX1_readFunction_104 : decode cX1_readFunction 104 = .ok (.goto 4, 3) := xdt tbX1_readFunction_0_ok 56 rfl
theorem dX1_readFunction_107 : decode cX1_readFunction 107 = .ok (.iconst 0, 1) := xdt tbX1_readFunction_0_ok 57 rfl
theorem dX1_readFunction_108 : decode cX1_readFunction 108 = .ok (.ireturn, 1) := xdt tbX1_readFunction_0_ok 58 rfl
def tbX1_readMember_0 : List (Nat × Instr × Nat) := [(0, .aload_n 0, 1), (1, .getfield 31, 3), (4, .aload_n 0, 1), (5, .getfield 52, 3), (8, .iaload, 1), (9, .tableswitch 105 262 265 #[31, 47, 79, 63], 31), (40, .aload_n 0, 1), (41, .getfield 12, 3), (44, .iload_n 2, 1), (45, .iconst 0, 1), (46, .invokevirtual 165, 3), (49, .aload_n 0, 1), (50, .iload_n 1, 1), (51, .iload_n 2, 1), (52, .invokevirtual 169, 3), (55, .ireturn, 1), (56, .aload_n 0, 1), (57, .getfield 12, 3), (60, .iload_n 2, 1), (61, .iconst 1, 1), (62, .invokevirtual 165, 3), (65, .aload_n 0, 1), (66, .iload_n 1, 1), (67, .iload_n 2, 1), (68, .invokevirtual 172, 3), (71, .ireturn, 1), (72, .aload_n 0, 1), (73, .getfield 12, 3), (76, .iload_n 2, 1), (77, .iconst 4, 1), (78, .invokevirtual 165, 3), (81, .aload_n 0, 1), (82, .iload_n 1, 1), (83, .iload_n 2, 1), (84, .invokevirtual 175, 3), (87, .ireturn, 1), (88, .aload_n 0, 1), (89, .getfield 12, 3), (92, .iload_n 2, 1), (93, .iconst 2, 1), (94, .invokevirtual 165, 3), (97, .aload_n 0, 1), (98, .dup, 1), (99, .getfield 52, 3), (102, .iconst 1, 1), (103, .iadd, 1), (104, .putfield 52, 3), (107, .aload_n 0, 1), (108, .iload_n 2, 1), (109, .iconst 0, 1), (110, .invokevirtual 178, 3), (113, .ireturn, 1), (114, .aload_n 0, 1), (115, .getfield 12, 3), (118, .iload_n 2, 1), (119, .iconst 3, 1), (120, .invokevirtual 165, 3), (123, .aload_n 0, 1), (124, .iload_n 2, 1), (125, .iconst 1, 1)]
theorem tbX1_readMember_0_ok : tbX1_readMember_0.all (fun q => decide (decode cX1_readMember q.1 = .ok q.2)) = true := by decide +kernel
theorem dX1_readMember_0 : decode cX1_readMember 0 = .ok (.aload_n 0, 1) := xdt tbX1_readMember_0_ok 0 rfl
theorem dX1_readMember_1 : decode cX1_readMember 1 = .ok (.getfield 31, 3) := xdt tbX1_readMember_0_ok 1 rfl
theorem dX1_readMember_4 : decode cX1_readMember 4 = .ok (.aload_n 0, 1) := xdt tbX1_readMember_0_ok 2 rfl
theorem dX1_readMember_5 : decode cX1_readMember 5 = .ok (.getfield 52, 3) := xdt tbX1_readMember_0_ok 3 rfl
theorem dX1_readMember_8 : decode cX1_readMember 8 = .ok (.iaload, 1) := xdt tbX1_readMember_0_ok 4 rfl
theorem dX1_readMember_9 : decode cX1_readMember 9 = .ok (.tableswitch 105 262 265 #[31, 47, 79, 63], 31) := xdt tbX1_readMember_0_ok 5 rfl
theorem dX1_readMember_40 : decode cX1_readMember 40 = .ok (.aload_n 0, 1) := xdt tbX1_readMember_0_ok 6 rfl
theorem dX1_readMember_41 : decode cX1_readMember 41 = .ok (.getfield 12, 3) := xdt tbX1_readMember_0_ok 7 rfl
theorem dX1_readMember_44 : decode cX1_readMember 44 = .ok (.iload_n 2, 1) := xdt tbX1_readMember_0_ok 8 rfl
theorem dX1_readMember_45 : decode cX1_readMember 45 = .ok (.iconst 0, 1) := xdt tbX1_readMember_0_ok 9 rfl
theorem dX1_readMember_46 : decode cX1_readMember 46 = .ok (.invokevirtual 165, 3) := xdt tbX1_readMember_0_ok 10 rfl
theorem dX1_readMember_49 : decode cX1_readMember 49 = .ok (.aload_n 0, 1) := xdt tbX1_readMember_0_ok 11 rfl
theorem dX1_readMember_50 : decode cX1_readMember 50 = .ok (.iload_n 1, 1) := xdt tbX1_readMember_0_ok 12 rfl
theorem dX1_readMember_51 : decode cX1_readMember 51 = .ok (.iload_n 2, 1) := xdt tbX1_readMember_0_ok 13 rfl
theorem dX1_readMember_52 : decode cX1_readMember 52 = .ok (.invokevirtual 169, 3) := xdt tbX1_readMember_0_ok 14 rfl
theorem dX1_readMember_55 : decode cX1_readMember 55 = .ok (.ireturn, 1) := xdt tbX1_readMember_0_ok 15 rfl
theorem dX1_readMember_56 : decode cX1_readMember 56 = .ok (.aload_n 0, 1) := xdt tbX1_readMember_0_ok 16 rfl
theorem dX1_readMember_57 : decode cX1_readMember 57 = .ok (.getfield 12, 3) := xdt tbX1_readMember_0_ok 17 rfl
theorem dX1_readMember_60 : decode cX1_readMember 60 = .ok (.iload_n 2, 1) := xdt tbX1_readMember_0_ok 18 rfl
theorem dX1_readMember_61 : decode cX1_readMember 61 = .ok (.iconst 1, 1) := xdt tbX1_readMember_0_ok 19 rfl
theorem dX1_readMember_62 : decode cX1_readMember 62 = .ok (.invokevirtual 165, 3) := xdt tbX1_readMember_0_ok 20 rfl
theorem dX1_readMember_65 : decode cX1_readMember 65 = .ok (.aload_n 0, 1) := xdt tbX1_readMember_0_ok 21 rfl
theorem dX1_readMember_66 : decode cX1_readMember 66 = .ok (.iload_n 1, 1) := xdt tbX1_readMember_0_ok 22 rfl
theorem dX1_readMember_67 : decode cX1_readMember 67 = .ok (.iload_n 2, 1) := xdt tbX1_readMember_0_ok 23 rfl
theorem dX1_readMember_68 : decode cX1_readMember 68 = .ok (.invokevirtual 172, 3) := xdt tbX1_readMember_0_ok 24 rfl
theorem dX1_readMember_71 : decode cX1_readMember 71 = .ok (.ireturn, 1) := xdt tbX1_readMember_0_ok 25 rfl
theorem dX1_readMember_72 : decode cX1_readMember 72 = .ok (.aload_n 0, 1) := xdt tbX1_readMember_0_ok 26 rfl
theorem dX1_readMember_73 : decode cX1_readMember 73 = .ok (.getfield 12, 3) := xdt tbX1_readMember_0_ok 27 rfl
theorem dX1_readMember_76 : decode cX1_readMember 76 = .ok (.iload_n 2, 1) := xdt tbX1_readMember_0_ok 28 rfl
theorem dX1_readMember_77 : decode cX1_readMember 77 = .ok (.iconst 4, 1) := xdt tbX1_readMember_0_ok 29 rfl
theorem dX1_readMember_78 : decode cX1_readMember 78 = .ok (.invokevirtual 165, 3) := xdt tbX1_readMember_0_ok 30 rfl
theorem dX1_readMember_81 : decode cX1_readMember 81 = .ok (.aload_n 0, 1) := xdt tbX1_readMember_0_ok 31 rfl
theorem dX1_readMember_82 : decode cX1_readMember 82 = .ok (.iload_n 1, 1) := xdt tbX1_readMember_0_ok 32 rfl
theorem dX1_readMember_83 : decode cX1_readMember 83 = .ok (.iload_n 2, 1) := xdt tbX1_readMember_0_ok 33 rfl
theorem dX1_readMember_84 : decode cX1_readMember 84 = .ok (.invokevirtual 175, 3) := xdt tbX1_readMember_0_ok 34 rfl
theorem dX1_readMember_87 : decode cX1_readMember 87 = .ok (.ireturn, 1) := xdt tbX1_readMember_0_ok 35 rfl
theorem dX1_readMember_88 : decode cX1_readMember 88 = .ok (.aload_n 0, 1) := xdt tbX1_readMember_0_ok 36 rfl
theorem dX1_readMember_89 : decode cX1_readMember 89 = .ok (.getfield 12, 3) := xdt tbX1_readMember_0_ok 37 rfl
theorem dX1_readMember_92 : decode cX1_readMember 92 = .ok (.iload_n 2, 1) := xdt tbX1_readMember_0_ok 38 rfl
theorem dX1_readMember_93 : decode cX1_readMember 93 = .ok (.iconst 2, 1) := xdt tbX1_readMember_0_ok 39 rfl
theorem dX1_readMember_94 : decode cX1_readMember 94 = .ok (.invokevirtual 165, 3) := xdt tbX1_readMember_0_ok 40 rfl
theorem dX1_readMember_97 : decode cX1_readMember 97 = .ok (.aload_n 0, 1) := xdt tbX1_readMember_0_ok 41 rfl
theorem dX1_readMember_98 : decode cX1_readMember 98 = .ok (.dup, 1) := xdt tbX1_readMember_0_ok 42 rfl
theorem dX1_readMember_99 : decode cX1_readMember 99 = .ok (.getfield 52, 3) := xdt tbX1_readMember_0_ok 43 rfl
theorem dX1_readMember_102 : decode cX1_readMember 102 = .ok (.iconst 1, 1) := xdt tbX1_readMember_0_ok 44 rfl
theorem dX1_readMember_103 : decode cX1_readMember 103 = .ok (.iadd, 1) := xdt tbX1_readMember_0_ok 45 rfl
theorem dX1_readMember_104 : decode cX1_readMember 104 = .ok (.putfield 52, 3) := xdt tbX1_readMember_0_ok 46 rfl
theorem dX1_readMember_107 : decode cX1_readMember 107 = .ok (.aload_n 0, 1) := xdt tbX1_readMember_0_ok 47 rfl
theorem dX1_readMember_108 : decode cX1_readMember 108 = .ok (.iload_n 2, 1) := xdt tbX1_readMember_0_ok 48 rfl
theorem dX1_readMember_109 : decode cX1_readMember 109 = .ok (.iconst 0, 1) := xdt tbX1_readMember_0_ok 49 rfl
theorem dX1_readMember_110 : decode cX1_readMember 110 = .ok (.invokevirtual 178, 3) := xdt tbX1_readMember_0_ok 50 rfl
theorem dX1_readMember_113 : decode cX1_readMember 113 = .ok (.ireturn, 1) := xdt tbX1_readMember_0_ok 51 rfl
theorem dX1_readMember_114 : decode cX1_readMember 114 = .ok (.aload_n 0, 1) := xdt tbX1_readMember_0_ok 52 rfl
theorem dX1_readMember_115 : decode cX1_readMember 115 = .ok (.getfield 12, 3) := xdt tbX1_readMember_0_ok 53 rfl
theorem dX1_readMember_118 : decode cX1_readMember 118 = .ok (.iload_n 2, 1) := xdt tbX1_readMember_0_ok 54 rfl
theorem dX1_readMember_119 : decode cX1_readMember 119 = .ok (.iconst 3, 1) := xdt tbX1_readMember_0_ok 55 rfl
theorem dX1_readMember_120 : decode cX1_readMember 120 = .ok (.invokevirtual 165, 3) := xdt tbX1_readMember_0_ok 56 rfl
theorem dX1_readMember_123 : decode cX1_readMember 123 = .ok (.aload_n 0, 1) := xdt tbX1_readMember_0_ok 57 rfl
theorem dX1_readMember_124 : decode cX1_readMember 124 = .ok (.iload_n 2, 1) := xdt tbX1_readMember_0_ok 58 rfl
theorem dX1_readMember_125 : decode cX1_readMember 125 = .ok (.iconst 1, 1) := xdt tbX1_readMember_0_ok 59 rfl
def tbX1_readMember_60 : List (Nat × Instr × Nat) := [(126, .invokevirtual 178, 3), (129, .ireturn, 1)]
theorem tbX1_readMember_60_ok : tbX1_readMember_60.all (fun q => decide (decode cX1_readMember q.1 = .ok q.2)) = true := by decide +kernel
theorem dX1_readMember_126 : decode cX1_readMember 126 = .ok (.invokevirtual 178, 3) := xdt tbX1_readMember_60_ok 0 rfl
theorem dX1_readMember_129 : decode cX1_readMember 129 = .ok (.ireturn, 1) := xdt tbX1_readMember_60_ok 1 rfl
def tbX1_readUnit_0 : List (Nat × Instr × Nat) := [(0, .iload_n 1, 1), (1, .bipush 7, 2), (3, .if_icmp .lt 9, 3), (6, .aload_n 0, 1), (7, .iconst 3, 1), (8, .invokevirtual 146, 3), (11, .ireturn, 1), (12, .aload_n 0, 1), (13, .dup, 1), (14, .getfield 52, 3), (17, .iconst 1, 1), (18, .iadd, 1), (19, .putfield 52, 3), (22, .aload_n 0, 1), (23, .iload_n 1, 1), (24, .invokevirtual 149, 3), (27, .ifCond .ne 5, 3), (30, .iconst 0, 1), (31, .ireturn, 1), (32, .iconst 0, 1), (33, .istore_n 2, 1), (34, .aload_n 0, 1), (35, .bipush 125, 2), (37, .invokevirtual 152, 3), (40, .ifCond .ne 50, 3), (43, .aload_n 0, 1), (44, .invokevirtual 155, 3), (47, .ifCond .ne 9, 3), (50, .aload_n 0, 1), (51, .iconst 1, 1), (52, .invokevirtual 146, 3), (55, .ireturn, 1), (56, .iload_n 2, 1), (57, .bipush 12, 2), (59, .if_icmp .lt 9, 3), (62, .aload_n 0, 1), (63, .iconst 3, 1), (64, .invokevirtual 146, 3), (67, .ireturn, 1), (68, .aload_n 0, 1), (69, .iload_n 1, 1), (70, .iload_n 1, 1), (71, .bipush 12, 2), (73, .imul, 1), (74, .iload_n 2, 1), (75, .iadd, 1), (76, .invokevirtual 158, 3), (79, .ifCond .ne 5, 3), (82, .iconst 0, 1), (83, .ireturn, 1), (84, .iinc 2 1, 3), (87, .goto (-53), 3), (90, .iconst 1, 1), (91, .ireturn, 1)]
theorem tbX1_readUnit_0_ok : tbX1_readUnit_0.all (fun q => decide (decode cX1_readUnit q.1 = .ok q.2)) = true := by decide +kernel
theorem dX1_readUnit_0 : decode cX1_readUnit 0 = .ok (.iload_n 1, 1) := xdt tbX1_readUnit_0_ok 0 rfl
theorem dX1_readUnit_1 : decode cX1_readUnit 1 = .ok (.bipush 7, 2) := xdt tbX1_readUnit_0_ok 1 rfl
theorem dX1_readUnit_3 : decode cX1_readUnit 3 = .ok (.if_icmp .lt 9, 3) := xdt tbX1_readUnit_0_ok 2 rfl
theorem dX1_readUnit_6 : decode cX1_readUnit 6 = .ok (.aload_n 0, 1) := xdt tbX1_readUnit_0_ok 3 rfl
theorem dX1_readUnit_7 : decode cX1_readUnit 7 = .ok (.iconst 3, 1) := xdt tbX1_readUnit_0_ok 4 rfl
theorem dX1_readUnit_8 : decode cX1_readUnit 8 = .ok (.invokevirtual 146, 3) := xdt tbX1_readUnit_0_ok 5 rfl
theorem dX1_readUnit_11 : decode cX1_readUnit 11 = .ok (.ireturn, 1) := xdt tbX1_readUnit_0_ok 6 rfl
theorem dX1_readUnit_12 : decode cX1_readUnit 12 = .ok (.aload_n 0, 1) := xdt tbX1_readUnit_0_ok 7 rfl
theorem dX1_readUnit_13 : decode cX1_readUnit 13 = .ok (.dup, 1) := xdt tbX1_readUnit_0_ok 8 rfl
theorem dX1_readUnit_14 : decode cX1_readUnit 14 = .ok (.getfield 52, 3) := xdt tbX1_readUnit_0_ok 9 rfl
theorem dX1_readUnit_17 : decode cX1_readUnit 17 = .ok (.iconst 1, 1) := xdt tbX1_readUnit_0_ok 10 rfl
theorem dX1_readUnit_18 : decode cX1_readUnit 18 = .ok (.iadd, 1) := xdt tbX1_readUnit_0_ok 11 rfl
theorem dX1_readUnit_19 : decode cX1_readUnit 19 = .ok (.putfield 52, 3) := xdt tbX1_readUnit_0_ok 12 rfl
theorem dX1_readUnit_22 : decode cX1_readUnit 22 = .ok (.aload_n 0, 1) := xdt tbX1_readUnit_0_ok 13 rfl
theorem dX1_readUnit_23 : decode cX1_readUnit 23 = .ok (.iload_n 1, 1) := xdt tbX1_readUnit_0_ok 14 rfl
theorem dX1_readUnit_24 : decode cX1_readUnit 24 = .ok (.invokevirtual 149, 3) := xdt tbX1_readUnit_0_ok 15 rfl
theorem dX1_readUnit_27 : decode cX1_readUnit 27 = .ok (.ifCond .ne 5, 3) := xdt tbX1_readUnit_0_ok 16 rfl
theorem dX1_readUnit_30 : decode cX1_readUnit 30 = .ok (.iconst 0, 1) := xdt tbX1_readUnit_0_ok 17 rfl
theorem dX1_readUnit_31 : decode cX1_readUnit 31 = .ok (.ireturn, 1) := xdt tbX1_readUnit_0_ok 18 rfl
theorem dX1_readUnit_32 : decode cX1_readUnit 32 = .ok (.iconst 0, 1) := xdt tbX1_readUnit_0_ok 19 rfl
theorem dX1_readUnit_33 : decode cX1_readUnit 33 = .ok (.istore_n 2, 1) := xdt tbX1_readUnit_0_ok 20 rfl
theorem dX1_readUnit_34 : decode cX1_readUnit 34 = .ok (.aload_n 0, 1) := xdt tbX1_readUnit_0_ok 21 rfl
theorem dX1_readUnit_35 : decode cX1_readUnit 35 = .ok (.bipush 125, 2) := xdt tbX1_readUnit_0_ok 22 rfl
theorem dX1_readUnit_37 : decode cX1_readUnit 37 = .ok (.invokevirtual 152, 3) := xdt tbX1_readUnit_0_ok 23 rfl
theorem dX1_readUnit_40 : decode cX1_readUnit 40 = .ok (.ifCond .ne 50, 3) := xdt tbX1_readUnit_0_ok 24 rfl
theorem dX1_readUnit_43 : decode cX1_readUnit 43 = .ok (.aload_n 0, 1) := xdt tbX1_readUnit_0_ok 25 rfl
theorem dX1_readUnit_44 : decode cX1_readUnit 44 = .ok (.invokevirtual 155, 3) := xdt tbX1_readUnit_0_ok 26 rfl
theorem dX1_readUnit_47 : decode cX1_readUnit 47 = .ok (.ifCond .ne 9, 3) := xdt tbX1_readUnit_0_ok 27 rfl
theorem dX1_readUnit_50 : decode cX1_readUnit 50 = .ok (.aload_n 0, 1) := xdt tbX1_readUnit_0_ok 28 rfl
theorem dX1_readUnit_51 : decode cX1_readUnit 51 = .ok (.iconst 1, 1) := xdt tbX1_readUnit_0_ok 29 rfl
theorem dX1_readUnit_52 : decode cX1_readUnit 52 = .ok (.invokevirtual 146, 3) := xdt tbX1_readUnit_0_ok 30 rfl
theorem dX1_readUnit_55 : decode cX1_readUnit 55 = .ok (.ireturn, 1) := xdt tbX1_readUnit_0_ok 31 rfl
theorem dX1_readUnit_56 : decode cX1_readUnit 56 = .ok (.iload_n 2, 1) := xdt tbX1_readUnit_0_ok 32 rfl
theorem dX1_readUnit_57 : decode cX1_readUnit 57 = .ok (.bipush 12, 2) := xdt tbX1_readUnit_0_ok 33 rfl
theorem dX1_readUnit_59 : decode cX1_readUnit 59 = .ok (.if_icmp .lt 9, 3) := xdt tbX1_readUnit_0_ok 34 rfl
theorem dX1_readUnit_62 : decode cX1_readUnit 62 = .ok (.aload_n 0, 1) := xdt tbX1_readUnit_0_ok 35 rfl
theorem dX1_readUnit_63 : decode cX1_readUnit 63 = .ok (.iconst 3, 1) := xdt tbX1_readUnit_0_ok 36 rfl
theorem dX1_readUnit_64 : decode cX1_readUnit 64 = .ok (.invokevirtual 146, 3) := xdt tbX1_readUnit_0_ok 37 rfl
theorem dX1_readUnit_67 : decode cX1_readUnit 67 = .ok (.ireturn, 1) := xdt tbX1_readUnit_0_ok 38 rfl
theorem dX1_readUnit_68 : decode cX1_readUnit 68 = .ok (.aload_n 0, 1) := xdt tbX1_readUnit_0_ok 39 rfl
theorem dX1_readUnit_69 : decode cX1_readUnit 69 = .ok (.iload_n 1, 1) := xdt tbX1_readUnit_0_ok 40 rfl
theorem dX1_readUnit_70 : decode cX1_readUnit 70 = .ok (.iload_n 1, 1) := xdt tbX1_readUnit_0_ok 41 rfl
theorem dX1_readUnit_71 : decode cX1_readUnit 71 = .ok (.bipush 12, 2) := xdt tbX1_readUnit_0_ok 42 rfl
theorem dX1_readUnit_73 : decode cX1_readUnit 73 = .ok (.imul, 1) := xdt tbX1_readUnit_0_ok 43 rfl
theorem dX1_readUnit_74 : decode cX1_readUnit 74 = .ok (.iload_n 2, 1) := xdt tbX1_readUnit_0_ok 44 rfl
theorem dX1_readUnit_75 : decode cX1_readUnit 75 = .ok (.iadd, 1) := xdt tbX1_readUnit_0_ok 45 rfl
theorem dX1_readUnit_76 : decode cX1_readUnit 76 = .ok (.invokevirtual 158, 3) := xdt tbX1_readUnit_0_ok 46 rfl
theorem dX1_readUnit_79 : decode cX1_readUnit 79 = .ok (.ifCond .ne 5, 3) := xdt tbX1_readUnit_0_ok 47 rfl
theorem dX1_readUnit_82 : decode cX1_readUnit 82 = .ok (.iconst 0, 1) := xdt tbX1_readUnit_0_ok 48 rfl
theorem dX1_readUnit_83 : decode cX1_readUnit 83 = .ok (.ireturn, 1) := xdt tbX1_readUnit_0_ok 49 rfl
theorem dX1_readUnit_84 : decode cX1_readUnit 84 = .ok (.iinc 2 1, 3) := xdt tbX1_readUnit_0_ok 50 rfl
theorem dX1_readUnit_87 : decode cX1_readUnit 87 = .ok (.goto (-53), 3) := xdt tbX1_readUnit_0_ok 51 rfl
theorem dX1_readUnit_90 : decode cX1_readUnit 90 = .ok (.iconst 1, 1) := xdt tbX1_readUnit_0_ok 52 rfl
theorem dX1_readUnit_91 : decode cX1_readUnit 91 = .ok (.ireturn, 1) := xdt tbX1_readUnit_0_ok 53 rfl
def tbX1_readMain_0 : List (Nat × Instr × Nat) := [(0, .aload_n 0, 1), (1, .sipush 261, 3), (4, .invokevirtual 152, 3), (7, .ifCond .ne 5, 3), (10, .iconst 1, 1), (11, .ireturn, 1), (12, .aload_n 0, 1), (13, .bipush 123, 2), (15, .invokevirtual 67, 3), (18, .ifCond .ne 5, 3), (21, .iconst 0, 1), (22, .ireturn, 1), (23, .iconst 0, 1), (24, .istore_n 1, 1), (25, .aload_n 0, 1), (26, .bipush 125, 2), (28, .invokevirtual 152, 3), (31, .ifCond .ne 111, 3), (34, .aload_n 0, 1), (35, .getfield 31, 3), (38, .aload_n 0, 1), (39, .getfield 52, 3), (42, .iaload, 1), (43, .sipush 257, 3), (46, .if_icmp .eq 24, 3), (49, .aload_n 0, 1), (50, .getfield 31, 3), (53, .aload_n 0, 1), (54, .getfield 52, 3), (57, .iaload, 1), (58, .sipush 264, 3), (61, .if_icmp .eq 9, 3), (64, .aload_n 0, 1), (65, .iconst 1, 1), (66, .invokevirtual 146, 3), (69, .ireturn, 1), (70, .iload_n 1, 1), (71, .bipush 10, 2), (73, .if_icmp .lt 9, 3), (76, .aload_n 0, 1), (77, .iconst 3, 1), (78, .invokevirtual 146, 3), (81, .ireturn, 1), (82, .aload_n 0, 1), (83, .getfield 12, 3), (86, .getfield 192, 3), (89, .iload_n 1, 1), (90, .aload_n 0, 1), (91, .getfield 12, 3), (94, .getfield 195, 3), (97, .getfield 199, 3), (100, .iastore, 1), (101, .aload_n 0, 1), (102, .getfield 12, 3), (105, .iload_n 1, 1), (106, .iconst 1, 1), (107, .iadd, 1), (108, .putfield 204, 3), (111, .aload_n 0, 1), (112, .iconst (-1), 1)]
theorem tbX1_readMain_0_ok : tbX1_readMain_0.all (fun q => decide (decode cX1_readMain q.1 = .ok q.2)) = true := by decide +kernel
theorem dX1_readMain_0 : decode cX1_readMain 0 = .ok (.aload_n 0, 1) := xdt tbX1_readMain_0_ok 0 rfl
theorem dX1_readMain_1 : decode cX1_readMain 1 = .ok (.sipush 261, 3) := xdt tbX1_readMain_0_ok 1 rfl
theorem dX1_readMain_4 : decode cX1_readMain 4 = .ok (.invokevirtual 152, 3) := xdt tbX1_readMain_0_ok 2 rfl
theorem dX1_readMain_7 : decode cX1_readMain 7 = .ok (.ifCond .ne 5, 3) := xdt tbX1_readMain_0_ok 3 rfl
theorem dX1_readMain_10 : decode cX1_readMain 10 = .ok (.iconst 1, 1) := xdt tbX1_readMain_0_ok 4 rfl
theorem dX1_readMain_11 : decode cX1_readMain 11 = .ok (.ireturn, 1) := xdt tbX1_readMain_0_ok 5 rfl
theorem dX1_readMain_12 : decode cX1_readMain 12 = .ok (.aload_n 0, 1) := xdt tbX1_readMain_0_ok 6 rfl
theorem dX1_readMain_13 : decode cX1_readMain 13 = .ok (.bipush 123, 2) := xdt tbX1_readMain_0_ok 7 rfl
theorem dX1_readMain_15 : decode cX1_readMain 15 = .ok (.invokevirtual 67, 3) := xdt tbX1_readMain_0_ok 8 rfl
theorem dX1_readMain_18 : decode cX1_readMain 18 = .ok (.ifCond .ne 5, 3) := xdt tbX1_readMain_0_ok 9 rfl
theorem dX1_readMain_21 : decode cX1_readMain 21 = .ok (.iconst 0, 1) := xdt tbX1_readMain_0_ok 10 rfl
theorem dX1_readMain_22 : decode cX1_readMain 22 = .ok (.ireturn, 1) := xdt tbX1_readMain_0_ok 11 rfl
theorem dX1_readMain_23 : decode cX1_readMain 23 = .ok (.iconst 0, 1) := xdt tbX1_readMain_0_ok 12 rfl
theorem dX1_readMain_24 : decode cX1_readMain 24 = .ok (.istore_n 1, 1) := xdt tbX1_readMain_0_ok 13 rfl
theorem dX1_readMain_25 : decode cX1_readMain 25 = .ok (.aload_n 0, 1) := xdt tbX1_readMain_0_ok 14 rfl
theorem dX1_readMain_26 : decode cX1_readMain 26 = .ok (.bipush 125, 2) := xdt tbX1_readMain_0_ok 15 rfl
theorem dX1_readMain_28 : decode cX1_readMain 28 = .ok (.invokevirtual 152, 3) := xdt tbX1_readMain_0_ok 16 rfl
theorem dX1_readMain_31 : decode cX1_readMain 31 = .ok (.ifCond .ne 111, 3) := xdt tbX1_readMain_0_ok 17 rfl
theorem dX1_readMain_34 : decode cX1_readMain 34 = .ok (.aload_n 0, 1) := xdt tbX1_readMain_0_ok 18 rfl
theorem dX1_readMain_35 : decode cX1_readMain 35 = .ok (.getfield 31, 3) := xdt tbX1_readMain_0_ok 19 rfl
theorem dX1_readMain_38 : decode cX1_readMain 38 = .ok (.aload_n 0, 1) := xdt tbX1_readMain_0_ok 20 rfl
theorem dX1_readMain_39 : decode cX1_readMain 39 = .ok (.getfield 52, 3) := xdt tbX1_readMain_0_ok 21 rfl
theorem dX1_readMain_42 : decode cX1_readMain 42 = .ok (.iaload, 1) := xdt tbX1_readMain_0_ok 22 rfl
theorem dX1_readMain_43 : decode cX1_readMain 43 = .ok (.sipush 257, 3) := xdt tbX1_readMain_0_ok 23 rfl
theorem dX1_readMain_46 : decode cX1_readMain 46 = .ok (.if_icmp .eq 24, 3) := xdt tbX1_readMain_0_ok 24 rfl
theorem dX1_readMain_49 : decode cX1_readMain 49 = .ok (.aload_n 0, 1) := xdt tbX1_readMain_0_ok 25 rfl
theorem dX1_readMain_50 : decode cX1_readMain 50 = .ok (.getfield 31, 3) := xdt tbX1_readMain_0_ok 26 rfl
theorem dX1_readMain_53 : decode cX1_readMain 53 = .ok (.aload_n 0, 1) := xdt tbX1_readMain_0_ok 27 rfl
theorem dX1_readMain_54 : decode cX1_readMain 54 = .ok (.getfield 52, 3) := xdt tbX1_readMain_0_ok 28 rfl
theorem dX1_readMain_57 : decode cX1_readMain 57 = .ok (.iaload, 1) := xdt tbX1_readMain_0_ok 29 rfl
theorem dX1_readMain_58 : decode cX1_readMain 58 = .ok (.sipush 264, 3) := xdt tbX1_readMain_0_ok 30 rfl
theorem dX1_readMain_61 : decode cX1_readMain 61 = .ok (.if_icmp .eq 9, 3) := xdt tbX1_readMain_0_ok 31 rfl
theorem dX1_readMain_64 : decode cX1_readMain 64 = .ok (.aload_n 0, 1) := xdt tbX1_readMain_0_ok 32 rfl
theorem dX1_readMain_65 : decode cX1_readMain 65 = .ok (.iconst 1, 1) := xdt tbX1_readMain_0_ok 33 rfl
theorem dX1_readMain_66 : decode cX1_readMain 66 = .ok (.invokevirtual 146, 3) := xdt tbX1_readMain_0_ok 34 rfl
theorem dX1_readMain_69 : decode cX1_readMain 69 = .ok (.ireturn, 1) := xdt tbX1_readMain_0_ok 35 rfl
theorem dX1_readMain_70 : decode cX1_readMain 70 = .ok (.iload_n 1, 1) := xdt tbX1_readMain_0_ok 36 rfl
theorem dX1_readMain_71 : decode cX1_readMain 71 = .ok (.bipush 10, 2) := xdt tbX1_readMain_0_ok 37 rfl
theorem dX1_readMain_73 : decode cX1_readMain 73 = .ok (.if_icmp .lt 9, 3) := xdt tbX1_readMain_0_ok 38 rfl
theorem dX1_readMain_76 : decode cX1_readMain 76 = .ok (.aload_n 0, 1) := xdt tbX1_readMain_0_ok 39 rfl
theorem dX1_readMain_77 : decode cX1_readMain 77 = .ok (.iconst 3, 1) := xdt tbX1_readMain_0_ok 40 rfl
theorem dX1_readMain_78 : decode cX1_readMain 78 = .ok (.invokevirtual 146, 3) := xdt tbX1_readMain_0_ok 41 rfl
theorem dX1_readMain_81 : decode cX1_readMain 81 = .ok (.ireturn, 1) := xdt tbX1_readMain_0_ok 42 rfl
theorem dX1_readMain_82 : decode cX1_readMain 82 = .ok (.aload_n 0, 1) := xdt tbX1_readMain_0_ok 43 rfl
theorem dX1_readMain_83 : decode cX1_readMain 83 = .ok (.getfield 12, 3) := xdt tbX1_readMain_0_ok 44 rfl
theorem dX1_readMain_86 : decode cX1_readMain 86 = .ok (.getfield 192, 3) := xdt tbX1_readMain_0_ok 45 rfl
theorem dX1_readMain_89 : decode cX1_readMain 89 = .ok (.iload_n 1, 1) := xdt tbX1_readMain_0_ok 46 rfl
theorem dX1_readMain_90 : decode cX1_readMain 90 = .ok (.aload_n 0, 1) := xdt tbX1_readMain_0_ok 47 rfl
theorem dX1_readMain_91 : decode cX1_readMain 91 = .ok (.getfield 12, 3) := xdt tbX1_readMain_0_ok 48 rfl
theorem dX1_readMain_94 : decode cX1_readMain 94 = .ok (.getfield 195, 3) := xdt tbX1_readMain_0_ok 49 rfl
theorem dX1_readMain_97 : decode cX1_readMain 97 = .ok (.getfield 199, 3) := xdt tbX1_readMain_0_ok 50 rfl
theorem dX1_readMain_100 : decode cX1_readMain 100 = .ok (.iastore, 1) := xdt tbX1_readMain_0_ok 51 rfl
theorem dX1_readMain_101 : decode cX1_readMain 101 = .ok (.aload_n 0, 1) := xdt tbX1_readMain_0_ok 52 rfl
theorem dX1_readMain_102 : decode cX1_readMain 102 = .ok (.getfield 12, 3) := xdt tbX1_readMain_0_ok 53 rfl
theorem dX1_readMain_105 : decode cX1_readMain 105 = .ok (.iload_n 1, 1) := xdt tbX1_readMain_0_ok 54 rfl
theorem dX1_readMain_106 : decode cX1_readMain 106 = .ok (.iconst 1, 1) := xdt tbX1_readMain_0_ok 55 rfl
theorem dX1_readMain_107 : decode cX1_readMain 107 = .ok (.iadd, 1) := xdt tbX1_readMain_0_ok 56 rfl
theorem dX1_readMain_108 : decode cX1_readMain 108 = .ok (.putfield 204, 3) := xdt tbX1_readMain_0_ok 57 rfl
theorem dX1_readMain_111 : decode cX1_readMain 111 = .ok (.aload_n 0, 1) := xdt tbX1_readMain_0_ok 58 rfl
theorem dX1_readMain_112 : decode cX1_readMain 112 = .ok (.iconst (-1), 1) := xdt tbX1_readMain_0_ok 59 rfl
def tbX1_readMain_60 : List (Nat × Instr × Nat) := [(113, .aload_n 0, 1), (114, .sipush 264, 3), (117, .invokevirtual 152, 3), (120, .ifCond .ne 7, 3), (123, .iconst 1, 1), (124, .goto 4, 3), (127, .iconst 0, 1), (128, .invokevirtual 178, 3), (131, .ifCond .ne 5, 3), (134, .iconst 0, 1), (135, .ireturn, 1), (136, .iinc 1 1, 3), (139, .goto (-114), 3), (142, .iconst 1, 1), (143, .ireturn, 1)]
theorem tbX1_readMain_60_ok : tbX1_readMain_60.all (fun q => decide (decode cX1_readMain q.1 = .ok q.2)) = true := by decide +kernel
theorem dX1_readMain_113 : decode cX1_readMain 113 = .ok (.aload_n 0, 1) := xdt tbX1_readMain_60_ok 0 rfl
theorem dX1_readMain_114 : decode cX1_readMain 114 = .ok (.sipush 264, 3) := xdt tbX1_readMain_60_ok 1 rfl
theorem dX1_readMain_117 : decode cX1_readMain 117 = .ok (.invokevirtual 152, 3) := xdt tbX1_readMain_60_ok 2 rfl
theorem dX1_readMain_120 : decode cX1_readMain 120 = .ok (.ifCond .ne 7, 3) := xdt tbX1_readMain_60_ok 3 rfl
theorem dX1_readMain_123 : decode cX1_readMain 123 = .ok (.iconst 1, 1) := xdt tbX1_readMain_60_ok 4 rfl
theorem dX1_readMain_124 : decode cX1_readMain 124 = .ok (.goto 4, 3) := xdt tbX1_readMain_60_ok 5 rfl
theorem dX1_readMain_127 : decode cX1_readMain 127 = .ok (.iconst 0, 1) := xdt tbX1_readMain_60_ok 6 rfl
theorem dX1_readMain_128 : decode cX1_readMain 128 = .ok (.invokevirtual 178, 3) := xdt tbX1_readMain_60_ok 7 rfl
theorem dX1_readMain_131 : decode cX1_readMain 131 = .ok (.ifCond .ne 5, 3) := xdt tbX1_readMain_60_ok 8 rfl
theorem dX1_readMain_134 : decode cX1_readMain 134 = .ok (.iconst 0, 1) := xdt tbX1_readMain_60_ok 9 rfl
theorem dX1_readMain_135 : decode cX1_readMain 135 = .ok (.ireturn, 1) := xdt tbX1_readMain_60_ok 10 rfl
theorem dX1_readMain_136 : decode cX1_readMain 136 = .ok (.iinc 1 1, 3) := xdt tbX1_readMain_60_ok 11 rfl
theorem dX1_readMain_139 : decode cX1_readMain 139 = .ok (.goto (-114), 3) := xdt tbX1_readMain_60_ok 12 rfl
theorem dX1_readMain_142 : decode cX1_readMain 142 = .ok (.iconst 1, 1) := xdt tbX1_readMain_60_ok 13 rfl
theorem dX1_readMain_143 : decode cX1_readMain 143 = .ok (.ireturn, 1) := xdt tbX1_readMain_60_ok 14 rfl
def tbX1_lookUp_0 : List (Nat × Instr × Nat) := [(0, .aload_n 0, 1), (1, .getfield 18, 3), (4, .iload_n 1, 1), (5, .bipush 26, 2), (7, .idiv, 1), (8, .iaload, 1), (9, .istore_n 2, 1), (10, .iload_n 2, 1), (11, .iconst (-1), 1), (12, .if_icmp .ne 7, 3), (15, .iconst (-1), 1), (16, .goto 20, 3), (19, .aload_n 0, 1), (20, .getfield 12, 3), (23, .getfield 182, 3), (26, .iload_n 2, 1), (27, .bipush 26, 2), (29, .imul, 1), (30, .iload_n 1, 1), (31, .bipush 26, 2), (33, .irem, 1), (34, .iadd, 1), (35, .iaload, 1), (36, .ireturn, 1)]
theorem tbX1_lookUp_0_ok : tbX1_lookUp_0.all (fun q => decide (decode cX1_lookUp q.1 = .ok q.2)) = true := by decide +kernel
theorem dX1_lookUp_0 : decode cX1_lookUp 0 = .ok (.aload_n 0, 1) := xdt tbX1_lookUp_0_ok 0 rfl
theorem dX1_lookUp_1 : decode cX1_lookUp 1 = .ok (.getfield 18, 3) := xdt tbX1_lookUp_0_ok 1 rfl
theorem dX1_lookUp_4 : decode cX1_lookUp 4 = .ok (.iload_n 1, 1) := xdt tbX1_lookUp_0_ok 2 rfl
theorem dX1_lookUp_5 : decode cX1_lookUp 5 = .ok (.bipush 26, 2) := xdt tbX1_lookUp_0_ok 3 rfl
theorem dX1_lookUp_7 : decode cX1_lookUp 7 = .ok (.idiv, 1) := xdt tbX1_lookUp_0_ok 4 rfl
theorem dX1_lookUp_8 : decode cX1_lookUp 8 = .ok (.iaload, 1) := xdt tbX1_lookUp_0_ok 5 rfl
theorem dX1_lookUp_9 : decode cX1_lookUp 9 = .ok (.istore_n 2, 1) := xdt tbX1_lookUp_0_ok 6 rfl
theorem dX1_lookUp_10 : decode cX1_lookUp 10 = .ok (.iload_n 2, 1) := xdt tbX1_lookUp_0_ok 7 rfl
theorem dX1_lookUp_11 : decode cX1_lookUp 11 = .ok (.iconst (-1), 1) := xdt tbX1_lookUp_0_ok 8 rfl
theorem dX1_lookUp_12 : decode cX1_lookUp 12 = .ok (.if_icmp .ne 7, 3) := xdt tbX1_lookUp_0_ok 9 rfl
theorem dX1_lookUp_15 : decode cX1_lookUp 15 = .ok (.iconst (-1), 1) := xdt tbX1_lookUp_0_ok 10 rfl
theorem dX1_lookUp_16 : decode cX1_lookUp 16 = .ok (.goto 20, 3) := xdt tbX1_lookUp_0_ok 11 rfl
theorem dX1_lookUp_19 : decode cX1_lookUp 19 = .ok (.aload_n 0, 1) := xdt tbX1_lookUp_0_ok 12 rfl
theorem dX1_lookUp_20 : decode cX1_lookUp 20 = .ok (.getfield 12, 3) := xdt tbX1_lookUp_0_ok 13 rfl
theorem dX1_lookUp_23 : decode cX1_lookUp 23 = .ok (.getfield 182, 3) := xdt tbX1_lookUp_0_ok 14 rfl
theorem dX1_lookUp_26 : decode cX1_lookUp 26 = .ok (.iload_n 2, 1) := xdt tbX1_lookUp_0_ok 15 rfl
theorem dX1_lookUp_27 : decode cX1_lookUp 27 = .ok (.bipush 26, 2) := xdt tbX1_lookUp_0_ok 16 rfl
theorem dX1_lookUp_29 : decode cX1_lookUp 29 = .ok (.imul, 1) := xdt tbX1_lookUp_0_ok 17 rfl
theorem dX1_lookUp_30 : decode cX1_lookUp 30 = .ok (.iload_n 1, 1) := xdt tbX1_lookUp_0_ok 18 rfl
theorem dX1_lookUp_31 : decode cX1_lookUp 31 = .ok (.bipush 26, 2) := xdt tbX1_lookUp_0_ok 19 rfl
theorem dX1_lookUp_33 : decode cX1_lookUp 33 = .ok (.irem, 1) := xdt tbX1_lookUp_0_ok 20 rfl
theorem dX1_lookUp_34 : decode cX1_lookUp 34 = .ok (.iadd, 1) := xdt tbX1_lookUp_0_ok 21 rfl
theorem dX1_lookUp_35 : decode cX1_lookUp 35 = .ok (.iaload, 1) := xdt tbX1_lookUp_0_ok 22 rfl
theorem dX1_lookUp_36 : decode cX1_lookUp 36 = .ok (.ireturn, 1) := xdt tbX1_lookUp_0_ok 23 rfl
def tbX1_refuseName_0 : List (Nat × Instr × Nat) := [(0, .aload_n 0, 1), (1, .iconst 5, 1), (2, .putfield 56, 3), (5, .aload_n 0, 1), (6, .iload_n 1, 1), (7, .putfield 73, 3), (10, .iconst 0, 1), (11, .ireturn, 1)]
theorem tbX1_refuseName_0_ok : tbX1_refuseName_0.all (fun q => decide (decode cX1_refuseName q.1 = .ok q.2)) = true := by decide +kernel
theorem dX1_refuseName_0 : decode cX1_refuseName 0 = .ok (.aload_n 0, 1) := xdt tbX1_refuseName_0_ok 0 rfl
theorem dX1_refuseName_1 : decode cX1_refuseName 1 = .ok (.iconst 5, 1) := xdt tbX1_refuseName_0_ok 1 rfl
theorem dX1_refuseName_2 : decode cX1_refuseName 2 = .ok (.putfield 56, 3) := xdt tbX1_refuseName_0_ok 2 rfl
theorem dX1_refuseName_5 : decode cX1_refuseName 5 = .ok (.aload_n 0, 1) := xdt tbX1_refuseName_0_ok 3 rfl
theorem dX1_refuseName_6 : decode cX1_refuseName 6 = .ok (.iload_n 1, 1) := xdt tbX1_refuseName_0_ok 4 rfl
theorem dX1_refuseName_7 : decode cX1_refuseName 7 = .ok (.putfield 73, 3) := xdt tbX1_refuseName_0_ok 5 rfl
theorem dX1_refuseName_10 : decode cX1_refuseName 10 = .ok (.iconst 0, 1) := xdt tbX1_refuseName_0_ok 6 rfl
theorem dX1_refuseName_11 : decode cX1_refuseName 11 = .ok (.ireturn, 1) := xdt tbX1_refuseName_0_ok 7 rfl
def tbX1_resolveTarget_0 : List (Nat × Instr × Nat) := [(0, .aload_n 0, 1), (1, .aload_n 0, 1), (2, .getfield 12, 3), (5, .getfield 195, 3), (8, .getfield 210, 3), (11, .iload_n 1, 1), (12, .iaload, 1), (13, .invokevirtual 255, 3), (16, .istore_n 2, 1), (17, .iload_n 2, 1), (18, .iconst (-1), 1), (19, .if_icmp .eq 16, 3), (22, .aload_n 0, 1), (23, .getfield 12, 3), (26, .getfield 258, 3), (29, .iload_n 2, 1), (30, .iaload, 1), (31, .iconst 1, 1), (32, .if_icmp .eq 14, 3), (35, .aload_n 0, 1), (36, .aload_n 0, 1), (37, .getfield 25, 3), (40, .iload_n 1, 1), (41, .iaload, 1), (42, .invokevirtual 259, 3), (45, .ireturn, 1), (46, .aload_n 0, 1), (47, .getfield 12, 3), (50, .getfield 195, 3), (53, .getfield 210, 3), (56, .iload_n 1, 1), (57, .iload_n 2, 1), (58, .iastore, 1), (59, .iconst 1, 1), (60, .ireturn, 1)]
theorem tbX1_resolveTarget_0_ok : tbX1_resolveTarget_0.all (fun q => decide (decode cX1_resolveTarget q.1 = .ok q.2)) = true := by decide +kernel
theorem dX1_resolveTarget_0 : decode cX1_resolveTarget 0 = .ok (.aload_n 0, 1) := xdt tbX1_resolveTarget_0_ok 0 rfl
theorem dX1_resolveTarget_1 : decode cX1_resolveTarget 1 = .ok (.aload_n 0, 1) := xdt tbX1_resolveTarget_0_ok 1 rfl
theorem dX1_resolveTarget_2 : decode cX1_resolveTarget 2 = .ok (.getfield 12, 3) := xdt tbX1_resolveTarget_0_ok 2 rfl
theorem dX1_resolveTarget_5 : decode cX1_resolveTarget 5 = .ok (.getfield 195, 3) := xdt tbX1_resolveTarget_0_ok 3 rfl
theorem dX1_resolveTarget_8 : decode cX1_resolveTarget 8 = .ok (.getfield 210, 3) := xdt tbX1_resolveTarget_0_ok 4 rfl
theorem dX1_resolveTarget_11 : decode cX1_resolveTarget 11 = .ok (.iload_n 1, 1) := xdt tbX1_resolveTarget_0_ok 5 rfl
theorem dX1_resolveTarget_12 : decode cX1_resolveTarget 12 = .ok (.iaload, 1) := xdt tbX1_resolveTarget_0_ok 6 rfl
theorem dX1_resolveTarget_13 : decode cX1_resolveTarget 13 = .ok (.invokevirtual 255, 3) := xdt tbX1_resolveTarget_0_ok 7 rfl
theorem dX1_resolveTarget_16 : decode cX1_resolveTarget 16 = .ok (.istore_n 2, 1) := xdt tbX1_resolveTarget_0_ok 8 rfl
theorem dX1_resolveTarget_17 : decode cX1_resolveTarget 17 = .ok (.iload_n 2, 1) := xdt tbX1_resolveTarget_0_ok 9 rfl
theorem dX1_resolveTarget_18 : decode cX1_resolveTarget 18 = .ok (.iconst (-1), 1) := xdt tbX1_resolveTarget_0_ok 10 rfl
theorem dX1_resolveTarget_19 : decode cX1_resolveTarget 19 = .ok (.if_icmp .eq 16, 3) := xdt tbX1_resolveTarget_0_ok 11 rfl
theorem dX1_resolveTarget_22 : decode cX1_resolveTarget 22 = .ok (.aload_n 0, 1) := xdt tbX1_resolveTarget_0_ok 12 rfl
theorem dX1_resolveTarget_23 : decode cX1_resolveTarget 23 = .ok (.getfield 12, 3) := xdt tbX1_resolveTarget_0_ok 13 rfl
theorem dX1_resolveTarget_26 : decode cX1_resolveTarget 26 = .ok (.getfield 258, 3) := xdt tbX1_resolveTarget_0_ok 14 rfl
theorem dX1_resolveTarget_29 : decode cX1_resolveTarget 29 = .ok (.iload_n 2, 1) := xdt tbX1_resolveTarget_0_ok 15 rfl
theorem dX1_resolveTarget_30 : decode cX1_resolveTarget 30 = .ok (.iaload, 1) := xdt tbX1_resolveTarget_0_ok 16 rfl
theorem dX1_resolveTarget_31 : decode cX1_resolveTarget 31 = .ok (.iconst 1, 1) := xdt tbX1_resolveTarget_0_ok 17 rfl
theorem dX1_resolveTarget_32 : decode cX1_resolveTarget 32 = .ok (.if_icmp .eq 14, 3) := xdt tbX1_resolveTarget_0_ok 18 rfl
theorem dX1_resolveTarget_35 : decode cX1_resolveTarget 35 = .ok (.aload_n 0, 1) := xdt tbX1_resolveTarget_0_ok 19 rfl
theorem dX1_resolveTarget_36 : decode cX1_resolveTarget 36 = .ok (.aload_n 0, 1) := xdt tbX1_resolveTarget_0_ok 20 rfl
theorem dX1_resolveTarget_37 : decode cX1_resolveTarget 37 = .ok (.getfield 25, 3) := xdt tbX1_resolveTarget_0_ok 21 rfl
theorem dX1_resolveTarget_40 : decode cX1_resolveTarget 40 = .ok (.iload_n 1, 1) := xdt tbX1_resolveTarget_0_ok 22 rfl
theorem dX1_resolveTarget_41 : decode cX1_resolveTarget 41 = .ok (.iaload, 1) := xdt tbX1_resolveTarget_0_ok 23 rfl
theorem dX1_resolveTarget_42 : decode cX1_resolveTarget 42 = .ok (.invokevirtual 259, 3) := xdt tbX1_resolveTarget_0_ok 24 rfl
theorem dX1_resolveTarget_45 : decode cX1_resolveTarget 45 = .ok (.ireturn, 1) := xdt tbX1_resolveTarget_0_ok 25 rfl
theorem dX1_resolveTarget_46 : decode cX1_resolveTarget 46 = .ok (.aload_n 0, 1) := xdt tbX1_resolveTarget_0_ok 26 rfl
theorem dX1_resolveTarget_47 : decode cX1_resolveTarget 47 = .ok (.getfield 12, 3) := xdt tbX1_resolveTarget_0_ok 27 rfl
theorem dX1_resolveTarget_50 : decode cX1_resolveTarget 50 = .ok (.getfield 195, 3) := xdt tbX1_resolveTarget_0_ok 28 rfl
theorem dX1_resolveTarget_53 : decode cX1_resolveTarget 53 = .ok (.getfield 210, 3) := xdt tbX1_resolveTarget_0_ok 29 rfl
theorem dX1_resolveTarget_56 : decode cX1_resolveTarget 56 = .ok (.iload_n 1, 1) := xdt tbX1_resolveTarget_0_ok 30 rfl
theorem dX1_resolveTarget_57 : decode cX1_resolveTarget 57 = .ok (.iload_n 2, 1) := xdt tbX1_resolveTarget_0_ok 31 rfl
theorem dX1_resolveTarget_58 : decode cX1_resolveTarget 58 = .ok (.iastore, 1) := xdt tbX1_resolveTarget_0_ok 32 rfl
theorem dX1_resolveTarget_59 : decode cX1_resolveTarget 59 = .ok (.iconst 1, 1) := xdt tbX1_resolveTarget_0_ok 33 rfl
theorem dX1_resolveTarget_60 : decode cX1_resolveTarget 60 = .ok (.ireturn, 1) := xdt tbX1_resolveTarget_0_ok 34 rfl
def tbX1_resolveCode_0 : List (Nat × Instr × Nat) := [(0, .aload_n 0, 1), (1, .getfield 12, 3), (4, .getfield 195, 3), (7, .astore_n 2, 1), (8, .aload_n 0, 1), (9, .aload_n 2, 1), (10, .getfield 246, 3), (13, .iload_n 1, 1), (14, .iaload, 1), (15, .invokevirtual 255, 3), (18, .istore_n 3, 1), (19, .iload_n 3, 1), (20, .iconst (-1), 1), (21, .if_icmp .eq 39, 3), (24, .aload_n 0, 1), (25, .getfield 12, 3), (28, .getfield 258, 3), (31, .iload_n 3, 1), (32, .iaload, 1), (33, .iconst 4, 1), (34, .if_icmp .ne 7, 3), (37, .iconst 1, 1), (38, .goto 4, 3), (41, .iconst 0, 1), (42, .aload_n 2, 1), (43, .getfield 243, 3), (46, .iload_n 1, 1), (47, .iaload, 1), (48, .iconst 2, 1), (49, .if_icmp .ne 7, 3), (52, .iconst 1, 1), (53, .goto 4, 3), (56, .iconst 0, 1), (57, .if_icmp .eq 14, 3), (60, .aload_n 0, 1), (61, .aload_n 0, 1), (62, .getfield 22, 3), (65, .iload_n 1, 1), (66, .iaload, 1), (67, .invokevirtual 259, 3), (70, .ireturn, 1), (71, .aload_n 0, 1), (72, .getfield 12, 3), (75, .getfield 258, 3), (78, .iload_n 3, 1), (79, .iaload, 1), (80, .ifCond .ne 28, 3), (83, .aload_n 2, 1), (84, .getfield 243, 3), (87, .iload_n 1, 1), (88, .iconst 0, 1), (89, .iastore, 1), (90, .aload_n 2, 1), (91, .getfield 246, 3), (94, .iload_n 1, 1), (95, .aload_n 0, 1), (96, .getfield 12, 3), (99, .getfield 191, 3), (102, .iload_n 3, 1), (103, .iaload, 1)]
theorem tbX1_resolveCode_0_ok : tbX1_resolveCode_0.all (fun q => decide (decode cX1_resolveCode q.1 = .ok q.2)) = true := by decide +kernel
theorem dX1_resolveCode_0 : decode cX1_resolveCode 0 = .ok (.aload_n 0, 1) := xdt tbX1_resolveCode_0_ok 0 rfl
theorem dX1_resolveCode_1 : decode cX1_resolveCode 1 = .ok (.getfield 12, 3) := xdt tbX1_resolveCode_0_ok 1 rfl
theorem dX1_resolveCode_4 : decode cX1_resolveCode 4 = .ok (.getfield 195, 3) := xdt tbX1_resolveCode_0_ok 2 rfl
theorem dX1_resolveCode_7 : decode cX1_resolveCode 7 = .ok (.astore_n 2, 1) := xdt tbX1_resolveCode_0_ok 3 rfl
theorem dX1_resolveCode_8 : decode cX1_resolveCode 8 = .ok (.aload_n 0, 1) := xdt tbX1_resolveCode_0_ok 4 rfl
theorem dX1_resolveCode_9 : decode cX1_resolveCode 9 = .ok (.aload_n 2, 1) := xdt tbX1_resolveCode_0_ok 5 rfl
theorem dX1_resolveCode_10 : decode cX1_resolveCode 10 = .ok (.getfield 246, 3) := xdt tbX1_resolveCode_0_ok 6 rfl
theorem dX1_resolveCode_13 : decode cX1_resolveCode 13 = .ok (.iload_n 1, 1) := xdt tbX1_resolveCode_0_ok 7 rfl
theorem dX1_resolveCode_14 : decode cX1_resolveCode 14 = .ok (.iaload, 1) := xdt tbX1_resolveCode_0_ok 8 rfl
theorem dX1_resolveCode_15 : decode cX1_resolveCode 15 = .ok (.invokevirtual 255, 3) := xdt tbX1_resolveCode_0_ok 9 rfl
theorem dX1_resolveCode_18 : decode cX1_resolveCode 18 = .ok (.istore_n 3, 1) := xdt tbX1_resolveCode_0_ok 10 rfl
theorem dX1_resolveCode_19 : decode cX1_resolveCode 19 = .ok (.iload_n 3, 1) := xdt tbX1_resolveCode_0_ok 11 rfl
theorem dX1_resolveCode_20 : decode cX1_resolveCode 20 = .ok (.iconst (-1), 1) := xdt tbX1_resolveCode_0_ok 12 rfl
theorem dX1_resolveCode_21 : decode cX1_resolveCode 21 = .ok (.if_icmp .eq 39, 3) := xdt tbX1_resolveCode_0_ok 13 rfl
theorem dX1_resolveCode_24 : decode cX1_resolveCode 24 = .ok (.aload_n 0, 1) := xdt tbX1_resolveCode_0_ok 14 rfl
theorem dX1_resolveCode_25 : decode cX1_resolveCode 25 = .ok (.getfield 12, 3) := xdt tbX1_resolveCode_0_ok 15 rfl
theorem dX1_resolveCode_28 : decode cX1_resolveCode 28 = .ok (.getfield 258, 3) := xdt tbX1_resolveCode_0_ok 16 rfl
theorem dX1_resolveCode_31 : decode cX1_resolveCode 31 = .ok (.iload_n 3, 1) := xdt tbX1_resolveCode_0_ok 17 rfl
theorem dX1_resolveCode_32 : decode cX1_resolveCode 32 = .ok (.iaload, 1) := xdt tbX1_resolveCode_0_ok 18 rfl
theorem dX1_resolveCode_33 : decode cX1_resolveCode 33 = .ok (.iconst 4, 1) := xdt tbX1_resolveCode_0_ok 19 rfl
theorem dX1_resolveCode_34 : decode cX1_resolveCode 34 = .ok (.if_icmp .ne 7, 3) := xdt tbX1_resolveCode_0_ok 20 rfl
theorem dX1_resolveCode_37 : decode cX1_resolveCode 37 = .ok (.iconst 1, 1) := xdt tbX1_resolveCode_0_ok 21 rfl
theorem dX1_resolveCode_38 : decode cX1_resolveCode 38 = .ok (.goto 4, 3) := xdt tbX1_resolveCode_0_ok 22 rfl
theorem dX1_resolveCode_41 : decode cX1_resolveCode 41 = .ok (.iconst 0, 1) := xdt tbX1_resolveCode_0_ok 23 rfl
theorem dX1_resolveCode_42 : decode cX1_resolveCode 42 = .ok (.aload_n 2, 1) := xdt tbX1_resolveCode_0_ok 24 rfl
theorem dX1_resolveCode_43 : decode cX1_resolveCode 43 = .ok (.getfield 243, 3) := xdt tbX1_resolveCode_0_ok 25 rfl
theorem dX1_resolveCode_46 : decode cX1_resolveCode 46 = .ok (.iload_n 1, 1) := xdt tbX1_resolveCode_0_ok 26 rfl
theorem dX1_resolveCode_47 : decode cX1_resolveCode 47 = .ok (.iaload, 1) := xdt tbX1_resolveCode_0_ok 27 rfl
theorem dX1_resolveCode_48 : decode cX1_resolveCode 48 = .ok (.iconst 2, 1) := xdt tbX1_resolveCode_0_ok 28 rfl
theorem dX1_resolveCode_49 : decode cX1_resolveCode 49 = .ok (.if_icmp .ne 7, 3) := xdt tbX1_resolveCode_0_ok 29 rfl
theorem dX1_resolveCode_52 : decode cX1_resolveCode 52 = .ok (.iconst 1, 1) := xdt tbX1_resolveCode_0_ok 30 rfl
theorem dX1_resolveCode_53 : decode cX1_resolveCode 53 = .ok (.goto 4, 3) := xdt tbX1_resolveCode_0_ok 31 rfl
theorem dX1_resolveCode_56 : decode cX1_resolveCode 56 = .ok (.iconst 0, 1) := xdt tbX1_resolveCode_0_ok 32 rfl
theorem dX1_resolveCode_57 : decode cX1_resolveCode 57 = .ok (.if_icmp .eq 14, 3) := xdt tbX1_resolveCode_0_ok 33 rfl
theorem dX1_resolveCode_60 : decode cX1_resolveCode 60 = .ok (.aload_n 0, 1) := xdt tbX1_resolveCode_0_ok 34 rfl
theorem dX1_resolveCode_61 : decode cX1_resolveCode 61 = .ok (.aload_n 0, 1) := xdt tbX1_resolveCode_0_ok 35 rfl
theorem dX1_resolveCode_62 : decode cX1_resolveCode 62 = .ok (.getfield 22, 3) := xdt tbX1_resolveCode_0_ok 36 rfl
theorem dX1_resolveCode_65 : decode cX1_resolveCode 65 = .ok (.iload_n 1, 1) := xdt tbX1_resolveCode_0_ok 37 rfl
theorem dX1_resolveCode_66 : decode cX1_resolveCode 66 = .ok (.iaload, 1) := xdt tbX1_resolveCode_0_ok 38 rfl
theorem dX1_resolveCode_67 : decode cX1_resolveCode 67 = .ok (.invokevirtual 259, 3) := xdt tbX1_resolveCode_0_ok 39 rfl
theorem dX1_resolveCode_70 : decode cX1_resolveCode 70 = .ok (.ireturn, 1) := xdt tbX1_resolveCode_0_ok 40 rfl
theorem dX1_resolveCode_71 : decode cX1_resolveCode 71 = .ok (.aload_n 0, 1) := xdt tbX1_resolveCode_0_ok 41 rfl
theorem dX1_resolveCode_72 : decode cX1_resolveCode 72 = .ok (.getfield 12, 3) := xdt tbX1_resolveCode_0_ok 42 rfl
theorem dX1_resolveCode_75 : decode cX1_resolveCode 75 = .ok (.getfield 258, 3) := xdt tbX1_resolveCode_0_ok 43 rfl
theorem dX1_resolveCode_78 : decode cX1_resolveCode 78 = .ok (.iload_n 3, 1) := xdt tbX1_resolveCode_0_ok 44 rfl
theorem dX1_resolveCode_79 : decode cX1_resolveCode 79 = .ok (.iaload, 1) := xdt tbX1_resolveCode_0_ok 45 rfl
theorem dX1_resolveCode_80 : decode cX1_resolveCode 80 = .ok (.ifCond .ne 28, 3) := xdt tbX1_resolveCode_0_ok 46 rfl
theorem dX1_resolveCode_83 : decode cX1_resolveCode 83 = .ok (.aload_n 2, 1) := xdt tbX1_resolveCode_0_ok 47 rfl
theorem dX1_resolveCode_84 : decode cX1_resolveCode 84 = .ok (.getfield 243, 3) := xdt tbX1_resolveCode_0_ok 48 rfl
theorem dX1_resolveCode_87 : decode cX1_resolveCode 87 = .ok (.iload_n 1, 1) := xdt tbX1_resolveCode_0_ok 49 rfl
theorem dX1_resolveCode_88 : decode cX1_resolveCode 88 = .ok (.iconst 0, 1) := xdt tbX1_resolveCode_0_ok 50 rfl
theorem dX1_resolveCode_89 : decode cX1_resolveCode 89 = .ok (.iastore, 1) := xdt tbX1_resolveCode_0_ok 51 rfl
theorem dX1_resolveCode_90 : decode cX1_resolveCode 90 = .ok (.aload_n 2, 1) := xdt tbX1_resolveCode_0_ok 52 rfl
theorem dX1_resolveCode_91 : decode cX1_resolveCode 91 = .ok (.getfield 246, 3) := xdt tbX1_resolveCode_0_ok 53 rfl
theorem dX1_resolveCode_94 : decode cX1_resolveCode 94 = .ok (.iload_n 1, 1) := xdt tbX1_resolveCode_0_ok 54 rfl
theorem dX1_resolveCode_95 : decode cX1_resolveCode 95 = .ok (.aload_n 0, 1) := xdt tbX1_resolveCode_0_ok 55 rfl
theorem dX1_resolveCode_96 : decode cX1_resolveCode 96 = .ok (.getfield 12, 3) := xdt tbX1_resolveCode_0_ok 56 rfl
theorem dX1_resolveCode_99 : decode cX1_resolveCode 99 = .ok (.getfield 191, 3) := xdt tbX1_resolveCode_0_ok 57 rfl
theorem dX1_resolveCode_102 : decode cX1_resolveCode 102 = .ok (.iload_n 3, 1) := xdt tbX1_resolveCode_0_ok 58 rfl
theorem dX1_resolveCode_103 : decode cX1_resolveCode 103 = .ok (.iaload, 1) := xdt tbX1_resolveCode_0_ok 59 rfl
def tbX1_resolveCode_60 : List (Nat × Instr × Nat) := [(104, .iastore, 1), (105, .goto 10, 3), (108, .aload_n 2, 1), (109, .getfield 246, 3), (112, .iload_n 1, 1), (113, .iload_n 3, 1), (114, .iastore, 1), (115, .iconst 1, 1), (116, .ireturn, 1)]
theorem tbX1_resolveCode_60_ok : tbX1_resolveCode_60.all (fun q => decide (decode cX1_resolveCode q.1 = .ok q.2)) = true := by decide +kernel
theorem dX1_resolveCode_104 : decode cX1_resolveCode 104 = .ok (.iastore, 1) := xdt tbX1_resolveCode_60_ok 0 rfl
theorem dX1_resolveCode_105 : decode cX1_resolveCode 105 = .ok (.goto 10, 3) := xdt tbX1_resolveCode_60_ok 1 rfl
theorem dX1_resolveCode_108 : decode cX1_resolveCode 108 = .ok (.aload_n 2, 1) := xdt tbX1_resolveCode_60_ok 2 rfl
theorem dX1_resolveCode_109 : decode cX1_resolveCode 109 = .ok (.getfield 246, 3) := xdt tbX1_resolveCode_60_ok 3 rfl
theorem dX1_resolveCode_112 : decode cX1_resolveCode 112 = .ok (.iload_n 1, 1) := xdt tbX1_resolveCode_60_ok 4 rfl
theorem dX1_resolveCode_113 : decode cX1_resolveCode 113 = .ok (.iload_n 3, 1) := xdt tbX1_resolveCode_60_ok 5 rfl
theorem dX1_resolveCode_114 : decode cX1_resolveCode 114 = .ok (.iastore, 1) := xdt tbX1_resolveCode_60_ok 6 rfl
theorem dX1_resolveCode_115 : decode cX1_resolveCode 115 = .ok (.iconst 1, 1) := xdt tbX1_resolveCode_60_ok 7 rfl
theorem dX1_resolveCode_116 : decode cX1_resolveCode 116 = .ok (.ireturn, 1) := xdt tbX1_resolveCode_60_ok 8 rfl
def tbX1_resolveAll_0 : List (Nat × Instr × Nat) := [(0, .aload_n 0, 1), (1, .getfield 12, 3), (4, .getfield 195, 3), (7, .astore_n 1, 1), (8, .iconst 0, 1), (9, .istore_n 2, 1), (10, .iload_n 2, 1), (11, .aload_n 1, 1), (12, .getfield 199, 3), (15, .if_icmp .ge 82, 3), (18, .aload_n 1, 1), (19, .getfield 210, 3), (22, .iload_n 2, 1), (23, .iaload, 1), (24, .iconst (-1), 1), (25, .if_icmp .eq 13, 3), (28, .aload_n 0, 1), (29, .iload_n 2, 1), (30, .invokevirtual 249, 3), (33, .ifCond .ne 5, 3), (36, .iconst 0, 1), (37, .ireturn, 1), (38, .aload_n 1, 1), (39, .getfield 216, 3), (42, .iload_n 2, 1), (43, .iaload, 1), (44, .istore_n 3, 1), (45, .iload_n 3, 1), (46, .aload_n 1, 1), (47, .getfield 228, 3), (50, .iload_n 2, 1), (51, .iaload, 1), (52, .if_icmp .ge 39, 3), (55, .aload_n 1, 1), (56, .getfield 243, 3), (59, .iload_n 3, 1), (60, .iaload, 1), (61, .iconst 1, 1), (62, .if_icmp .eq 13, 3), (65, .aload_n 1, 1), (66, .getfield 243, 3), (69, .iload_n 3, 1), (70, .iaload, 1), (71, .iconst 2, 1), (72, .if_icmp .ne 13, 3), (75, .aload_n 0, 1), (76, .iload_n 3, 1), (77, .invokevirtual 252, 3), (80, .ifCond .ne 5, 3), (83, .iconst 0, 1), (84, .ireturn, 1), (85, .iinc 3 1, 3), (88, .goto (-43), 3), (91, .iinc 2 1, 3), (94, .goto (-84), 3), (97, .iconst 1, 1), (98, .ireturn, 1)]
theorem tbX1_resolveAll_0_ok : tbX1_resolveAll_0.all (fun q => decide (decode cX1_resolveAll q.1 = .ok q.2)) = true := by decide +kernel
theorem dX1_resolveAll_0 : decode cX1_resolveAll 0 = .ok (.aload_n 0, 1) := xdt tbX1_resolveAll_0_ok 0 rfl
theorem dX1_resolveAll_1 : decode cX1_resolveAll 1 = .ok (.getfield 12, 3) := xdt tbX1_resolveAll_0_ok 1 rfl
theorem dX1_resolveAll_4 : decode cX1_resolveAll 4 = .ok (.getfield 195, 3) := xdt tbX1_resolveAll_0_ok 2 rfl
theorem dX1_resolveAll_7 : decode cX1_resolveAll 7 = .ok (.astore_n 1, 1) := xdt tbX1_resolveAll_0_ok 3 rfl
theorem dX1_resolveAll_8 : decode cX1_resolveAll 8 = .ok (.iconst 0, 1) := xdt tbX1_resolveAll_0_ok 4 rfl
theorem dX1_resolveAll_9 : decode cX1_resolveAll 9 = .ok (.istore_n 2, 1) := xdt tbX1_resolveAll_0_ok 5 rfl
theorem dX1_resolveAll_10 : decode cX1_resolveAll 10 = .ok (.iload_n 2, 1) := xdt tbX1_resolveAll_0_ok 6 rfl
theorem dX1_resolveAll_11 : decode cX1_resolveAll 11 = .ok (.aload_n 1, 1) := xdt tbX1_resolveAll_0_ok 7 rfl
theorem dX1_resolveAll_12 : decode cX1_resolveAll 12 = .ok (.getfield 199, 3) := xdt tbX1_resolveAll_0_ok 8 rfl
theorem dX1_resolveAll_15 : decode cX1_resolveAll 15 = .ok (.if_icmp .ge 82, 3) := xdt tbX1_resolveAll_0_ok 9 rfl
theorem dX1_resolveAll_18 : decode cX1_resolveAll 18 = .ok (.aload_n 1, 1) := xdt tbX1_resolveAll_0_ok 10 rfl
theorem dX1_resolveAll_19 : decode cX1_resolveAll 19 = .ok (.getfield 210, 3) := xdt tbX1_resolveAll_0_ok 11 rfl
theorem dX1_resolveAll_22 : decode cX1_resolveAll 22 = .ok (.iload_n 2, 1) := xdt tbX1_resolveAll_0_ok 12 rfl
theorem dX1_resolveAll_23 : decode cX1_resolveAll 23 = .ok (.iaload, 1) := xdt tbX1_resolveAll_0_ok 13 rfl
theorem dX1_resolveAll_24 : decode cX1_resolveAll 24 = .ok (.iconst (-1), 1) := xdt tbX1_resolveAll_0_ok 14 rfl
theorem dX1_resolveAll_25 : decode cX1_resolveAll 25 = .ok (.if_icmp .eq 13, 3) := xdt tbX1_resolveAll_0_ok 15 rfl
theorem dX1_resolveAll_28 : decode cX1_resolveAll 28 = .ok (.aload_n 0, 1) := xdt tbX1_resolveAll_0_ok 16 rfl
theorem dX1_resolveAll_29 : decode cX1_resolveAll 29 = .ok (.iload_n 2, 1) := xdt tbX1_resolveAll_0_ok 17 rfl
theorem dX1_resolveAll_30 : decode cX1_resolveAll 30 = .ok (.invokevirtual 249, 3) := xdt tbX1_resolveAll_0_ok 18 rfl
theorem dX1_resolveAll_33 : decode cX1_resolveAll 33 = .ok (.ifCond .ne 5, 3) := xdt tbX1_resolveAll_0_ok 19 rfl
theorem dX1_resolveAll_36 : decode cX1_resolveAll 36 = .ok (.iconst 0, 1) := xdt tbX1_resolveAll_0_ok 20 rfl
theorem dX1_resolveAll_37 : decode cX1_resolveAll 37 = .ok (.ireturn, 1) := xdt tbX1_resolveAll_0_ok 21 rfl
theorem dX1_resolveAll_38 : decode cX1_resolveAll 38 = .ok (.aload_n 1, 1) := xdt tbX1_resolveAll_0_ok 22 rfl
theorem dX1_resolveAll_39 : decode cX1_resolveAll 39 = .ok (.getfield 216, 3) := xdt tbX1_resolveAll_0_ok 23 rfl
theorem dX1_resolveAll_42 : decode cX1_resolveAll 42 = .ok (.iload_n 2, 1) := xdt tbX1_resolveAll_0_ok 24 rfl
theorem dX1_resolveAll_43 : decode cX1_resolveAll 43 = .ok (.iaload, 1) := xdt tbX1_resolveAll_0_ok 25 rfl
theorem dX1_resolveAll_44 : decode cX1_resolveAll 44 = .ok (.istore_n 3, 1) := xdt tbX1_resolveAll_0_ok 26 rfl
theorem dX1_resolveAll_45 : decode cX1_resolveAll 45 = .ok (.iload_n 3, 1) := xdt tbX1_resolveAll_0_ok 27 rfl
theorem dX1_resolveAll_46 : decode cX1_resolveAll 46 = .ok (.aload_n 1, 1) := xdt tbX1_resolveAll_0_ok 28 rfl
theorem dX1_resolveAll_47 : decode cX1_resolveAll 47 = .ok (.getfield 228, 3) := xdt tbX1_resolveAll_0_ok 29 rfl
theorem dX1_resolveAll_50 : decode cX1_resolveAll 50 = .ok (.iload_n 2, 1) := xdt tbX1_resolveAll_0_ok 30 rfl
theorem dX1_resolveAll_51 : decode cX1_resolveAll 51 = .ok (.iaload, 1) := xdt tbX1_resolveAll_0_ok 31 rfl
theorem dX1_resolveAll_52 : decode cX1_resolveAll 52 = .ok (.if_icmp .ge 39, 3) := xdt tbX1_resolveAll_0_ok 32 rfl
theorem dX1_resolveAll_55 : decode cX1_resolveAll 55 = .ok (.aload_n 1, 1) := xdt tbX1_resolveAll_0_ok 33 rfl
theorem dX1_resolveAll_56 : decode cX1_resolveAll 56 = .ok (.getfield 243, 3) := xdt tbX1_resolveAll_0_ok 34 rfl
theorem dX1_resolveAll_59 : decode cX1_resolveAll 59 = .ok (.iload_n 3, 1) := xdt tbX1_resolveAll_0_ok 35 rfl
theorem dX1_resolveAll_60 : decode cX1_resolveAll 60 = .ok (.iaload, 1) := xdt tbX1_resolveAll_0_ok 36 rfl
theorem dX1_resolveAll_61 : decode cX1_resolveAll 61 = .ok (.iconst 1, 1) := xdt tbX1_resolveAll_0_ok 37 rfl
theorem dX1_resolveAll_62 : decode cX1_resolveAll 62 = .ok (.if_icmp .eq 13, 3) := xdt tbX1_resolveAll_0_ok 38 rfl
theorem dX1_resolveAll_65 : decode cX1_resolveAll 65 = .ok (.aload_n 1, 1) := xdt tbX1_resolveAll_0_ok 39 rfl
theorem dX1_resolveAll_66 : decode cX1_resolveAll 66 = .ok (.getfield 243, 3) := xdt tbX1_resolveAll_0_ok 40 rfl
theorem dX1_resolveAll_69 : decode cX1_resolveAll 69 = .ok (.iload_n 3, 1) := xdt tbX1_resolveAll_0_ok 41 rfl
theorem dX1_resolveAll_70 : decode cX1_resolveAll 70 = .ok (.iaload, 1) := xdt tbX1_resolveAll_0_ok 42 rfl
theorem dX1_resolveAll_71 : decode cX1_resolveAll 71 = .ok (.iconst 2, 1) := xdt tbX1_resolveAll_0_ok 43 rfl
theorem dX1_resolveAll_72 : decode cX1_resolveAll 72 = .ok (.if_icmp .ne 13, 3) := xdt tbX1_resolveAll_0_ok 44 rfl
theorem dX1_resolveAll_75 : decode cX1_resolveAll 75 = .ok (.aload_n 0, 1) := xdt tbX1_resolveAll_0_ok 45 rfl
theorem dX1_resolveAll_76 : decode cX1_resolveAll 76 = .ok (.iload_n 3, 1) := xdt tbX1_resolveAll_0_ok 46 rfl
theorem dX1_resolveAll_77 : decode cX1_resolveAll 77 = .ok (.invokevirtual 252, 3) := xdt tbX1_resolveAll_0_ok 47 rfl
theorem dX1_resolveAll_80 : decode cX1_resolveAll 80 = .ok (.ifCond .ne 5, 3) := xdt tbX1_resolveAll_0_ok 48 rfl
theorem dX1_resolveAll_83 : decode cX1_resolveAll 83 = .ok (.iconst 0, 1) := xdt tbX1_resolveAll_0_ok 49 rfl
theorem dX1_resolveAll_84 : decode cX1_resolveAll 84 = .ok (.ireturn, 1) := xdt tbX1_resolveAll_0_ok 50 rfl
theorem dX1_resolveAll_85 : decode cX1_resolveAll 85 = .ok (.iinc 3 1, 3) := xdt tbX1_resolveAll_0_ok 51 rfl
theorem dX1_resolveAll_88 : decode cX1_resolveAll 88 = .ok (.goto (-43), 3) := xdt tbX1_resolveAll_0_ok 52 rfl
theorem dX1_resolveAll_91 : decode cX1_resolveAll 91 = .ok (.iinc 2 1, 3) := xdt tbX1_resolveAll_0_ok 53 rfl
theorem dX1_resolveAll_94 : decode cX1_resolveAll 94 = .ok (.goto (-84), 3) := xdt tbX1_resolveAll_0_ok 54 rfl
theorem dX1_resolveAll_97 : decode cX1_resolveAll 97 = .ok (.iconst 1, 1) := xdt tbX1_resolveAll_0_ok 55 rfl
theorem dX1_resolveAll_98 : decode cX1_resolveAll 98 = .ok (.ireturn, 1) := xdt tbX1_resolveAll_0_ok 56 rfl
def tbX1_readText_0 : List (Nat × Instr × Nat) := [(0, .aload_n 0, 1), (1, .aload_n 1, 1), (2, .iload_n 2, 1), (3, .invokevirtual 40, 3), (6, .aload_n 0, 1), (7, .getfield 12, 3), (10, .invokevirtual 44, 3), (13, .aload_n 0, 1), (14, .getfield 18, 3), (17, .iconst (-1), 1), (18, .invokestatic 47, 3), (21, .aload_n 0, 1), (22, .iconst 0, 1), (23, .putfield 52, 3), (26, .aload_n 0, 1), (27, .iconst 0, 1), (28, .putfield 56, 3), (31, .iconst 1, 1), (32, .istore_n 3, 1), (33, .iconst 0, 1), (34, .istore 4, 2), (36, .iload 4, 2), (38, .bipush 7, 2), (40, .if_icmp .gt 35, 3), (43, .iload_n 3, 1), (44, .ifCond .eq 31, 3), (47, .aload_n 0, 1), (48, .getfield 31, 3), (51, .aload_n 0, 1), (52, .getfield 52, 3), (55, .iaload, 1), (56, .sipush 260, 3), (59, .if_icmp .ne 16, 3), (62, .aload_n 0, 1), (63, .iload 4, 2), (65, .invokevirtual 59, 3), (68, .istore_n 3, 1), (69, .iinc 4 1, 3), (72, .goto (-36), 3), (75, .iload_n 3, 1), (76, .ifCond .eq 23, 3), (79, .aload_n 0, 1), (80, .invokevirtual 63, 3), (83, .ifCond .eq 16, 3), (86, .aload_n 0, 1), (87, .iconst (-1), 1), (88, .invokevirtual 67, 3), (91, .ifCond .eq 8, 3), (94, .aload_n 0, 1), (95, .invokevirtual 70, 3), (98, .pop, 1), (99, .aload_n 0, 1), (100, .getfield 56, 3), (103, .ireturn, 1)]
theorem tbX1_readText_0_ok : tbX1_readText_0.all (fun q => decide (decode cX1_readText q.1 = .ok q.2)) = true := by decide +kernel
theorem dX1_readText_0 : decode cX1_readText 0 = .ok (.aload_n 0, 1) := xdt tbX1_readText_0_ok 0 rfl
theorem dX1_readText_1 : decode cX1_readText 1 = .ok (.aload_n 1, 1) := xdt tbX1_readText_0_ok 1 rfl
theorem dX1_readText_2 : decode cX1_readText 2 = .ok (.iload_n 2, 1) := xdt tbX1_readText_0_ok 2 rfl
theorem dX1_readText_3 : decode cX1_readText 3 = .ok (.invokevirtual 40, 3) := xdt tbX1_readText_0_ok 3 rfl
theorem dX1_readText_6 : decode cX1_readText 6 = .ok (.aload_n 0, 1) := xdt tbX1_readText_0_ok 4 rfl
theorem dX1_readText_7 : decode cX1_readText 7 = .ok (.getfield 12, 3) := xdt tbX1_readText_0_ok 5 rfl
theorem dX1_readText_10 : decode cX1_readText 10 = .ok (.invokevirtual 44, 3) := xdt tbX1_readText_0_ok 6 rfl
theorem dX1_readText_13 : decode cX1_readText 13 = .ok (.aload_n 0, 1) := xdt tbX1_readText_0_ok 7 rfl
theorem dX1_readText_14 : decode cX1_readText 14 = .ok (.getfield 18, 3) := xdt tbX1_readText_0_ok 8 rfl
theorem dX1_readText_17 : decode cX1_readText 17 = .ok (.iconst (-1), 1) := xdt tbX1_readText_0_ok 9 rfl
theorem dX1_readText_18 : decode cX1_readText 18 = .ok (.invokestatic 47, 3) := xdt tbX1_readText_0_ok 10 rfl
theorem dX1_readText_21 : decode cX1_readText 21 = .ok (.aload_n 0, 1) := xdt tbX1_readText_0_ok 11 rfl
theorem dX1_readText_22 : decode cX1_readText 22 = .ok (.iconst 0, 1) := xdt tbX1_readText_0_ok 12 rfl
theorem dX1_readText_23 : decode cX1_readText 23 = .ok (.putfield 52, 3) := xdt tbX1_readText_0_ok 13 rfl
theorem dX1_readText_26 : decode cX1_readText 26 = .ok (.aload_n 0, 1) := xdt tbX1_readText_0_ok 14 rfl
theorem dX1_readText_27 : decode cX1_readText 27 = .ok (.iconst 0, 1) := xdt tbX1_readText_0_ok 15 rfl
theorem dX1_readText_28 : decode cX1_readText 28 = .ok (.putfield 56, 3) := xdt tbX1_readText_0_ok 16 rfl
theorem dX1_readText_31 : decode cX1_readText 31 = .ok (.iconst 1, 1) := xdt tbX1_readText_0_ok 17 rfl
theorem dX1_readText_32 : decode cX1_readText 32 = .ok (.istore_n 3, 1) := xdt tbX1_readText_0_ok 18 rfl
theorem dX1_readText_33 : decode cX1_readText 33 = .ok (.iconst 0, 1) := xdt tbX1_readText_0_ok 19 rfl
theorem dX1_readText_34 : decode cX1_readText 34 = .ok (.istore 4, 2) := xdt tbX1_readText_0_ok 20 rfl
theorem dX1_readText_36 : decode cX1_readText 36 = .ok (.iload 4, 2) := xdt tbX1_readText_0_ok 21 rfl
theorem dX1_readText_38 : decode cX1_readText 38 = .ok (.bipush 7, 2) := xdt tbX1_readText_0_ok 22 rfl
theorem dX1_readText_40 : decode cX1_readText 40 = .ok (.if_icmp .gt 35, 3) := xdt tbX1_readText_0_ok 23 rfl
theorem dX1_readText_43 : decode cX1_readText 43 = .ok (.iload_n 3, 1) := xdt tbX1_readText_0_ok 24 rfl
theorem dX1_readText_44 : decode cX1_readText 44 = .ok (.ifCond .eq 31, 3) := xdt tbX1_readText_0_ok 25 rfl
theorem dX1_readText_47 : decode cX1_readText 47 = .ok (.aload_n 0, 1) := xdt tbX1_readText_0_ok 26 rfl
theorem dX1_readText_48 : decode cX1_readText 48 = .ok (.getfield 31, 3) := xdt tbX1_readText_0_ok 27 rfl
theorem dX1_readText_51 : decode cX1_readText 51 = .ok (.aload_n 0, 1) := xdt tbX1_readText_0_ok 28 rfl
theorem dX1_readText_52 : decode cX1_readText 52 = .ok (.getfield 52, 3) := xdt tbX1_readText_0_ok 29 rfl
theorem dX1_readText_55 : decode cX1_readText 55 = .ok (.iaload, 1) := xdt tbX1_readText_0_ok 30 rfl
theorem dX1_readText_56 : decode cX1_readText 56 = .ok (.sipush 260, 3) := xdt tbX1_readText_0_ok 31 rfl
theorem dX1_readText_59 : decode cX1_readText 59 = .ok (.if_icmp .ne 16, 3) := xdt tbX1_readText_0_ok 32 rfl
theorem dX1_readText_62 : decode cX1_readText 62 = .ok (.aload_n 0, 1) := xdt tbX1_readText_0_ok 33 rfl
theorem dX1_readText_63 : decode cX1_readText 63 = .ok (.iload 4, 2) := xdt tbX1_readText_0_ok 34 rfl
theorem dX1_readText_65 : decode cX1_readText 65 = .ok (.invokevirtual 59, 3) := xdt tbX1_readText_0_ok 35 rfl
theorem dX1_readText_68 : decode cX1_readText 68 = .ok (.istore_n 3, 1) := xdt tbX1_readText_0_ok 36 rfl
theorem dX1_readText_69 : decode cX1_readText 69 = .ok (.iinc 4 1, 3) := xdt tbX1_readText_0_ok 37 rfl
theorem dX1_readText_72 : decode cX1_readText 72 = .ok (.goto (-36), 3) := xdt tbX1_readText_0_ok 38 rfl
theorem dX1_readText_75 : decode cX1_readText 75 = .ok (.iload_n 3, 1) := xdt tbX1_readText_0_ok 39 rfl
theorem dX1_readText_76 : decode cX1_readText 76 = .ok (.ifCond .eq 23, 3) := xdt tbX1_readText_0_ok 40 rfl
theorem dX1_readText_79 : decode cX1_readText 79 = .ok (.aload_n 0, 1) := xdt tbX1_readText_0_ok 41 rfl
theorem dX1_readText_80 : decode cX1_readText 80 = .ok (.invokevirtual 63, 3) := xdt tbX1_readText_0_ok 42 rfl
theorem dX1_readText_83 : decode cX1_readText 83 = .ok (.ifCond .eq 16, 3) := xdt tbX1_readText_0_ok 43 rfl
theorem dX1_readText_86 : decode cX1_readText 86 = .ok (.aload_n 0, 1) := xdt tbX1_readText_0_ok 44 rfl
theorem dX1_readText_87 : decode cX1_readText 87 = .ok (.iconst (-1), 1) := xdt tbX1_readText_0_ok 45 rfl
theorem dX1_readText_88 : decode cX1_readText 88 = .ok (.invokevirtual 67, 3) := xdt tbX1_readText_0_ok 46 rfl
theorem dX1_readText_91 : decode cX1_readText 91 = .ok (.ifCond .eq 8, 3) := xdt tbX1_readText_0_ok 47 rfl
theorem dX1_readText_94 : decode cX1_readText 94 = .ok (.aload_n 0, 1) := xdt tbX1_readText_0_ok 48 rfl
theorem dX1_readText_95 : decode cX1_readText 95 = .ok (.invokevirtual 70, 3) := xdt tbX1_readText_0_ok 49 rfl
theorem dX1_readText_98 : decode cX1_readText 98 = .ok (.pop, 1) := xdt tbX1_readText_0_ok 50 rfl
theorem dX1_readText_99 : decode cX1_readText 99 = .ok (.aload_n 0, 1) := xdt tbX1_readText_0_ok 51 rfl
theorem dX1_readText_100 : decode cX1_readText 100 = .ok (.getfield 56, 3) := xdt tbX1_readText_0_ok 52 rfl
theorem dX1_readText_103 : decode cX1_readText 103 = .ok (.ireturn, 1) := xdt tbX1_readText_0_ok 53 rfl
def tbX1_faultPlace_0 : List (Nat × Instr × Nat) := [(0, .aload_n 0, 1), (1, .getfield 73, 3), (4, .ireturn, 1)]
theorem tbX1_faultPlace_0_ok : tbX1_faultPlace_0.all (fun q => decide (decode cX1_faultPlace q.1 = .ok q.2)) = true := by decide +kernel
theorem dX1_faultPlace_0 : decode cX1_faultPlace 0 = .ok (.aload_n 0, 1) := xdt tbX1_faultPlace_0_ok 0 rfl
theorem dX1_faultPlace_1 : decode cX1_faultPlace 1 = .ok (.getfield 73, 3) := xdt tbX1_faultPlace_0_ok 1 rfl
theorem dX1_faultPlace_4 : decode cX1_faultPlace 4 = .ok (.ireturn, 1) := xdt tbX1_faultPlace_0_ok 2 rfl
def tbX1_handOver_0 : List (Nat × Instr × Nat) := [(0, .aload_n 0, 1), (1, .getfield 12, 3), (4, .astore_n 2, 1), (5, .aload_n 0, 1), (6, .aload_n 1, 1), (7, .putfield 12, 3), (10, .aload_n 2, 1), (11, .areturn, 1)]
theorem tbX1_handOver_0_ok : tbX1_handOver_0.all (fun q => decide (decode cX1_handOver q.1 = .ok q.2)) = true := by decide +kernel
theorem dX1_handOver_0 : decode cX1_handOver 0 = .ok (.aload_n 0, 1) := xdt tbX1_handOver_0_ok 0 rfl
theorem dX1_handOver_1 : decode cX1_handOver 1 = .ok (.getfield 12, 3) := xdt tbX1_handOver_0_ok 1 rfl
theorem dX1_handOver_4 : decode cX1_handOver 4 = .ok (.astore_n 2, 1) := xdt tbX1_handOver_0_ok 2 rfl
theorem dX1_handOver_5 : decode cX1_handOver 5 = .ok (.aload_n 0, 1) := xdt tbX1_handOver_0_ok 3 rfl
theorem dX1_handOver_6 : decode cX1_handOver 6 = .ok (.aload_n 1, 1) := xdt tbX1_handOver_0_ok 4 rfl
theorem dX1_handOver_7 : decode cX1_handOver 7 = .ok (.putfield 12, 3) := xdt tbX1_handOver_0_ok 5 rfl
theorem dX1_handOver_10 : decode cX1_handOver 10 = .ok (.aload_n 2, 1) := xdt tbX1_handOver_0_ok 6 rfl
theorem dX1_handOver_11 : decode cX1_handOver 11 = .ok (.areturn, 1) := xdt tbX1_handOver_0_ok 7 rfl
def tbX2_reset_0 : List (Nat × Instr × Nat) := [(0, .aload_n 0, 1), (1, .aload_n 1, 1), (2, .putfield 9, 3), (5, .aload_n 0, 1), (6, .getfield 15, 3), (9, .iconst 0, 1), (10, .invokestatic 67, 3), (13, .aload_n 0, 1), (14, .getfield 19, 3), (17, .iconst 0, 1), (18, .invokestatic 67, 3), (21, .aload_n 0, 1), (22, .iconst 0, 1), (23, .putfield 73, 3), (26, .aload_n 0, 1), (27, .iconst 0, 1), (28, .putfield 76, 3), (31, .aload_n 0, 1), (32, .iconst 0, 1), (33, .putfield 79, 3), (36, .aload_n 0, 1), (37, .iconst 0, 1), (38, .putfield 82, 3), (41, .aload_n 0, 1), (42, .iconst 0, 1), (43, .putfield 85, 3), (46, .aload_n 0, 1), (47, .iconst 0, 1), (48, .putfield 88, 3), (51, .aload_n 0, 1), (52, .iconst 0, 1), (53, .putfield 59, 3), (56, .return_, 1)]
theorem tbX2_reset_0_ok : tbX2_reset_0.all (fun q => decide (decode cX2_reset q.1 = .ok q.2)) = true := by decide +kernel
theorem dX2_reset_0 : decode cX2_reset 0 = .ok (.aload_n 0, 1) := xdt tbX2_reset_0_ok 0 rfl
theorem dX2_reset_1 : decode cX2_reset 1 = .ok (.aload_n 1, 1) := xdt tbX2_reset_0_ok 1 rfl
theorem dX2_reset_2 : decode cX2_reset 2 = .ok (.putfield 9, 3) := xdt tbX2_reset_0_ok 2 rfl
theorem dX2_reset_5 : decode cX2_reset 5 = .ok (.aload_n 0, 1) := xdt tbX2_reset_0_ok 3 rfl
theorem dX2_reset_6 : decode cX2_reset 6 = .ok (.getfield 15, 3) := xdt tbX2_reset_0_ok 4 rfl
theorem dX2_reset_9 : decode cX2_reset 9 = .ok (.iconst 0, 1) := xdt tbX2_reset_0_ok 5 rfl
theorem dX2_reset_10 : decode cX2_reset 10 = .ok (.invokestatic 67, 3) := xdt tbX2_reset_0_ok 6 rfl
theorem dX2_reset_13 : decode cX2_reset 13 = .ok (.aload_n 0, 1) := xdt tbX2_reset_0_ok 7 rfl
theorem dX2_reset_14 : decode cX2_reset 14 = .ok (.getfield 19, 3) := xdt tbX2_reset_0_ok 8 rfl
theorem dX2_reset_17 : decode cX2_reset 17 = .ok (.iconst 0, 1) := xdt tbX2_reset_0_ok 9 rfl
theorem dX2_reset_18 : decode cX2_reset 18 = .ok (.invokestatic 67, 3) := xdt tbX2_reset_0_ok 10 rfl
theorem dX2_reset_21 : decode cX2_reset 21 = .ok (.aload_n 0, 1) := xdt tbX2_reset_0_ok 11 rfl
theorem dX2_reset_22 : decode cX2_reset 22 = .ok (.iconst 0, 1) := xdt tbX2_reset_0_ok 12 rfl
theorem dX2_reset_23 : decode cX2_reset 23 = .ok (.putfield 73, 3) := xdt tbX2_reset_0_ok 13 rfl
theorem dX2_reset_26 : decode cX2_reset 26 = .ok (.aload_n 0, 1) := xdt tbX2_reset_0_ok 14 rfl
theorem dX2_reset_27 : decode cX2_reset 27 = .ok (.iconst 0, 1) := xdt tbX2_reset_0_ok 15 rfl
theorem dX2_reset_28 : decode cX2_reset 28 = .ok (.putfield 76, 3) := xdt tbX2_reset_0_ok 16 rfl
theorem dX2_reset_31 : decode cX2_reset 31 = .ok (.aload_n 0, 1) := xdt tbX2_reset_0_ok 17 rfl
theorem dX2_reset_32 : decode cX2_reset 32 = .ok (.iconst 0, 1) := xdt tbX2_reset_0_ok 18 rfl
theorem dX2_reset_33 : decode cX2_reset 33 = .ok (.putfield 79, 3) := xdt tbX2_reset_0_ok 19 rfl
theorem dX2_reset_36 : decode cX2_reset 36 = .ok (.aload_n 0, 1) := xdt tbX2_reset_0_ok 20 rfl
theorem dX2_reset_37 : decode cX2_reset 37 = .ok (.iconst 0, 1) := xdt tbX2_reset_0_ok 21 rfl
theorem dX2_reset_38 : decode cX2_reset 38 = .ok (.putfield 82, 3) := xdt tbX2_reset_0_ok 22 rfl
theorem dX2_reset_41 : decode cX2_reset 41 = .ok (.aload_n 0, 1) := xdt tbX2_reset_0_ok 23 rfl
theorem dX2_reset_42 : decode cX2_reset 42 = .ok (.iconst 0, 1) := xdt tbX2_reset_0_ok 24 rfl
theorem dX2_reset_43 : decode cX2_reset 43 = .ok (.putfield 85, 3) := xdt tbX2_reset_0_ok 25 rfl
theorem dX2_reset_46 : decode cX2_reset 46 = .ok (.aload_n 0, 1) := xdt tbX2_reset_0_ok 26 rfl
theorem dX2_reset_47 : decode cX2_reset 47 = .ok (.iconst 0, 1) := xdt tbX2_reset_0_ok 27 rfl
theorem dX2_reset_48 : decode cX2_reset 48 = .ok (.putfield 88, 3) := xdt tbX2_reset_0_ok 28 rfl
theorem dX2_reset_51 : decode cX2_reset 51 = .ok (.aload_n 0, 1) := xdt tbX2_reset_0_ok 29 rfl
theorem dX2_reset_52 : decode cX2_reset 52 = .ok (.iconst 0, 1) := xdt tbX2_reset_0_ok 30 rfl
theorem dX2_reset_53 : decode cX2_reset 53 = .ok (.putfield 59, 3) := xdt tbX2_reset_0_ok 31 rfl
theorem dX2_reset_56 : decode cX2_reset 56 = .ok (.return_, 1) := xdt tbX2_reset_0_ok 32 rfl
def tbX2_join_0 : List (Nat × Instr × Nat) := [(0, .iload_n 1, 1), (1, .lookupswitch 35 #[(4, 27), (5, 31)], 27), (28, .iload_n 2, 1), (29, .iload_n 3, 1), (30, .iadd, 1), (31, .ireturn, 1), (32, .iload_n 2, 1), (33, .iload_n 3, 1), (34, .isub, 1), (35, .ireturn, 1), (36, .iload_n 2, 1), (37, .iload_n 3, 1), (38, .imul, 1), (39, .ireturn, 1)]
theorem tbX2_join_0_ok : tbX2_join_0.all (fun q => decide (decode cX2_join q.1 = .ok q.2)) = true := by decide +kernel
theorem dX2_join_0 : decode cX2_join 0 = .ok (.iload_n 1, 1) := xdt tbX2_join_0_ok 0 rfl
theorem dX2_join_1 : decode cX2_join 1 = .ok (.lookupswitch 35 #[(4, 27), (5, 31)], 27) := xdt tbX2_join_0_ok 1 rfl
theorem dX2_join_28 : decode cX2_join 28 = .ok (.iload_n 2, 1) := xdt tbX2_join_0_ok 2 rfl
theorem dX2_join_29 : decode cX2_join 29 = .ok (.iload_n 3, 1) := xdt tbX2_join_0_ok 3 rfl
theorem dX2_join_30 : decode cX2_join 30 = .ok (.iadd, 1) := xdt tbX2_join_0_ok 4 rfl
theorem dX2_join_31 : decode cX2_join 31 = .ok (.ireturn, 1) := xdt tbX2_join_0_ok 5 rfl
theorem dX2_join_32 : decode cX2_join 32 = .ok (.iload_n 2, 1) := xdt tbX2_join_0_ok 6 rfl
theorem dX2_join_33 : decode cX2_join 33 = .ok (.iload_n 3, 1) := xdt tbX2_join_0_ok 7 rfl
theorem dX2_join_34 : decode cX2_join 34 = .ok (.isub, 1) := xdt tbX2_join_0_ok 8 rfl
theorem dX2_join_35 : decode cX2_join 35 = .ok (.ireturn, 1) := xdt tbX2_join_0_ok 9 rfl
theorem dX2_join_36 : decode cX2_join 36 = .ok (.iload_n 2, 1) := xdt tbX2_join_0_ok 10 rfl
theorem dX2_join_37 : decode cX2_join 37 = .ok (.iload_n 3, 1) := xdt tbX2_join_0_ok 11 rfl
theorem dX2_join_38 : decode cX2_join 38 = .ok (.imul, 1) := xdt tbX2_join_0_ok 12 rfl
theorem dX2_join_39 : decode cX2_join 39 = .ok (.ireturn, 1) := xdt tbX2_join_0_ok 13 rfl
def tbX2_spend_0 : List (Nat × Instr × Nat) := [(0, .aload_n 0, 1), (1, .getfield 79, 3), (4, .sipush 3000, 3), (7, .if_icmp .lt 10, 3), (10, .aload_n 0, 1), (11, .iconst 1, 1), (12, .putfield 59, 3), (15, .iconst 0, 1), (16, .ireturn, 1), (17, .aload_n 0, 1), (18, .dup, 1), (19, .getfield 79, 3), (22, .iconst 1, 1), (23, .iadd, 1), (24, .putfield 79, 3), (27, .iconst 1, 1), (28, .ireturn, 1)]
theorem tbX2_spend_0_ok : tbX2_spend_0.all (fun q => decide (decode cX2_spend q.1 = .ok q.2)) = true := by decide +kernel
theorem dX2_spend_0 : decode cX2_spend 0 = .ok (.aload_n 0, 1) := xdt tbX2_spend_0_ok 0 rfl
theorem dX2_spend_1 : decode cX2_spend 1 = .ok (.getfield 79, 3) := xdt tbX2_spend_0_ok 1 rfl
theorem dX2_spend_4 : decode cX2_spend 4 = .ok (.sipush 3000, 3) := xdt tbX2_spend_0_ok 2 rfl
theorem dX2_spend_7 : decode cX2_spend 7 = .ok (.if_icmp .lt 10, 3) := xdt tbX2_spend_0_ok 3 rfl
theorem dX2_spend_10 : decode cX2_spend 10 = .ok (.aload_n 0, 1) := xdt tbX2_spend_0_ok 4 rfl
theorem dX2_spend_11 : decode cX2_spend 11 = .ok (.iconst 1, 1) := xdt tbX2_spend_0_ok 5 rfl
theorem dX2_spend_12 : decode cX2_spend 12 = .ok (.putfield 59, 3) := xdt tbX2_spend_0_ok 6 rfl
theorem dX2_spend_15 : decode cX2_spend 15 = .ok (.iconst 0, 1) := xdt tbX2_spend_0_ok 7 rfl
theorem dX2_spend_16 : decode cX2_spend 16 = .ok (.ireturn, 1) := xdt tbX2_spend_0_ok 8 rfl
theorem dX2_spend_17 : decode cX2_spend 17 = .ok (.aload_n 0, 1) := xdt tbX2_spend_0_ok 9 rfl
theorem dX2_spend_18 : decode cX2_spend 18 = .ok (.dup, 1) := xdt tbX2_spend_0_ok 10 rfl
theorem dX2_spend_19 : decode cX2_spend 19 = .ok (.getfield 79, 3) := xdt tbX2_spend_0_ok 11 rfl
theorem dX2_spend_22 : decode cX2_spend 22 = .ok (.iconst 1, 1) := xdt tbX2_spend_0_ok 12 rfl
theorem dX2_spend_23 : decode cX2_spend 23 = .ok (.iadd, 1) := xdt tbX2_spend_0_ok 13 rfl
theorem dX2_spend_24 : decode cX2_spend 24 = .ok (.putfield 79, 3) := xdt tbX2_spend_0_ok 14 rfl
theorem dX2_spend_27 : decode cX2_spend 27 = .ok (.iconst 1, 1) := xdt tbX2_spend_0_ok 15 rfl
theorem dX2_spend_28 : decode cX2_spend 28 = .ok (.ireturn, 1) := xdt tbX2_spend_0_ok 16 rfl
def tbX2_openUp_0 : List (Nat × Instr × Nat) := [(0, .aload_n 0, 1), (1, .getfield 76, 3), (4, .bipush 20, 2), (6, .if_icmp .lt 10, 3), (9, .aload_n 0, 1), (10, .iconst 1, 1), (11, .putfield 59, 3), (14, .iconst 0, 1), (15, .ireturn, 1), (16, .aload_n 0, 1), (17, .getfield 33, 3), (20, .aload_n 0, 1), (21, .getfield 76, 3), (24, .iload_n 1, 1), (25, .iastore, 1), (26, .aload_n 0, 1), (27, .dup, 1), (28, .getfield 76, 3), (31, .iconst 1, 1), (32, .iadd, 1), (33, .putfield 76, 3), (36, .iconst 1, 1), (37, .ireturn, 1)]
theorem tbX2_openUp_0_ok : tbX2_openUp_0.all (fun q => decide (decode cX2_openUp q.1 = .ok q.2)) = true := by decide +kernel
theorem dX2_openUp_0 : decode cX2_openUp 0 = .ok (.aload_n 0, 1) := xdt tbX2_openUp_0_ok 0 rfl
theorem dX2_openUp_1 : decode cX2_openUp 1 = .ok (.getfield 76, 3) := xdt tbX2_openUp_0_ok 1 rfl
theorem dX2_openUp_4 : decode cX2_openUp 4 = .ok (.bipush 20, 2) := xdt tbX2_openUp_0_ok 2 rfl
theorem dX2_openUp_6 : decode cX2_openUp 6 = .ok (.if_icmp .lt 10, 3) := xdt tbX2_openUp_0_ok 3 rfl
theorem dX2_openUp_9 : decode cX2_openUp 9 = .ok (.aload_n 0, 1) := xdt tbX2_openUp_0_ok 4 rfl
theorem dX2_openUp_10 : decode cX2_openUp 10 = .ok (.iconst 1, 1) := xdt tbX2_openUp_0_ok 5 rfl
theorem dX2_openUp_11 : decode cX2_openUp 11 = .ok (.putfield 59, 3) := xdt tbX2_openUp_0_ok 6 rfl
theorem dX2_openUp_14 : decode cX2_openUp 14 = .ok (.iconst 0, 1) := xdt tbX2_openUp_0_ok 7 rfl
theorem dX2_openUp_15 : decode cX2_openUp 15 = .ok (.ireturn, 1) := xdt tbX2_openUp_0_ok 8 rfl
theorem dX2_openUp_16 : decode cX2_openUp 16 = .ok (.aload_n 0, 1) := xdt tbX2_openUp_0_ok 9 rfl
theorem dX2_openUp_17 : decode cX2_openUp 17 = .ok (.getfield 33, 3) := xdt tbX2_openUp_0_ok 10 rfl
theorem dX2_openUp_20 : decode cX2_openUp 20 = .ok (.aload_n 0, 1) := xdt tbX2_openUp_0_ok 11 rfl
theorem dX2_openUp_21 : decode cX2_openUp 21 = .ok (.getfield 76, 3) := xdt tbX2_openUp_0_ok 12 rfl
theorem dX2_openUp_24 : decode cX2_openUp 24 = .ok (.iload_n 1, 1) := xdt tbX2_openUp_0_ok 13 rfl
theorem dX2_openUp_25 : decode cX2_openUp 25 = .ok (.iastore, 1) := xdt tbX2_openUp_0_ok 14 rfl
theorem dX2_openUp_26 : decode cX2_openUp 26 = .ok (.aload_n 0, 1) := xdt tbX2_openUp_0_ok 15 rfl
theorem dX2_openUp_27 : decode cX2_openUp 27 = .ok (.dup, 1) := xdt tbX2_openUp_0_ok 16 rfl
theorem dX2_openUp_28 : decode cX2_openUp 28 = .ok (.getfield 76, 3) := xdt tbX2_openUp_0_ok 17 rfl
theorem dX2_openUp_31 : decode cX2_openUp 31 = .ok (.iconst 1, 1) := xdt tbX2_openUp_0_ok 18 rfl
theorem dX2_openUp_32 : decode cX2_openUp 32 = .ok (.iadd, 1) := xdt tbX2_openUp_0_ok 19 rfl
theorem dX2_openUp_33 : decode cX2_openUp 33 = .ok (.putfield 76, 3) := xdt tbX2_openUp_0_ok 20 rfl
theorem dX2_openUp_36 : decode cX2_openUp 36 = .ok (.iconst 1, 1) := xdt tbX2_openUp_0_ok 21 rfl
theorem dX2_openUp_37 : decode cX2_openUp 37 = .ok (.ireturn, 1) := xdt tbX2_openUp_0_ok 22 rfl
def tbX2_noteBegun_0 : List (Nat × Instr × Nat) := [(0, .aload_n 0, 1), (1, .getfield 15, 3), (4, .iload_n 1, 1), (5, .iconst 1, 1), (6, .iastore, 1), (7, .aload_n 0, 1), (8, .getfield 73, 3), (11, .bipush 7, 2), (13, .if_icmp .ge 23, 3), (16, .aload_n 0, 1), (17, .getfield 25, 3), (20, .aload_n 0, 1), (21, .getfield 73, 3), (24, .iload_n 1, 1), (25, .iastore, 1), (26, .aload_n 0, 1), (27, .dup, 1), (28, .getfield 73, 3), (31, .iconst 1, 1), (32, .iadd, 1), (33, .putfield 73, 3), (36, .iload_n 1, 1), (37, .bipush 12, 2), (39, .imul, 1), (40, .istore_n 2, 1), (41, .iload_n 2, 1), (42, .iload_n 1, 1), (43, .bipush 12, 2), (45, .imul, 1), (46, .aload_n 0, 1), (47, .getfield 9, 3), (50, .getfield 111, 3), (53, .iload_n 1, 1), (54, .iaload, 1), (55, .iadd, 1), (56, .if_icmp .ge 16, 3), (59, .aload_n 0, 1), (60, .getfield 22, 3), (63, .iload_n 2, 1), (64, .iconst 0, 1), (65, .iastore, 1), (66, .iinc 2 1, 3), (69, .goto (-28), 3), (72, .return_, 1)]
theorem tbX2_noteBegun_0_ok : tbX2_noteBegun_0.all (fun q => decide (decode cX2_noteBegun q.1 = .ok q.2)) = true := by decide +kernel
theorem dX2_noteBegun_0 : decode cX2_noteBegun 0 = .ok (.aload_n 0, 1) := xdt tbX2_noteBegun_0_ok 0 rfl
theorem dX2_noteBegun_1 : decode cX2_noteBegun 1 = .ok (.getfield 15, 3) := xdt tbX2_noteBegun_0_ok 1 rfl
theorem dX2_noteBegun_4 : decode cX2_noteBegun 4 = .ok (.iload_n 1, 1) := xdt tbX2_noteBegun_0_ok 2 rfl
theorem dX2_noteBegun_5 : decode cX2_noteBegun 5 = .ok (.iconst 1, 1) := xdt tbX2_noteBegun_0_ok 3 rfl
theorem dX2_noteBegun_6 : decode cX2_noteBegun 6 = .ok (.iastore, 1) := xdt tbX2_noteBegun_0_ok 4 rfl
theorem dX2_noteBegun_7 : decode cX2_noteBegun 7 = .ok (.aload_n 0, 1) := xdt tbX2_noteBegun_0_ok 5 rfl
theorem dX2_noteBegun_8 : decode cX2_noteBegun 8 = .ok (.getfield 73, 3) := xdt tbX2_noteBegun_0_ok 6 rfl
theorem dX2_noteBegun_11 : decode cX2_noteBegun 11 = .ok (.bipush 7, 2) := xdt tbX2_noteBegun_0_ok 7 rfl
theorem dX2_noteBegun_13 : decode cX2_noteBegun 13 = .ok (.if_icmp .ge 23, 3) := xdt tbX2_noteBegun_0_ok 8 rfl
theorem dX2_noteBegun_16 : decode cX2_noteBegun 16 = .ok (.aload_n 0, 1) := xdt tbX2_noteBegun_0_ok 9 rfl
theorem dX2_noteBegun_17 : decode cX2_noteBegun 17 = .ok (.getfield 25, 3) := xdt tbX2_noteBegun_0_ok 10 rfl
theorem dX2_noteBegun_20 : decode cX2_noteBegun 20 = .ok (.aload_n 0, 1) := xdt tbX2_noteBegun_0_ok 11 rfl
theorem dX2_noteBegun_21 : decode cX2_noteBegun 21 = .ok (.getfield 73, 3) := xdt tbX2_noteBegun_0_ok 12 rfl
theorem dX2_noteBegun_24 : decode cX2_noteBegun 24 = .ok (.iload_n 1, 1) := xdt tbX2_noteBegun_0_ok 13 rfl
theorem dX2_noteBegun_25 : decode cX2_noteBegun 25 = .ok (.iastore, 1) := xdt tbX2_noteBegun_0_ok 14 rfl
theorem dX2_noteBegun_26 : decode cX2_noteBegun 26 = .ok (.aload_n 0, 1) := xdt tbX2_noteBegun_0_ok 15 rfl
theorem dX2_noteBegun_27 : decode cX2_noteBegun 27 = .ok (.dup, 1) := xdt tbX2_noteBegun_0_ok 16 rfl
theorem dX2_noteBegun_28 : decode cX2_noteBegun 28 = .ok (.getfield 73, 3) := xdt tbX2_noteBegun_0_ok 17 rfl
theorem dX2_noteBegun_31 : decode cX2_noteBegun 31 = .ok (.iconst 1, 1) := xdt tbX2_noteBegun_0_ok 18 rfl
theorem dX2_noteBegun_32 : decode cX2_noteBegun 32 = .ok (.iadd, 1) := xdt tbX2_noteBegun_0_ok 19 rfl
theorem dX2_noteBegun_33 : decode cX2_noteBegun 33 = .ok (.putfield 73, 3) := xdt tbX2_noteBegun_0_ok 20 rfl
theorem dX2_noteBegun_36 : decode cX2_noteBegun 36 = .ok (.iload_n 1, 1) := xdt tbX2_noteBegun_0_ok 21 rfl
theorem dX2_noteBegun_37 : decode cX2_noteBegun 37 = .ok (.bipush 12, 2) := xdt tbX2_noteBegun_0_ok 22 rfl
theorem dX2_noteBegun_39 : decode cX2_noteBegun 39 = .ok (.imul, 1) := xdt tbX2_noteBegun_0_ok 23 rfl
theorem dX2_noteBegun_40 : decode cX2_noteBegun 40 = .ok (.istore_n 2, 1) := xdt tbX2_noteBegun_0_ok 24 rfl
theorem dX2_noteBegun_41 : decode cX2_noteBegun 41 = .ok (.iload_n 2, 1) := xdt tbX2_noteBegun_0_ok 25 rfl
theorem dX2_noteBegun_42 : decode cX2_noteBegun 42 = .ok (.iload_n 1, 1) := xdt tbX2_noteBegun_0_ok 26 rfl
theorem dX2_noteBegun_43 : decode cX2_noteBegun 43 = .ok (.bipush 12, 2) := xdt tbX2_noteBegun_0_ok 27 rfl
theorem dX2_noteBegun_45 : decode cX2_noteBegun 45 = .ok (.imul, 1) := xdt tbX2_noteBegun_0_ok 28 rfl
theorem dX2_noteBegun_46 : decode cX2_noteBegun 46 = .ok (.aload_n 0, 1) := xdt tbX2_noteBegun_0_ok 29 rfl
theorem dX2_noteBegun_47 : decode cX2_noteBegun 47 = .ok (.getfield 9, 3) := xdt tbX2_noteBegun_0_ok 30 rfl
theorem dX2_noteBegun_50 : decode cX2_noteBegun 50 = .ok (.getfield 111, 3) := xdt tbX2_noteBegun_0_ok 31 rfl
theorem dX2_noteBegun_53 : decode cX2_noteBegun 53 = .ok (.iload_n 1, 1) := xdt tbX2_noteBegun_0_ok 32 rfl
theorem dX2_noteBegun_54 : decode cX2_noteBegun 54 = .ok (.iaload, 1) := xdt tbX2_noteBegun_0_ok 33 rfl
theorem dX2_noteBegun_55 : decode cX2_noteBegun 55 = .ok (.iadd, 1) := xdt tbX2_noteBegun_0_ok 34 rfl
theorem dX2_noteBegun_56 : decode cX2_noteBegun 56 = .ok (.if_icmp .ge 16, 3) := xdt tbX2_noteBegun_0_ok 35 rfl
theorem dX2_noteBegun_59 : decode cX2_noteBegun 59 = .ok (.aload_n 0, 1) := xdt tbX2_noteBegun_0_ok 36 rfl
theorem dX2_noteBegun_60 : decode cX2_noteBegun 60 = .ok (.getfield 22, 3) := xdt tbX2_noteBegun_0_ok 37 rfl
theorem dX2_noteBegun_63 : decode cX2_noteBegun 63 = .ok (.iload_n 2, 1) := xdt tbX2_noteBegun_0_ok 38 rfl
theorem dX2_noteBegun_64 : decode cX2_noteBegun 64 = .ok (.iconst 0, 1) := xdt tbX2_noteBegun_0_ok 39 rfl
theorem dX2_noteBegun_65 : decode cX2_noteBegun 65 = .ok (.iastore, 1) := xdt tbX2_noteBegun_0_ok 40 rfl
theorem dX2_noteBegun_66 : decode cX2_noteBegun 66 = .ok (.iinc 2 1, 3) := xdt tbX2_noteBegun_0_ok 41 rfl
theorem dX2_noteBegun_69 : decode cX2_noteBegun 69 = .ok (.goto (-28), 3) := xdt tbX2_noteBegun_0_ok 42 rfl
theorem dX2_noteBegun_72 : decode cX2_noteBegun 72 = .ok (.return_, 1) := xdt tbX2_noteBegun_0_ok 43 rfl
def tbX2_failAll_0 : List (Nat × Instr × Nat) := [(0, .iconst 0, 1), (1, .istore_n 3, 1), (2, .aload_n 0, 1), (3, .getfield 76, 3), (6, .iconst 1, 1), (7, .isub, 1), (8, .istore 4, 2), (10, .iload 4, 2), (12, .ifCond .lt 77, 3), (15, .aload_n 0, 1), (16, .getfield 33, 3), (19, .iload 4, 2), (21, .iaload, 1), (22, .bipush 100, 2), (24, .irem, 1), (25, .bipush 99, 2), (27, .if_icmp .ne 56, 3), (30, .aload_n 0, 1), (31, .getfield 33, 3), (34, .iload 4, 2), (36, .iaload, 1), (37, .bipush 100, 2), (39, .idiv, 1), (40, .istore 5, 2), (42, .aload_n 0, 1), (43, .getfield 15, 3), (46, .iload 5, 2), (48, .iconst 3, 1), (49, .iastore, 1), (50, .aload_n 0, 1), (51, .getfield 30, 3), (54, .iconst 0, 1), (55, .aaload, 1), (56, .iload 5, 2), (58, .iload_n 1, 1), (59, .iastore, 1), (60, .aload_n 0, 1), (61, .getfield 30, 3), (64, .iconst 1, 1), (65, .aaload, 1), (66, .iload 5, 2), (68, .iload_n 2, 1), (69, .iastore, 1), (70, .aload_n 0, 1), (71, .getfield 30, 3), (74, .iconst 2, 1), (75, .aaload, 1), (76, .iload 5, 2), (78, .iload_n 3, 1), (79, .iastore, 1), (80, .iinc 3 1, 3), (83, .iinc 4 (-1), 3), (86, .goto (-76), 3), (89, .aload_n 0, 1), (90, .iconst 0, 1), (91, .putfield 76, 3), (94, .iconst 0, 1), (95, .ireturn, 1)]
theorem tbX2_failAll_0_ok : tbX2_failAll_0.all (fun q => decide (decode cX2_failAll q.1 = .ok q.2)) = true := by decide +kernel
theorem dX2_failAll_0 : decode cX2_failAll 0 = .ok (.iconst 0, 1) := xdt tbX2_failAll_0_ok 0 rfl
theorem dX2_failAll_1 : decode cX2_failAll 1 = .ok (.istore_n 3, 1) := xdt tbX2_failAll_0_ok 1 rfl
theorem dX2_failAll_2 : decode cX2_failAll 2 = .ok (.aload_n 0, 1) := xdt tbX2_failAll_0_ok 2 rfl
theorem dX2_failAll_3 : decode cX2_failAll 3 = .ok (.getfield 76, 3) := xdt tbX2_failAll_0_ok 3 rfl
theorem dX2_failAll_6 : decode cX2_failAll 6 = .ok (.iconst 1, 1) := xdt tbX2_failAll_0_ok 4 rfl
theorem dX2_failAll_7 : decode cX2_failAll 7 = .ok (.isub, 1) := xdt tbX2_failAll_0_ok 5 rfl
theorem dX2_failAll_8 : decode cX2_failAll 8 = .ok (.istore 4, 2) := xdt tbX2_failAll_0_ok 6 rfl
theorem dX2_failAll_10 : decode cX2_failAll 10 = .ok (.iload 4, 2) := xdt tbX2_failAll_0_ok 7 rfl
theorem dX2_failAll_12 : decode cX2_failAll 12 = .ok (.ifCond .lt 77, 3) := xdt tbX2_failAll_0_ok 8 rfl
theorem dX2_failAll_15 : decode cX2_failAll 15 = .ok (.aload_n 0, 1) := xdt tbX2_failAll_0_ok 9 rfl
theorem dX2_failAll_16 : decode cX2_failAll 16 = .ok (.getfield 33, 3) := xdt tbX2_failAll_0_ok 10 rfl
theorem dX2_failAll_19 : decode cX2_failAll 19 = .ok (.iload 4, 2) := xdt tbX2_failAll_0_ok 11 rfl
theorem dX2_failAll_21 : decode cX2_failAll 21 = .ok (.iaload, 1) := xdt tbX2_failAll_0_ok 12 rfl
theorem dX2_failAll_22 : decode cX2_failAll 22 = .ok (.bipush 100, 2) := xdt tbX2_failAll_0_ok 13 rfl
theorem dX2_failAll_24 : decode cX2_failAll 24 = .ok (.irem, 1) := xdt tbX2_failAll_0_ok 14 rfl
theorem dX2_failAll_25 : decode cX2_failAll 25 = .ok (.bipush 99, 2) := xdt tbX2_failAll_0_ok 15 rfl
theorem dX2_failAll_27 : decode cX2_failAll 27 = .ok (.if_icmp .ne 56, 3) := xdt tbX2_failAll_0_ok 16 rfl
theorem dX2_failAll_30 : decode cX2_failAll 30 = .ok (.aload_n 0, 1) := xdt tbX2_failAll_0_ok 17 rfl
theorem dX2_failAll_31 : decode cX2_failAll 31 = .ok (.getfield 33, 3) := xdt tbX2_failAll_0_ok 18 rfl
theorem dX2_failAll_34 : decode cX2_failAll 34 = .ok (.iload 4, 2) := xdt tbX2_failAll_0_ok 19 rfl
theorem dX2_failAll_36 : decode cX2_failAll 36 = .ok (.iaload, 1) := xdt tbX2_failAll_0_ok 20 rfl
theorem dX2_failAll_37 : decode cX2_failAll 37 = .ok (.bipush 100, 2) := xdt tbX2_failAll_0_ok 21 rfl
theorem dX2_failAll_39 : decode cX2_failAll 39 = .ok (.idiv, 1) := xdt tbX2_failAll_0_ok 22 rfl
theorem dX2_failAll_40 : decode cX2_failAll 40 = .ok (.istore 5, 2) := xdt tbX2_failAll_0_ok 23 rfl
theorem dX2_failAll_42 : decode cX2_failAll 42 = .ok (.aload_n 0, 1) := xdt tbX2_failAll_0_ok 24 rfl
theorem dX2_failAll_43 : decode cX2_failAll 43 = .ok (.getfield 15, 3) := xdt tbX2_failAll_0_ok 25 rfl
theorem dX2_failAll_46 : decode cX2_failAll 46 = .ok (.iload 5, 2) := xdt tbX2_failAll_0_ok 26 rfl
theorem dX2_failAll_48 : decode cX2_failAll 48 = .ok (.iconst 3, 1) := xdt tbX2_failAll_0_ok 27 rfl
theorem dX2_failAll_49 : decode cX2_failAll 49 = .ok (.iastore, 1) := xdt tbX2_failAll_0_ok 28 rfl
theorem dX2_failAll_50 : decode cX2_failAll 50 = .ok (.aload_n 0, 1) := xdt tbX2_failAll_0_ok 29 rfl
theorem dX2_failAll_51 : decode cX2_failAll 51 = .ok (.getfield 30, 3) := xdt tbX2_failAll_0_ok 30 rfl
theorem dX2_failAll_54 : decode cX2_failAll 54 = .ok (.iconst 0, 1) := xdt tbX2_failAll_0_ok 31 rfl
theorem dX2_failAll_55 : decode cX2_failAll 55 = .ok (.aaload, 1) := xdt tbX2_failAll_0_ok 32 rfl
theorem dX2_failAll_56 : decode cX2_failAll 56 = .ok (.iload 5, 2) := xdt tbX2_failAll_0_ok 33 rfl
theorem dX2_failAll_58 : decode cX2_failAll 58 = .ok (.iload_n 1, 1) := xdt tbX2_failAll_0_ok 34 rfl
theorem dX2_failAll_59 : decode cX2_failAll 59 = .ok (.iastore, 1) := xdt tbX2_failAll_0_ok 35 rfl
theorem dX2_failAll_60 : decode cX2_failAll 60 = .ok (.aload_n 0, 1) := xdt tbX2_failAll_0_ok 36 rfl
theorem dX2_failAll_61 : decode cX2_failAll 61 = .ok (.getfield 30, 3) := xdt tbX2_failAll_0_ok 37 rfl
theorem dX2_failAll_64 : decode cX2_failAll 64 = .ok (.iconst 1, 1) := xdt tbX2_failAll_0_ok 38 rfl
theorem dX2_failAll_65 : decode cX2_failAll 65 = .ok (.aaload, 1) := xdt tbX2_failAll_0_ok 39 rfl
theorem dX2_failAll_66 : decode cX2_failAll 66 = .ok (.iload 5, 2) := xdt tbX2_failAll_0_ok 40 rfl
theorem dX2_failAll_68 : decode cX2_failAll 68 = .ok (.iload_n 2, 1) := xdt tbX2_failAll_0_ok 41 rfl
theorem dX2_failAll_69 : decode cX2_failAll 69 = .ok (.iastore, 1) := xdt tbX2_failAll_0_ok 42 rfl
theorem dX2_failAll_70 : decode cX2_failAll 70 = .ok (.aload_n 0, 1) := xdt tbX2_failAll_0_ok 43 rfl
theorem dX2_failAll_71 : decode cX2_failAll 71 = .ok (.getfield 30, 3) := xdt tbX2_failAll_0_ok 44 rfl
theorem dX2_failAll_74 : decode cX2_failAll 74 = .ok (.iconst 2, 1) := xdt tbX2_failAll_0_ok 45 rfl
theorem dX2_failAll_75 : decode cX2_failAll 75 = .ok (.aaload, 1) := xdt tbX2_failAll_0_ok 46 rfl
theorem dX2_failAll_76 : decode cX2_failAll 76 = .ok (.iload 5, 2) := xdt tbX2_failAll_0_ok 47 rfl
theorem dX2_failAll_78 : decode cX2_failAll 78 = .ok (.iload_n 3, 1) := xdt tbX2_failAll_0_ok 48 rfl
theorem dX2_failAll_79 : decode cX2_failAll 79 = .ok (.iastore, 1) := xdt tbX2_failAll_0_ok 49 rfl
theorem dX2_failAll_80 : decode cX2_failAll 80 = .ok (.iinc 3 1, 3) := xdt tbX2_failAll_0_ok 50 rfl
theorem dX2_failAll_83 : decode cX2_failAll 83 = .ok (.iinc 4 (-1), 3) := xdt tbX2_failAll_0_ok 51 rfl
theorem dX2_failAll_86 : decode cX2_failAll 86 = .ok (.goto (-76), 3) := xdt tbX2_failAll_0_ok 52 rfl
theorem dX2_failAll_89 : decode cX2_failAll 89 = .ok (.aload_n 0, 1) := xdt tbX2_failAll_0_ok 53 rfl
theorem dX2_failAll_90 : decode cX2_failAll 90 = .ok (.iconst 0, 1) := xdt tbX2_failAll_0_ok 54 rfl
theorem dX2_failAll_91 : decode cX2_failAll 91 = .ok (.putfield 76, 3) := xdt tbX2_failAll_0_ok 55 rfl
theorem dX2_failAll_94 : decode cX2_failAll 94 = .ok (.iconst 0, 1) := xdt tbX2_failAll_0_ok 56 rfl
theorem dX2_failAll_95 : decode cX2_failAll 95 = .ok (.ireturn, 1) := xdt tbX2_failAll_0_ok 57 rfl
def tbX2_isEarly_0 : List (Nat × Instr × Nat) := [(0, .aload_n 0, 1), (1, .getfield 15, 3), (4, .iload_n 1, 1), (5, .bipush 12, 2), (7, .idiv, 1), (8, .iaload, 1), (9, .iconst 1, 1), (10, .if_icmp .ne 29, 3), (13, .aload_n 0, 1), (14, .getfield 9, 3), (17, .getfield 144, 3), (20, .iload_n 1, 1), (21, .iaload, 1), (22, .iconst (-1), 1), (23, .if_icmp .eq 16, 3), (26, .aload_n 0, 1), (27, .getfield 22, 3), (30, .iload_n 1, 1), (31, .iaload, 1), (32, .ifCond .ne 7, 3), (35, .iconst 1, 1), (36, .goto 4, 3), (39, .iconst 0, 1), (40, .ireturn, 1)]
theorem tbX2_isEarly_0_ok : tbX2_isEarly_0.all (fun q => decide (decode cX2_isEarly q.1 = .ok q.2)) = true := by decide +kernel
theorem dX2_isEarly_0 : decode cX2_isEarly 0 = .ok (.aload_n 0, 1) := xdt tbX2_isEarly_0_ok 0 rfl
theorem dX2_isEarly_1 : decode cX2_isEarly 1 = .ok (.getfield 15, 3) := xdt tbX2_isEarly_0_ok 1 rfl
theorem dX2_isEarly_4 : decode cX2_isEarly 4 = .ok (.iload_n 1, 1) := xdt tbX2_isEarly_0_ok 2 rfl
theorem dX2_isEarly_5 : decode cX2_isEarly 5 = .ok (.bipush 12, 2) := xdt tbX2_isEarly_0_ok 3 rfl
theorem dX2_isEarly_7 : decode cX2_isEarly 7 = .ok (.idiv, 1) := xdt tbX2_isEarly_0_ok 4 rfl
theorem dX2_isEarly_8 : decode cX2_isEarly 8 = .ok (.iaload, 1) := xdt tbX2_isEarly_0_ok 5 rfl
theorem dX2_isEarly_9 : decode cX2_isEarly 9 = .ok (.iconst 1, 1) := xdt tbX2_isEarly_0_ok 6 rfl
theorem dX2_isEarly_10 : decode cX2_isEarly 10 = .ok (.if_icmp .ne 29, 3) := xdt tbX2_isEarly_0_ok 7 rfl
theorem dX2_isEarly_13 : decode cX2_isEarly 13 = .ok (.aload_n 0, 1) := xdt tbX2_isEarly_0_ok 8 rfl
theorem dX2_isEarly_14 : decode cX2_isEarly 14 = .ok (.getfield 9, 3) := xdt tbX2_isEarly_0_ok 9 rfl
theorem dX2_isEarly_17 : decode cX2_isEarly 17 = .ok (.getfield 144, 3) := xdt tbX2_isEarly_0_ok 10 rfl
theorem dX2_isEarly_20 : decode cX2_isEarly 20 = .ok (.iload_n 1, 1) := xdt tbX2_isEarly_0_ok 11 rfl
theorem dX2_isEarly_21 : decode cX2_isEarly 21 = .ok (.iaload, 1) := xdt tbX2_isEarly_0_ok 12 rfl
theorem dX2_isEarly_22 : decode cX2_isEarly 22 = .ok (.iconst (-1), 1) := xdt tbX2_isEarly_0_ok 13 rfl
theorem dX2_isEarly_23 : decode cX2_isEarly 23 = .ok (.if_icmp .eq 16, 3) := xdt tbX2_isEarly_0_ok 14 rfl
theorem dX2_isEarly_26 : decode cX2_isEarly 26 = .ok (.aload_n 0, 1) := xdt tbX2_isEarly_0_ok 15 rfl
theorem dX2_isEarly_27 : decode cX2_isEarly 27 = .ok (.getfield 22, 3) := xdt tbX2_isEarly_0_ok 16 rfl
theorem dX2_isEarly_30 : decode cX2_isEarly 30 = .ok (.iload_n 1, 1) := xdt tbX2_isEarly_0_ok 17 rfl
theorem dX2_isEarly_31 : decode cX2_isEarly 31 = .ok (.iaload, 1) := xdt tbX2_isEarly_0_ok 18 rfl
theorem dX2_isEarly_32 : decode cX2_isEarly 32 = .ok (.ifCond .ne 7, 3) := xdt tbX2_isEarly_0_ok 19 rfl
theorem dX2_isEarly_35 : decode cX2_isEarly 35 = .ok (.iconst 1, 1) := xdt tbX2_isEarly_0_ok 20 rfl
theorem dX2_isEarly_36 : decode cX2_isEarly 36 = .ok (.goto 4, 3) := xdt tbX2_isEarly_0_ok 21 rfl
theorem dX2_isEarly_39 : decode cX2_isEarly 39 = .ok (.iconst 0, 1) := xdt tbX2_isEarly_0_ok 22 rfl
theorem dX2_isEarly_40 : decode cX2_isEarly 40 = .ok (.ireturn, 1) := xdt tbX2_isEarly_0_ok 23 rfl
def tbX4_keep_0 : List (Nat × Instr × Nat) := [(0, .aload_n 0, 1), (1, .iload_n 2, 1), (2, .putfield 19, 3), (5, .aload_n 0, 1), (6, .aload_n 1, 1), (7, .getfield 22, 3), (10, .getfield 28, 3), (13, .iload_n 2, 1), (14, .iaload, 1), (15, .putfield 33, 3), (18, .aload_n 0, 1), (19, .aload_n 1, 1), (20, .getfield 35, 3), (23, .iload_n 2, 1), (24, .iaload, 1), (25, .putfield 38, 3), (28, .aload_n 0, 1), (29, .aload_n 1, 1), (30, .getfield 41, 3), (33, .putfield 44, 3), (36, .aload_n 0, 1), (37, .aload_n 1, 1), (38, .getfield 45, 3), (41, .putfield 48, 3), (44, .aload_n 0, 1), (45, .aload_n 1, 1), (46, .getfield 49, 3), (49, .putfield 52, 3), (52, .iconst 0, 1), (53, .istore_n 3, 1), (54, .iload_n 3, 1), (55, .aload_n 0, 1), (56, .getfield 52, 3), (59, .if_icmp .ge 21, 3), (62, .aload_n 0, 1), (63, .getfield 15, 3), (66, .iload_n 3, 1), (67, .aload_n 1, 1), (68, .getfield 53, 3), (71, .iload_n 3, 1), (72, .iaload, 1), (73, .iastore, 1), (74, .iinc 3 1, 3), (77, .goto (-23), 3), (80, .return_, 1)]
theorem tbX4_keep_0_ok : tbX4_keep_0.all (fun q => decide (decode cX4_keep q.1 = .ok q.2)) = true := by decide +kernel
theorem dX4_keep_0 : decode cX4_keep 0 = .ok (.aload_n 0, 1) := xdt tbX4_keep_0_ok 0 rfl
theorem dX4_keep_1 : decode cX4_keep 1 = .ok (.iload_n 2, 1) := xdt tbX4_keep_0_ok 1 rfl
theorem dX4_keep_2 : decode cX4_keep 2 = .ok (.putfield 19, 3) := xdt tbX4_keep_0_ok 2 rfl
theorem dX4_keep_5 : decode cX4_keep 5 = .ok (.aload_n 0, 1) := xdt tbX4_keep_0_ok 3 rfl
theorem dX4_keep_6 : decode cX4_keep 6 = .ok (.aload_n 1, 1) := xdt tbX4_keep_0_ok 4 rfl
theorem dX4_keep_7 : decode cX4_keep 7 = .ok (.getfield 22, 3) := xdt tbX4_keep_0_ok 5 rfl
theorem dX4_keep_10 : decode cX4_keep 10 = .ok (.getfield 28, 3) := xdt tbX4_keep_0_ok 6 rfl
theorem dX4_keep_13 : decode cX4_keep 13 = .ok (.iload_n 2, 1) := xdt tbX4_keep_0_ok 7 rfl
theorem dX4_keep_14 : decode cX4_keep 14 = .ok (.iaload, 1) := xdt tbX4_keep_0_ok 8 rfl
theorem dX4_keep_15 : decode cX4_keep 15 = .ok (.putfield 33, 3) := xdt tbX4_keep_0_ok 9 rfl
theorem dX4_keep_18 : decode cX4_keep 18 = .ok (.aload_n 0, 1) := xdt tbX4_keep_0_ok 10 rfl
theorem dX4_keep_19 : decode cX4_keep 19 = .ok (.aload_n 1, 1) := xdt tbX4_keep_0_ok 11 rfl
theorem dX4_keep_20 : decode cX4_keep 20 = .ok (.getfield 35, 3) := xdt tbX4_keep_0_ok 12 rfl
theorem dX4_keep_23 : decode cX4_keep 23 = .ok (.iload_n 2, 1) := xdt tbX4_keep_0_ok 13 rfl
theorem dX4_keep_24 : decode cX4_keep 24 = .ok (.iaload, 1) := xdt tbX4_keep_0_ok 14 rfl
theorem dX4_keep_25 : decode cX4_keep 25 = .ok (.putfield 38, 3) := xdt tbX4_keep_0_ok 15 rfl
theorem dX4_keep_28 : decode cX4_keep 28 = .ok (.aload_n 0, 1) := xdt tbX4_keep_0_ok 16 rfl
theorem dX4_keep_29 : decode cX4_keep 29 = .ok (.aload_n 1, 1) := xdt tbX4_keep_0_ok 17 rfl
theorem dX4_keep_30 : decode cX4_keep 30 = .ok (.getfield 41, 3) := xdt tbX4_keep_0_ok 18 rfl
theorem dX4_keep_33 : decode cX4_keep 33 = .ok (.putfield 44, 3) := xdt tbX4_keep_0_ok 19 rfl
theorem dX4_keep_36 : decode cX4_keep 36 = .ok (.aload_n 0, 1) := xdt tbX4_keep_0_ok 20 rfl
theorem dX4_keep_37 : decode cX4_keep 37 = .ok (.aload_n 1, 1) := xdt tbX4_keep_0_ok 21 rfl
theorem dX4_keep_38 : decode cX4_keep 38 = .ok (.getfield 45, 3) := xdt tbX4_keep_0_ok 22 rfl
theorem dX4_keep_41 : decode cX4_keep 41 = .ok (.putfield 48, 3) := xdt tbX4_keep_0_ok 23 rfl
theorem dX4_keep_44 : decode cX4_keep 44 = .ok (.aload_n 0, 1) := xdt tbX4_keep_0_ok 24 rfl
theorem dX4_keep_45 : decode cX4_keep 45 = .ok (.aload_n 1, 1) := xdt tbX4_keep_0_ok 25 rfl
theorem dX4_keep_46 : decode cX4_keep 46 = .ok (.getfield 49, 3) := xdt tbX4_keep_0_ok 26 rfl
theorem dX4_keep_49 : decode cX4_keep 49 = .ok (.putfield 52, 3) := xdt tbX4_keep_0_ok 27 rfl
theorem dX4_keep_52 : decode cX4_keep 52 = .ok (.iconst 0, 1) := xdt tbX4_keep_0_ok 28 rfl
theorem dX4_keep_53 : decode cX4_keep 53 = .ok (.istore_n 3, 1) := xdt tbX4_keep_0_ok 29 rfl
theorem dX4_keep_54 : decode cX4_keep 54 = .ok (.iload_n 3, 1) := xdt tbX4_keep_0_ok 30 rfl
theorem dX4_keep_55 : decode cX4_keep 55 = .ok (.aload_n 0, 1) := xdt tbX4_keep_0_ok 31 rfl
theorem dX4_keep_56 : decode cX4_keep 56 = .ok (.getfield 52, 3) := xdt tbX4_keep_0_ok 32 rfl
theorem dX4_keep_59 : decode cX4_keep 59 = .ok (.if_icmp .ge 21, 3) := xdt tbX4_keep_0_ok 33 rfl
theorem dX4_keep_62 : decode cX4_keep 62 = .ok (.aload_n 0, 1) := xdt tbX4_keep_0_ok 34 rfl
theorem dX4_keep_63 : decode cX4_keep 63 = .ok (.getfield 15, 3) := xdt tbX4_keep_0_ok 35 rfl
theorem dX4_keep_66 : decode cX4_keep 66 = .ok (.iload_n 3, 1) := xdt tbX4_keep_0_ok 36 rfl
theorem dX4_keep_67 : decode cX4_keep 67 = .ok (.aload_n 1, 1) := xdt tbX4_keep_0_ok 37 rfl
theorem dX4_keep_68 : decode cX4_keep 68 = .ok (.getfield 53, 3) := xdt tbX4_keep_0_ok 38 rfl
theorem dX4_keep_71 : decode cX4_keep 71 = .ok (.iload_n 3, 1) := xdt tbX4_keep_0_ok 39 rfl
theorem dX4_keep_72 : decode cX4_keep 72 = .ok (.iaload, 1) := xdt tbX4_keep_0_ok 40 rfl
theorem dX4_keep_73 : decode cX4_keep 73 = .ok (.iastore, 1) := xdt tbX4_keep_0_ok 41 rfl
theorem dX4_keep_74 : decode cX4_keep 74 = .ok (.iinc 3 1, 3) := xdt tbX4_keep_0_ok 42 rfl
theorem dX4_keep_77 : decode cX4_keep 77 = .ok (.goto (-23), 3) := xdt tbX4_keep_0_ok 43 rfl
theorem dX4_keep_80 : decode cX4_keep 80 = .ok (.return_, 1) := xdt tbX4_keep_0_ok 44 rfl
def tbX2_readVariable_0 : List (Nat × Instr × Nat) := [(0, .aload_n 0, 1), (1, .iload_n 1, 1), (2, .invokevirtual 169, 3), (5, .ifCond .eq 36, 3), (8, .aload_n 0, 1), (9, .getfield 82, 3), (12, .aload_n 0, 1), (13, .getfield 42, 3), (16, .getfield 197, 3), (19, .if_icmp .ne 12, 3), (22, .aload_n 0, 1), (23, .getfield 42, 3), (26, .aload_n 0, 1), (27, .iload_n 1, 1), (28, .invokevirtual 200, 3), (31, .aload_n 0, 1), (32, .dup, 1), (33, .getfield 82, 3), (36, .iconst 1, 1), (37, .iadd, 1), (38, .putfield 82, 3), (41, .aload_n 0, 1), (42, .aload_n 0, 1), (43, .getfield 19, 3), (46, .iload_n 1, 1), (47, .iaload, 1), (48, .putfield 147, 3), (51, .iconst 1, 1), (52, .ireturn, 1)]
theorem tbX2_readVariable_0_ok : tbX2_readVariable_0.all (fun q => decide (decode cX2_readVariable q.1 = .ok q.2)) = true := by decide +kernel
theorem dX2_readVariable_0 : decode cX2_readVariable 0 = .ok (.aload_n 0, 1) := xdt tbX2_readVariable_0_ok 0 rfl
theorem dX2_readVariable_1 : decode cX2_readVariable 1 = .ok (.iload_n 1, 1) := xdt tbX2_readVariable_0_ok 1 rfl
theorem dX2_readVariable_2 : decode cX2_readVariable 2 = .ok (.invokevirtual 169, 3) := xdt tbX2_readVariable_0_ok 2 rfl
theorem dX2_readVariable_5 : decode cX2_readVariable 5 = .ok (.ifCond .eq 36, 3) := xdt tbX2_readVariable_0_ok 3 rfl
theorem dX2_readVariable_8 : decode cX2_readVariable 8 = .ok (.aload_n 0, 1) := xdt tbX2_readVariable_0_ok 4 rfl
theorem dX2_readVariable_9 : decode cX2_readVariable 9 = .ok (.getfield 82, 3) := xdt tbX2_readVariable_0_ok 5 rfl
theorem dX2_readVariable_12 : decode cX2_readVariable 12 = .ok (.aload_n 0, 1) := xdt tbX2_readVariable_0_ok 6 rfl
theorem dX2_readVariable_13 : decode cX2_readVariable 13 = .ok (.getfield 42, 3) := xdt tbX2_readVariable_0_ok 7 rfl
theorem dX2_readVariable_16 : decode cX2_readVariable 16 = .ok (.getfield 197, 3) := xdt tbX2_readVariable_0_ok 8 rfl
theorem dX2_readVariable_19 : decode cX2_readVariable 19 = .ok (.if_icmp .ne 12, 3) := xdt tbX2_readVariable_0_ok 9 rfl
theorem dX2_readVariable_22 : decode cX2_readVariable 22 = .ok (.aload_n 0, 1) := xdt tbX2_readVariable_0_ok 10 rfl
theorem dX2_readVariable_23 : decode cX2_readVariable 23 = .ok (.getfield 42, 3) := xdt tbX2_readVariable_0_ok 11 rfl
theorem dX2_readVariable_26 : decode cX2_readVariable 26 = .ok (.aload_n 0, 1) := xdt tbX2_readVariable_0_ok 12 rfl
theorem dX2_readVariable_27 : decode cX2_readVariable 27 = .ok (.iload_n 1, 1) := xdt tbX2_readVariable_0_ok 13 rfl
theorem dX2_readVariable_28 : decode cX2_readVariable 28 = .ok (.invokevirtual 200, 3) := xdt tbX2_readVariable_0_ok 14 rfl
theorem dX2_readVariable_31 : decode cX2_readVariable 31 = .ok (.aload_n 0, 1) := xdt tbX2_readVariable_0_ok 15 rfl
theorem dX2_readVariable_32 : decode cX2_readVariable 32 = .ok (.dup, 1) := xdt tbX2_readVariable_0_ok 16 rfl
theorem dX2_readVariable_33 : decode cX2_readVariable 33 = .ok (.getfield 82, 3) := xdt tbX2_readVariable_0_ok 17 rfl
theorem dX2_readVariable_36 : decode cX2_readVariable 36 = .ok (.iconst 1, 1) := xdt tbX2_readVariable_0_ok 18 rfl
theorem dX2_readVariable_37 : decode cX2_readVariable 37 = .ok (.iadd, 1) := xdt tbX2_readVariable_0_ok 19 rfl
theorem dX2_readVariable_38 : decode cX2_readVariable 38 = .ok (.putfield 82, 3) := xdt tbX2_readVariable_0_ok 20 rfl
theorem dX2_readVariable_41 : decode cX2_readVariable 41 = .ok (.aload_n 0, 1) := xdt tbX2_readVariable_0_ok 21 rfl
theorem dX2_readVariable_42 : decode cX2_readVariable 42 = .ok (.aload_n 0, 1) := xdt tbX2_readVariable_0_ok 22 rfl
theorem dX2_readVariable_43 : decode cX2_readVariable 43 = .ok (.getfield 19, 3) := xdt tbX2_readVariable_0_ok 23 rfl
theorem dX2_readVariable_46 : decode cX2_readVariable 46 = .ok (.iload_n 1, 1) := xdt tbX2_readVariable_0_ok 24 rfl
theorem dX2_readVariable_47 : decode cX2_readVariable 47 = .ok (.iaload, 1) := xdt tbX2_readVariable_0_ok 25 rfl
theorem dX2_readVariable_48 : decode cX2_readVariable 48 = .ok (.putfield 147, 3) := xdt tbX2_readVariable_0_ok 26 rfl
theorem dX2_readVariable_51 : decode cX2_readVariable 51 = .ok (.iconst 1, 1) := xdt tbX2_readVariable_0_ok 27 rfl
theorem dX2_readVariable_52 : decode cX2_readVariable 52 = .ok (.ireturn, 1) := xdt tbX2_readVariable_0_ok 28 rfl
def tbX2_touchUnit_0 : List (Nat × Instr × Nat) := [(0, .aload_n 0, 1), (1, .getfield 15, 3), (4, .iload_n 1, 1), (5, .iaload, 1), (6, .ifCond .ne 9, 3), (9, .aload_n 0, 1), (10, .iload_n 1, 1), (11, .invokevirtual 117, 3), (14, .ireturn, 1), (15, .aload_n 0, 1), (16, .getfield 15, 3), (19, .iload_n 1, 1), (20, .iaload, 1), (21, .iconst 3, 1), (22, .if_icmp .ne 12, 3), (25, .aload_n 0, 1), (26, .iconst 2, 1), (27, .iload_n 1, 1), (28, .invokevirtual 120, 3), (31, .ifCond .eq 7, 3), (34, .iconst 1, 1), (35, .goto 4, 3), (38, .iconst 0, 1), (39, .ireturn, 1)]
theorem tbX2_touchUnit_0_ok : tbX2_touchUnit_0.all (fun q => decide (decode cX2_touchUnit q.1 = .ok q.2)) = true := by decide +kernel
theorem dX2_touchUnit_0 : decode cX2_touchUnit 0 = .ok (.aload_n 0, 1) := xdt tbX2_touchUnit_0_ok 0 rfl
theorem dX2_touchUnit_1 : decode cX2_touchUnit 1 = .ok (.getfield 15, 3) := xdt tbX2_touchUnit_0_ok 1 rfl
theorem dX2_touchUnit_4 : decode cX2_touchUnit 4 = .ok (.iload_n 1, 1) := xdt tbX2_touchUnit_0_ok 2 rfl
theorem dX2_touchUnit_5 : decode cX2_touchUnit 5 = .ok (.iaload, 1) := xdt tbX2_touchUnit_0_ok 3 rfl
theorem dX2_touchUnit_6 : decode cX2_touchUnit 6 = .ok (.ifCond .ne 9, 3) := xdt tbX2_touchUnit_0_ok 4 rfl
theorem dX2_touchUnit_9 : decode cX2_touchUnit 9 = .ok (.aload_n 0, 1) := xdt tbX2_touchUnit_0_ok 5 rfl
theorem dX2_touchUnit_10 : decode cX2_touchUnit 10 = .ok (.iload_n 1, 1) := xdt tbX2_touchUnit_0_ok 6 rfl
theorem dX2_touchUnit_11 : decode cX2_touchUnit 11 = .ok (.invokevirtual 117, 3) := xdt tbX2_touchUnit_0_ok 7 rfl
theorem dX2_touchUnit_14 : decode cX2_touchUnit 14 = .ok (.ireturn, 1) := xdt tbX2_touchUnit_0_ok 8 rfl
theorem dX2_touchUnit_15 : decode cX2_touchUnit 15 = .ok (.aload_n 0, 1) := xdt tbX2_touchUnit_0_ok 9 rfl
theorem dX2_touchUnit_16 : decode cX2_touchUnit 16 = .ok (.getfield 15, 3) := xdt tbX2_touchUnit_0_ok 10 rfl
theorem dX2_touchUnit_19 : decode cX2_touchUnit 19 = .ok (.iload_n 1, 1) := xdt tbX2_touchUnit_0_ok 11 rfl
theorem dX2_touchUnit_20 : decode cX2_touchUnit 20 = .ok (.iaload, 1) := xdt tbX2_touchUnit_0_ok 12 rfl
theorem dX2_touchUnit_21 : decode cX2_touchUnit 21 = .ok (.iconst 3, 1) := xdt tbX2_touchUnit_0_ok 13 rfl
theorem dX2_touchUnit_22 : decode cX2_touchUnit 22 = .ok (.if_icmp .ne 12, 3) := xdt tbX2_touchUnit_0_ok 14 rfl
theorem dX2_touchUnit_25 : decode cX2_touchUnit 25 = .ok (.aload_n 0, 1) := xdt tbX2_touchUnit_0_ok 15 rfl
theorem dX2_touchUnit_26 : decode cX2_touchUnit 26 = .ok (.iconst 2, 1) := xdt tbX2_touchUnit_0_ok 16 rfl
theorem dX2_touchUnit_27 : decode cX2_touchUnit 27 = .ok (.iload_n 1, 1) := xdt tbX2_touchUnit_0_ok 17 rfl
theorem dX2_touchUnit_28 : decode cX2_touchUnit 28 = .ok (.invokevirtual 120, 3) := xdt tbX2_touchUnit_0_ok 18 rfl
theorem dX2_touchUnit_31 : decode cX2_touchUnit 31 = .ok (.ifCond .eq 7, 3) := xdt tbX2_touchUnit_0_ok 19 rfl
theorem dX2_touchUnit_34 : decode cX2_touchUnit 34 = .ok (.iconst 1, 1) := xdt tbX2_touchUnit_0_ok 20 rfl
theorem dX2_touchUnit_35 : decode cX2_touchUnit 35 = .ok (.goto 4, 3) := xdt tbX2_touchUnit_0_ok 21 rfl
theorem dX2_touchUnit_38 : decode cX2_touchUnit 38 = .ok (.iconst 0, 1) := xdt tbX2_touchUnit_0_ok 22 rfl
theorem dX2_touchUnit_39 : decode cX2_touchUnit 39 = .ok (.ireturn, 1) := xdt tbX2_touchUnit_0_ok 23 rfl
def tbX2_beginUnit_0 : List (Nat × Instr × Nat) := [(0, .aload_n 0, 1), (1, .getfield 79, 3), (4, .sipush 3000, 3), (7, .if_icmp .ge 17, 3), (10, .aload_n 0, 1), (11, .iload_n 1, 1), (12, .bipush 100, 2), (14, .imul, 1), (15, .bipush 99, 2), (17, .iadd, 1), (18, .invokevirtual 124, 3), (21, .ifCond .ne 10, 3), (24, .aload_n 0, 1), (25, .iconst 1, 1), (26, .putfield 59, 3), (29, .iconst 0, 1), (30, .ireturn, 1), (31, .aload_n 0, 1), (32, .dup, 1), (33, .getfield 79, 3), (36, .iconst 1, 1), (37, .iadd, 1), (38, .putfield 79, 3), (41, .aload_n 0, 1), (42, .iload_n 1, 1), (43, .invokevirtual 127, 3), (46, .aload_n 0, 1), (47, .getfield 9, 3), (50, .getfield 131, 3), (53, .iload_n 1, 1), (54, .iaload, 1), (55, .iconst (-1), 1), (56, .if_icmp .eq 21, 3), (59, .aload_n 0, 1), (60, .aload_n 0, 1), (61, .getfield 9, 3), (64, .getfield 131, 3), (67, .iload_n 1, 1), (68, .iaload, 1), (69, .invokevirtual 63, 3), (72, .ifCond .ne 5, 3), (75, .iconst 0, 1), (76, .ireturn, 1), (77, .iconst 0, 1), (78, .istore_n 2, 1), (79, .iload_n 2, 1), (80, .aload_n 0, 1), (81, .getfield 9, 3), (84, .getfield 111, 3), (87, .iload_n 1, 1), (88, .iaload, 1), (89, .if_icmp .ge 42, 3), (92, .aload_n 0, 1), (93, .getfield 9, 3), (96, .iload_n 1, 1), (97, .iload_n 2, 1), (98, .invokevirtual 134, 3), (101, .istore_n 3, 1), (102, .aload_n 0, 1), (103, .getfield 9, 3)]
theorem tbX2_beginUnit_0_ok : tbX2_beginUnit_0.all (fun q => decide (decode cX2_beginUnit q.1 = .ok q.2)) = true := by decide +kernel
theorem dX2_beginUnit_0 : decode cX2_beginUnit 0 = .ok (.aload_n 0, 1) := xdt tbX2_beginUnit_0_ok 0 rfl
theorem dX2_beginUnit_1 : decode cX2_beginUnit 1 = .ok (.getfield 79, 3) := xdt tbX2_beginUnit_0_ok 1 rfl
theorem dX2_beginUnit_4 : decode cX2_beginUnit 4 = .ok (.sipush 3000, 3) := xdt tbX2_beginUnit_0_ok 2 rfl
theorem dX2_beginUnit_7 : decode cX2_beginUnit 7 = .ok (.if_icmp .ge 17, 3) := xdt tbX2_beginUnit_0_ok 3 rfl
theorem dX2_beginUnit_10 : decode cX2_beginUnit 10 = .ok (.aload_n 0, 1) := xdt tbX2_beginUnit_0_ok 4 rfl
theorem dX2_beginUnit_11 : decode cX2_beginUnit 11 = .ok (.iload_n 1, 1) := xdt tbX2_beginUnit_0_ok 5 rfl
theorem dX2_beginUnit_12 : decode cX2_beginUnit 12 = .ok (.bipush 100, 2) := xdt tbX2_beginUnit_0_ok 6 rfl
theorem dX2_beginUnit_14 : decode cX2_beginUnit 14 = .ok (.imul, 1) := xdt tbX2_beginUnit_0_ok 7 rfl
theorem dX2_beginUnit_15 : decode cX2_beginUnit 15 = .ok (.bipush 99, 2) := xdt tbX2_beginUnit_0_ok 8 rfl
theorem dX2_beginUnit_17 : decode cX2_beginUnit 17 = .ok (.iadd, 1) := xdt tbX2_beginUnit_0_ok 9 rfl
theorem dX2_beginUnit_18 : decode cX2_beginUnit 18 = .ok (.invokevirtual 124, 3) := xdt tbX2_beginUnit_0_ok 10 rfl
theorem dX2_beginUnit_21 : decode cX2_beginUnit 21 = .ok (.ifCond .ne 10, 3) := xdt tbX2_beginUnit_0_ok 11 rfl
theorem dX2_beginUnit_24 : decode cX2_beginUnit 24 = .ok (.aload_n 0, 1) := xdt tbX2_beginUnit_0_ok 12 rfl
theorem dX2_beginUnit_25 : decode cX2_beginUnit 25 = .ok (.iconst 1, 1) := xdt tbX2_beginUnit_0_ok 13 rfl
theorem dX2_beginUnit_26 : decode cX2_beginUnit 26 = .ok (.putfield 59, 3) := xdt tbX2_beginUnit_0_ok 14 rfl
theorem dX2_beginUnit_29 : decode cX2_beginUnit 29 = .ok (.iconst 0, 1) := xdt tbX2_beginUnit_0_ok 15 rfl
theorem dX2_beginUnit_30 : decode cX2_beginUnit 30 = .ok (.ireturn, 1) := xdt tbX2_beginUnit_0_ok 16 rfl
theorem dX2_beginUnit_31 : decode cX2_beginUnit 31 = .ok (.aload_n 0, 1) := xdt tbX2_beginUnit_0_ok 17 rfl
theorem dX2_beginUnit_32 : decode cX2_beginUnit 32 = .ok (.dup, 1) := xdt tbX2_beginUnit_0_ok 18 rfl
theorem dX2_beginUnit_33 : decode cX2_beginUnit 33 = .ok (.getfield 79, 3) := xdt tbX2_beginUnit_0_ok 19 rfl
theorem dX2_beginUnit_36 : decode cX2_beginUnit 36 = .ok (.iconst 1, 1) := xdt tbX2_beginUnit_0_ok 20 rfl
theorem dX2_beginUnit_37 : decode cX2_beginUnit 37 = .ok (.iadd, 1) := xdt tbX2_beginUnit_0_ok 21 rfl
theorem dX2_beginUnit_38 : decode cX2_beginUnit 38 = .ok (.putfield 79, 3) := xdt tbX2_beginUnit_0_ok 22 rfl
theorem dX2_beginUnit_41 : decode cX2_beginUnit 41 = .ok (.aload_n 0, 1) := xdt tbX2_beginUnit_0_ok 23 rfl
theorem dX2_beginUnit_42 : decode cX2_beginUnit 42 = .ok (.iload_n 1, 1) := xdt tbX2_beginUnit_0_ok 24 rfl
theorem dX2_beginUnit_43 : decode cX2_beginUnit 43 = .ok (.invokevirtual 127, 3) := xdt tbX2_beginUnit_0_ok 25 rfl
theorem dX2_beginUnit_46 : decode cX2_beginUnit 46 = .ok (.aload_n 0, 1) := xdt tbX2_beginUnit_0_ok 26 rfl
theorem dX2_beginUnit_47 : decode cX2_beginUnit 47 = .ok (.getfield 9, 3) := xdt tbX2_beginUnit_0_ok 27 rfl
theorem dX2_beginUnit_50 : decode cX2_beginUnit 50 = .ok (.getfield 131, 3) := xdt tbX2_beginUnit_0_ok 28 rfl
theorem dX2_beginUnit_53 : decode cX2_beginUnit 53 = .ok (.iload_n 1, 1) := xdt tbX2_beginUnit_0_ok 29 rfl
theorem dX2_beginUnit_54 : decode cX2_beginUnit 54 = .ok (.iaload, 1) := xdt tbX2_beginUnit_0_ok 30 rfl
theorem dX2_beginUnit_55 : decode cX2_beginUnit 55 = .ok (.iconst (-1), 1) := xdt tbX2_beginUnit_0_ok 31 rfl
theorem dX2_beginUnit_56 : decode cX2_beginUnit 56 = .ok (.if_icmp .eq 21, 3) := xdt tbX2_beginUnit_0_ok 32 rfl
theorem dX2_beginUnit_59 : decode cX2_beginUnit 59 = .ok (.aload_n 0, 1) := xdt tbX2_beginUnit_0_ok 33 rfl
theorem dX2_beginUnit_60 : decode cX2_beginUnit 60 = .ok (.aload_n 0, 1) := xdt tbX2_beginUnit_0_ok 34 rfl
theorem dX2_beginUnit_61 : decode cX2_beginUnit 61 = .ok (.getfield 9, 3) := xdt tbX2_beginUnit_0_ok 35 rfl
theorem dX2_beginUnit_64 : decode cX2_beginUnit 64 = .ok (.getfield 131, 3) := xdt tbX2_beginUnit_0_ok 36 rfl
theorem dX2_beginUnit_67 : decode cX2_beginUnit 67 = .ok (.iload_n 1, 1) := xdt tbX2_beginUnit_0_ok 37 rfl
theorem dX2_beginUnit_68 : decode cX2_beginUnit 68 = .ok (.iaload, 1) := xdt tbX2_beginUnit_0_ok 38 rfl
theorem dX2_beginUnit_69 : decode cX2_beginUnit 69 = .ok (.invokevirtual 63, 3) := xdt tbX2_beginUnit_0_ok 39 rfl
theorem dX2_beginUnit_72 : decode cX2_beginUnit 72 = .ok (.ifCond .ne 5, 3) := xdt tbX2_beginUnit_0_ok 40 rfl
theorem dX2_beginUnit_75 : decode cX2_beginUnit 75 = .ok (.iconst 0, 1) := xdt tbX2_beginUnit_0_ok 41 rfl
theorem dX2_beginUnit_76 : decode cX2_beginUnit 76 = .ok (.ireturn, 1) := xdt tbX2_beginUnit_0_ok 42 rfl
theorem dX2_beginUnit_77 : decode cX2_beginUnit 77 = .ok (.iconst 0, 1) := xdt tbX2_beginUnit_0_ok 43 rfl
theorem dX2_beginUnit_78 : decode cX2_beginUnit 78 = .ok (.istore_n 2, 1) := xdt tbX2_beginUnit_0_ok 44 rfl
theorem dX2_beginUnit_79 : decode cX2_beginUnit 79 = .ok (.iload_n 2, 1) := xdt tbX2_beginUnit_0_ok 45 rfl
theorem dX2_beginUnit_80 : decode cX2_beginUnit 80 = .ok (.aload_n 0, 1) := xdt tbX2_beginUnit_0_ok 46 rfl
theorem dX2_beginUnit_81 : decode cX2_beginUnit 81 = .ok (.getfield 9, 3) := xdt tbX2_beginUnit_0_ok 47 rfl
theorem dX2_beginUnit_84 : decode cX2_beginUnit 84 = .ok (.getfield 111, 3) := xdt tbX2_beginUnit_0_ok 48 rfl
theorem dX2_beginUnit_87 : decode cX2_beginUnit 87 = .ok (.iload_n 1, 1) := xdt tbX2_beginUnit_0_ok 49 rfl
theorem dX2_beginUnit_88 : decode cX2_beginUnit 88 = .ok (.iaload, 1) := xdt tbX2_beginUnit_0_ok 50 rfl
theorem dX2_beginUnit_89 : decode cX2_beginUnit 89 = .ok (.if_icmp .ge 42, 3) := xdt tbX2_beginUnit_0_ok 51 rfl
theorem dX2_beginUnit_92 : decode cX2_beginUnit 92 = .ok (.aload_n 0, 1) := xdt tbX2_beginUnit_0_ok 52 rfl
theorem dX2_beginUnit_93 : decode cX2_beginUnit 93 = .ok (.getfield 9, 3) := xdt tbX2_beginUnit_0_ok 53 rfl
theorem dX2_beginUnit_96 : decode cX2_beginUnit 96 = .ok (.iload_n 1, 1) := xdt tbX2_beginUnit_0_ok 54 rfl
theorem dX2_beginUnit_97 : decode cX2_beginUnit 97 = .ok (.iload_n 2, 1) := xdt tbX2_beginUnit_0_ok 55 rfl
theorem dX2_beginUnit_98 : decode cX2_beginUnit 98 = .ok (.invokevirtual 134, 3) := xdt tbX2_beginUnit_0_ok 56 rfl
theorem dX2_beginUnit_101 : decode cX2_beginUnit 101 = .ok (.istore_n 3, 1) := xdt tbX2_beginUnit_0_ok 57 rfl
theorem dX2_beginUnit_102 : decode cX2_beginUnit 102 = .ok (.aload_n 0, 1) := xdt tbX2_beginUnit_0_ok 58 rfl
theorem dX2_beginUnit_103 : decode cX2_beginUnit 103 = .ok (.getfield 9, 3) := xdt tbX2_beginUnit_0_ok 59 rfl
def tbX2_beginUnit_60 : List (Nat × Instr × Nat) := [(106, .getfield 138, 3), (109, .iload_n 3, 1), (110, .iaload, 1), (111, .iconst 1, 1), (112, .if_icmp .ne 13, 3), (115, .aload_n 0, 1), (116, .iload_n 3, 1), (117, .invokevirtual 141, 3), (120, .ifCond .ne 5, 3), (123, .iconst 0, 1), (124, .ireturn, 1), (125, .iinc 2 1, 3), (128, .goto (-49), 3), (131, .aload_n 0, 1), (132, .getfield 15, 3), (135, .iload_n 1, 1), (136, .iconst 2, 1), (137, .iastore, 1), (138, .aload_n 0, 1), (139, .dup, 1), (140, .getfield 76, 3), (143, .iconst 1, 1), (144, .isub, 1), (145, .putfield 76, 3), (148, .iconst 1, 1), (149, .ireturn, 1)]
theorem tbX2_beginUnit_60_ok : tbX2_beginUnit_60.all (fun q => decide (decode cX2_beginUnit q.1 = .ok q.2)) = true := by decide +kernel
theorem dX2_beginUnit_106 : decode cX2_beginUnit 106 = .ok (.getfield 138, 3) := xdt tbX2_beginUnit_60_ok 0 rfl
theorem dX2_beginUnit_109 : decode cX2_beginUnit 109 = .ok (.iload_n 3, 1) := xdt tbX2_beginUnit_60_ok 1 rfl
theorem dX2_beginUnit_110 : decode cX2_beginUnit 110 = .ok (.iaload, 1) := xdt tbX2_beginUnit_60_ok 2 rfl
theorem dX2_beginUnit_111 : decode cX2_beginUnit 111 = .ok (.iconst 1, 1) := xdt tbX2_beginUnit_60_ok 3 rfl
theorem dX2_beginUnit_112 : decode cX2_beginUnit 112 = .ok (.if_icmp .ne 13, 3) := xdt tbX2_beginUnit_60_ok 4 rfl
theorem dX2_beginUnit_115 : decode cX2_beginUnit 115 = .ok (.aload_n 0, 1) := xdt tbX2_beginUnit_60_ok 5 rfl
theorem dX2_beginUnit_116 : decode cX2_beginUnit 116 = .ok (.iload_n 3, 1) := xdt tbX2_beginUnit_60_ok 6 rfl
theorem dX2_beginUnit_117 : decode cX2_beginUnit 117 = .ok (.invokevirtual 141, 3) := xdt tbX2_beginUnit_60_ok 7 rfl
theorem dX2_beginUnit_120 : decode cX2_beginUnit 120 = .ok (.ifCond .ne 5, 3) := xdt tbX2_beginUnit_60_ok 8 rfl
theorem dX2_beginUnit_123 : decode cX2_beginUnit 123 = .ok (.iconst 0, 1) := xdt tbX2_beginUnit_60_ok 9 rfl
theorem dX2_beginUnit_124 : decode cX2_beginUnit 124 = .ok (.ireturn, 1) := xdt tbX2_beginUnit_60_ok 10 rfl
theorem dX2_beginUnit_125 : decode cX2_beginUnit 125 = .ok (.iinc 2 1, 3) := xdt tbX2_beginUnit_60_ok 11 rfl
theorem dX2_beginUnit_128 : decode cX2_beginUnit 128 = .ok (.goto (-49), 3) := xdt tbX2_beginUnit_60_ok 12 rfl
theorem dX2_beginUnit_131 : decode cX2_beginUnit 131 = .ok (.aload_n 0, 1) := xdt tbX2_beginUnit_60_ok 13 rfl
theorem dX2_beginUnit_132 : decode cX2_beginUnit 132 = .ok (.getfield 15, 3) := xdt tbX2_beginUnit_60_ok 14 rfl
theorem dX2_beginUnit_135 : decode cX2_beginUnit 135 = .ok (.iload_n 1, 1) := xdt tbX2_beginUnit_60_ok 15 rfl
theorem dX2_beginUnit_136 : decode cX2_beginUnit 136 = .ok (.iconst 2, 1) := xdt tbX2_beginUnit_60_ok 16 rfl
theorem dX2_beginUnit_137 : decode cX2_beginUnit 137 = .ok (.iastore, 1) := xdt tbX2_beginUnit_60_ok 17 rfl
theorem dX2_beginUnit_138 : decode cX2_beginUnit 138 = .ok (.aload_n 0, 1) := xdt tbX2_beginUnit_60_ok 18 rfl
theorem dX2_beginUnit_139 : decode cX2_beginUnit 139 = .ok (.dup, 1) := xdt tbX2_beginUnit_60_ok 19 rfl
theorem dX2_beginUnit_140 : decode cX2_beginUnit 140 = .ok (.getfield 76, 3) := xdt tbX2_beginUnit_60_ok 20 rfl
theorem dX2_beginUnit_143 : decode cX2_beginUnit 143 = .ok (.iconst 1, 1) := xdt tbX2_beginUnit_60_ok 21 rfl
theorem dX2_beginUnit_144 : decode cX2_beginUnit 144 = .ok (.isub, 1) := xdt tbX2_beginUnit_60_ok 22 rfl
theorem dX2_beginUnit_145 : decode cX2_beginUnit 145 = .ok (.putfield 76, 3) := xdt tbX2_beginUnit_60_ok 23 rfl
theorem dX2_beginUnit_148 : decode cX2_beginUnit 148 = .ok (.iconst 1, 1) := xdt tbX2_beginUnit_60_ok 24 rfl
theorem dX2_beginUnit_149 : decode cX2_beginUnit 149 = .ok (.ireturn, 1) := xdt tbX2_beginUnit_60_ok 25 rfl
def tbX2_doMember_0 : List (Nat × Instr × Nat) := [(0, .aload_n 0, 1), (1, .getfield 9, 3), (4, .getfield 114, 3), (7, .iload_n 1, 1), (8, .iaload, 1), (9, .istore_n 2, 1), (10, .iload_n 2, 1), (11, .iconst 4, 1), (12, .if_icmp .eq 16, 3), (15, .aload_n 0, 1), (16, .getfield 9, 3), (19, .getfield 144, 3), (22, .iload_n 1, 1), (23, .iaload, 1), (24, .iconst (-1), 1), (25, .if_icmp .ne 5, 3), (28, .iconst 1, 1), (29, .ireturn, 1), (30, .aload_n 0, 1), (31, .aload_n 0, 1), (32, .getfield 9, 3), (35, .getfield 144, 3), (38, .iload_n 1, 1), (39, .iaload, 1), (40, .invokevirtual 100, 3), (43, .ifCond .ne 5, 3), (46, .iconst 0, 1), (47, .ireturn, 1), (48, .iload_n 2, 1), (49, .iconst 1, 1), (50, .if_icmp .ne 20, 3), (53, .aload_n 0, 1), (54, .getfield 19, 3), (57, .iload_n 1, 1), (58, .aload_n 0, 1), (59, .getfield 147, 3), (62, .iastore, 1), (63, .aload_n 0, 1), (64, .getfield 22, 3), (67, .iload_n 1, 1), (68, .iconst 1, 1), (69, .iastore, 1), (70, .iconst 1, 1), (71, .ireturn, 1)]
theorem tbX2_doMember_0_ok : tbX2_doMember_0.all (fun q => decide (decode cX2_doMember q.1 = .ok q.2)) = true := by decide +kernel
theorem dX2_doMember_0 : decode cX2_doMember 0 = .ok (.aload_n 0, 1) := xdt tbX2_doMember_0_ok 0 rfl
theorem dX2_doMember_1 : decode cX2_doMember 1 = .ok (.getfield 9, 3) := xdt tbX2_doMember_0_ok 1 rfl
theorem dX2_doMember_4 : decode cX2_doMember 4 = .ok (.getfield 114, 3) := xdt tbX2_doMember_0_ok 2 rfl
theorem dX2_doMember_7 : decode cX2_doMember 7 = .ok (.iload_n 1, 1) := xdt tbX2_doMember_0_ok 3 rfl
theorem dX2_doMember_8 : decode cX2_doMember 8 = .ok (.iaload, 1) := xdt tbX2_doMember_0_ok 4 rfl
theorem dX2_doMember_9 : decode cX2_doMember 9 = .ok (.istore_n 2, 1) := xdt tbX2_doMember_0_ok 5 rfl
theorem dX2_doMember_10 : decode cX2_doMember 10 = .ok (.iload_n 2, 1) := xdt tbX2_doMember_0_ok 6 rfl
theorem dX2_doMember_11 : decode cX2_doMember 11 = .ok (.iconst 4, 1) := xdt tbX2_doMember_0_ok 7 rfl
theorem dX2_doMember_12 : decode cX2_doMember 12 = .ok (.if_icmp .eq 16, 3) := xdt tbX2_doMember_0_ok 8 rfl
theorem dX2_doMember_15 : decode cX2_doMember 15 = .ok (.aload_n 0, 1) := xdt tbX2_doMember_0_ok 9 rfl
theorem dX2_doMember_16 : decode cX2_doMember 16 = .ok (.getfield 9, 3) := xdt tbX2_doMember_0_ok 10 rfl
theorem dX2_doMember_19 : decode cX2_doMember 19 = .ok (.getfield 144, 3) := xdt tbX2_doMember_0_ok 11 rfl
theorem dX2_doMember_22 : decode cX2_doMember 22 = .ok (.iload_n 1, 1) := xdt tbX2_doMember_0_ok 12 rfl
theorem dX2_doMember_23 : decode cX2_doMember 23 = .ok (.iaload, 1) := xdt tbX2_doMember_0_ok 13 rfl
theorem dX2_doMember_24 : decode cX2_doMember 24 = .ok (.iconst (-1), 1) := xdt tbX2_doMember_0_ok 14 rfl
theorem dX2_doMember_25 : decode cX2_doMember 25 = .ok (.if_icmp .ne 5, 3) := xdt tbX2_doMember_0_ok 15 rfl
theorem dX2_doMember_28 : decode cX2_doMember 28 = .ok (.iconst 1, 1) := xdt tbX2_doMember_0_ok 16 rfl
theorem dX2_doMember_29 : decode cX2_doMember 29 = .ok (.ireturn, 1) := xdt tbX2_doMember_0_ok 17 rfl
theorem dX2_doMember_30 : decode cX2_doMember 30 = .ok (.aload_n 0, 1) := xdt tbX2_doMember_0_ok 18 rfl
theorem dX2_doMember_31 : decode cX2_doMember 31 = .ok (.aload_n 0, 1) := xdt tbX2_doMember_0_ok 19 rfl
theorem dX2_doMember_32 : decode cX2_doMember 32 = .ok (.getfield 9, 3) := xdt tbX2_doMember_0_ok 20 rfl
theorem dX2_doMember_35 : decode cX2_doMember 35 = .ok (.getfield 144, 3) := xdt tbX2_doMember_0_ok 21 rfl
theorem dX2_doMember_38 : decode cX2_doMember 38 = .ok (.iload_n 1, 1) := xdt tbX2_doMember_0_ok 22 rfl
theorem dX2_doMember_39 : decode cX2_doMember 39 = .ok (.iaload, 1) := xdt tbX2_doMember_0_ok 23 rfl
theorem dX2_doMember_40 : decode cX2_doMember 40 = .ok (.invokevirtual 100, 3) := xdt tbX2_doMember_0_ok 24 rfl
theorem dX2_doMember_43 : decode cX2_doMember 43 = .ok (.ifCond .ne 5, 3) := xdt tbX2_doMember_0_ok 25 rfl
theorem dX2_doMember_46 : decode cX2_doMember 46 = .ok (.iconst 0, 1) := xdt tbX2_doMember_0_ok 26 rfl
theorem dX2_doMember_47 : decode cX2_doMember 47 = .ok (.ireturn, 1) := xdt tbX2_doMember_0_ok 27 rfl
theorem dX2_doMember_48 : decode cX2_doMember 48 = .ok (.iload_n 2, 1) := xdt tbX2_doMember_0_ok 28 rfl
theorem dX2_doMember_49 : decode cX2_doMember 49 = .ok (.iconst 1, 1) := xdt tbX2_doMember_0_ok 29 rfl
theorem dX2_doMember_50 : decode cX2_doMember 50 = .ok (.if_icmp .ne 20, 3) := xdt tbX2_doMember_0_ok 30 rfl
theorem dX2_doMember_53 : decode cX2_doMember 53 = .ok (.aload_n 0, 1) := xdt tbX2_doMember_0_ok 31 rfl
theorem dX2_doMember_54 : decode cX2_doMember 54 = .ok (.getfield 19, 3) := xdt tbX2_doMember_0_ok 32 rfl
theorem dX2_doMember_57 : decode cX2_doMember 57 = .ok (.iload_n 1, 1) := xdt tbX2_doMember_0_ok 33 rfl
theorem dX2_doMember_58 : decode cX2_doMember 58 = .ok (.aload_n 0, 1) := xdt tbX2_doMember_0_ok 34 rfl
theorem dX2_doMember_59 : decode cX2_doMember 59 = .ok (.getfield 147, 3) := xdt tbX2_doMember_0_ok 35 rfl
theorem dX2_doMember_62 : decode cX2_doMember 62 = .ok (.iastore, 1) := xdt tbX2_doMember_0_ok 36 rfl
theorem dX2_doMember_63 : decode cX2_doMember 63 = .ok (.aload_n 0, 1) := xdt tbX2_doMember_0_ok 37 rfl
theorem dX2_doMember_64 : decode cX2_doMember 64 = .ok (.getfield 22, 3) := xdt tbX2_doMember_0_ok 38 rfl
theorem dX2_doMember_67 : decode cX2_doMember 67 = .ok (.iload_n 1, 1) := xdt tbX2_doMember_0_ok 39 rfl
theorem dX2_doMember_68 : decode cX2_doMember 68 = .ok (.iconst 1, 1) := xdt tbX2_doMember_0_ok 40 rfl
theorem dX2_doMember_69 : decode cX2_doMember 69 = .ok (.iastore, 1) := xdt tbX2_doMember_0_ok 41 rfl
theorem dX2_doMember_70 : decode cX2_doMember 70 = .ok (.iconst 1, 1) := xdt tbX2_doMember_0_ok 42 rfl
theorem dX2_doMember_71 : decode cX2_doMember 71 = .ok (.ireturn, 1) := xdt tbX2_doMember_0_ok 43 rfl
def tbX2_doDeed_0 : List (Nat × Instr × Nat) := [(0, .aload_n 0, 1), (1, .iload_n 1, 1), (2, .invokevirtual 150, 3), (5, .ifCond .ne 5, 3), (8, .iconst 0, 1), (9, .ireturn, 1), (10, .aload_n 0, 1), (11, .getfield 9, 3), (14, .getfield 153, 3), (17, .getfield 157, 3), (20, .iload_n 1, 1), (21, .iaload, 1), (22, .istore_n 2, 1), (23, .iload_n 2, 1), (24, .iconst (-1), 1), (25, .if_icmp .eq 15, 3), (28, .aload_n 0, 1), (29, .iload_n 2, 1), (30, .aload_n 0, 1), (31, .getfield 147, 3), (34, .invokevirtual 162, 3), (37, .ifCond .eq 7, 3), (40, .iconst 1, 1), (41, .goto 4, 3), (44, .iconst 0, 1), (45, .ireturn, 1)]
theorem tbX2_doDeed_0_ok : tbX2_doDeed_0.all (fun q => decide (decode cX2_doDeed q.1 = .ok q.2)) = true := by decide +kernel
theorem dX2_doDeed_0 : decode cX2_doDeed 0 = .ok (.aload_n 0, 1) := xdt tbX2_doDeed_0_ok 0 rfl
theorem dX2_doDeed_1 : decode cX2_doDeed 1 = .ok (.iload_n 1, 1) := xdt tbX2_doDeed_0_ok 1 rfl
theorem dX2_doDeed_2 : decode cX2_doDeed 2 = .ok (.invokevirtual 150, 3) := xdt tbX2_doDeed_0_ok 2 rfl
theorem dX2_doDeed_5 : decode cX2_doDeed 5 = .ok (.ifCond .ne 5, 3) := xdt tbX2_doDeed_0_ok 3 rfl
theorem dX2_doDeed_8 : decode cX2_doDeed 8 = .ok (.iconst 0, 1) := xdt tbX2_doDeed_0_ok 4 rfl
theorem dX2_doDeed_9 : decode cX2_doDeed 9 = .ok (.ireturn, 1) := xdt tbX2_doDeed_0_ok 5 rfl
theorem dX2_doDeed_10 : decode cX2_doDeed 10 = .ok (.aload_n 0, 1) := xdt tbX2_doDeed_0_ok 6 rfl
theorem dX2_doDeed_11 : decode cX2_doDeed 11 = .ok (.getfield 9, 3) := xdt tbX2_doDeed_0_ok 7 rfl
theorem dX2_doDeed_14 : decode cX2_doDeed 14 = .ok (.getfield 153, 3) := xdt tbX2_doDeed_0_ok 8 rfl
theorem dX2_doDeed_17 : decode cX2_doDeed 17 = .ok (.getfield 157, 3) := xdt tbX2_doDeed_0_ok 9 rfl
theorem dX2_doDeed_20 : decode cX2_doDeed 20 = .ok (.iload_n 1, 1) := xdt tbX2_doDeed_0_ok 10 rfl
theorem dX2_doDeed_21 : decode cX2_doDeed 21 = .ok (.iaload, 1) := xdt tbX2_doDeed_0_ok 11 rfl
theorem dX2_doDeed_22 : decode cX2_doDeed 22 = .ok (.istore_n 2, 1) := xdt tbX2_doDeed_0_ok 12 rfl
theorem dX2_doDeed_23 : decode cX2_doDeed 23 = .ok (.iload_n 2, 1) := xdt tbX2_doDeed_0_ok 13 rfl
theorem dX2_doDeed_24 : decode cX2_doDeed 24 = .ok (.iconst (-1), 1) := xdt tbX2_doDeed_0_ok 14 rfl
theorem dX2_doDeed_25 : decode cX2_doDeed 25 = .ok (.if_icmp .eq 15, 3) := xdt tbX2_doDeed_0_ok 15 rfl
theorem dX2_doDeed_28 : decode cX2_doDeed 28 = .ok (.aload_n 0, 1) := xdt tbX2_doDeed_0_ok 16 rfl
theorem dX2_doDeed_29 : decode cX2_doDeed 29 = .ok (.iload_n 2, 1) := xdt tbX2_doDeed_0_ok 17 rfl
theorem dX2_doDeed_30 : decode cX2_doDeed 30 = .ok (.aload_n 0, 1) := xdt tbX2_doDeed_0_ok 18 rfl
theorem dX2_doDeed_31 : decode cX2_doDeed 31 = .ok (.getfield 147, 3) := xdt tbX2_doDeed_0_ok 19 rfl
theorem dX2_doDeed_34 : decode cX2_doDeed 34 = .ok (.invokevirtual 162, 3) := xdt tbX2_doDeed_0_ok 20 rfl
theorem dX2_doDeed_37 : decode cX2_doDeed 37 = .ok (.ifCond .eq 7, 3) := xdt tbX2_doDeed_0_ok 21 rfl
theorem dX2_doDeed_40 : decode cX2_doDeed 40 = .ok (.iconst 1, 1) := xdt tbX2_doDeed_0_ok 22 rfl
theorem dX2_doDeed_41 : decode cX2_doDeed 41 = .ok (.goto 4, 3) := xdt tbX2_doDeed_0_ok 23 rfl
theorem dX2_doDeed_44 : decode cX2_doDeed 44 = .ok (.iconst 0, 1) := xdt tbX2_doDeed_0_ok 24 rfl
theorem dX2_doDeed_45 : decode cX2_doDeed 45 = .ok (.ireturn, 1) := xdt tbX2_doDeed_0_ok 25 rfl
def tbX2_setVariable_0 : List (Nat × Instr × Nat) := [(0, .aload_n 0, 1), (1, .iload_n 1, 1), (2, .bipush 12, 2), (4, .idiv, 1), (5, .invokevirtual 63, 3), (8, .ifCond .eq 10, 3), (11, .aload_n 0, 1), (12, .invokevirtual 165, 3), (15, .ifCond .ne 5, 3), (18, .iconst 0, 1), (19, .ireturn, 1), (20, .aload_n 0, 1), (21, .iload_n 1, 1), (22, .invokevirtual 169, 3), (25, .ifCond .eq 13, 3), (28, .aload_n 0, 1), (29, .dup, 1), (30, .getfield 85, 3), (33, .iconst 1, 1), (34, .iadd, 1), (35, .putfield 85, 3), (38, .aload_n 0, 1), (39, .getfield 19, 3), (42, .iload_n 1, 1), (43, .iload_n 2, 1), (44, .iastore, 1), (45, .iconst 1, 1), (46, .ireturn, 1)]
theorem tbX2_setVariable_0_ok : tbX2_setVariable_0.all (fun q => decide (decode cX2_setVariable q.1 = .ok q.2)) = true := by decide +kernel
theorem dX2_setVariable_0 : decode cX2_setVariable 0 = .ok (.aload_n 0, 1) := xdt tbX2_setVariable_0_ok 0 rfl
theorem dX2_setVariable_1 : decode cX2_setVariable 1 = .ok (.iload_n 1, 1) := xdt tbX2_setVariable_0_ok 1 rfl
theorem dX2_setVariable_2 : decode cX2_setVariable 2 = .ok (.bipush 12, 2) := xdt tbX2_setVariable_0_ok 2 rfl
theorem dX2_setVariable_4 : decode cX2_setVariable 4 = .ok (.idiv, 1) := xdt tbX2_setVariable_0_ok 3 rfl
theorem dX2_setVariable_5 : decode cX2_setVariable 5 = .ok (.invokevirtual 63, 3) := xdt tbX2_setVariable_0_ok 4 rfl
theorem dX2_setVariable_8 : decode cX2_setVariable 8 = .ok (.ifCond .eq 10, 3) := xdt tbX2_setVariable_0_ok 5 rfl
theorem dX2_setVariable_11 : decode cX2_setVariable 11 = .ok (.aload_n 0, 1) := xdt tbX2_setVariable_0_ok 6 rfl
theorem dX2_setVariable_12 : decode cX2_setVariable 12 = .ok (.invokevirtual 165, 3) := xdt tbX2_setVariable_0_ok 7 rfl
theorem dX2_setVariable_15 : decode cX2_setVariable 15 = .ok (.ifCond .ne 5, 3) := xdt tbX2_setVariable_0_ok 8 rfl
theorem dX2_setVariable_18 : decode cX2_setVariable 18 = .ok (.iconst 0, 1) := xdt tbX2_setVariable_0_ok 9 rfl
theorem dX2_setVariable_19 : decode cX2_setVariable 19 = .ok (.ireturn, 1) := xdt tbX2_setVariable_0_ok 10 rfl
theorem dX2_setVariable_20 : decode cX2_setVariable 20 = .ok (.aload_n 0, 1) := xdt tbX2_setVariable_0_ok 11 rfl
theorem dX2_setVariable_21 : decode cX2_setVariable 21 = .ok (.iload_n 1, 1) := xdt tbX2_setVariable_0_ok 12 rfl
theorem dX2_setVariable_22 : decode cX2_setVariable 22 = .ok (.invokevirtual 169, 3) := xdt tbX2_setVariable_0_ok 13 rfl
theorem dX2_setVariable_25 : decode cX2_setVariable 25 = .ok (.ifCond .eq 13, 3) := xdt tbX2_setVariable_0_ok 14 rfl
theorem dX2_setVariable_28 : decode cX2_setVariable 28 = .ok (.aload_n 0, 1) := xdt tbX2_setVariable_0_ok 15 rfl
theorem dX2_setVariable_29 : decode cX2_setVariable 29 = .ok (.dup, 1) := xdt tbX2_setVariable_0_ok 16 rfl
theorem dX2_setVariable_30 : decode cX2_setVariable 30 = .ok (.getfield 85, 3) := xdt tbX2_setVariable_0_ok 17 rfl
theorem dX2_setVariable_33 : decode cX2_setVariable 33 = .ok (.iconst 1, 1) := xdt tbX2_setVariable_0_ok 18 rfl
theorem dX2_setVariable_34 : decode cX2_setVariable 34 = .ok (.iadd, 1) := xdt tbX2_setVariable_0_ok 19 rfl
theorem dX2_setVariable_35 : decode cX2_setVariable 35 = .ok (.putfield 85, 3) := xdt tbX2_setVariable_0_ok 20 rfl
theorem dX2_setVariable_38 : decode cX2_setVariable 38 = .ok (.aload_n 0, 1) := xdt tbX2_setVariable_0_ok 21 rfl
theorem dX2_setVariable_39 : decode cX2_setVariable 39 = .ok (.getfield 19, 3) := xdt tbX2_setVariable_0_ok 22 rfl
theorem dX2_setVariable_42 : decode cX2_setVariable 42 = .ok (.iload_n 1, 1) := xdt tbX2_setVariable_0_ok 23 rfl
theorem dX2_setVariable_43 : decode cX2_setVariable 43 = .ok (.iload_n 2, 1) := xdt tbX2_setVariable_0_ok 24 rfl
theorem dX2_setVariable_44 : decode cX2_setVariable 44 = .ok (.iastore, 1) := xdt tbX2_setVariable_0_ok 25 rfl
theorem dX2_setVariable_45 : decode cX2_setVariable 45 = .ok (.iconst 1, 1) := xdt tbX2_setVariable_0_ok 26 rfl
theorem dX2_setVariable_46 : decode cX2_setVariable 46 = .ok (.ireturn, 1) := xdt tbX2_setVariable_0_ok 27 rfl
def tbX2_workOut_0 : List (Nat × Instr × Nat) := [(0, .aload_n 0, 1), (1, .getfield 9, 3), (4, .getfield 153, 3), (7, .astore_n 2, 1), (8, .aload_n 0, 1), (9, .getfield 76, 3), (12, .bipush 8, 2), (14, .imul, 1), (15, .istore_n 3, 1), (16, .iload_n 3, 1), (17, .iconst 1, 1), (18, .isub, 1), (19, .istore 4, 2), (21, .aload_n 2, 1), (22, .getfield 172, 3), (25, .iload_n 1, 1), (26, .iaload, 1), (27, .istore 5, 2), (29, .iload 5, 2), (31, .aload_n 2, 1), (32, .getfield 175, 3), (35, .iload_n 1, 1), (36, .iaload, 1), (37, .if_icmp .ge 91, 3), (40, .aload_n 2, 1), (41, .getfield 178, 3), (44, .iload 5, 2), (46, .iaload, 1), (47, .istore 6, 2), (49, .iload 6, 2), (51, .iconst 3, 1), (52, .if_icmp .le 38, 3), (55, .iinc 4 (-1), 3), (58, .aload_n 0, 1), (59, .getfield 36, 3), (62, .iload 4, 2), (64, .aload_n 0, 1), (65, .iload 6, 2), (67, .aload_n 0, 1), (68, .getfield 36, 3), (71, .iload 4, 2), (73, .iaload, 1), (74, .aload_n 0, 1), (75, .getfield 36, 3), (78, .iload 4, 2), (80, .iconst 1, 1), (81, .iadd, 1), (82, .iaload, 1), (83, .invokevirtual 181, 3), (86, .iastore, 1), (87, .goto 35, 3), (90, .aload_n 0, 1), (91, .iload 6, 2), (93, .aload_n 2, 1), (94, .getfield 185, 3), (97, .iload 5, 2), (99, .iaload, 1), (100, .invokevirtual 188, 3), (103, .ifCond .ne 5, 3), (106, .iconst 0, 1)]
theorem tbX2_workOut_0_ok : tbX2_workOut_0.all (fun q => decide (decode cX2_workOut q.1 = .ok q.2)) = true := by decide +kernel
theorem dX2_workOut_0 : decode cX2_workOut 0 = .ok (.aload_n 0, 1) := xdt tbX2_workOut_0_ok 0 rfl
theorem dX2_workOut_1 : decode cX2_workOut 1 = .ok (.getfield 9, 3) := xdt tbX2_workOut_0_ok 1 rfl
theorem dX2_workOut_4 : decode cX2_workOut 4 = .ok (.getfield 153, 3) := xdt tbX2_workOut_0_ok 2 rfl
theorem dX2_workOut_7 : decode cX2_workOut 7 = .ok (.astore_n 2, 1) := xdt tbX2_workOut_0_ok 3 rfl
theorem dX2_workOut_8 : decode cX2_workOut 8 = .ok (.aload_n 0, 1) := xdt tbX2_workOut_0_ok 4 rfl
theorem dX2_workOut_9 : decode cX2_workOut 9 = .ok (.getfield 76, 3) := xdt tbX2_workOut_0_ok 5 rfl
theorem dX2_workOut_12 : decode cX2_workOut 12 = .ok (.bipush 8, 2) := xdt tbX2_workOut_0_ok 6 rfl
theorem dX2_workOut_14 : decode cX2_workOut 14 = .ok (.imul, 1) := xdt tbX2_workOut_0_ok 7 rfl
theorem dX2_workOut_15 : decode cX2_workOut 15 = .ok (.istore_n 3, 1) := xdt tbX2_workOut_0_ok 8 rfl
theorem dX2_workOut_16 : decode cX2_workOut 16 = .ok (.iload_n 3, 1) := xdt tbX2_workOut_0_ok 9 rfl
theorem dX2_workOut_17 : decode cX2_workOut 17 = .ok (.iconst 1, 1) := xdt tbX2_workOut_0_ok 10 rfl
theorem dX2_workOut_18 : decode cX2_workOut 18 = .ok (.isub, 1) := xdt tbX2_workOut_0_ok 11 rfl
theorem dX2_workOut_19 : decode cX2_workOut 19 = .ok (.istore 4, 2) := xdt tbX2_workOut_0_ok 12 rfl
theorem dX2_workOut_21 : decode cX2_workOut 21 = .ok (.aload_n 2, 1) := xdt tbX2_workOut_0_ok 13 rfl
theorem dX2_workOut_22 : decode cX2_workOut 22 = .ok (.getfield 172, 3) := xdt tbX2_workOut_0_ok 14 rfl
theorem dX2_workOut_25 : decode cX2_workOut 25 = .ok (.iload_n 1, 1) := xdt tbX2_workOut_0_ok 15 rfl
theorem dX2_workOut_26 : decode cX2_workOut 26 = .ok (.iaload, 1) := xdt tbX2_workOut_0_ok 16 rfl
theorem dX2_workOut_27 : decode cX2_workOut 27 = .ok (.istore 5, 2) := xdt tbX2_workOut_0_ok 17 rfl
theorem dX2_workOut_29 : decode cX2_workOut 29 = .ok (.iload 5, 2) := xdt tbX2_workOut_0_ok 18 rfl
theorem dX2_workOut_31 : decode cX2_workOut 31 = .ok (.aload_n 2, 1) := xdt tbX2_workOut_0_ok 19 rfl
theorem dX2_workOut_32 : decode cX2_workOut 32 = .ok (.getfield 175, 3) := xdt tbX2_workOut_0_ok 20 rfl
theorem dX2_workOut_35 : decode cX2_workOut 35 = .ok (.iload_n 1, 1) := xdt tbX2_workOut_0_ok 21 rfl
theorem dX2_workOut_36 : decode cX2_workOut 36 = .ok (.iaload, 1) := xdt tbX2_workOut_0_ok 22 rfl
theorem dX2_workOut_37 : decode cX2_workOut 37 = .ok (.if_icmp .ge 91, 3) := xdt tbX2_workOut_0_ok 23 rfl
theorem dX2_workOut_40 : decode cX2_workOut 40 = .ok (.aload_n 2, 1) := xdt tbX2_workOut_0_ok 24 rfl
theorem dX2_workOut_41 : decode cX2_workOut 41 = .ok (.getfield 178, 3) := xdt tbX2_workOut_0_ok 25 rfl
theorem dX2_workOut_44 : decode cX2_workOut 44 = .ok (.iload 5, 2) := xdt tbX2_workOut_0_ok 26 rfl
theorem dX2_workOut_46 : decode cX2_workOut 46 = .ok (.iaload, 1) := xdt tbX2_workOut_0_ok 27 rfl
theorem dX2_workOut_47 : decode cX2_workOut 47 = .ok (.istore 6, 2) := xdt tbX2_workOut_0_ok 28 rfl
theorem dX2_workOut_49 : decode cX2_workOut 49 = .ok (.iload 6, 2) := xdt tbX2_workOut_0_ok 29 rfl
theorem dX2_workOut_51 : decode cX2_workOut 51 = .ok (.iconst 3, 1) := xdt tbX2_workOut_0_ok 30 rfl
theorem dX2_workOut_52 : decode cX2_workOut 52 = .ok (.if_icmp .le 38, 3) := xdt tbX2_workOut_0_ok 31 rfl
theorem dX2_workOut_55 : decode cX2_workOut 55 = .ok (.iinc 4 (-1), 3) := xdt tbX2_workOut_0_ok 32 rfl
theorem dX2_workOut_58 : decode cX2_workOut 58 = .ok (.aload_n 0, 1) := xdt tbX2_workOut_0_ok 33 rfl
theorem dX2_workOut_59 : decode cX2_workOut 59 = .ok (.getfield 36, 3) := xdt tbX2_workOut_0_ok 34 rfl
theorem dX2_workOut_62 : decode cX2_workOut 62 = .ok (.iload 4, 2) := xdt tbX2_workOut_0_ok 35 rfl
theorem dX2_workOut_64 : decode cX2_workOut 64 = .ok (.aload_n 0, 1) := xdt tbX2_workOut_0_ok 36 rfl
theorem dX2_workOut_65 : decode cX2_workOut 65 = .ok (.iload 6, 2) := xdt tbX2_workOut_0_ok 37 rfl
theorem dX2_workOut_67 : decode cX2_workOut 67 = .ok (.aload_n 0, 1) := xdt tbX2_workOut_0_ok 38 rfl
theorem dX2_workOut_68 : decode cX2_workOut 68 = .ok (.getfield 36, 3) := xdt tbX2_workOut_0_ok 39 rfl
theorem dX2_workOut_71 : decode cX2_workOut 71 = .ok (.iload 4, 2) := xdt tbX2_workOut_0_ok 40 rfl
theorem dX2_workOut_73 : decode cX2_workOut 73 = .ok (.iaload, 1) := xdt tbX2_workOut_0_ok 41 rfl
theorem dX2_workOut_74 : decode cX2_workOut 74 = .ok (.aload_n 0, 1) := xdt tbX2_workOut_0_ok 42 rfl
theorem dX2_workOut_75 : decode cX2_workOut 75 = .ok (.getfield 36, 3) := xdt tbX2_workOut_0_ok 43 rfl
theorem dX2_workOut_78 : decode cX2_workOut 78 = .ok (.iload 4, 2) := xdt tbX2_workOut_0_ok 44 rfl
theorem dX2_workOut_80 : decode cX2_workOut 80 = .ok (.iconst 1, 1) := xdt tbX2_workOut_0_ok 45 rfl
theorem dX2_workOut_81 : decode cX2_workOut 81 = .ok (.iadd, 1) := xdt tbX2_workOut_0_ok 46 rfl
theorem dX2_workOut_82 : decode cX2_workOut 82 = .ok (.iaload, 1) := xdt tbX2_workOut_0_ok 47 rfl
theorem dX2_workOut_83 : decode cX2_workOut 83 = .ok (.invokevirtual 181, 3) := xdt tbX2_workOut_0_ok 48 rfl
theorem dX2_workOut_86 : decode cX2_workOut 86 = .ok (.iastore, 1) := xdt tbX2_workOut_0_ok 49 rfl
theorem dX2_workOut_87 : decode cX2_workOut 87 = .ok (.goto 35, 3) := xdt tbX2_workOut_0_ok 50 rfl
theorem dX2_workOut_90 : decode cX2_workOut 90 = .ok (.aload_n 0, 1) := xdt tbX2_workOut_0_ok 51 rfl
theorem dX2_workOut_91 : decode cX2_workOut 91 = .ok (.iload 6, 2) := xdt tbX2_workOut_0_ok 52 rfl
theorem dX2_workOut_93 : decode cX2_workOut 93 = .ok (.aload_n 2, 1) := xdt tbX2_workOut_0_ok 53 rfl
theorem dX2_workOut_94 : decode cX2_workOut 94 = .ok (.getfield 185, 3) := xdt tbX2_workOut_0_ok 54 rfl
theorem dX2_workOut_97 : decode cX2_workOut 97 = .ok (.iload 5, 2) := xdt tbX2_workOut_0_ok 55 rfl
theorem dX2_workOut_99 : decode cX2_workOut 99 = .ok (.iaload, 1) := xdt tbX2_workOut_0_ok 56 rfl
theorem dX2_workOut_100 : decode cX2_workOut 100 = .ok (.invokevirtual 188, 3) := xdt tbX2_workOut_0_ok 57 rfl
theorem dX2_workOut_103 : decode cX2_workOut 103 = .ok (.ifCond .ne 5, 3) := xdt tbX2_workOut_0_ok 58 rfl
theorem dX2_workOut_106 : decode cX2_workOut 106 = .ok (.iconst 0, 1) := xdt tbX2_workOut_0_ok 59 rfl
def tbX2_workOut_60 : List (Nat × Instr × Nat) := [(107, .ireturn, 1), (108, .iinc 4 1, 3), (111, .aload_n 0, 1), (112, .getfield 36, 3), (115, .iload 4, 2), (117, .aload_n 0, 1), (118, .getfield 147, 3), (121, .iastore, 1), (122, .iinc 5 1, 3), (125, .goto (-96), 3), (128, .aload_n 0, 1), (129, .aload_n 0, 1), (130, .getfield 36, 3), (133, .iload_n 3, 1), (134, .iaload, 1), (135, .putfield 147, 3), (138, .iconst 1, 1), (139, .ireturn, 1)]
theorem tbX2_workOut_60_ok : tbX2_workOut_60.all (fun q => decide (decode cX2_workOut q.1 = .ok q.2)) = true := by decide +kernel
theorem dX2_workOut_107 : decode cX2_workOut 107 = .ok (.ireturn, 1) := xdt tbX2_workOut_60_ok 0 rfl
theorem dX2_workOut_108 : decode cX2_workOut 108 = .ok (.iinc 4 1, 3) := xdt tbX2_workOut_60_ok 1 rfl
theorem dX2_workOut_111 : decode cX2_workOut 111 = .ok (.aload_n 0, 1) := xdt tbX2_workOut_60_ok 2 rfl
theorem dX2_workOut_112 : decode cX2_workOut 112 = .ok (.getfield 36, 3) := xdt tbX2_workOut_60_ok 3 rfl
theorem dX2_workOut_115 : decode cX2_workOut 115 = .ok (.iload 4, 2) := xdt tbX2_workOut_60_ok 4 rfl
theorem dX2_workOut_117 : decode cX2_workOut 117 = .ok (.aload_n 0, 1) := xdt tbX2_workOut_60_ok 5 rfl
theorem dX2_workOut_118 : decode cX2_workOut 118 = .ok (.getfield 147, 3) := xdt tbX2_workOut_60_ok 6 rfl
theorem dX2_workOut_121 : decode cX2_workOut 121 = .ok (.iastore, 1) := xdt tbX2_workOut_60_ok 7 rfl
theorem dX2_workOut_122 : decode cX2_workOut 122 = .ok (.iinc 5 1, 3) := xdt tbX2_workOut_60_ok 8 rfl
theorem dX2_workOut_125 : decode cX2_workOut 125 = .ok (.goto (-96), 3) := xdt tbX2_workOut_60_ok 9 rfl
theorem dX2_workOut_128 : decode cX2_workOut 128 = .ok (.aload_n 0, 1) := xdt tbX2_workOut_60_ok 10 rfl
theorem dX2_workOut_129 : decode cX2_workOut 129 = .ok (.aload_n 0, 1) := xdt tbX2_workOut_60_ok 11 rfl
theorem dX2_workOut_130 : decode cX2_workOut 130 = .ok (.getfield 36, 3) := xdt tbX2_workOut_60_ok 12 rfl
theorem dX2_workOut_133 : decode cX2_workOut 133 = .ok (.iload_n 3, 1) := xdt tbX2_workOut_60_ok 13 rfl
theorem dX2_workOut_134 : decode cX2_workOut 134 = .ok (.iaload, 1) := xdt tbX2_workOut_60_ok 14 rfl
theorem dX2_workOut_135 : decode cX2_workOut 135 = .ok (.putfield 147, 3) := xdt tbX2_workOut_60_ok 15 rfl
theorem dX2_workOut_138 : decode cX2_workOut 138 = .ok (.iconst 1, 1) := xdt tbX2_workOut_60_ok 16 rfl
theorem dX2_workOut_139 : decode cX2_workOut 139 = .ok (.ireturn, 1) := xdt tbX2_workOut_60_ok 17 rfl
def tbX2_workOutTerm_0 : List (Nat × Instr × Nat) := [(0, .aload_n 0, 1), (1, .invokevirtual 165, 3), (4, .ifCond .ne 5, 3), (7, .iconst 0, 1), (8, .ireturn, 1), (9, .iload_n 1, 1), (10, .tableswitch 83 0 2 #[26, 33, 58], 26), (36, .aload_n 0, 1), (37, .iload_n 2, 1), (38, .putfield 147, 3), (41, .iconst 1, 1), (42, .ireturn, 1), (43, .aload_n 0, 1), (44, .iload_n 2, 1), (45, .bipush 12, 2), (47, .idiv, 1), (48, .invokevirtual 63, 3), (51, .ifCond .eq 15, 3), (54, .aload_n 0, 1), (55, .iload_n 2, 1), (56, .invokevirtual 191, 3), (59, .ifCond .eq 7, 3), (62, .iconst 1, 1), (63, .goto 4, 3), (66, .iconst 0, 1), (67, .ireturn, 1), (68, .aload_n 0, 1), (69, .iload_n 2, 1), (70, .bipush 12, 2), (72, .idiv, 1), (73, .invokevirtual 63, 3), (76, .ifCond .eq 15, 3), (79, .aload_n 0, 1), (80, .iload_n 2, 1), (81, .invokevirtual 194, 3), (84, .ifCond .eq 7, 3), (87, .iconst 1, 1), (88, .goto 4, 3), (91, .iconst 0, 1), (92, .ireturn, 1), (93, .aload_n 0, 1), (94, .iconst 1, 1), (95, .iconst (-1), 1), (96, .invokevirtual 120, 3), (99, .ireturn, 1)]
theorem tbX2_workOutTerm_0_ok : tbX2_workOutTerm_0.all (fun q => decide (decode cX2_workOutTerm q.1 = .ok q.2)) = true := by decide +kernel
theorem dX2_workOutTerm_0 : decode cX2_workOutTerm 0 = .ok (.aload_n 0, 1) := xdt tbX2_workOutTerm_0_ok 0 rfl
theorem dX2_workOutTerm_1 : decode cX2_workOutTerm 1 = .ok (.invokevirtual 165, 3) := xdt tbX2_workOutTerm_0_ok 1 rfl
theorem dX2_workOutTerm_4 : decode cX2_workOutTerm 4 = .ok (.ifCond .ne 5, 3) := xdt tbX2_workOutTerm_0_ok 2 rfl
theorem dX2_workOutTerm_7 : decode cX2_workOutTerm 7 = .ok (.iconst 0, 1) := xdt tbX2_workOutTerm_0_ok 3 rfl
theorem dX2_workOutTerm_8 : decode cX2_workOutTerm 8 = .ok (.ireturn, 1) := xdt tbX2_workOutTerm_0_ok 4 rfl
theorem dX2_workOutTerm_9 : decode cX2_workOutTerm 9 = .ok (.iload_n 1, 1) := xdt tbX2_workOutTerm_0_ok 5 rfl
theorem dX2_workOutTerm_10 : decode cX2_workOutTerm 10 = .ok (.tableswitch 83 0 2 #[26, 33, 58], 26) := xdt tbX2_workOutTerm_0_ok 6 rfl
theorem dX2_workOutTerm_36 : decode cX2_workOutTerm 36 = .ok (.aload_n 0, 1) := xdt tbX2_workOutTerm_0_ok 7 rfl
theorem dX2_workOutTerm_37 : decode cX2_workOutTerm 37 = .ok (.iload_n 2, 1) := xdt tbX2_workOutTerm_0_ok 8 rfl
theorem dX2_workOutTerm_38 : decode cX2_workOutTerm 38 = .ok (.putfield 147, 3) := xdt tbX2_workOutTerm_0_ok 9 rfl
theorem dX2_workOutTerm_41 : decode cX2_workOutTerm 41 = .ok (.iconst 1, 1) := xdt tbX2_workOutTerm_0_ok 10 rfl
theorem dX2_workOutTerm_42 : decode cX2_workOutTerm 42 = .ok (.ireturn, 1) := xdt tbX2_workOutTerm_0_ok 11 rfl
theorem dX2_workOutTerm_43 : decode cX2_workOutTerm 43 = .ok (.aload_n 0, 1) := xdt tbX2_workOutTerm_0_ok 12 rfl
theorem dX2_workOutTerm_44 : decode cX2_workOutTerm 44 = .ok (.iload_n 2, 1) := xdt tbX2_workOutTerm_0_ok 13 rfl
theorem dX2_workOutTerm_45 : decode cX2_workOutTerm 45 = .ok (.bipush 12, 2) := xdt tbX2_workOutTerm_0_ok 14 rfl
theorem dX2_workOutTerm_47 : decode cX2_workOutTerm 47 = .ok (.idiv, 1) := xdt tbX2_workOutTerm_0_ok 15 rfl
theorem dX2_workOutTerm_48 : decode cX2_workOutTerm 48 = .ok (.invokevirtual 63, 3) := xdt tbX2_workOutTerm_0_ok 16 rfl
theorem dX2_workOutTerm_51 : decode cX2_workOutTerm 51 = .ok (.ifCond .eq 15, 3) := xdt tbX2_workOutTerm_0_ok 17 rfl
theorem dX2_workOutTerm_54 : decode cX2_workOutTerm 54 = .ok (.aload_n 0, 1) := xdt tbX2_workOutTerm_0_ok 18 rfl
theorem dX2_workOutTerm_55 : decode cX2_workOutTerm 55 = .ok (.iload_n 2, 1) := xdt tbX2_workOutTerm_0_ok 19 rfl
theorem dX2_workOutTerm_56 : decode cX2_workOutTerm 56 = .ok (.invokevirtual 191, 3) := xdt tbX2_workOutTerm_0_ok 20 rfl
theorem dX2_workOutTerm_59 : decode cX2_workOutTerm 59 = .ok (.ifCond .eq 7, 3) := xdt tbX2_workOutTerm_0_ok 21 rfl
theorem dX2_workOutTerm_62 : decode cX2_workOutTerm 62 = .ok (.iconst 1, 1) := xdt tbX2_workOutTerm_0_ok 22 rfl
theorem dX2_workOutTerm_63 : decode cX2_workOutTerm 63 = .ok (.goto 4, 3) := xdt tbX2_workOutTerm_0_ok 23 rfl
theorem dX2_workOutTerm_66 : decode cX2_workOutTerm 66 = .ok (.iconst 0, 1) := xdt tbX2_workOutTerm_0_ok 24 rfl
theorem dX2_workOutTerm_67 : decode cX2_workOutTerm 67 = .ok (.ireturn, 1) := xdt tbX2_workOutTerm_0_ok 25 rfl
theorem dX2_workOutTerm_68 : decode cX2_workOutTerm 68 = .ok (.aload_n 0, 1) := xdt tbX2_workOutTerm_0_ok 26 rfl
theorem dX2_workOutTerm_69 : decode cX2_workOutTerm 69 = .ok (.iload_n 2, 1) := xdt tbX2_workOutTerm_0_ok 27 rfl
theorem dX2_workOutTerm_70 : decode cX2_workOutTerm 70 = .ok (.bipush 12, 2) := xdt tbX2_workOutTerm_0_ok 28 rfl
theorem dX2_workOutTerm_72 : decode cX2_workOutTerm 72 = .ok (.idiv, 1) := xdt tbX2_workOutTerm_0_ok 29 rfl
theorem dX2_workOutTerm_73 : decode cX2_workOutTerm 73 = .ok (.invokevirtual 63, 3) := xdt tbX2_workOutTerm_0_ok 30 rfl
theorem dX2_workOutTerm_76 : decode cX2_workOutTerm 76 = .ok (.ifCond .eq 15, 3) := xdt tbX2_workOutTerm_0_ok 31 rfl
theorem dX2_workOutTerm_79 : decode cX2_workOutTerm 79 = .ok (.aload_n 0, 1) := xdt tbX2_workOutTerm_0_ok 32 rfl
theorem dX2_workOutTerm_80 : decode cX2_workOutTerm 80 = .ok (.iload_n 2, 1) := xdt tbX2_workOutTerm_0_ok 33 rfl
theorem dX2_workOutTerm_81 : decode cX2_workOutTerm 81 = .ok (.invokevirtual 194, 3) := xdt tbX2_workOutTerm_0_ok 34 rfl
theorem dX2_workOutTerm_84 : decode cX2_workOutTerm 84 = .ok (.ifCond .eq 7, 3) := xdt tbX2_workOutTerm_0_ok 35 rfl
theorem dX2_workOutTerm_87 : decode cX2_workOutTerm 87 = .ok (.iconst 1, 1) := xdt tbX2_workOutTerm_0_ok 36 rfl
theorem dX2_workOutTerm_88 : decode cX2_workOutTerm 88 = .ok (.goto 4, 3) := xdt tbX2_workOutTerm_0_ok 37 rfl
theorem dX2_workOutTerm_91 : decode cX2_workOutTerm 91 = .ok (.iconst 0, 1) := xdt tbX2_workOutTerm_0_ok 38 rfl
theorem dX2_workOutTerm_92 : decode cX2_workOutTerm 92 = .ok (.ireturn, 1) := xdt tbX2_workOutTerm_0_ok 39 rfl
theorem dX2_workOutTerm_93 : decode cX2_workOutTerm 93 = .ok (.aload_n 0, 1) := xdt tbX2_workOutTerm_0_ok 40 rfl
theorem dX2_workOutTerm_94 : decode cX2_workOutTerm 94 = .ok (.iconst 1, 1) := xdt tbX2_workOutTerm_0_ok 41 rfl
theorem dX2_workOutTerm_95 : decode cX2_workOutTerm 95 = .ok (.iconst (-1), 1) := xdt tbX2_workOutTerm_0_ok 42 rfl
theorem dX2_workOutTerm_96 : decode cX2_workOutTerm 96 = .ok (.invokevirtual 120, 3) := xdt tbX2_workOutTerm_0_ok 43 rfl
theorem dX2_workOutTerm_99 : decode cX2_workOutTerm 99 = .ok (.ireturn, 1) := xdt tbX2_workOutTerm_0_ok 44 rfl
def tbX2_callFunction_0 : List (Nat × Instr × Nat) := [(0, .aload_n 0, 1), (1, .iload_n 1, 1), (2, .bipush 12, 2), (4, .idiv, 1), (5, .bipush 100, 2), (7, .imul, 1), (8, .aload_n 0, 1), (9, .getfield 9, 3), (12, .getfield 204, 3), (15, .iload_n 1, 1), (16, .iaload, 1), (17, .iadd, 1), (18, .invokevirtual 124, 3), (21, .ifCond .ne 5, 3), (24, .iconst 0, 1), (25, .ireturn, 1), (26, .aload_n 0, 1), (27, .getfield 9, 3), (30, .getfield 144, 3), (33, .iload_n 1, 1), (34, .iaload, 1), (35, .aload_n 0, 1), (36, .getfield 9, 3), (39, .getfield 207, 3), (42, .iload_n 1, 1), (43, .iaload, 1), (44, .iadd, 1), (45, .istore_n 2, 1), (46, .aload_n 0, 1), (47, .getfield 9, 3), (50, .getfield 144, 3), (53, .iload_n 1, 1), (54, .iaload, 1), (55, .istore_n 3, 1), (56, .iload_n 3, 1), (57, .iload_n 2, 1), (58, .if_icmp .gt 19, 3), (61, .aload_n 0, 1), (62, .iload_n 3, 1), (63, .invokevirtual 100, 3), (66, .ifCond .ne 5, 3), (69, .iconst 0, 1), (70, .ireturn, 1), (71, .iinc 3 1, 3), (74, .goto (-18), 3), (77, .aload_n 0, 1), (78, .dup, 1), (79, .getfield 76, 3), (82, .iconst 1, 1), (83, .isub, 1), (84, .putfield 76, 3), (87, .iconst 1, 1), (88, .ireturn, 1)]
theorem tbX2_callFunction_0_ok : tbX2_callFunction_0.all (fun q => decide (decode cX2_callFunction q.1 = .ok q.2)) = true := by decide +kernel
theorem dX2_callFunction_0 : decode cX2_callFunction 0 = .ok (.aload_n 0, 1) := xdt tbX2_callFunction_0_ok 0 rfl
theorem dX2_callFunction_1 : decode cX2_callFunction 1 = .ok (.iload_n 1, 1) := xdt tbX2_callFunction_0_ok 1 rfl
theorem dX2_callFunction_2 : decode cX2_callFunction 2 = .ok (.bipush 12, 2) := xdt tbX2_callFunction_0_ok 2 rfl
theorem dX2_callFunction_4 : decode cX2_callFunction 4 = .ok (.idiv, 1) := xdt tbX2_callFunction_0_ok 3 rfl
theorem dX2_callFunction_5 : decode cX2_callFunction 5 = .ok (.bipush 100, 2) := xdt tbX2_callFunction_0_ok 4 rfl
theorem dX2_callFunction_7 : decode cX2_callFunction 7 = .ok (.imul, 1) := xdt tbX2_callFunction_0_ok 5 rfl
theorem dX2_callFunction_8 : decode cX2_callFunction 8 = .ok (.aload_n 0, 1) := xdt tbX2_callFunction_0_ok 6 rfl
theorem dX2_callFunction_9 : decode cX2_callFunction 9 = .ok (.getfield 9, 3) := xdt tbX2_callFunction_0_ok 7 rfl
theorem dX2_callFunction_12 : decode cX2_callFunction 12 = .ok (.getfield 204, 3) := xdt tbX2_callFunction_0_ok 8 rfl
theorem dX2_callFunction_15 : decode cX2_callFunction 15 = .ok (.iload_n 1, 1) := xdt tbX2_callFunction_0_ok 9 rfl
theorem dX2_callFunction_16 : decode cX2_callFunction 16 = .ok (.iaload, 1) := xdt tbX2_callFunction_0_ok 10 rfl
theorem dX2_callFunction_17 : decode cX2_callFunction 17 = .ok (.iadd, 1) := xdt tbX2_callFunction_0_ok 11 rfl
theorem dX2_callFunction_18 : decode cX2_callFunction 18 = .ok (.invokevirtual 124, 3) := xdt tbX2_callFunction_0_ok 12 rfl
theorem dX2_callFunction_21 : decode cX2_callFunction 21 = .ok (.ifCond .ne 5, 3) := xdt tbX2_callFunction_0_ok 13 rfl
theorem dX2_callFunction_24 : decode cX2_callFunction 24 = .ok (.iconst 0, 1) := xdt tbX2_callFunction_0_ok 14 rfl
theorem dX2_callFunction_25 : decode cX2_callFunction 25 = .ok (.ireturn, 1) := xdt tbX2_callFunction_0_ok 15 rfl
theorem dX2_callFunction_26 : decode cX2_callFunction 26 = .ok (.aload_n 0, 1) := xdt tbX2_callFunction_0_ok 16 rfl
theorem dX2_callFunction_27 : decode cX2_callFunction 27 = .ok (.getfield 9, 3) := xdt tbX2_callFunction_0_ok 17 rfl
theorem dX2_callFunction_30 : decode cX2_callFunction 30 = .ok (.getfield 144, 3) := xdt tbX2_callFunction_0_ok 18 rfl
theorem dX2_callFunction_33 : decode cX2_callFunction 33 = .ok (.iload_n 1, 1) := xdt tbX2_callFunction_0_ok 19 rfl
theorem dX2_callFunction_34 : decode cX2_callFunction 34 = .ok (.iaload, 1) := xdt tbX2_callFunction_0_ok 20 rfl
theorem dX2_callFunction_35 : decode cX2_callFunction 35 = .ok (.aload_n 0, 1) := xdt tbX2_callFunction_0_ok 21 rfl
theorem dX2_callFunction_36 : decode cX2_callFunction 36 = .ok (.getfield 9, 3) := xdt tbX2_callFunction_0_ok 22 rfl
theorem dX2_callFunction_39 : decode cX2_callFunction 39 = .ok (.getfield 207, 3) := xdt tbX2_callFunction_0_ok 23 rfl
theorem dX2_callFunction_42 : decode cX2_callFunction 42 = .ok (.iload_n 1, 1) := xdt tbX2_callFunction_0_ok 24 rfl
theorem dX2_callFunction_43 : decode cX2_callFunction 43 = .ok (.iaload, 1) := xdt tbX2_callFunction_0_ok 25 rfl
theorem dX2_callFunction_44 : decode cX2_callFunction 44 = .ok (.iadd, 1) := xdt tbX2_callFunction_0_ok 26 rfl
theorem dX2_callFunction_45 : decode cX2_callFunction 45 = .ok (.istore_n 2, 1) := xdt tbX2_callFunction_0_ok 27 rfl
theorem dX2_callFunction_46 : decode cX2_callFunction 46 = .ok (.aload_n 0, 1) := xdt tbX2_callFunction_0_ok 28 rfl
theorem dX2_callFunction_47 : decode cX2_callFunction 47 = .ok (.getfield 9, 3) := xdt tbX2_callFunction_0_ok 29 rfl
theorem dX2_callFunction_50 : decode cX2_callFunction 50 = .ok (.getfield 144, 3) := xdt tbX2_callFunction_0_ok 30 rfl
theorem dX2_callFunction_53 : decode cX2_callFunction 53 = .ok (.iload_n 1, 1) := xdt tbX2_callFunction_0_ok 31 rfl
theorem dX2_callFunction_54 : decode cX2_callFunction 54 = .ok (.iaload, 1) := xdt tbX2_callFunction_0_ok 32 rfl
theorem dX2_callFunction_55 : decode cX2_callFunction 55 = .ok (.istore_n 3, 1) := xdt tbX2_callFunction_0_ok 33 rfl
theorem dX2_callFunction_56 : decode cX2_callFunction 56 = .ok (.iload_n 3, 1) := xdt tbX2_callFunction_0_ok 34 rfl
theorem dX2_callFunction_57 : decode cX2_callFunction 57 = .ok (.iload_n 2, 1) := xdt tbX2_callFunction_0_ok 35 rfl
theorem dX2_callFunction_58 : decode cX2_callFunction 58 = .ok (.if_icmp .gt 19, 3) := xdt tbX2_callFunction_0_ok 36 rfl
theorem dX2_callFunction_61 : decode cX2_callFunction 61 = .ok (.aload_n 0, 1) := xdt tbX2_callFunction_0_ok 37 rfl
theorem dX2_callFunction_62 : decode cX2_callFunction 62 = .ok (.iload_n 3, 1) := xdt tbX2_callFunction_0_ok 38 rfl
theorem dX2_callFunction_63 : decode cX2_callFunction 63 = .ok (.invokevirtual 100, 3) := xdt tbX2_callFunction_0_ok 39 rfl
theorem dX2_callFunction_66 : decode cX2_callFunction 66 = .ok (.ifCond .ne 5, 3) := xdt tbX2_callFunction_0_ok 40 rfl
theorem dX2_callFunction_69 : decode cX2_callFunction 69 = .ok (.iconst 0, 1) := xdt tbX2_callFunction_0_ok 41 rfl
theorem dX2_callFunction_70 : decode cX2_callFunction 70 = .ok (.ireturn, 1) := xdt tbX2_callFunction_0_ok 42 rfl
theorem dX2_callFunction_71 : decode cX2_callFunction 71 = .ok (.iinc 3 1, 3) := xdt tbX2_callFunction_0_ok 43 rfl
theorem dX2_callFunction_74 : decode cX2_callFunction 74 = .ok (.goto (-18), 3) := xdt tbX2_callFunction_0_ok 44 rfl
theorem dX2_callFunction_77 : decode cX2_callFunction 77 = .ok (.aload_n 0, 1) := xdt tbX2_callFunction_0_ok 45 rfl
theorem dX2_callFunction_78 : decode cX2_callFunction 78 = .ok (.dup, 1) := xdt tbX2_callFunction_0_ok 46 rfl
theorem dX2_callFunction_79 : decode cX2_callFunction 79 = .ok (.getfield 76, 3) := xdt tbX2_callFunction_0_ok 47 rfl
theorem dX2_callFunction_82 : decode cX2_callFunction 82 = .ok (.iconst 1, 1) := xdt tbX2_callFunction_0_ok 48 rfl
theorem dX2_callFunction_83 : decode cX2_callFunction 83 = .ok (.isub, 1) := xdt tbX2_callFunction_0_ok 49 rfl
theorem dX2_callFunction_84 : decode cX2_callFunction 84 = .ok (.putfield 76, 3) := xdt tbX2_callFunction_0_ok 50 rfl
theorem dX2_callFunction_87 : decode cX2_callFunction 87 = .ok (.iconst 1, 1) := xdt tbX2_callFunction_0_ok 51 rfl
theorem dX2_callFunction_88 : decode cX2_callFunction 88 = .ok (.ireturn, 1) := xdt tbX2_callFunction_0_ok 52 rfl
def tbX2_runMain_0 : List (Nat × Instr × Nat) := [(0, .aload_n 0, 1), (1, .iconst 0, 1), (2, .putfield 91, 3), (5, .aload_n 0, 1), (6, .getfield 91, 3), (9, .aload_n 0, 1), (10, .getfield 9, 3), (13, .getfield 94, 3), (16, .if_icmp .ge 59, 3), (19, .aload_n 0, 1), (20, .getfield 59, 3), (23, .ifCond .ne 52, 3), (26, .aload_n 0, 1), (27, .aload_n 0, 1), (28, .getfield 9, 3), (31, .getfield 97, 3), (34, .aload_n 0, 1), (35, .getfield 91, 3), (38, .iaload, 1), (39, .invokevirtual 100, 3), (42, .ifCond .ne 20, 3), (45, .aload_n 0, 1), (46, .getfield 59, 3), (49, .ifCond .ne 13, 3), (52, .aload_n 0, 1), (53, .dup, 1), (54, .getfield 88, 3), (57, .iconst 1, 1), (58, .iadd, 1), (59, .putfield 88, 3), (62, .aload_n 0, 1), (63, .dup, 1), (64, .getfield 91, 3), (67, .iconst 1, 1), (68, .iadd, 1), (69, .putfield 91, 3), (72, .goto (-67), 3), (75, .return_, 1)]
theorem tbX2_runMain_0_ok : tbX2_runMain_0.all (fun q => decide (decode cX2_runMain q.1 = .ok q.2)) = true := by decide +kernel
theorem dX2_runMain_0 : decode cX2_runMain 0 = .ok (.aload_n 0, 1) := xdt tbX2_runMain_0_ok 0 rfl
theorem dX2_runMain_1 : decode cX2_runMain 1 = .ok (.iconst 0, 1) := xdt tbX2_runMain_0_ok 1 rfl
theorem dX2_runMain_2 : decode cX2_runMain 2 = .ok (.putfield 91, 3) := xdt tbX2_runMain_0_ok 2 rfl
theorem dX2_runMain_5 : decode cX2_runMain 5 = .ok (.aload_n 0, 1) := xdt tbX2_runMain_0_ok 3 rfl
theorem dX2_runMain_6 : decode cX2_runMain 6 = .ok (.getfield 91, 3) := xdt tbX2_runMain_0_ok 4 rfl
theorem dX2_runMain_9 : decode cX2_runMain 9 = .ok (.aload_n 0, 1) := xdt tbX2_runMain_0_ok 5 rfl
theorem dX2_runMain_10 : decode cX2_runMain 10 = .ok (.getfield 9, 3) := xdt tbX2_runMain_0_ok 6 rfl
theorem dX2_runMain_13 : decode cX2_runMain 13 = .ok (.getfield 94, 3) := xdt tbX2_runMain_0_ok 7 rfl
theorem dX2_runMain_16 : decode cX2_runMain 16 = .ok (.if_icmp .ge 59, 3) := xdt tbX2_runMain_0_ok 8 rfl
theorem dX2_runMain_19 : decode cX2_runMain 19 = .ok (.aload_n 0, 1) := xdt tbX2_runMain_0_ok 9 rfl
theorem dX2_runMain_20 : decode cX2_runMain 20 = .ok (.getfield 59, 3) := xdt tbX2_runMain_0_ok 10 rfl
theorem dX2_runMain_23 : decode cX2_runMain 23 = .ok (.ifCond .ne 52, 3) := xdt tbX2_runMain_0_ok 11 rfl
theorem dX2_runMain_26 : decode cX2_runMain 26 = .ok (.aload_n 0, 1) := xdt tbX2_runMain_0_ok 12 rfl
theorem dX2_runMain_27 : decode cX2_runMain 27 = .ok (.aload_n 0, 1) := xdt tbX2_runMain_0_ok 13 rfl
theorem dX2_runMain_28 : decode cX2_runMain 28 = .ok (.getfield 9, 3) := xdt tbX2_runMain_0_ok 14 rfl
theorem dX2_runMain_31 : decode cX2_runMain 31 = .ok (.getfield 97, 3) := xdt tbX2_runMain_0_ok 15 rfl
theorem dX2_runMain_34 : decode cX2_runMain 34 = .ok (.aload_n 0, 1) := xdt tbX2_runMain_0_ok 16 rfl
theorem dX2_runMain_35 : decode cX2_runMain 35 = .ok (.getfield 91, 3) := xdt tbX2_runMain_0_ok 17 rfl
theorem dX2_runMain_38 : decode cX2_runMain 38 = .ok (.iaload, 1) := xdt tbX2_runMain_0_ok 18 rfl
theorem dX2_runMain_39 : decode cX2_runMain 39 = .ok (.invokevirtual 100, 3) := xdt tbX2_runMain_0_ok 19 rfl
theorem dX2_runMain_42 : decode cX2_runMain 42 = .ok (.ifCond .ne 20, 3) := xdt tbX2_runMain_0_ok 20 rfl
theorem dX2_runMain_45 : decode cX2_runMain 45 = .ok (.aload_n 0, 1) := xdt tbX2_runMain_0_ok 21 rfl
theorem dX2_runMain_46 : decode cX2_runMain 46 = .ok (.getfield 59, 3) := xdt tbX2_runMain_0_ok 22 rfl
theorem dX2_runMain_49 : decode cX2_runMain 49 = .ok (.ifCond .ne 13, 3) := xdt tbX2_runMain_0_ok 23 rfl
theorem dX2_runMain_52 : decode cX2_runMain 52 = .ok (.aload_n 0, 1) := xdt tbX2_runMain_0_ok 24 rfl
theorem dX2_runMain_53 : decode cX2_runMain 53 = .ok (.dup, 1) := xdt tbX2_runMain_0_ok 25 rfl
theorem dX2_runMain_54 : decode cX2_runMain 54 = .ok (.getfield 88, 3) := xdt tbX2_runMain_0_ok 26 rfl
theorem dX2_runMain_57 : decode cX2_runMain 57 = .ok (.iconst 1, 1) := xdt tbX2_runMain_0_ok 27 rfl
theorem dX2_runMain_58 : decode cX2_runMain 58 = .ok (.iadd, 1) := xdt tbX2_runMain_0_ok 28 rfl
theorem dX2_runMain_59 : decode cX2_runMain 59 = .ok (.putfield 88, 3) := xdt tbX2_runMain_0_ok 29 rfl
theorem dX2_runMain_62 : decode cX2_runMain 62 = .ok (.aload_n 0, 1) := xdt tbX2_runMain_0_ok 30 rfl
theorem dX2_runMain_63 : decode cX2_runMain 63 = .ok (.dup, 1) := xdt tbX2_runMain_0_ok 31 rfl
theorem dX2_runMain_64 : decode cX2_runMain 64 = .ok (.getfield 91, 3) := xdt tbX2_runMain_0_ok 32 rfl
theorem dX2_runMain_67 : decode cX2_runMain 67 = .ok (.iconst 1, 1) := xdt tbX2_runMain_0_ok 33 rfl
theorem dX2_runMain_68 : decode cX2_runMain 68 = .ok (.iadd, 1) := xdt tbX2_runMain_0_ok 34 rfl
theorem dX2_runMain_69 : decode cX2_runMain 69 = .ok (.putfield 91, 3) := xdt tbX2_runMain_0_ok 35 rfl
theorem dX2_runMain_72 : decode cX2_runMain 72 = .ok (.goto (-67), 3) := xdt tbX2_runMain_0_ok 36 rfl
theorem dX2_runMain_75 : decode cX2_runMain 75 = .ok (.return_, 1) := xdt tbX2_runMain_0_ok 37 rfl
def tbX2_runPlainly_0 : List (Nat × Instr × Nat) := [(0, .aload_n 0, 1), (1, .aload_n 1, 1), (2, .invokevirtual 46, 3), (5, .aload_n 0, 1), (6, .invokevirtual 50, 3), (9, .return_, 1)]
theorem tbX2_runPlainly_0_ok : tbX2_runPlainly_0.all (fun q => decide (decode cX2_runPlainly q.1 = .ok q.2)) = true := by decide +kernel
theorem dX2_runPlainly_0 : decode cX2_runPlainly 0 = .ok (.aload_n 0, 1) := xdt tbX2_runPlainly_0_ok 0 rfl
theorem dX2_runPlainly_1 : decode cX2_runPlainly 1 = .ok (.aload_n 1, 1) := xdt tbX2_runPlainly_0_ok 1 rfl
theorem dX2_runPlainly_2 : decode cX2_runPlainly 2 = .ok (.invokevirtual 46, 3) := xdt tbX2_runPlainly_0_ok 2 rfl
theorem dX2_runPlainly_5 : decode cX2_runPlainly 5 = .ok (.aload_n 0, 1) := xdt tbX2_runPlainly_0_ok 3 rfl
theorem dX2_runPlainly_6 : decode cX2_runPlainly 6 = .ok (.invokevirtual 50, 3) := xdt tbX2_runPlainly_0_ok 4 rfl
theorem dX2_runPlainly_9 : decode cX2_runPlainly 9 = .ok (.return_, 1) := xdt tbX2_runPlainly_0_ok 5 rfl
def tbX2_runAhead_0 : List (Nat × Instr × Nat) := [(0, .aload_n 0, 1), (1, .aload_n 1, 1), (2, .invokevirtual 46, 3), (5, .iconst 0, 1), (6, .istore_n 3, 1), (7, .iload_n 3, 1), (8, .aload_n 0, 1), (9, .getfield 9, 3), (12, .getfield 53, 3), (15, .if_icmp .ge 30, 3), (18, .iload_n 3, 1), (19, .aload_n 2, 1), (20, .arraylength, 1), (21, .if_icmp .ge 24, 3), (24, .aload_n 0, 1), (25, .getfield 59, 3), (28, .ifCond .ne 17, 3), (31, .aload_n 0, 1), (32, .aload_n 2, 1), (33, .iload_n 3, 1), (34, .iaload, 1), (35, .invokevirtual 63, 3), (38, .pop, 1), (39, .iinc 3 1, 3), (42, .goto (-35), 3), (45, .aload_n 0, 1), (46, .invokevirtual 50, 3), (49, .return_, 1)]
theorem tbX2_runAhead_0_ok : tbX2_runAhead_0.all (fun q => decide (decode cX2_runAhead q.1 = .ok q.2)) = true := by decide +kernel
theorem dX2_runAhead_0 : decode cX2_runAhead 0 = .ok (.aload_n 0, 1) := xdt tbX2_runAhead_0_ok 0 rfl
theorem dX2_runAhead_1 : decode cX2_runAhead 1 = .ok (.aload_n 1, 1) := xdt tbX2_runAhead_0_ok 1 rfl
theorem dX2_runAhead_2 : decode cX2_runAhead 2 = .ok (.invokevirtual 46, 3) := xdt tbX2_runAhead_0_ok 2 rfl
theorem dX2_runAhead_5 : decode cX2_runAhead 5 = .ok (.iconst 0, 1) := xdt tbX2_runAhead_0_ok 3 rfl
theorem dX2_runAhead_6 : decode cX2_runAhead 6 = .ok (.istore_n 3, 1) := xdt tbX2_runAhead_0_ok 4 rfl
theorem dX2_runAhead_7 : decode cX2_runAhead 7 = .ok (.iload_n 3, 1) := xdt tbX2_runAhead_0_ok 5 rfl
theorem dX2_runAhead_8 : decode cX2_runAhead 8 = .ok (.aload_n 0, 1) := xdt tbX2_runAhead_0_ok 6 rfl
theorem dX2_runAhead_9 : decode cX2_runAhead 9 = .ok (.getfield 9, 3) := xdt tbX2_runAhead_0_ok 7 rfl
theorem dX2_runAhead_12 : decode cX2_runAhead 12 = .ok (.getfield 53, 3) := xdt tbX2_runAhead_0_ok 8 rfl
theorem dX2_runAhead_15 : decode cX2_runAhead 15 = .ok (.if_icmp .ge 30, 3) := xdt tbX2_runAhead_0_ok 9 rfl
theorem dX2_runAhead_18 : decode cX2_runAhead 18 = .ok (.iload_n 3, 1) := xdt tbX2_runAhead_0_ok 10 rfl
theorem dX2_runAhead_19 : decode cX2_runAhead 19 = .ok (.aload_n 2, 1) := xdt tbX2_runAhead_0_ok 11 rfl
theorem dX2_runAhead_20 : decode cX2_runAhead 20 = .ok (.arraylength, 1) := xdt tbX2_runAhead_0_ok 12 rfl
theorem dX2_runAhead_21 : decode cX2_runAhead 21 = .ok (.if_icmp .ge 24, 3) := xdt tbX2_runAhead_0_ok 13 rfl
theorem dX2_runAhead_24 : decode cX2_runAhead 24 = .ok (.aload_n 0, 1) := xdt tbX2_runAhead_0_ok 14 rfl
theorem dX2_runAhead_25 : decode cX2_runAhead 25 = .ok (.getfield 59, 3) := xdt tbX2_runAhead_0_ok 15 rfl
theorem dX2_runAhead_28 : decode cX2_runAhead 28 = .ok (.ifCond .ne 17, 3) := xdt tbX2_runAhead_0_ok 16 rfl
theorem dX2_runAhead_31 : decode cX2_runAhead 31 = .ok (.aload_n 0, 1) := xdt tbX2_runAhead_0_ok 17 rfl
theorem dX2_runAhead_32 : decode cX2_runAhead 32 = .ok (.aload_n 2, 1) := xdt tbX2_runAhead_0_ok 18 rfl
theorem dX2_runAhead_33 : decode cX2_runAhead 33 = .ok (.iload_n 3, 1) := xdt tbX2_runAhead_0_ok 19 rfl
theorem dX2_runAhead_34 : decode cX2_runAhead 34 = .ok (.iaload, 1) := xdt tbX2_runAhead_0_ok 20 rfl
theorem dX2_runAhead_35 : decode cX2_runAhead 35 = .ok (.invokevirtual 63, 3) := xdt tbX2_runAhead_0_ok 21 rfl
theorem dX2_runAhead_38 : decode cX2_runAhead 38 = .ok (.pop, 1) := xdt tbX2_runAhead_0_ok 22 rfl
theorem dX2_runAhead_39 : decode cX2_runAhead 39 = .ok (.iinc 3 1, 3) := xdt tbX2_runAhead_0_ok 23 rfl
theorem dX2_runAhead_42 : decode cX2_runAhead 42 = .ok (.goto (-35), 3) := xdt tbX2_runAhead_0_ok 24 rfl
theorem dX2_runAhead_45 : decode cX2_runAhead 45 = .ok (.aload_n 0, 1) := xdt tbX2_runAhead_0_ok 25 rfl
theorem dX2_runAhead_46 : decode cX2_runAhead 46 = .ok (.invokevirtual 50, 3) := xdt tbX2_runAhead_0_ok 26 rfl
theorem dX2_runAhead_49 : decode cX2_runAhead 49 = .ok (.return_, 1) := xdt tbX2_runAhead_0_ok 27 rfl
def tbX2_countState_0 : List (Nat × Instr × Nat) := [(0, .iconst 0, 1), (1, .istore_n 2, 1), (2, .iconst 0, 1), (3, .istore_n 3, 1), (4, .iload_n 3, 1), (5, .aload_n 0, 1), (6, .getfield 9, 3), (9, .getfield 53, 3), (12, .if_icmp .ge 22, 3), (15, .aload_n 0, 1), (16, .getfield 15, 3), (19, .iload_n 3, 1), (20, .iaload, 1), (21, .iload_n 1, 1), (22, .if_icmp .ne 6, 3), (25, .iinc 2 1, 3), (28, .iinc 3 1, 3), (31, .goto (-27), 3), (34, .iload_n 2, 1), (35, .ireturn, 1)]
theorem tbX2_countState_0_ok : tbX2_countState_0.all (fun q => decide (decode cX2_countState q.1 = .ok q.2)) = true := by decide +kernel
theorem dX2_countState_0 : decode cX2_countState 0 = .ok (.iconst 0, 1) := xdt tbX2_countState_0_ok 0 rfl
theorem dX2_countState_1 : decode cX2_countState 1 = .ok (.istore_n 2, 1) := xdt tbX2_countState_0_ok 1 rfl
theorem dX2_countState_2 : decode cX2_countState 2 = .ok (.iconst 0, 1) := xdt tbX2_countState_0_ok 2 rfl
theorem dX2_countState_3 : decode cX2_countState 3 = .ok (.istore_n 3, 1) := xdt tbX2_countState_0_ok 3 rfl
theorem dX2_countState_4 : decode cX2_countState 4 = .ok (.iload_n 3, 1) := xdt tbX2_countState_0_ok 4 rfl
theorem dX2_countState_5 : decode cX2_countState 5 = .ok (.aload_n 0, 1) := xdt tbX2_countState_0_ok 5 rfl
theorem dX2_countState_6 : decode cX2_countState 6 = .ok (.getfield 9, 3) := xdt tbX2_countState_0_ok 6 rfl
theorem dX2_countState_9 : decode cX2_countState 9 = .ok (.getfield 53, 3) := xdt tbX2_countState_0_ok 7 rfl
theorem dX2_countState_12 : decode cX2_countState 12 = .ok (.if_icmp .ge 22, 3) := xdt tbX2_countState_0_ok 8 rfl
theorem dX2_countState_15 : decode cX2_countState 15 = .ok (.aload_n 0, 1) := xdt tbX2_countState_0_ok 9 rfl
theorem dX2_countState_16 : decode cX2_countState 16 = .ok (.getfield 15, 3) := xdt tbX2_countState_0_ok 10 rfl
theorem dX2_countState_19 : decode cX2_countState 19 = .ok (.iload_n 3, 1) := xdt tbX2_countState_0_ok 11 rfl
theorem dX2_countState_20 : decode cX2_countState 20 = .ok (.iaload, 1) := xdt tbX2_countState_0_ok 12 rfl
theorem dX2_countState_21 : decode cX2_countState 21 = .ok (.iload_n 1, 1) := xdt tbX2_countState_0_ok 13 rfl
theorem dX2_countState_22 : decode cX2_countState 22 = .ok (.if_icmp .ne 6, 3) := xdt tbX2_countState_0_ok 14 rfl
theorem dX2_countState_25 : decode cX2_countState 25 = .ok (.iinc 2 1, 3) := xdt tbX2_countState_0_ok 15 rfl
theorem dX2_countState_28 : decode cX2_countState 28 = .ok (.iinc 3 1, 3) := xdt tbX2_countState_0_ok 16 rfl
theorem dX2_countState_31 : decode cX2_countState 31 = .ok (.goto (-27), 3) := xdt tbX2_countState_0_ok 17 rfl
theorem dX2_countState_34 : decode cX2_countState 34 = .ok (.iload_n 2, 1) := xdt tbX2_countState_0_ok 18 rfl
theorem dX2_countState_35 : decode cX2_countState 35 = .ok (.ireturn, 1) := xdt tbX2_countState_0_ok 19 rfl
def tbX2_tally_0 : List (Nat × Instr × Nat) := [(0, .iload_n 1, 1), (1, .tableswitch 80 0 6 #[43, 48, 53, 58, 63, 69, 75], 43), (44, .aload_n 0, 1), (45, .getfield 82, 3), (48, .ireturn, 1), (49, .aload_n 0, 1), (50, .getfield 85, 3), (53, .ireturn, 1), (54, .aload_n 0, 1), (55, .getfield 88, 3), (58, .ireturn, 1), (59, .aload_n 0, 1), (60, .getfield 73, 3), (63, .ireturn, 1), (64, .aload_n 0, 1), (65, .iconst 2, 1), (66, .invokevirtual 103, 3), (69, .ireturn, 1), (70, .aload_n 0, 1), (71, .iconst 3, 1), (72, .invokevirtual 103, 3), (75, .ireturn, 1), (76, .aload_n 0, 1), (77, .getfield 79, 3), (80, .ireturn, 1), (81, .aload_n 0, 1), (82, .getfield 59, 3), (85, .ifCond .eq 7, 3), (88, .iconst 1, 1), (89, .goto 4, 3), (92, .iconst 0, 1), (93, .ireturn, 1)]
theorem tbX2_tally_0_ok : tbX2_tally_0.all (fun q => decide (decode cX2_tally q.1 = .ok q.2)) = true := by decide +kernel
theorem dX2_tally_0 : decode cX2_tally 0 = .ok (.iload_n 1, 1) := xdt tbX2_tally_0_ok 0 rfl
theorem dX2_tally_1 : decode cX2_tally 1 = .ok (.tableswitch 80 0 6 #[43, 48, 53, 58, 63, 69, 75], 43) := xdt tbX2_tally_0_ok 1 rfl
theorem dX2_tally_44 : decode cX2_tally 44 = .ok (.aload_n 0, 1) := xdt tbX2_tally_0_ok 2 rfl
theorem dX2_tally_45 : decode cX2_tally 45 = .ok (.getfield 82, 3) := xdt tbX2_tally_0_ok 3 rfl
theorem dX2_tally_48 : decode cX2_tally 48 = .ok (.ireturn, 1) := xdt tbX2_tally_0_ok 4 rfl
theorem dX2_tally_49 : decode cX2_tally 49 = .ok (.aload_n 0, 1) := xdt tbX2_tally_0_ok 5 rfl
theorem dX2_tally_50 : decode cX2_tally 50 = .ok (.getfield 85, 3) := xdt tbX2_tally_0_ok 6 rfl
theorem dX2_tally_53 : decode cX2_tally 53 = .ok (.ireturn, 1) := xdt tbX2_tally_0_ok 7 rfl
theorem dX2_tally_54 : decode cX2_tally 54 = .ok (.aload_n 0, 1) := xdt tbX2_tally_0_ok 8 rfl
theorem dX2_tally_55 : decode cX2_tally 55 = .ok (.getfield 88, 3) := xdt tbX2_tally_0_ok 9 rfl
theorem dX2_tally_58 : decode cX2_tally 58 = .ok (.ireturn, 1) := xdt tbX2_tally_0_ok 10 rfl
theorem dX2_tally_59 : decode cX2_tally 59 = .ok (.aload_n 0, 1) := xdt tbX2_tally_0_ok 11 rfl
theorem dX2_tally_60 : decode cX2_tally 60 = .ok (.getfield 73, 3) := xdt tbX2_tally_0_ok 12 rfl
theorem dX2_tally_63 : decode cX2_tally 63 = .ok (.ireturn, 1) := xdt tbX2_tally_0_ok 13 rfl
theorem dX2_tally_64 : decode cX2_tally 64 = .ok (.aload_n 0, 1) := xdt tbX2_tally_0_ok 14 rfl
theorem dX2_tally_65 : decode cX2_tally 65 = .ok (.iconst 2, 1) := xdt tbX2_tally_0_ok 15 rfl
theorem dX2_tally_66 : decode cX2_tally 66 = .ok (.invokevirtual 103, 3) := xdt tbX2_tally_0_ok 16 rfl
theorem dX2_tally_69 : decode cX2_tally 69 = .ok (.ireturn, 1) := xdt tbX2_tally_0_ok 17 rfl
theorem dX2_tally_70 : decode cX2_tally 70 = .ok (.aload_n 0, 1) := xdt tbX2_tally_0_ok 18 rfl
theorem dX2_tally_71 : decode cX2_tally 71 = .ok (.iconst 3, 1) := xdt tbX2_tally_0_ok 19 rfl
theorem dX2_tally_72 : decode cX2_tally 72 = .ok (.invokevirtual 103, 3) := xdt tbX2_tally_0_ok 20 rfl
theorem dX2_tally_75 : decode cX2_tally 75 = .ok (.ireturn, 1) := xdt tbX2_tally_0_ok 21 rfl
theorem dX2_tally_76 : decode cX2_tally 76 = .ok (.aload_n 0, 1) := xdt tbX2_tally_0_ok 22 rfl
theorem dX2_tally_77 : decode cX2_tally 77 = .ok (.getfield 79, 3) := xdt tbX2_tally_0_ok 23 rfl
theorem dX2_tally_80 : decode cX2_tally 80 = .ok (.ireturn, 1) := xdt tbX2_tally_0_ok 24 rfl
theorem dX2_tally_81 : decode cX2_tally 81 = .ok (.aload_n 0, 1) := xdt tbX2_tally_0_ok 25 rfl
theorem dX2_tally_82 : decode cX2_tally 82 = .ok (.getfield 59, 3) := xdt tbX2_tally_0_ok 26 rfl
theorem dX2_tally_85 : decode cX2_tally 85 = .ok (.ifCond .eq 7, 3) := xdt tbX2_tally_0_ok 27 rfl
theorem dX2_tally_88 : decode cX2_tally 88 = .ok (.iconst 1, 1) := xdt tbX2_tally_0_ok 28 rfl
theorem dX2_tally_89 : decode cX2_tally 89 = .ok (.goto 4, 3) := xdt tbX2_tally_0_ok 29 rfl
theorem dX2_tally_92 : decode cX2_tally 92 = .ok (.iconst 0, 1) := xdt tbX2_tally_0_ok 30 rfl
theorem dX2_tally_93 : decode cX2_tally 93 = .ok (.ireturn, 1) := xdt tbX2_tally_0_ok 31 rfl
def tbX2_agreesIn_0 : List (Nat × Instr × Nat) := [(0, .iload_n 1, 1), (1, .bipush 12, 2), (3, .imul, 1), (4, .istore_n 3, 1), (5, .iload_n 3, 1), (6, .iload_n 1, 1), (7, .bipush 12, 2), (9, .imul, 1), (10, .aload_n 0, 1), (11, .getfield 9, 3), (14, .getfield 111, 3), (17, .iload_n 1, 1), (18, .iaload, 1), (19, .iadd, 1), (20, .if_icmp .ge 39, 3), (23, .aload_n 0, 1), (24, .getfield 9, 3), (27, .getfield 114, 3), (30, .iload_n 3, 1), (31, .iaload, 1), (32, .iconst 1, 1), (33, .if_icmp .ne 20, 3), (36, .aload_n 0, 1), (37, .getfield 19, 3), (40, .iload_n 3, 1), (41, .iaload, 1), (42, .aload_n 2, 1), (43, .getfield 19, 3), (46, .iload_n 3, 1), (47, .iaload, 1), (48, .if_icmp .eq 5, 3), (51, .iconst 0, 1), (52, .ireturn, 1), (53, .iinc 3 1, 3), (56, .goto (-51), 3), (59, .iconst 1, 1), (60, .ireturn, 1)]
theorem tbX2_agreesIn_0_ok : tbX2_agreesIn_0.all (fun q => decide (decode cX2_agreesIn q.1 = .ok q.2)) = true := by decide +kernel
theorem dX2_agreesIn_0 : decode cX2_agreesIn 0 = .ok (.iload_n 1, 1) := xdt tbX2_agreesIn_0_ok 0 rfl
theorem dX2_agreesIn_1 : decode cX2_agreesIn 1 = .ok (.bipush 12, 2) := xdt tbX2_agreesIn_0_ok 1 rfl
theorem dX2_agreesIn_3 : decode cX2_agreesIn 3 = .ok (.imul, 1) := xdt tbX2_agreesIn_0_ok 2 rfl
theorem dX2_agreesIn_4 : decode cX2_agreesIn 4 = .ok (.istore_n 3, 1) := xdt tbX2_agreesIn_0_ok 3 rfl
theorem dX2_agreesIn_5 : decode cX2_agreesIn 5 = .ok (.iload_n 3, 1) := xdt tbX2_agreesIn_0_ok 4 rfl
theorem dX2_agreesIn_6 : decode cX2_agreesIn 6 = .ok (.iload_n 1, 1) := xdt tbX2_agreesIn_0_ok 5 rfl
theorem dX2_agreesIn_7 : decode cX2_agreesIn 7 = .ok (.bipush 12, 2) := xdt tbX2_agreesIn_0_ok 6 rfl
theorem dX2_agreesIn_9 : decode cX2_agreesIn 9 = .ok (.imul, 1) := xdt tbX2_agreesIn_0_ok 7 rfl
theorem dX2_agreesIn_10 : decode cX2_agreesIn 10 = .ok (.aload_n 0, 1) := xdt tbX2_agreesIn_0_ok 8 rfl
theorem dX2_agreesIn_11 : decode cX2_agreesIn 11 = .ok (.getfield 9, 3) := xdt tbX2_agreesIn_0_ok 9 rfl
theorem dX2_agreesIn_14 : decode cX2_agreesIn 14 = .ok (.getfield 111, 3) := xdt tbX2_agreesIn_0_ok 10 rfl
theorem dX2_agreesIn_17 : decode cX2_agreesIn 17 = .ok (.iload_n 1, 1) := xdt tbX2_agreesIn_0_ok 11 rfl
theorem dX2_agreesIn_18 : decode cX2_agreesIn 18 = .ok (.iaload, 1) := xdt tbX2_agreesIn_0_ok 12 rfl
theorem dX2_agreesIn_19 : decode cX2_agreesIn 19 = .ok (.iadd, 1) := xdt tbX2_agreesIn_0_ok 13 rfl
theorem dX2_agreesIn_20 : decode cX2_agreesIn 20 = .ok (.if_icmp .ge 39, 3) := xdt tbX2_agreesIn_0_ok 14 rfl
theorem dX2_agreesIn_23 : decode cX2_agreesIn 23 = .ok (.aload_n 0, 1) := xdt tbX2_agreesIn_0_ok 15 rfl
theorem dX2_agreesIn_24 : decode cX2_agreesIn 24 = .ok (.getfield 9, 3) := xdt tbX2_agreesIn_0_ok 16 rfl
theorem dX2_agreesIn_27 : decode cX2_agreesIn 27 = .ok (.getfield 114, 3) := xdt tbX2_agreesIn_0_ok 17 rfl
theorem dX2_agreesIn_30 : decode cX2_agreesIn 30 = .ok (.iload_n 3, 1) := xdt tbX2_agreesIn_0_ok 18 rfl
theorem dX2_agreesIn_31 : decode cX2_agreesIn 31 = .ok (.iaload, 1) := xdt tbX2_agreesIn_0_ok 19 rfl
theorem dX2_agreesIn_32 : decode cX2_agreesIn 32 = .ok (.iconst 1, 1) := xdt tbX2_agreesIn_0_ok 20 rfl
theorem dX2_agreesIn_33 : decode cX2_agreesIn 33 = .ok (.if_icmp .ne 20, 3) := xdt tbX2_agreesIn_0_ok 21 rfl
theorem dX2_agreesIn_36 : decode cX2_agreesIn 36 = .ok (.aload_n 0, 1) := xdt tbX2_agreesIn_0_ok 22 rfl
theorem dX2_agreesIn_37 : decode cX2_agreesIn 37 = .ok (.getfield 19, 3) := xdt tbX2_agreesIn_0_ok 23 rfl
theorem dX2_agreesIn_40 : decode cX2_agreesIn 40 = .ok (.iload_n 3, 1) := xdt tbX2_agreesIn_0_ok 24 rfl
theorem dX2_agreesIn_41 : decode cX2_agreesIn 41 = .ok (.iaload, 1) := xdt tbX2_agreesIn_0_ok 25 rfl
theorem dX2_agreesIn_42 : decode cX2_agreesIn 42 = .ok (.aload_n 2, 1) := xdt tbX2_agreesIn_0_ok 26 rfl
theorem dX2_agreesIn_43 : decode cX2_agreesIn 43 = .ok (.getfield 19, 3) := xdt tbX2_agreesIn_0_ok 27 rfl
theorem dX2_agreesIn_46 : decode cX2_agreesIn 46 = .ok (.iload_n 3, 1) := xdt tbX2_agreesIn_0_ok 28 rfl
theorem dX2_agreesIn_47 : decode cX2_agreesIn 47 = .ok (.iaload, 1) := xdt tbX2_agreesIn_0_ok 29 rfl
theorem dX2_agreesIn_48 : decode cX2_agreesIn 48 = .ok (.if_icmp .eq 5, 3) := xdt tbX2_agreesIn_0_ok 30 rfl
theorem dX2_agreesIn_51 : decode cX2_agreesIn 51 = .ok (.iconst 0, 1) := xdt tbX2_agreesIn_0_ok 31 rfl
theorem dX2_agreesIn_52 : decode cX2_agreesIn 52 = .ok (.ireturn, 1) := xdt tbX2_agreesIn_0_ok 32 rfl
theorem dX2_agreesIn_53 : decode cX2_agreesIn 53 = .ok (.iinc 3 1, 3) := xdt tbX2_agreesIn_0_ok 33 rfl
theorem dX2_agreesIn_56 : decode cX2_agreesIn 56 = .ok (.goto (-51), 3) := xdt tbX2_agreesIn_0_ok 34 rfl
theorem dX2_agreesIn_59 : decode cX2_agreesIn 59 = .ok (.iconst 1, 1) := xdt tbX2_agreesIn_0_ok 35 rfl
theorem dX2_agreesIn_60 : decode cX2_agreesIn 60 = .ok (.ireturn, 1) := xdt tbX2_agreesIn_0_ok 36 rfl
def tbX2_agreesWhereDone_0 : List (Nat × Instr × Nat) := [(0, .iconst 0, 1), (1, .istore_n 2, 1), (2, .iload_n 2, 1), (3, .aload_n 0, 1), (4, .getfield 9, 3), (7, .getfield 53, 3), (10, .if_icmp .ge 30, 3), (13, .aload_n 0, 1), (14, .getfield 15, 3), (17, .iload_n 2, 1), (18, .iaload, 1), (19, .iconst 2, 1), (20, .if_icmp .ne 14, 3), (23, .aload_n 0, 1), (24, .iload_n 2, 1), (25, .aload_n 1, 1), (26, .invokevirtual 107, 3), (29, .ifCond .ne 5, 3), (32, .iconst 0, 1), (33, .ireturn, 1), (34, .iinc 2 1, 3), (37, .goto (-35), 3), (40, .iconst 1, 1), (41, .ireturn, 1)]
theorem tbX2_agreesWhereDone_0_ok : tbX2_agreesWhereDone_0.all (fun q => decide (decode cX2_agreesWhereDone q.1 = .ok q.2)) = true := by decide +kernel
theorem dX2_agreesWhereDone_0 : decode cX2_agreesWhereDone 0 = .ok (.iconst 0, 1) := xdt tbX2_agreesWhereDone_0_ok 0 rfl
theorem dX2_agreesWhereDone_1 : decode cX2_agreesWhereDone 1 = .ok (.istore_n 2, 1) := xdt tbX2_agreesWhereDone_0_ok 1 rfl
theorem dX2_agreesWhereDone_2 : decode cX2_agreesWhereDone 2 = .ok (.iload_n 2, 1) := xdt tbX2_agreesWhereDone_0_ok 2 rfl
theorem dX2_agreesWhereDone_3 : decode cX2_agreesWhereDone 3 = .ok (.aload_n 0, 1) := xdt tbX2_agreesWhereDone_0_ok 3 rfl
theorem dX2_agreesWhereDone_4 : decode cX2_agreesWhereDone 4 = .ok (.getfield 9, 3) := xdt tbX2_agreesWhereDone_0_ok 4 rfl
theorem dX2_agreesWhereDone_7 : decode cX2_agreesWhereDone 7 = .ok (.getfield 53, 3) := xdt tbX2_agreesWhereDone_0_ok 5 rfl
theorem dX2_agreesWhereDone_10 : decode cX2_agreesWhereDone 10 = .ok (.if_icmp .ge 30, 3) := xdt tbX2_agreesWhereDone_0_ok 6 rfl
theorem dX2_agreesWhereDone_13 : decode cX2_agreesWhereDone 13 = .ok (.aload_n 0, 1) := xdt tbX2_agreesWhereDone_0_ok 7 rfl
theorem dX2_agreesWhereDone_14 : decode cX2_agreesWhereDone 14 = .ok (.getfield 15, 3) := xdt tbX2_agreesWhereDone_0_ok 8 rfl
theorem dX2_agreesWhereDone_17 : decode cX2_agreesWhereDone 17 = .ok (.iload_n 2, 1) := xdt tbX2_agreesWhereDone_0_ok 9 rfl
theorem dX2_agreesWhereDone_18 : decode cX2_agreesWhereDone 18 = .ok (.iaload, 1) := xdt tbX2_agreesWhereDone_0_ok 10 rfl
theorem dX2_agreesWhereDone_19 : decode cX2_agreesWhereDone 19 = .ok (.iconst 2, 1) := xdt tbX2_agreesWhereDone_0_ok 11 rfl
theorem dX2_agreesWhereDone_20 : decode cX2_agreesWhereDone 20 = .ok (.if_icmp .ne 14, 3) := xdt tbX2_agreesWhereDone_0_ok 12 rfl
theorem dX2_agreesWhereDone_23 : decode cX2_agreesWhereDone 23 = .ok (.aload_n 0, 1) := xdt tbX2_agreesWhereDone_0_ok 13 rfl
theorem dX2_agreesWhereDone_24 : decode cX2_agreesWhereDone 24 = .ok (.iload_n 2, 1) := xdt tbX2_agreesWhereDone_0_ok 14 rfl
theorem dX2_agreesWhereDone_25 : decode cX2_agreesWhereDone 25 = .ok (.aload_n 1, 1) := xdt tbX2_agreesWhereDone_0_ok 15 rfl
theorem dX2_agreesWhereDone_26 : decode cX2_agreesWhereDone 26 = .ok (.invokevirtual 107, 3) := xdt tbX2_agreesWhereDone_0_ok 16 rfl
theorem dX2_agreesWhereDone_29 : decode cX2_agreesWhereDone 29 = .ok (.ifCond .ne 5, 3) := xdt tbX2_agreesWhereDone_0_ok 17 rfl
theorem dX2_agreesWhereDone_32 : decode cX2_agreesWhereDone 32 = .ok (.iconst 0, 1) := xdt tbX2_agreesWhereDone_0_ok 18 rfl
theorem dX2_agreesWhereDone_33 : decode cX2_agreesWhereDone 33 = .ok (.ireturn, 1) := xdt tbX2_agreesWhereDone_0_ok 19 rfl
theorem dX2_agreesWhereDone_34 : decode cX2_agreesWhereDone 34 = .ok (.iinc 2 1, 3) := xdt tbX2_agreesWhereDone_0_ok 20 rfl
theorem dX2_agreesWhereDone_37 : decode cX2_agreesWhereDone 37 = .ok (.goto (-35), 3) := xdt tbX2_agreesWhereDone_0_ok 21 rfl
theorem dX2_agreesWhereDone_40 : decode cX2_agreesWhereDone 40 = .ok (.iconst 1, 1) := xdt tbX2_agreesWhereDone_0_ok 22 rfl
theorem dX2_agreesWhereDone_41 : decode cX2_agreesWhereDone 41 = .ok (.ireturn, 1) := xdt tbX2_agreesWhereDone_0_ok 23 rfl
def tbJ7_fill_d0a16_0 : List (Nat × Instr × Nat) := [(0, .iconst 0, 1), (1, .istore_n 3, 1), (2, .aload_n 0, 1), (3, .arraylength, 1), (4, .istore 4, 2), (6, .iload_n 3, 1), (7, .iload 4, 2), (9, .if_icmp .ge 13, 3), (12, .aload_n 0, 1), (13, .iload_n 3, 1), (14, .lload_n 1, 1), (15, .lastore, 1), (16, .iinc 3 1, 3), (19, .goto (-13), 3), (22, .return_, 1)]
theorem tbJ7_fill_d0a16_0_ok : tbJ7_fill_d0a16_0.all (fun q => decide (decode cJ7_fill_d0a16 q.1 = .ok q.2)) = true := by decide +kernel
theorem dJ7_fill_d0a16_0 : decode cJ7_fill_d0a16 0 = .ok (.iconst 0, 1) := xdt tbJ7_fill_d0a16_0_ok 0 rfl
theorem dJ7_fill_d0a16_1 : decode cJ7_fill_d0a16 1 = .ok (.istore_n 3, 1) := xdt tbJ7_fill_d0a16_0_ok 1 rfl
theorem dJ7_fill_d0a16_2 : decode cJ7_fill_d0a16 2 = .ok (.aload_n 0, 1) := xdt tbJ7_fill_d0a16_0_ok 2 rfl
theorem dJ7_fill_d0a16_3 : decode cJ7_fill_d0a16 3 = .ok (.arraylength, 1) := xdt tbJ7_fill_d0a16_0_ok 3 rfl
theorem dJ7_fill_d0a16_4 : decode cJ7_fill_d0a16 4 = .ok (.istore 4, 2) := xdt tbJ7_fill_d0a16_0_ok 4 rfl
theorem dJ7_fill_d0a16_6 : decode cJ7_fill_d0a16 6 = .ok (.iload_n 3, 1) := xdt tbJ7_fill_d0a16_0_ok 5 rfl
theorem dJ7_fill_d0a16_7 : decode cJ7_fill_d0a16 7 = .ok (.iload 4, 2) := xdt tbJ7_fill_d0a16_0_ok 6 rfl
theorem dJ7_fill_d0a16_9 : decode cJ7_fill_d0a16 9 = .ok (.if_icmp .ge 13, 3) := xdt tbJ7_fill_d0a16_0_ok 7 rfl
theorem dJ7_fill_d0a16_12 : decode cJ7_fill_d0a16 12 = .ok (.aload_n 0, 1) := xdt tbJ7_fill_d0a16_0_ok 8 rfl
theorem dJ7_fill_d0a16_13 : decode cJ7_fill_d0a16 13 = .ok (.iload_n 3, 1) := xdt tbJ7_fill_d0a16_0_ok 9 rfl
theorem dJ7_fill_d0a16_14 : decode cJ7_fill_d0a16 14 = .ok (.lload_n 1, 1) := xdt tbJ7_fill_d0a16_0_ok 10 rfl
theorem dJ7_fill_d0a16_15 : decode cJ7_fill_d0a16 15 = .ok (.lastore, 1) := xdt tbJ7_fill_d0a16_0_ok 11 rfl
theorem dJ7_fill_d0a16_16 : decode cJ7_fill_d0a16 16 = .ok (.iinc 3 1, 3) := xdt tbJ7_fill_d0a16_0_ok 12 rfl
theorem dJ7_fill_d0a16_19 : decode cJ7_fill_d0a16 19 = .ok (.goto (-13), 3) := xdt tbJ7_fill_d0a16_0_ok 13 rfl
theorem dJ7_fill_d0a16_22 : decode cJ7_fill_d0a16 22 = .ok (.return_, 1) := xdt tbJ7_fill_d0a16_0_ok 14 rfl
def tbX3_setStates_0 : List (Nat × Instr × Nat) := [(0, .aload_n 0, 1), (1, .getfield 15, 3), (4, .aload_n 0, 1), (5, .getfield 9, 3), (8, .invokevirtual 91, 3), (11, .iload_n 1, 1), (12, .istore_n 2, 1), (13, .iconst 0, 1), (14, .istore_n 3, 1), (15, .iload_n 3, 1), (16, .bipush 7, 2), (18, .if_icmp .ge 40, 3), (21, .iload_n 2, 1), (22, .iconst 3, 1), (23, .irem, 1), (24, .istore 4, 2), (26, .iload_n 2, 1), (27, .iconst 3, 1), (28, .idiv, 1), (29, .istore_n 2, 1), (30, .aload_n 0, 1), (31, .getfield 15, 3), (34, .getfield 95, 3), (37, .iload_n 3, 1), (38, .iload 4, 2), (40, .ifCond .ne 7, 3), (43, .iconst 0, 1), (44, .goto 7, 3), (47, .iload 4, 2), (49, .iconst 1, 1), (50, .iadd, 1), (51, .iastore, 1), (52, .iinc 3 1, 3), (55, .goto (-40), 3), (58, .return_, 1)]
theorem tbX3_setStates_0_ok : tbX3_setStates_0.all (fun q => decide (decode cX3_setStates q.1 = .ok q.2)) = true := by decide +kernel
theorem dX3_setStates_0 : decode cX3_setStates 0 = .ok (.aload_n 0, 1) := xdt tbX3_setStates_0_ok 0 rfl
theorem dX3_setStates_1 : decode cX3_setStates 1 = .ok (.getfield 15, 3) := xdt tbX3_setStates_0_ok 1 rfl
theorem dX3_setStates_4 : decode cX3_setStates 4 = .ok (.aload_n 0, 1) := xdt tbX3_setStates_0_ok 2 rfl
theorem dX3_setStates_5 : decode cX3_setStates 5 = .ok (.getfield 9, 3) := xdt tbX3_setStates_0_ok 3 rfl
theorem dX3_setStates_8 : decode cX3_setStates 8 = .ok (.invokevirtual 91, 3) := xdt tbX3_setStates_0_ok 4 rfl
theorem dX3_setStates_11 : decode cX3_setStates 11 = .ok (.iload_n 1, 1) := xdt tbX3_setStates_0_ok 5 rfl
theorem dX3_setStates_12 : decode cX3_setStates 12 = .ok (.istore_n 2, 1) := xdt tbX3_setStates_0_ok 6 rfl
theorem dX3_setStates_13 : decode cX3_setStates 13 = .ok (.iconst 0, 1) := xdt tbX3_setStates_0_ok 7 rfl
theorem dX3_setStates_14 : decode cX3_setStates 14 = .ok (.istore_n 3, 1) := xdt tbX3_setStates_0_ok 8 rfl
theorem dX3_setStates_15 : decode cX3_setStates 15 = .ok (.iload_n 3, 1) := xdt tbX3_setStates_0_ok 9 rfl
theorem dX3_setStates_16 : decode cX3_setStates 16 = .ok (.bipush 7, 2) := xdt tbX3_setStates_0_ok 10 rfl
theorem dX3_setStates_18 : decode cX3_setStates 18 = .ok (.if_icmp .ge 40, 3) := xdt tbX3_setStates_0_ok 11 rfl
theorem dX3_setStates_21 : decode cX3_setStates 21 = .ok (.iload_n 2, 1) := xdt tbX3_setStates_0_ok 12 rfl
theorem dX3_setStates_22 : decode cX3_setStates 22 = .ok (.iconst 3, 1) := xdt tbX3_setStates_0_ok 13 rfl
theorem dX3_setStates_23 : decode cX3_setStates 23 = .ok (.irem, 1) := xdt tbX3_setStates_0_ok 14 rfl
theorem dX3_setStates_24 : decode cX3_setStates 24 = .ok (.istore 4, 2) := xdt tbX3_setStates_0_ok 15 rfl
theorem dX3_setStates_26 : decode cX3_setStates 26 = .ok (.iload_n 2, 1) := xdt tbX3_setStates_0_ok 16 rfl
theorem dX3_setStates_27 : decode cX3_setStates 27 = .ok (.iconst 3, 1) := xdt tbX3_setStates_0_ok 17 rfl
theorem dX3_setStates_28 : decode cX3_setStates 28 = .ok (.idiv, 1) := xdt tbX3_setStates_0_ok 18 rfl
theorem dX3_setStates_29 : decode cX3_setStates 29 = .ok (.istore_n 2, 1) := xdt tbX3_setStates_0_ok 19 rfl
theorem dX3_setStates_30 : decode cX3_setStates 30 = .ok (.aload_n 0, 1) := xdt tbX3_setStates_0_ok 20 rfl
theorem dX3_setStates_31 : decode cX3_setStates 31 = .ok (.getfield 15, 3) := xdt tbX3_setStates_0_ok 21 rfl
theorem dX3_setStates_34 : decode cX3_setStates 34 = .ok (.getfield 95, 3) := xdt tbX3_setStates_0_ok 22 rfl
theorem dX3_setStates_37 : decode cX3_setStates 37 = .ok (.iload_n 3, 1) := xdt tbX3_setStates_0_ok 23 rfl
theorem dX3_setStates_38 : decode cX3_setStates 38 = .ok (.iload 4, 2) := xdt tbX3_setStates_0_ok 24 rfl
theorem dX3_setStates_40 : decode cX3_setStates 40 = .ok (.ifCond .ne 7, 3) := xdt tbX3_setStates_0_ok 25 rfl
theorem dX3_setStates_43 : decode cX3_setStates 43 = .ok (.iconst 0, 1) := xdt tbX3_setStates_0_ok 26 rfl
theorem dX3_setStates_44 : decode cX3_setStates 44 = .ok (.goto 7, 3) := xdt tbX3_setStates_0_ok 27 rfl
theorem dX3_setStates_47 : decode cX3_setStates 47 = .ok (.iload 4, 2) := xdt tbX3_setStates_0_ok 28 rfl
theorem dX3_setStates_49 : decode cX3_setStates 49 = .ok (.iconst 1, 1) := xdt tbX3_setStates_0_ok 29 rfl
theorem dX3_setStates_50 : decode cX3_setStates 50 = .ok (.iadd, 1) := xdt tbX3_setStates_0_ok 30 rfl
theorem dX3_setStates_51 : decode cX3_setStates 51 = .ok (.iastore, 1) := xdt tbX3_setStates_0_ok 31 rfl
theorem dX3_setStates_52 : decode cX3_setStates 52 = .ok (.iinc 3 1, 3) := xdt tbX3_setStates_0_ok 32 rfl
theorem dX3_setStates_55 : decode cX3_setStates 55 = .ok (.goto (-40), 3) := xdt tbX3_setStates_0_ok 33 rfl
theorem dX3_setStates_58 : decode cX3_setStates 58 = .ok (.return_, 1) := xdt tbX3_setStates_0_ok 34 rfl
def tbX3_leapDone_0 : List (Nat × Instr × Nat) := [(0, .aload_n 0, 1), (1, .getfield 15, 3), (4, .getfield 99, 3), (7, .ifCond .eq 10, 3), (10, .ldc2_w 102, 3), (13, .iload_n 1, 1), (14, .i2l, 1), (15, .lor, 1), (16, .lreturn, 1), (17, .iconst 0, 1), (18, .istore_n 2, 1), (19, .bipush 6, 2), (21, .istore_n 3, 1), (22, .iload_n 3, 1), (23, .ifCond .lt 41, 3), (26, .iload_n 2, 1), (27, .iconst 3, 1), (28, .imul, 1), (29, .aload_n 0, 1), (30, .getfield 15, 3), (33, .getfield 95, 3), (36, .iload_n 3, 1), (37, .iaload, 1), (38, .ifCond .ne 7, 3), (41, .iconst 0, 1), (42, .goto 14, 3), (45, .aload_n 0, 1), (46, .getfield 15, 3), (49, .getfield 95, 3), (52, .iload_n 3, 1), (53, .iaload, 1), (54, .iconst 1, 1), (55, .isub, 1), (56, .iadd, 1), (57, .istore_n 2, 1), (58, .iinc 3 (-1), 3), (61, .goto (-39), 3), (64, .aload_n 0, 1), (65, .getfield 15, 3), (68, .getfield 104, 3), (71, .i2l, 1), (72, .bipush 24, 2), (74, .lshl, 1), (75, .aload_n 0, 1), (76, .getfield 15, 3), (79, .getfield 107, 3), (82, .i2l, 1), (83, .bipush 12, 2), (85, .lshl, 1), (86, .lor, 1), (87, .iload_n 2, 1), (88, .i2l, 1), (89, .lor, 1), (90, .lreturn, 1)]
theorem tbX3_leapDone_0_ok : tbX3_leapDone_0.all (fun q => decide (decode cX3_leapDone q.1 = .ok q.2)) = true := by decide +kernel
theorem dX3_leapDone_0 : decode cX3_leapDone 0 = .ok (.aload_n 0, 1) := xdt tbX3_leapDone_0_ok 0 rfl
theorem dX3_leapDone_1 : decode cX3_leapDone 1 = .ok (.getfield 15, 3) := xdt tbX3_leapDone_0_ok 1 rfl
theorem dX3_leapDone_4 : decode cX3_leapDone 4 = .ok (.getfield 99, 3) := xdt tbX3_leapDone_0_ok 2 rfl
theorem dX3_leapDone_7 : decode cX3_leapDone 7 = .ok (.ifCond .eq 10, 3) := xdt tbX3_leapDone_0_ok 3 rfl
theorem dX3_leapDone_10 : decode cX3_leapDone 10 = .ok (.ldc2_w 102, 3) := xdt tbX3_leapDone_0_ok 4 rfl
theorem dX3_leapDone_13 : decode cX3_leapDone 13 = .ok (.iload_n 1, 1) := xdt tbX3_leapDone_0_ok 5 rfl
theorem dX3_leapDone_14 : decode cX3_leapDone 14 = .ok (.i2l, 1) := xdt tbX3_leapDone_0_ok 6 rfl
theorem dX3_leapDone_15 : decode cX3_leapDone 15 = .ok (.lor, 1) := xdt tbX3_leapDone_0_ok 7 rfl
theorem dX3_leapDone_16 : decode cX3_leapDone 16 = .ok (.lreturn, 1) := xdt tbX3_leapDone_0_ok 8 rfl
theorem dX3_leapDone_17 : decode cX3_leapDone 17 = .ok (.iconst 0, 1) := xdt tbX3_leapDone_0_ok 9 rfl
theorem dX3_leapDone_18 : decode cX3_leapDone 18 = .ok (.istore_n 2, 1) := xdt tbX3_leapDone_0_ok 10 rfl
theorem dX3_leapDone_19 : decode cX3_leapDone 19 = .ok (.bipush 6, 2) := xdt tbX3_leapDone_0_ok 11 rfl
theorem dX3_leapDone_21 : decode cX3_leapDone 21 = .ok (.istore_n 3, 1) := xdt tbX3_leapDone_0_ok 12 rfl
theorem dX3_leapDone_22 : decode cX3_leapDone 22 = .ok (.iload_n 3, 1) := xdt tbX3_leapDone_0_ok 13 rfl
theorem dX3_leapDone_23 : decode cX3_leapDone 23 = .ok (.ifCond .lt 41, 3) := xdt tbX3_leapDone_0_ok 14 rfl
theorem dX3_leapDone_26 : decode cX3_leapDone 26 = .ok (.iload_n 2, 1) := xdt tbX3_leapDone_0_ok 15 rfl
theorem dX3_leapDone_27 : decode cX3_leapDone 27 = .ok (.iconst 3, 1) := xdt tbX3_leapDone_0_ok 16 rfl
theorem dX3_leapDone_28 : decode cX3_leapDone 28 = .ok (.imul, 1) := xdt tbX3_leapDone_0_ok 17 rfl
theorem dX3_leapDone_29 : decode cX3_leapDone 29 = .ok (.aload_n 0, 1) := xdt tbX3_leapDone_0_ok 18 rfl
theorem dX3_leapDone_30 : decode cX3_leapDone 30 = .ok (.getfield 15, 3) := xdt tbX3_leapDone_0_ok 19 rfl
theorem dX3_leapDone_33 : decode cX3_leapDone 33 = .ok (.getfield 95, 3) := xdt tbX3_leapDone_0_ok 20 rfl
theorem dX3_leapDone_36 : decode cX3_leapDone 36 = .ok (.iload_n 3, 1) := xdt tbX3_leapDone_0_ok 21 rfl
theorem dX3_leapDone_37 : decode cX3_leapDone 37 = .ok (.iaload, 1) := xdt tbX3_leapDone_0_ok 22 rfl
theorem dX3_leapDone_38 : decode cX3_leapDone 38 = .ok (.ifCond .ne 7, 3) := xdt tbX3_leapDone_0_ok 23 rfl
theorem dX3_leapDone_41 : decode cX3_leapDone 41 = .ok (.iconst 0, 1) := xdt tbX3_leapDone_0_ok 24 rfl
theorem dX3_leapDone_42 : decode cX3_leapDone 42 = .ok (.goto 14, 3) := xdt tbX3_leapDone_0_ok 25 rfl
theorem dX3_leapDone_45 : decode cX3_leapDone 45 = .ok (.aload_n 0, 1) := xdt tbX3_leapDone_0_ok 26 rfl
theorem dX3_leapDone_46 : decode cX3_leapDone 46 = .ok (.getfield 15, 3) := xdt tbX3_leapDone_0_ok 27 rfl
theorem dX3_leapDone_49 : decode cX3_leapDone 49 = .ok (.getfield 95, 3) := xdt tbX3_leapDone_0_ok 28 rfl
theorem dX3_leapDone_52 : decode cX3_leapDone 52 = .ok (.iload_n 3, 1) := xdt tbX3_leapDone_0_ok 29 rfl
theorem dX3_leapDone_53 : decode cX3_leapDone 53 = .ok (.iaload, 1) := xdt tbX3_leapDone_0_ok 30 rfl
theorem dX3_leapDone_54 : decode cX3_leapDone 54 = .ok (.iconst 1, 1) := xdt tbX3_leapDone_0_ok 31 rfl
theorem dX3_leapDone_55 : decode cX3_leapDone 55 = .ok (.isub, 1) := xdt tbX3_leapDone_0_ok 32 rfl
theorem dX3_leapDone_56 : decode cX3_leapDone 56 = .ok (.iadd, 1) := xdt tbX3_leapDone_0_ok 33 rfl
theorem dX3_leapDone_57 : decode cX3_leapDone 57 = .ok (.istore_n 2, 1) := xdt tbX3_leapDone_0_ok 34 rfl
theorem dX3_leapDone_58 : decode cX3_leapDone 58 = .ok (.iinc 3 (-1), 3) := xdt tbX3_leapDone_0_ok 35 rfl
theorem dX3_leapDone_61 : decode cX3_leapDone 61 = .ok (.goto (-39), 3) := xdt tbX3_leapDone_0_ok 36 rfl
theorem dX3_leapDone_64 : decode cX3_leapDone 64 = .ok (.aload_n 0, 1) := xdt tbX3_leapDone_0_ok 37 rfl
theorem dX3_leapDone_65 : decode cX3_leapDone 65 = .ok (.getfield 15, 3) := xdt tbX3_leapDone_0_ok 38 rfl
theorem dX3_leapDone_68 : decode cX3_leapDone 68 = .ok (.getfield 104, 3) := xdt tbX3_leapDone_0_ok 39 rfl
theorem dX3_leapDone_71 : decode cX3_leapDone 71 = .ok (.i2l, 1) := xdt tbX3_leapDone_0_ok 40 rfl
theorem dX3_leapDone_72 : decode cX3_leapDone 72 = .ok (.bipush 24, 2) := xdt tbX3_leapDone_0_ok 41 rfl
theorem dX3_leapDone_74 : decode cX3_leapDone 74 = .ok (.lshl, 1) := xdt tbX3_leapDone_0_ok 42 rfl
theorem dX3_leapDone_75 : decode cX3_leapDone 75 = .ok (.aload_n 0, 1) := xdt tbX3_leapDone_0_ok 43 rfl
theorem dX3_leapDone_76 : decode cX3_leapDone 76 = .ok (.getfield 15, 3) := xdt tbX3_leapDone_0_ok 44 rfl
theorem dX3_leapDone_79 : decode cX3_leapDone 79 = .ok (.getfield 107, 3) := xdt tbX3_leapDone_0_ok 45 rfl
theorem dX3_leapDone_82 : decode cX3_leapDone 82 = .ok (.i2l, 1) := xdt tbX3_leapDone_0_ok 46 rfl
theorem dX3_leapDone_83 : decode cX3_leapDone 83 = .ok (.bipush 12, 2) := xdt tbX3_leapDone_0_ok 47 rfl
theorem dX3_leapDone_85 : decode cX3_leapDone 85 = .ok (.lshl, 1) := xdt tbX3_leapDone_0_ok 48 rfl
theorem dX3_leapDone_86 : decode cX3_leapDone 86 = .ok (.lor, 1) := xdt tbX3_leapDone_0_ok 49 rfl
theorem dX3_leapDone_87 : decode cX3_leapDone 87 = .ok (.iload_n 2, 1) := xdt tbX3_leapDone_0_ok 50 rfl
theorem dX3_leapDone_88 : decode cX3_leapDone 88 = .ok (.i2l, 1) := xdt tbX3_leapDone_0_ok 51 rfl
theorem dX3_leapDone_89 : decode cX3_leapDone 89 = .ok (.lor, 1) := xdt tbX3_leapDone_0_ok 52 rfl
theorem dX3_leapDone_90 : decode cX3_leapDone 90 = .ok (.lreturn, 1) := xdt tbX3_leapDone_0_ok 53 rfl
def tbX3_leapFrom_0 : List (Nat × Instr × Nat) := [(0, .iload_n 1, 1), (1, .bipush 8, 2), (3, .imul, 1), (4, .iload_n 2, 1), (5, .iadd, 1), (6, .istore_n 3, 1), (7, .aload_n 0, 1), (8, .getfield 19, 3), (11, .iload_n 3, 1), (12, .laload, 1), (13, .ldc2_w 27, 3), (16, .lcmp, 1), (17, .ifCond .ne 44, 3), (20, .aload_n 0, 1), (21, .iload_n 1, 1), (22, .invokevirtual 74, 3), (25, .iload_n 2, 1), (26, .bipush 7, 2), (28, .if_icmp .ne 13, 3), (31, .aload_n 0, 1), (32, .getfield 15, 3), (35, .invokevirtual 78, 3), (38, .goto 12, 3), (41, .aload_n 0, 1), (42, .getfield 15, 3), (45, .iload_n 2, 1), (46, .invokevirtual 83, 3), (49, .pop, 1), (50, .aload_n 0, 1), (51, .getfield 19, 3), (54, .iload_n 3, 1), (55, .aload_n 0, 1), (56, .iload_n 1, 1), (57, .invokevirtual 87, 3), (60, .lastore, 1), (61, .aload_n 0, 1), (62, .getfield 19, 3), (65, .iload_n 3, 1), (66, .laload, 1), (67, .lreturn, 1)]
theorem tbX3_leapFrom_0_ok : tbX3_leapFrom_0.all (fun q => decide (decode cX3_leapFrom q.1 = .ok q.2)) = true := by decide +kernel
theorem dX3_leapFrom_0 : decode cX3_leapFrom 0 = .ok (.iload_n 1, 1) := xdt tbX3_leapFrom_0_ok 0 rfl
theorem dX3_leapFrom_1 : decode cX3_leapFrom 1 = .ok (.bipush 8, 2) := xdt tbX3_leapFrom_0_ok 1 rfl
theorem dX3_leapFrom_3 : decode cX3_leapFrom 3 = .ok (.imul, 1) := xdt tbX3_leapFrom_0_ok 2 rfl
theorem dX3_leapFrom_4 : decode cX3_leapFrom 4 = .ok (.iload_n 2, 1) := xdt tbX3_leapFrom_0_ok 3 rfl
theorem dX3_leapFrom_5 : decode cX3_leapFrom 5 = .ok (.iadd, 1) := xdt tbX3_leapFrom_0_ok 4 rfl
theorem dX3_leapFrom_6 : decode cX3_leapFrom 6 = .ok (.istore_n 3, 1) := xdt tbX3_leapFrom_0_ok 5 rfl
theorem dX3_leapFrom_7 : decode cX3_leapFrom 7 = .ok (.aload_n 0, 1) := xdt tbX3_leapFrom_0_ok 6 rfl
theorem dX3_leapFrom_8 : decode cX3_leapFrom 8 = .ok (.getfield 19, 3) := xdt tbX3_leapFrom_0_ok 7 rfl
theorem dX3_leapFrom_11 : decode cX3_leapFrom 11 = .ok (.iload_n 3, 1) := xdt tbX3_leapFrom_0_ok 8 rfl
theorem dX3_leapFrom_12 : decode cX3_leapFrom 12 = .ok (.laload, 1) := xdt tbX3_leapFrom_0_ok 9 rfl
theorem dX3_leapFrom_13 : decode cX3_leapFrom 13 = .ok (.ldc2_w 27, 3) := xdt tbX3_leapFrom_0_ok 10 rfl
theorem dX3_leapFrom_16 : decode cX3_leapFrom 16 = .ok (.lcmp, 1) := xdt tbX3_leapFrom_0_ok 11 rfl
theorem dX3_leapFrom_17 : decode cX3_leapFrom 17 = .ok (.ifCond .ne 44, 3) := xdt tbX3_leapFrom_0_ok 12 rfl
theorem dX3_leapFrom_20 : decode cX3_leapFrom 20 = .ok (.aload_n 0, 1) := xdt tbX3_leapFrom_0_ok 13 rfl
theorem dX3_leapFrom_21 : decode cX3_leapFrom 21 = .ok (.iload_n 1, 1) := xdt tbX3_leapFrom_0_ok 14 rfl
theorem dX3_leapFrom_22 : decode cX3_leapFrom 22 = .ok (.invokevirtual 74, 3) := xdt tbX3_leapFrom_0_ok 15 rfl
theorem dX3_leapFrom_25 : decode cX3_leapFrom 25 = .ok (.iload_n 2, 1) := xdt tbX3_leapFrom_0_ok 16 rfl
theorem dX3_leapFrom_26 : decode cX3_leapFrom 26 = .ok (.bipush 7, 2) := xdt tbX3_leapFrom_0_ok 17 rfl
theorem dX3_leapFrom_28 : decode cX3_leapFrom 28 = .ok (.if_icmp .ne 13, 3) := xdt tbX3_leapFrom_0_ok 18 rfl
theorem dX3_leapFrom_31 : decode cX3_leapFrom 31 = .ok (.aload_n 0, 1) := xdt tbX3_leapFrom_0_ok 19 rfl
theorem dX3_leapFrom_32 : decode cX3_leapFrom 32 = .ok (.getfield 15, 3) := xdt tbX3_leapFrom_0_ok 20 rfl
theorem dX3_leapFrom_35 : decode cX3_leapFrom 35 = .ok (.invokevirtual 78, 3) := xdt tbX3_leapFrom_0_ok 21 rfl
theorem dX3_leapFrom_38 : decode cX3_leapFrom 38 = .ok (.goto 12, 3) := xdt tbX3_leapFrom_0_ok 22 rfl
theorem dX3_leapFrom_41 : decode cX3_leapFrom 41 = .ok (.aload_n 0, 1) := xdt tbX3_leapFrom_0_ok 23 rfl
theorem dX3_leapFrom_42 : decode cX3_leapFrom 42 = .ok (.getfield 15, 3) := xdt tbX3_leapFrom_0_ok 24 rfl
theorem dX3_leapFrom_45 : decode cX3_leapFrom 45 = .ok (.iload_n 2, 1) := xdt tbX3_leapFrom_0_ok 25 rfl
theorem dX3_leapFrom_46 : decode cX3_leapFrom 46 = .ok (.invokevirtual 83, 3) := xdt tbX3_leapFrom_0_ok 26 rfl
theorem dX3_leapFrom_49 : decode cX3_leapFrom 49 = .ok (.pop, 1) := xdt tbX3_leapFrom_0_ok 27 rfl
theorem dX3_leapFrom_50 : decode cX3_leapFrom 50 = .ok (.aload_n 0, 1) := xdt tbX3_leapFrom_0_ok 28 rfl
theorem dX3_leapFrom_51 : decode cX3_leapFrom 51 = .ok (.getfield 19, 3) := xdt tbX3_leapFrom_0_ok 29 rfl
theorem dX3_leapFrom_54 : decode cX3_leapFrom 54 = .ok (.iload_n 3, 1) := xdt tbX3_leapFrom_0_ok 30 rfl
theorem dX3_leapFrom_55 : decode cX3_leapFrom 55 = .ok (.aload_n 0, 1) := xdt tbX3_leapFrom_0_ok 31 rfl
theorem dX3_leapFrom_56 : decode cX3_leapFrom 56 = .ok (.iload_n 1, 1) := xdt tbX3_leapFrom_0_ok 32 rfl
theorem dX3_leapFrom_57 : decode cX3_leapFrom 57 = .ok (.invokevirtual 87, 3) := xdt tbX3_leapFrom_0_ok 33 rfl
theorem dX3_leapFrom_60 : decode cX3_leapFrom 60 = .ok (.lastore, 1) := xdt tbX3_leapFrom_0_ok 34 rfl
theorem dX3_leapFrom_61 : decode cX3_leapFrom 61 = .ok (.aload_n 0, 1) := xdt tbX3_leapFrom_0_ok 35 rfl
theorem dX3_leapFrom_62 : decode cX3_leapFrom 62 = .ok (.getfield 19, 3) := xdt tbX3_leapFrom_0_ok 36 rfl
theorem dX3_leapFrom_65 : decode cX3_leapFrom 65 = .ok (.iload_n 3, 1) := xdt tbX3_leapFrom_0_ok 37 rfl
theorem dX3_leapFrom_66 : decode cX3_leapFrom 66 = .ok (.laload, 1) := xdt tbX3_leapFrom_0_ok 38 rfl
theorem dX3_leapFrom_67 : decode cX3_leapFrom 67 = .ok (.lreturn, 1) := xdt tbX3_leapFrom_0_ok 39 rfl
def tbX3_workOf_0 : List (Nat × Instr × Nat) := [(0, .lload_n 1, 1), (1, .bipush 12, 2), (3, .lshr, 1), (4, .l2i, 1), (5, .sipush 4095, 3), (8, .iand, 1), (9, .ireturn, 1)]
theorem tbX3_workOf_0_ok : tbX3_workOf_0.all (fun q => decide (decode cX3_workOf q.1 = .ok q.2)) = true := by decide +kernel
theorem dX3_workOf_0 : decode cX3_workOf 0 = .ok (.lload_n 1, 1) := xdt tbX3_workOf_0_ok 0 rfl
theorem dX3_workOf_1 : decode cX3_workOf 1 = .ok (.bipush 12, 2) := xdt tbX3_workOf_0_ok 1 rfl
theorem dX3_workOf_3 : decode cX3_workOf 3 = .ok (.lshr, 1) := xdt tbX3_workOf_0_ok 2 rfl
theorem dX3_workOf_4 : decode cX3_workOf 4 = .ok (.l2i, 1) := xdt tbX3_workOf_0_ok 3 rfl
theorem dX3_workOf_5 : decode cX3_workOf 5 = .ok (.sipush 4095, 3) := xdt tbX3_workOf_0_ok 4 rfl
theorem dX3_workOf_8 : decode cX3_workOf 8 = .ok (.iand, 1) := xdt tbX3_workOf_0_ok 5 rfl
theorem dX3_workOf_9 : decode cX3_workOf 9 = .ok (.ireturn, 1) := xdt tbX3_workOf_0_ok 6 rfl
def tbX3_sumUp_0 : List (Nat × Instr × Nat) := [(0, .iload_n 2, 1), (1, .aload_n 0, 1), (2, .lload_n 3, 1), (3, .invokevirtual 71, 3), (6, .iadd, 1), (7, .sipush 3000, 3), (10, .if_icmp .le 8, 3), (13, .ldc 35, 2), (15, .goto 10, 3), (18, .iload_n 1, 1), (19, .lload_n 3, 1), (20, .bipush 24, 2), (22, .lshr, 1), (23, .l2i, 1), (24, .iadd, 1), (25, .ireturn, 1)]
theorem tbX3_sumUp_0_ok : tbX3_sumUp_0.all (fun q => decide (decode cX3_sumUp q.1 = .ok q.2)) = true := by decide +kernel
theorem dX3_sumUp_0 : decode cX3_sumUp 0 = .ok (.iload_n 2, 1) := xdt tbX3_sumUp_0_ok 0 rfl
theorem dX3_sumUp_1 : decode cX3_sumUp 1 = .ok (.aload_n 0, 1) := xdt tbX3_sumUp_0_ok 1 rfl
theorem dX3_sumUp_2 : decode cX3_sumUp 2 = .ok (.lload_n 3, 1) := xdt tbX3_sumUp_0_ok 2 rfl
theorem dX3_sumUp_3 : decode cX3_sumUp 3 = .ok (.invokevirtual 71, 3) := xdt tbX3_sumUp_0_ok 3 rfl
theorem dX3_sumUp_6 : decode cX3_sumUp 6 = .ok (.iadd, 1) := xdt tbX3_sumUp_0_ok 4 rfl
theorem dX3_sumUp_7 : decode cX3_sumUp 7 = .ok (.sipush 3000, 3) := xdt tbX3_sumUp_0_ok 5 rfl
theorem dX3_sumUp_10 : decode cX3_sumUp 10 = .ok (.if_icmp .le 8, 3) := xdt tbX3_sumUp_0_ok 6 rfl
theorem dX3_sumUp_13 : decode cX3_sumUp 13 = .ok (.ldc 35, 2) := xdt tbX3_sumUp_0_ok 7 rfl
theorem dX3_sumUp_15 : decode cX3_sumUp 15 = .ok (.goto 10, 3) := xdt tbX3_sumUp_0_ok 8 rfl
theorem dX3_sumUp_18 : decode cX3_sumUp 18 = .ok (.iload_n 1, 1) := xdt tbX3_sumUp_0_ok 9 rfl
theorem dX3_sumUp_19 : decode cX3_sumUp 19 = .ok (.lload_n 3, 1) := xdt tbX3_sumUp_0_ok 10 rfl
theorem dX3_sumUp_20 : decode cX3_sumUp 20 = .ok (.bipush 24, 2) := xdt tbX3_sumUp_0_ok 11 rfl
theorem dX3_sumUp_22 : decode cX3_sumUp 22 = .ok (.lshr, 1) := xdt tbX3_sumUp_0_ok 12 rfl
theorem dX3_sumUp_23 : decode cX3_sumUp 23 = .ok (.l2i, 1) := xdt tbX3_sumUp_0_ok 13 rfl
theorem dX3_sumUp_24 : decode cX3_sumUp 24 = .ok (.iadd, 1) := xdt tbX3_sumUp_0_ok 14 rfl
theorem dX3_sumUp_25 : decode cX3_sumUp 25 = .ok (.ireturn, 1) := xdt tbX3_sumUp_0_ok 15 rfl
def tbX3_countOrder_0 : List (Nat × Instr × Nat) := [(0, .iload_n 1, 1), (1, .aload_n 0, 1), (2, .getfield 36, 3), (5, .if_icmp .le 4, 3), (8, .return_, 1), (9, .iload_n 1, 1), (10, .aload_n 0, 1), (11, .getfield 36, 3), (14, .if_icmp .lt 10, 3), (17, .aload_n 0, 1), (18, .getfield 43, 3), (21, .ifCond .ne 18, 3), (24, .aload_n 0, 1), (25, .iload_n 1, 1), (26, .putfield 36, 3), (29, .aload_n 0, 1), (30, .iload_n 2, 1), (31, .putfield 40, 3), (34, .aload_n 0, 1), (35, .iconst 0, 1), (36, .putfield 43, 3), (39, .aload_n 0, 1), (40, .dup, 1), (41, .getfield 43, 3), (44, .iconst 1, 1), (45, .iadd, 1), (46, .putfield 43, 3), (49, .return_, 1)]
theorem tbX3_countOrder_0_ok : tbX3_countOrder_0.all (fun q => decide (decode cX3_countOrder q.1 = .ok q.2)) = true := by decide +kernel
theorem dX3_countOrder_0 : decode cX3_countOrder 0 = .ok (.iload_n 1, 1) := xdt tbX3_countOrder_0_ok 0 rfl
theorem dX3_countOrder_1 : decode cX3_countOrder 1 = .ok (.aload_n 0, 1) := xdt tbX3_countOrder_0_ok 1 rfl
theorem dX3_countOrder_2 : decode cX3_countOrder 2 = .ok (.getfield 36, 3) := xdt tbX3_countOrder_0_ok 2 rfl
theorem dX3_countOrder_5 : decode cX3_countOrder 5 = .ok (.if_icmp .le 4, 3) := xdt tbX3_countOrder_0_ok 3 rfl
theorem dX3_countOrder_8 : decode cX3_countOrder 8 = .ok (.return_, 1) := xdt tbX3_countOrder_0_ok 4 rfl
theorem dX3_countOrder_9 : decode cX3_countOrder 9 = .ok (.iload_n 1, 1) := xdt tbX3_countOrder_0_ok 5 rfl
theorem dX3_countOrder_10 : decode cX3_countOrder 10 = .ok (.aload_n 0, 1) := xdt tbX3_countOrder_0_ok 6 rfl
theorem dX3_countOrder_11 : decode cX3_countOrder 11 = .ok (.getfield 36, 3) := xdt tbX3_countOrder_0_ok 7 rfl
theorem dX3_countOrder_14 : decode cX3_countOrder 14 = .ok (.if_icmp .lt 10, 3) := xdt tbX3_countOrder_0_ok 8 rfl
theorem dX3_countOrder_17 : decode cX3_countOrder 17 = .ok (.aload_n 0, 1) := xdt tbX3_countOrder_0_ok 9 rfl
theorem dX3_countOrder_18 : decode cX3_countOrder 18 = .ok (.getfield 43, 3) := xdt tbX3_countOrder_0_ok 10 rfl
theorem dX3_countOrder_21 : decode cX3_countOrder 21 = .ok (.ifCond .ne 18, 3) := xdt tbX3_countOrder_0_ok 11 rfl
theorem dX3_countOrder_24 : decode cX3_countOrder 24 = .ok (.aload_n 0, 1) := xdt tbX3_countOrder_0_ok 12 rfl
theorem dX3_countOrder_25 : decode cX3_countOrder 25 = .ok (.iload_n 1, 1) := xdt tbX3_countOrder_0_ok 13 rfl
theorem dX3_countOrder_26 : decode cX3_countOrder 26 = .ok (.putfield 36, 3) := xdt tbX3_countOrder_0_ok 14 rfl
theorem dX3_countOrder_29 : decode cX3_countOrder 29 = .ok (.aload_n 0, 1) := xdt tbX3_countOrder_0_ok 15 rfl
theorem dX3_countOrder_30 : decode cX3_countOrder 30 = .ok (.iload_n 2, 1) := xdt tbX3_countOrder_0_ok 16 rfl
theorem dX3_countOrder_31 : decode cX3_countOrder 31 = .ok (.putfield 40, 3) := xdt tbX3_countOrder_0_ok 17 rfl
theorem dX3_countOrder_34 : decode cX3_countOrder 34 = .ok (.aload_n 0, 1) := xdt tbX3_countOrder_0_ok 18 rfl
theorem dX3_countOrder_35 : decode cX3_countOrder 35 = .ok (.iconst 0, 1) := xdt tbX3_countOrder_0_ok 19 rfl
theorem dX3_countOrder_36 : decode cX3_countOrder 36 = .ok (.putfield 43, 3) := xdt tbX3_countOrder_0_ok 20 rfl
theorem dX3_countOrder_39 : decode cX3_countOrder 39 = .ok (.aload_n 0, 1) := xdt tbX3_countOrder_0_ok 21 rfl
theorem dX3_countOrder_40 : decode cX3_countOrder 40 = .ok (.dup, 1) := xdt tbX3_countOrder_0_ok 22 rfl
theorem dX3_countOrder_41 : decode cX3_countOrder 41 = .ok (.getfield 43, 3) := xdt tbX3_countOrder_0_ok 23 rfl
theorem dX3_countOrder_44 : decode cX3_countOrder 44 = .ok (.iconst 1, 1) := xdt tbX3_countOrder_0_ok 24 rfl
theorem dX3_countOrder_45 : decode cX3_countOrder 45 = .ok (.iadd, 1) := xdt tbX3_countOrder_0_ok 25 rfl
theorem dX3_countOrder_46 : decode cX3_countOrder 46 = .ok (.putfield 43, 3) := xdt tbX3_countOrder_0_ok 26 rfl
theorem dX3_countOrder_49 : decode cX3_countOrder 49 = .ok (.return_, 1) := xdt tbX3_countOrder_0_ok 27 rfl
def tbX3_lookOf_0 : List (Nat × Instr × Nat) := [(0, .lload_n 1, 1), (1, .l2i, 1), (2, .sipush 4095, 3), (5, .iand, 1), (6, .ireturn, 1)]
theorem tbX3_lookOf_0_ok : tbX3_lookOf_0.all (fun q => decide (decode cX3_lookOf q.1 = .ok q.2)) = true := by decide +kernel
theorem dX3_lookOf_0 : decode cX3_lookOf 0 = .ok (.lload_n 1, 1) := xdt tbX3_lookOf_0_ok 0 rfl
theorem dX3_lookOf_1 : decode cX3_lookOf 1 = .ok (.l2i, 1) := xdt tbX3_lookOf_0_ok 1 rfl
theorem dX3_lookOf_2 : decode cX3_lookOf 2 = .ok (.sipush 4095, 3) := xdt tbX3_lookOf_0_ok 2 rfl
theorem dX3_lookOf_5 : decode cX3_lookOf 5 = .ok (.iand, 1) := xdt tbX3_lookOf_0_ok 3 rfl
theorem dX3_lookOf_6 : decode cX3_lookOf 6 = .ok (.ireturn, 1) := xdt tbX3_lookOf_0_ok 4 rfl
def tbX3_goOn_0 : List (Nat × Instr × Nat) := [(0, .iload 4, 2), (2, .aload_n 0, 1), (3, .getfield 36, 3), (6, .if_icmp .le 4, 3), (9, .return_, 1), (10, .iload_n 1, 1), (11, .iconst 1, 1), (12, .aload_n 0, 1), (13, .getfield 9, 3), (16, .getfield 50, 3), (19, .ishl, 1), (20, .iconst 1, 1), (21, .isub, 1), (22, .if_icmp .ne 24, 3), (25, .aload_n 0, 1), (26, .aload_n 0, 1), (27, .iload 4, 2), (29, .iload_n 3, 1), (30, .aload_n 0, 1), (31, .iload_n 2, 1), (32, .bipush 7, 2), (34, .invokevirtual 55, 3), (37, .invokevirtual 59, 3), (40, .iload 5, 2), (42, .invokevirtual 63, 3), (45, .return_, 1), (46, .iconst 0, 1), (47, .istore 6, 2), (49, .iload 6, 2), (51, .aload_n 0, 1), (52, .getfield 9, 3), (55, .getfield 50, 3), (58, .if_icmp .ge 68, 3), (61, .iload_n 1, 1), (62, .iload 6, 2), (64, .ishr, 1), (65, .iconst 1, 1), (66, .iand, 1), (67, .ifCond .ne 53, 3), (70, .aload_n 0, 1), (71, .iload_n 2, 1), (72, .iload 6, 2), (74, .invokevirtual 55, 3), (77, .lstore 7, 2), (79, .aload_n 0, 1), (80, .iload_n 1, 1), (81, .iconst 1, 1), (82, .iload 6, 2), (84, .ishl, 1), (85, .ior, 1), (86, .aload_n 0, 1), (87, .lload 7, 2), (89, .invokevirtual 67, 3), (92, .iload_n 3, 1), (93, .aload_n 0, 1), (94, .lload 7, 2), (96, .invokevirtual 71, 3), (99, .iadd, 1), (100, .aload_n 0, 1), (101, .iload 4, 2)]
theorem tbX3_goOn_0_ok : tbX3_goOn_0.all (fun q => decide (decode cX3_goOn q.1 = .ok q.2)) = true := by decide +kernel
theorem dX3_goOn_0 : decode cX3_goOn 0 = .ok (.iload 4, 2) := xdt tbX3_goOn_0_ok 0 rfl
theorem dX3_goOn_2 : decode cX3_goOn 2 = .ok (.aload_n 0, 1) := xdt tbX3_goOn_0_ok 1 rfl
theorem dX3_goOn_3 : decode cX3_goOn 3 = .ok (.getfield 36, 3) := xdt tbX3_goOn_0_ok 2 rfl
theorem dX3_goOn_6 : decode cX3_goOn 6 = .ok (.if_icmp .le 4, 3) := xdt tbX3_goOn_0_ok 3 rfl
theorem dX3_goOn_9 : decode cX3_goOn 9 = .ok (.return_, 1) := xdt tbX3_goOn_0_ok 4 rfl
theorem dX3_goOn_10 : decode cX3_goOn 10 = .ok (.iload_n 1, 1) := xdt tbX3_goOn_0_ok 5 rfl
theorem dX3_goOn_11 : decode cX3_goOn 11 = .ok (.iconst 1, 1) := xdt tbX3_goOn_0_ok 6 rfl
theorem dX3_goOn_12 : decode cX3_goOn 12 = .ok (.aload_n 0, 1) := xdt tbX3_goOn_0_ok 7 rfl
theorem dX3_goOn_13 : decode cX3_goOn 13 = .ok (.getfield 9, 3) := xdt tbX3_goOn_0_ok 8 rfl
theorem dX3_goOn_16 : decode cX3_goOn 16 = .ok (.getfield 50, 3) := xdt tbX3_goOn_0_ok 9 rfl
theorem dX3_goOn_19 : decode cX3_goOn 19 = .ok (.ishl, 1) := xdt tbX3_goOn_0_ok 10 rfl
theorem dX3_goOn_20 : decode cX3_goOn 20 = .ok (.iconst 1, 1) := xdt tbX3_goOn_0_ok 11 rfl
theorem dX3_goOn_21 : decode cX3_goOn 21 = .ok (.isub, 1) := xdt tbX3_goOn_0_ok 12 rfl
theorem dX3_goOn_22 : decode cX3_goOn 22 = .ok (.if_icmp .ne 24, 3) := xdt tbX3_goOn_0_ok 13 rfl
theorem dX3_goOn_25 : decode cX3_goOn 25 = .ok (.aload_n 0, 1) := xdt tbX3_goOn_0_ok 14 rfl
theorem dX3_goOn_26 : decode cX3_goOn 26 = .ok (.aload_n 0, 1) := xdt tbX3_goOn_0_ok 15 rfl
theorem dX3_goOn_27 : decode cX3_goOn 27 = .ok (.iload 4, 2) := xdt tbX3_goOn_0_ok 16 rfl
theorem dX3_goOn_29 : decode cX3_goOn 29 = .ok (.iload_n 3, 1) := xdt tbX3_goOn_0_ok 17 rfl
theorem dX3_goOn_30 : decode cX3_goOn 30 = .ok (.aload_n 0, 1) := xdt tbX3_goOn_0_ok 18 rfl
theorem dX3_goOn_31 : decode cX3_goOn 31 = .ok (.iload_n 2, 1) := xdt tbX3_goOn_0_ok 19 rfl
theorem dX3_goOn_32 : decode cX3_goOn 32 = .ok (.bipush 7, 2) := xdt tbX3_goOn_0_ok 20 rfl
theorem dX3_goOn_34 : decode cX3_goOn 34 = .ok (.invokevirtual 55, 3) := xdt tbX3_goOn_0_ok 21 rfl
theorem dX3_goOn_37 : decode cX3_goOn 37 = .ok (.invokevirtual 59, 3) := xdt tbX3_goOn_0_ok 22 rfl
theorem dX3_goOn_40 : decode cX3_goOn 40 = .ok (.iload 5, 2) := xdt tbX3_goOn_0_ok 23 rfl
theorem dX3_goOn_42 : decode cX3_goOn 42 = .ok (.invokevirtual 63, 3) := xdt tbX3_goOn_0_ok 24 rfl
theorem dX3_goOn_45 : decode cX3_goOn 45 = .ok (.return_, 1) := xdt tbX3_goOn_0_ok 25 rfl
theorem dX3_goOn_46 : decode cX3_goOn 46 = .ok (.iconst 0, 1) := xdt tbX3_goOn_0_ok 26 rfl
theorem dX3_goOn_47 : decode cX3_goOn 47 = .ok (.istore 6, 2) := xdt tbX3_goOn_0_ok 27 rfl
theorem dX3_goOn_49 : decode cX3_goOn 49 = .ok (.iload 6, 2) := xdt tbX3_goOn_0_ok 28 rfl
theorem dX3_goOn_51 : decode cX3_goOn 51 = .ok (.aload_n 0, 1) := xdt tbX3_goOn_0_ok 29 rfl
theorem dX3_goOn_52 : decode cX3_goOn 52 = .ok (.getfield 9, 3) := xdt tbX3_goOn_0_ok 30 rfl
theorem dX3_goOn_55 : decode cX3_goOn 55 = .ok (.getfield 50, 3) := xdt tbX3_goOn_0_ok 31 rfl
theorem dX3_goOn_58 : decode cX3_goOn 58 = .ok (.if_icmp .ge 68, 3) := xdt tbX3_goOn_0_ok 32 rfl
theorem dX3_goOn_61 : decode cX3_goOn 61 = .ok (.iload_n 1, 1) := xdt tbX3_goOn_0_ok 33 rfl
theorem dX3_goOn_62 : decode cX3_goOn 62 = .ok (.iload 6, 2) := xdt tbX3_goOn_0_ok 34 rfl
theorem dX3_goOn_64 : decode cX3_goOn 64 = .ok (.ishr, 1) := xdt tbX3_goOn_0_ok 35 rfl
theorem dX3_goOn_65 : decode cX3_goOn 65 = .ok (.iconst 1, 1) := xdt tbX3_goOn_0_ok 36 rfl
theorem dX3_goOn_66 : decode cX3_goOn 66 = .ok (.iand, 1) := xdt tbX3_goOn_0_ok 37 rfl
theorem dX3_goOn_67 : decode cX3_goOn 67 = .ok (.ifCond .ne 53, 3) := xdt tbX3_goOn_0_ok 38 rfl
theorem dX3_goOn_70 : decode cX3_goOn 70 = .ok (.aload_n 0, 1) := xdt tbX3_goOn_0_ok 39 rfl
theorem dX3_goOn_71 : decode cX3_goOn 71 = .ok (.iload_n 2, 1) := xdt tbX3_goOn_0_ok 40 rfl
theorem dX3_goOn_72 : decode cX3_goOn 72 = .ok (.iload 6, 2) := xdt tbX3_goOn_0_ok 41 rfl
theorem dX3_goOn_74 : decode cX3_goOn 74 = .ok (.invokevirtual 55, 3) := xdt tbX3_goOn_0_ok 42 rfl
theorem dX3_goOn_77 : decode cX3_goOn 77 = .ok (.lstore 7, 2) := xdt tbX3_goOn_0_ok 43 rfl
theorem dX3_goOn_79 : decode cX3_goOn 79 = .ok (.aload_n 0, 1) := xdt tbX3_goOn_0_ok 44 rfl
theorem dX3_goOn_80 : decode cX3_goOn 80 = .ok (.iload_n 1, 1) := xdt tbX3_goOn_0_ok 45 rfl
theorem dX3_goOn_81 : decode cX3_goOn 81 = .ok (.iconst 1, 1) := xdt tbX3_goOn_0_ok 46 rfl
theorem dX3_goOn_82 : decode cX3_goOn 82 = .ok (.iload 6, 2) := xdt tbX3_goOn_0_ok 47 rfl
theorem dX3_goOn_84 : decode cX3_goOn 84 = .ok (.ishl, 1) := xdt tbX3_goOn_0_ok 48 rfl
theorem dX3_goOn_85 : decode cX3_goOn 85 = .ok (.ior, 1) := xdt tbX3_goOn_0_ok 49 rfl
theorem dX3_goOn_86 : decode cX3_goOn 86 = .ok (.aload_n 0, 1) := xdt tbX3_goOn_0_ok 50 rfl
theorem dX3_goOn_87 : decode cX3_goOn 87 = .ok (.lload 7, 2) := xdt tbX3_goOn_0_ok 51 rfl
theorem dX3_goOn_89 : decode cX3_goOn 89 = .ok (.invokevirtual 67, 3) := xdt tbX3_goOn_0_ok 52 rfl
theorem dX3_goOn_92 : decode cX3_goOn 92 = .ok (.iload_n 3, 1) := xdt tbX3_goOn_0_ok 53 rfl
theorem dX3_goOn_93 : decode cX3_goOn 93 = .ok (.aload_n 0, 1) := xdt tbX3_goOn_0_ok 54 rfl
theorem dX3_goOn_94 : decode cX3_goOn 94 = .ok (.lload 7, 2) := xdt tbX3_goOn_0_ok 55 rfl
theorem dX3_goOn_96 : decode cX3_goOn 96 = .ok (.invokevirtual 71, 3) := xdt tbX3_goOn_0_ok 56 rfl
theorem dX3_goOn_99 : decode cX3_goOn 99 = .ok (.iadd, 1) := xdt tbX3_goOn_0_ok 57 rfl
theorem dX3_goOn_100 : decode cX3_goOn 100 = .ok (.aload_n 0, 1) := xdt tbX3_goOn_0_ok 58 rfl
theorem dX3_goOn_101 : decode cX3_goOn 101 = .ok (.iload 4, 2) := xdt tbX3_goOn_0_ok 59 rfl
def tbX3_goOn_60 : List (Nat × Instr × Nat) := [(103, .iload_n 3, 1), (104, .lload 7, 2), (106, .invokevirtual 59, 3), (109, .iload 5, 2), (111, .bipush 10, 2), (113, .imul, 1), (114, .iload 6, 2), (116, .iadd, 1), (117, .invokevirtual 46, 3), (120, .iinc 6 1, 3), (123, .goto (-74), 3), (126, .return_, 1)]
theorem tbX3_goOn_60_ok : tbX3_goOn_60.all (fun q => decide (decode cX3_goOn q.1 = .ok q.2)) = true := by decide +kernel
theorem dX3_goOn_103 : decode cX3_goOn 103 = .ok (.iload_n 3, 1) := xdt tbX3_goOn_60_ok 0 rfl
theorem dX3_goOn_104 : decode cX3_goOn 104 = .ok (.lload 7, 2) := xdt tbX3_goOn_60_ok 1 rfl
theorem dX3_goOn_106 : decode cX3_goOn 106 = .ok (.invokevirtual 59, 3) := xdt tbX3_goOn_60_ok 2 rfl
theorem dX3_goOn_109 : decode cX3_goOn 109 = .ok (.iload 5, 2) := xdt tbX3_goOn_60_ok 3 rfl
theorem dX3_goOn_111 : decode cX3_goOn 111 = .ok (.bipush 10, 2) := xdt tbX3_goOn_60_ok 4 rfl
theorem dX3_goOn_113 : decode cX3_goOn 113 = .ok (.imul, 1) := xdt tbX3_goOn_60_ok 5 rfl
theorem dX3_goOn_114 : decode cX3_goOn 114 = .ok (.iload 6, 2) := xdt tbX3_goOn_60_ok 6 rfl
theorem dX3_goOn_116 : decode cX3_goOn 116 = .ok (.iadd, 1) := xdt tbX3_goOn_60_ok 7 rfl
theorem dX3_goOn_117 : decode cX3_goOn 117 = .ok (.invokevirtual 46, 3) := xdt tbX3_goOn_60_ok 8 rfl
theorem dX3_goOn_120 : decode cX3_goOn 120 = .ok (.iinc 6 1, 3) := xdt tbX3_goOn_60_ok 9 rfl
theorem dX3_goOn_123 : decode cX3_goOn 123 = .ok (.goto (-74), 3) := xdt tbX3_goOn_60_ok 10 rfl
theorem dX3_goOn_126 : decode cX3_goOn 126 = .ok (.return_, 1) := xdt tbX3_goOn_60_ok 11 rfl
def tbX3_seekFewest_0 : List (Nat × Instr × Nat) := [(0, .aload_n 0, 1), (1, .getfield 23, 3), (4, .ifCond .eq 4, 3), (7, .return_, 1), (8, .aload_n 0, 1), (9, .aload_n 1, 1), (10, .putfield 9, 3), (13, .aload_n 0, 1), (14, .getfield 19, 3), (17, .ldc2_w 27, 3), (20, .invokestatic 29, 3), (23, .aload_n 0, 1), (24, .ldc 35, 2), (26, .putfield 36, 3), (29, .aload_n 0, 1), (30, .iconst (-1), 1), (31, .putfield 40, 3), (34, .aload_n 0, 1), (35, .iconst 0, 1), (36, .putfield 43, 3), (39, .aload_n 0, 1), (40, .iconst 0, 1), (41, .iconst 0, 1), (42, .iconst 0, 1), (43, .iconst 0, 1), (44, .iconst 0, 1), (45, .invokevirtual 46, 3), (48, .aload_n 0, 1), (49, .iconst 1, 1), (50, .putfield 23, 3), (53, .return_, 1)]
theorem tbX3_seekFewest_0_ok : tbX3_seekFewest_0.all (fun q => decide (decode cX3_seekFewest q.1 = .ok q.2)) = true := by decide +kernel
theorem dX3_seekFewest_0 : decode cX3_seekFewest 0 = .ok (.aload_n 0, 1) := xdt tbX3_seekFewest_0_ok 0 rfl
theorem dX3_seekFewest_1 : decode cX3_seekFewest 1 = .ok (.getfield 23, 3) := xdt tbX3_seekFewest_0_ok 1 rfl
theorem dX3_seekFewest_4 : decode cX3_seekFewest 4 = .ok (.ifCond .eq 4, 3) := xdt tbX3_seekFewest_0_ok 2 rfl
theorem dX3_seekFewest_7 : decode cX3_seekFewest 7 = .ok (.return_, 1) := xdt tbX3_seekFewest_0_ok 3 rfl
theorem dX3_seekFewest_8 : decode cX3_seekFewest 8 = .ok (.aload_n 0, 1) := xdt tbX3_seekFewest_0_ok 4 rfl
theorem dX3_seekFewest_9 : decode cX3_seekFewest 9 = .ok (.aload_n 1, 1) := xdt tbX3_seekFewest_0_ok 5 rfl
theorem dX3_seekFewest_10 : decode cX3_seekFewest 10 = .ok (.putfield 9, 3) := xdt tbX3_seekFewest_0_ok 6 rfl
theorem dX3_seekFewest_13 : decode cX3_seekFewest 13 = .ok (.aload_n 0, 1) := xdt tbX3_seekFewest_0_ok 7 rfl
theorem dX3_seekFewest_14 : decode cX3_seekFewest 14 = .ok (.getfield 19, 3) := xdt tbX3_seekFewest_0_ok 8 rfl
theorem dX3_seekFewest_17 : decode cX3_seekFewest 17 = .ok (.ldc2_w 27, 3) := xdt tbX3_seekFewest_0_ok 9 rfl
theorem dX3_seekFewest_20 : decode cX3_seekFewest 20 = .ok (.invokestatic 29, 3) := xdt tbX3_seekFewest_0_ok 10 rfl
theorem dX3_seekFewest_23 : decode cX3_seekFewest 23 = .ok (.aload_n 0, 1) := xdt tbX3_seekFewest_0_ok 11 rfl
theorem dX3_seekFewest_24 : decode cX3_seekFewest 24 = .ok (.ldc 35, 2) := xdt tbX3_seekFewest_0_ok 12 rfl
theorem dX3_seekFewest_26 : decode cX3_seekFewest 26 = .ok (.putfield 36, 3) := xdt tbX3_seekFewest_0_ok 13 rfl
theorem dX3_seekFewest_29 : decode cX3_seekFewest 29 = .ok (.aload_n 0, 1) := xdt tbX3_seekFewest_0_ok 14 rfl
theorem dX3_seekFewest_30 : decode cX3_seekFewest 30 = .ok (.iconst (-1), 1) := xdt tbX3_seekFewest_0_ok 15 rfl
theorem dX3_seekFewest_31 : decode cX3_seekFewest 31 = .ok (.putfield 40, 3) := xdt tbX3_seekFewest_0_ok 16 rfl
theorem dX3_seekFewest_34 : decode cX3_seekFewest 34 = .ok (.aload_n 0, 1) := xdt tbX3_seekFewest_0_ok 17 rfl
theorem dX3_seekFewest_35 : decode cX3_seekFewest 35 = .ok (.iconst 0, 1) := xdt tbX3_seekFewest_0_ok 18 rfl
theorem dX3_seekFewest_36 : decode cX3_seekFewest 36 = .ok (.putfield 43, 3) := xdt tbX3_seekFewest_0_ok 19 rfl
theorem dX3_seekFewest_39 : decode cX3_seekFewest 39 = .ok (.aload_n 0, 1) := xdt tbX3_seekFewest_0_ok 20 rfl
theorem dX3_seekFewest_40 : decode cX3_seekFewest 40 = .ok (.iconst 0, 1) := xdt tbX3_seekFewest_0_ok 21 rfl
theorem dX3_seekFewest_41 : decode cX3_seekFewest 41 = .ok (.iconst 0, 1) := xdt tbX3_seekFewest_0_ok 22 rfl
theorem dX3_seekFewest_42 : decode cX3_seekFewest 42 = .ok (.iconst 0, 1) := xdt tbX3_seekFewest_0_ok 23 rfl
theorem dX3_seekFewest_43 : decode cX3_seekFewest 43 = .ok (.iconst 0, 1) := xdt tbX3_seekFewest_0_ok 24 rfl
theorem dX3_seekFewest_44 : decode cX3_seekFewest 44 = .ok (.iconst 0, 1) := xdt tbX3_seekFewest_0_ok 25 rfl
theorem dX3_seekFewest_45 : decode cX3_seekFewest 45 = .ok (.invokevirtual 46, 3) := xdt tbX3_seekFewest_0_ok 26 rfl
theorem dX3_seekFewest_48 : decode cX3_seekFewest 48 = .ok (.aload_n 0, 1) := xdt tbX3_seekFewest_0_ok 27 rfl
theorem dX3_seekFewest_49 : decode cX3_seekFewest 49 = .ok (.iconst 1, 1) := xdt tbX3_seekFewest_0_ok 28 rfl
theorem dX3_seekFewest_50 : decode cX3_seekFewest 50 = .ok (.putfield 23, 3) := xdt tbX3_seekFewest_0_ok 29 rfl
theorem dX3_seekFewest_53 : decode cX3_seekFewest 53 = .ok (.return_, 1) := xdt tbX3_seekFewest_0_ok 30 rfl
def tbX4_tell_0 : List (Nat × Instr × Nat) := [(0, .iload_n 1, 1), (1, .tableswitch 63 0 4 #[35, 43, 48, 53, 58], 35), (36, .aload_n 0, 1), (37, .getfield 19, 3), (40, .bipush 12, 2), (42, .idiv, 1), (43, .ireturn, 1), (44, .aload_n 0, 1), (45, .getfield 33, 3), (48, .ireturn, 1), (49, .aload_n 0, 1), (50, .getfield 38, 3), (53, .ireturn, 1), (54, .aload_n 0, 1), (55, .getfield 44, 3), (58, .ireturn, 1), (59, .aload_n 0, 1), (60, .getfield 52, 3), (63, .ireturn, 1), (64, .aload_n 0, 1), (65, .getfield 48, 3), (68, .ireturn, 1)]
theorem tbX4_tell_0_ok : tbX4_tell_0.all (fun q => decide (decode cX4_tell q.1 = .ok q.2)) = true := by decide +kernel
theorem dX4_tell_0 : decode cX4_tell 0 = .ok (.iload_n 1, 1) := xdt tbX4_tell_0_ok 0 rfl
theorem dX4_tell_1 : decode cX4_tell 1 = .ok (.tableswitch 63 0 4 #[35, 43, 48, 53, 58], 35) := xdt tbX4_tell_0_ok 1 rfl
theorem dX4_tell_36 : decode cX4_tell 36 = .ok (.aload_n 0, 1) := xdt tbX4_tell_0_ok 2 rfl
theorem dX4_tell_37 : decode cX4_tell 37 = .ok (.getfield 19, 3) := xdt tbX4_tell_0_ok 3 rfl
theorem dX4_tell_40 : decode cX4_tell 40 = .ok (.bipush 12, 2) := xdt tbX4_tell_0_ok 4 rfl
theorem dX4_tell_42 : decode cX4_tell 42 = .ok (.idiv, 1) := xdt tbX4_tell_0_ok 5 rfl
theorem dX4_tell_43 : decode cX4_tell 43 = .ok (.ireturn, 1) := xdt tbX4_tell_0_ok 6 rfl
theorem dX4_tell_44 : decode cX4_tell 44 = .ok (.aload_n 0, 1) := xdt tbX4_tell_0_ok 7 rfl
theorem dX4_tell_45 : decode cX4_tell 45 = .ok (.getfield 33, 3) := xdt tbX4_tell_0_ok 8 rfl
theorem dX4_tell_48 : decode cX4_tell 48 = .ok (.ireturn, 1) := xdt tbX4_tell_0_ok 9 rfl
theorem dX4_tell_49 : decode cX4_tell 49 = .ok (.aload_n 0, 1) := xdt tbX4_tell_0_ok 10 rfl
theorem dX4_tell_50 : decode cX4_tell 50 = .ok (.getfield 38, 3) := xdt tbX4_tell_0_ok 11 rfl
theorem dX4_tell_53 : decode cX4_tell 53 = .ok (.ireturn, 1) := xdt tbX4_tell_0_ok 12 rfl
theorem dX4_tell_54 : decode cX4_tell 54 = .ok (.aload_n 0, 1) := xdt tbX4_tell_0_ok 13 rfl
theorem dX4_tell_55 : decode cX4_tell 55 = .ok (.getfield 44, 3) := xdt tbX4_tell_0_ok 14 rfl
theorem dX4_tell_58 : decode cX4_tell 58 = .ok (.ireturn, 1) := xdt tbX4_tell_0_ok 15 rfl
theorem dX4_tell_59 : decode cX4_tell 59 = .ok (.aload_n 0, 1) := xdt tbX4_tell_0_ok 16 rfl
theorem dX4_tell_60 : decode cX4_tell 60 = .ok (.getfield 52, 3) := xdt tbX4_tell_0_ok 17 rfl
theorem dX4_tell_63 : decode cX4_tell 63 = .ok (.ireturn, 1) := xdt tbX4_tell_0_ok 18 rfl
theorem dX4_tell_64 : decode cX4_tell 64 = .ok (.aload_n 0, 1) := xdt tbX4_tell_0_ok 19 rfl
theorem dX4_tell_65 : decode cX4_tell 65 = .ok (.getfield 48, 3) := xdt tbX4_tell_0_ok 20 rfl
theorem dX4_tell_68 : decode cX4_tell 68 = .ok (.ireturn, 1) := xdt tbX4_tell_0_ok 21 rfl
def tbX5_countTerms_0 : List (Nat × Instr × Nat) := [(0, .iconst 0, 1), (1, .istore_n 2, 1), (2, .aload_n 0, 1), (3, .getfield 18, 3), (6, .iload_n 1, 1), (7, .iaload, 1), (8, .istore_n 3, 1), (9, .iload_n 3, 1), (10, .aload_n 0, 1), (11, .getfield 21, 3), (14, .iload_n 1, 1), (15, .iaload, 1), (16, .if_icmp .ge 22, 3), (19, .aload_n 0, 1), (20, .getfield 9, 3), (23, .iload_n 3, 1), (24, .iaload, 1), (25, .iconst 3, 1), (26, .if_icmp .gt 6, 3), (29, .iinc 2 1, 3), (32, .iinc 3 1, 3), (35, .goto (-26), 3), (38, .iload_n 2, 1), (39, .ireturn, 1)]
theorem tbX5_countTerms_0_ok : tbX5_countTerms_0.all (fun q => decide (decode cX5_countTerms q.1 = .ok q.2)) = true := by decide +kernel
theorem dX5_countTerms_0 : decode cX5_countTerms 0 = .ok (.iconst 0, 1) := xdt tbX5_countTerms_0_ok 0 rfl
theorem dX5_countTerms_1 : decode cX5_countTerms 1 = .ok (.istore_n 2, 1) := xdt tbX5_countTerms_0_ok 1 rfl
theorem dX5_countTerms_2 : decode cX5_countTerms 2 = .ok (.aload_n 0, 1) := xdt tbX5_countTerms_0_ok 2 rfl
theorem dX5_countTerms_3 : decode cX5_countTerms 3 = .ok (.getfield 18, 3) := xdt tbX5_countTerms_0_ok 3 rfl
theorem dX5_countTerms_6 : decode cX5_countTerms 6 = .ok (.iload_n 1, 1) := xdt tbX5_countTerms_0_ok 4 rfl
theorem dX5_countTerms_7 : decode cX5_countTerms 7 = .ok (.iaload, 1) := xdt tbX5_countTerms_0_ok 5 rfl
theorem dX5_countTerms_8 : decode cX5_countTerms 8 = .ok (.istore_n 3, 1) := xdt tbX5_countTerms_0_ok 6 rfl
theorem dX5_countTerms_9 : decode cX5_countTerms 9 = .ok (.iload_n 3, 1) := xdt tbX5_countTerms_0_ok 7 rfl
theorem dX5_countTerms_10 : decode cX5_countTerms 10 = .ok (.aload_n 0, 1) := xdt tbX5_countTerms_0_ok 8 rfl
theorem dX5_countTerms_11 : decode cX5_countTerms 11 = .ok (.getfield 21, 3) := xdt tbX5_countTerms_0_ok 9 rfl
theorem dX5_countTerms_14 : decode cX5_countTerms 14 = .ok (.iload_n 1, 1) := xdt tbX5_countTerms_0_ok 10 rfl
theorem dX5_countTerms_15 : decode cX5_countTerms 15 = .ok (.iaload, 1) := xdt tbX5_countTerms_0_ok 11 rfl
theorem dX5_countTerms_16 : decode cX5_countTerms 16 = .ok (.if_icmp .ge 22, 3) := xdt tbX5_countTerms_0_ok 12 rfl
theorem dX5_countTerms_19 : decode cX5_countTerms 19 = .ok (.aload_n 0, 1) := xdt tbX5_countTerms_0_ok 13 rfl
theorem dX5_countTerms_20 : decode cX5_countTerms 20 = .ok (.getfield 9, 3) := xdt tbX5_countTerms_0_ok 14 rfl
theorem dX5_countTerms_23 : decode cX5_countTerms 23 = .ok (.iload_n 3, 1) := xdt tbX5_countTerms_0_ok 15 rfl
theorem dX5_countTerms_24 : decode cX5_countTerms 24 = .ok (.iaload, 1) := xdt tbX5_countTerms_0_ok 16 rfl
theorem dX5_countTerms_25 : decode cX5_countTerms 25 = .ok (.iconst 3, 1) := xdt tbX5_countTerms_0_ok 17 rfl
theorem dX5_countTerms_26 : decode cX5_countTerms 26 = .ok (.if_icmp .gt 6, 3) := xdt tbX5_countTerms_0_ok 18 rfl
theorem dX5_countTerms_29 : decode cX5_countTerms 29 = .ok (.iinc 2 1, 3) := xdt tbX5_countTerms_0_ok 19 rfl
theorem dX5_countTerms_32 : decode cX5_countTerms 32 = .ok (.iinc 3 1, 3) := xdt tbX5_countTerms_0_ok 20 rfl
theorem dX5_countTerms_35 : decode cX5_countTerms 35 = .ok (.goto (-26), 3) := xdt tbX5_countTerms_0_ok 21 rfl
theorem dX5_countTerms_38 : decode cX5_countTerms 38 = .ok (.iload_n 2, 1) := xdt tbX5_countTerms_0_ok 22 rfl
theorem dX5_countTerms_39 : decode cX5_countTerms 39 = .ok (.ireturn, 1) := xdt tbX5_countTerms_0_ok 23 rfl
def tbX6_memberNamed_0 : List (Nat × Instr × Nat) := [(0, .iload_n 2, 1), (1, .ifCond .lt 23, 3), (4, .iload_n 2, 1), (5, .bipush 26, 2), (7, .if_icmp .ge 17, 3), (10, .aload_n 0, 1), (11, .getfield 39, 3), (14, .iload_n 1, 1), (15, .bipush 26, 2), (17, .imul, 1), (18, .iload_n 2, 1), (19, .iadd, 1), (20, .iaload, 1), (21, .goto 4, 3), (24, .iconst (-1), 1), (25, .ireturn, 1)]
theorem tbX6_memberNamed_0_ok : tbX6_memberNamed_0.all (fun q => decide (decode cX6_memberNamed q.1 = .ok q.2)) = true := by decide +kernel
theorem dX6_memberNamed_0 : decode cX6_memberNamed 0 = .ok (.iload_n 2, 1) := xdt tbX6_memberNamed_0_ok 0 rfl
theorem dX6_memberNamed_1 : decode cX6_memberNamed 1 = .ok (.ifCond .lt 23, 3) := xdt tbX6_memberNamed_0_ok 1 rfl
theorem dX6_memberNamed_4 : decode cX6_memberNamed 4 = .ok (.iload_n 2, 1) := xdt tbX6_memberNamed_0_ok 2 rfl
theorem dX6_memberNamed_5 : decode cX6_memberNamed 5 = .ok (.bipush 26, 2) := xdt tbX6_memberNamed_0_ok 3 rfl
theorem dX6_memberNamed_7 : decode cX6_memberNamed 7 = .ok (.if_icmp .ge 17, 3) := xdt tbX6_memberNamed_0_ok 4 rfl
theorem dX6_memberNamed_10 : decode cX6_memberNamed 10 = .ok (.aload_n 0, 1) := xdt tbX6_memberNamed_0_ok 5 rfl
theorem dX6_memberNamed_11 : decode cX6_memberNamed 11 = .ok (.getfield 39, 3) := xdt tbX6_memberNamed_0_ok 6 rfl
theorem dX6_memberNamed_14 : decode cX6_memberNamed 14 = .ok (.iload_n 1, 1) := xdt tbX6_memberNamed_0_ok 7 rfl
theorem dX6_memberNamed_15 : decode cX6_memberNamed 15 = .ok (.bipush 26, 2) := xdt tbX6_memberNamed_0_ok 8 rfl
theorem dX6_memberNamed_17 : decode cX6_memberNamed 17 = .ok (.imul, 1) := xdt tbX6_memberNamed_0_ok 9 rfl
theorem dX6_memberNamed_18 : decode cX6_memberNamed 18 = .ok (.iload_n 2, 1) := xdt tbX6_memberNamed_0_ok 10 rfl
theorem dX6_memberNamed_19 : decode cX6_memberNamed 19 = .ok (.iadd, 1) := xdt tbX6_memberNamed_0_ok 11 rfl
theorem dX6_memberNamed_20 : decode cX6_memberNamed 20 = .ok (.iaload, 1) := xdt tbX6_memberNamed_0_ok 12 rfl
theorem dX6_memberNamed_21 : decode cX6_memberNamed 21 = .ok (.goto 4, 3) := xdt tbX6_memberNamed_0_ok 13 rfl
theorem dX6_memberNamed_24 : decode cX6_memberNamed 24 = .ok (.iconst (-1), 1) := xdt tbX6_memberNamed_0_ok 14 rfl
theorem dX6_memberNamed_25 : decode cX6_memberNamed 25 = .ok (.ireturn, 1) := xdt tbX6_memberNamed_0_ok 15 rfl
def tbX6_nameOf_0 : List (Nat × Instr × Nat) := [(0, .aload_n 0, 1), (1, .getfield 21, 3), (4, .iload_n 1, 1), (5, .iaload, 1), (6, .iconst 3, 1), (7, .if_icmp .ne 25, 3), (10, .aload_n 0, 1), (11, .getfield 24, 3), (14, .aload_n 0, 1), (15, .getfield 48, 3), (18, .getfield 71, 3), (21, .aload_n 0, 1), (22, .getfield 30, 3), (25, .iload_n 1, 1), (26, .iaload, 1), (27, .iaload, 1), (28, .iaload, 1), (29, .goto 9, 3), (32, .aload_n 0, 1), (33, .getfield 24, 3), (36, .iload_n 1, 1), (37, .iaload, 1), (38, .ireturn, 1)]
theorem tbX6_nameOf_0_ok : tbX6_nameOf_0.all (fun q => decide (decode cX6_nameOf q.1 = .ok q.2)) = true := by decide +kernel
theorem dX6_nameOf_0 : decode cX6_nameOf 0 = .ok (.aload_n 0, 1) := xdt tbX6_nameOf_0_ok 0 rfl
theorem dX6_nameOf_1 : decode cX6_nameOf 1 = .ok (.getfield 21, 3) := xdt tbX6_nameOf_0_ok 1 rfl
theorem dX6_nameOf_4 : decode cX6_nameOf 4 = .ok (.iload_n 1, 1) := xdt tbX6_nameOf_0_ok 2 rfl
theorem dX6_nameOf_5 : decode cX6_nameOf 5 = .ok (.iaload, 1) := xdt tbX6_nameOf_0_ok 3 rfl
theorem dX6_nameOf_6 : decode cX6_nameOf 6 = .ok (.iconst 3, 1) := xdt tbX6_nameOf_0_ok 4 rfl
theorem dX6_nameOf_7 : decode cX6_nameOf 7 = .ok (.if_icmp .ne 25, 3) := xdt tbX6_nameOf_0_ok 5 rfl
theorem dX6_nameOf_10 : decode cX6_nameOf 10 = .ok (.aload_n 0, 1) := xdt tbX6_nameOf_0_ok 6 rfl
theorem dX6_nameOf_11 : decode cX6_nameOf 11 = .ok (.getfield 24, 3) := xdt tbX6_nameOf_0_ok 7 rfl
theorem dX6_nameOf_14 : decode cX6_nameOf 14 = .ok (.aload_n 0, 1) := xdt tbX6_nameOf_0_ok 8 rfl
theorem dX6_nameOf_15 : decode cX6_nameOf 15 = .ok (.getfield 48, 3) := xdt tbX6_nameOf_0_ok 9 rfl
theorem dX6_nameOf_18 : decode cX6_nameOf 18 = .ok (.getfield 71, 3) := xdt tbX6_nameOf_0_ok 10 rfl
theorem dX6_nameOf_21 : decode cX6_nameOf 21 = .ok (.aload_n 0, 1) := xdt tbX6_nameOf_0_ok 11 rfl
theorem dX6_nameOf_22 : decode cX6_nameOf 22 = .ok (.getfield 30, 3) := xdt tbX6_nameOf_0_ok 12 rfl
theorem dX6_nameOf_25 : decode cX6_nameOf 25 = .ok (.iload_n 1, 1) := xdt tbX6_nameOf_0_ok 13 rfl
theorem dX6_nameOf_26 : decode cX6_nameOf 26 = .ok (.iaload, 1) := xdt tbX6_nameOf_0_ok 14 rfl
theorem dX6_nameOf_27 : decode cX6_nameOf 27 = .ok (.iaload, 1) := xdt tbX6_nameOf_0_ok 15 rfl
theorem dX6_nameOf_28 : decode cX6_nameOf 28 = .ok (.iaload, 1) := xdt tbX6_nameOf_0_ok 16 rfl
theorem dX6_nameOf_29 : decode cX6_nameOf 29 = .ok (.goto 9, 3) := xdt tbX6_nameOf_0_ok 17 rfl
theorem dX6_nameOf_32 : decode cX6_nameOf 32 = .ok (.aload_n 0, 1) := xdt tbX6_nameOf_0_ok 18 rfl
theorem dX6_nameOf_33 : decode cX6_nameOf 33 = .ok (.getfield 24, 3) := xdt tbX6_nameOf_0_ok 19 rfl
theorem dX6_nameOf_36 : decode cX6_nameOf 36 = .ok (.iload_n 1, 1) := xdt tbX6_nameOf_0_ok 20 rfl
theorem dX6_nameOf_37 : decode cX6_nameOf 37 = .ok (.iaload, 1) := xdt tbX6_nameOf_0_ok 21 rfl
theorem dX6_nameOf_38 : decode cX6_nameOf 38 = .ok (.ireturn, 1) := xdt tbX6_nameOf_0_ok 22 rfl
def tbX6_termsOf_0 : List (Nat × Instr × Nat) := [(0, .aload_n 0, 1), (1, .getfield 30, 3), (4, .iload_n 1, 1), (5, .iaload, 1), (6, .iconst (-1), 1), (7, .if_icmp .ne 5, 3), (10, .iconst 0, 1), (11, .ireturn, 1), (12, .aload_n 0, 1), (13, .getfield 48, 3), (16, .aload_n 0, 1), (17, .getfield 21, 3), (20, .iload_n 1, 1), (21, .iaload, 1), (22, .iconst 4, 1), (23, .if_icmp .ne 19, 3), (26, .aload_n 0, 1), (27, .getfield 30, 3), (30, .iload_n 1, 1), (31, .iaload, 1), (32, .aload_n 0, 1), (33, .getfield 27, 3), (36, .iload_n 1, 1), (37, .iaload, 1), (38, .iadd, 1), (39, .goto 9, 3), (42, .aload_n 0, 1), (43, .getfield 30, 3), (46, .iload_n 1, 1), (47, .iaload, 1), (48, .invokevirtual 74, 3), (51, .ireturn, 1)]
theorem tbX6_termsOf_0_ok : tbX6_termsOf_0.all (fun q => decide (decode cX6_termsOf q.1 = .ok q.2)) = true := by decide +kernel
theorem dX6_termsOf_0 : decode cX6_termsOf 0 = .ok (.aload_n 0, 1) := xdt tbX6_termsOf_0_ok 0 rfl
theorem dX6_termsOf_1 : decode cX6_termsOf 1 = .ok (.getfield 30, 3) := xdt tbX6_termsOf_0_ok 1 rfl
theorem dX6_termsOf_4 : decode cX6_termsOf 4 = .ok (.iload_n 1, 1) := xdt tbX6_termsOf_0_ok 2 rfl
theorem dX6_termsOf_5 : decode cX6_termsOf 5 = .ok (.iaload, 1) := xdt tbX6_termsOf_0_ok 3 rfl
theorem dX6_termsOf_6 : decode cX6_termsOf 6 = .ok (.iconst (-1), 1) := xdt tbX6_termsOf_0_ok 4 rfl
theorem dX6_termsOf_7 : decode cX6_termsOf 7 = .ok (.if_icmp .ne 5, 3) := xdt tbX6_termsOf_0_ok 5 rfl
theorem dX6_termsOf_10 : decode cX6_termsOf 10 = .ok (.iconst 0, 1) := xdt tbX6_termsOf_0_ok 6 rfl
theorem dX6_termsOf_11 : decode cX6_termsOf 11 = .ok (.ireturn, 1) := xdt tbX6_termsOf_0_ok 7 rfl
theorem dX6_termsOf_12 : decode cX6_termsOf 12 = .ok (.aload_n 0, 1) := xdt tbX6_termsOf_0_ok 8 rfl
theorem dX6_termsOf_13 : decode cX6_termsOf 13 = .ok (.getfield 48, 3) := xdt tbX6_termsOf_0_ok 9 rfl
theorem dX6_termsOf_16 : decode cX6_termsOf 16 = .ok (.aload_n 0, 1) := xdt tbX6_termsOf_0_ok 10 rfl
theorem dX6_termsOf_17 : decode cX6_termsOf 17 = .ok (.getfield 21, 3) := xdt tbX6_termsOf_0_ok 11 rfl
theorem dX6_termsOf_20 : decode cX6_termsOf 20 = .ok (.iload_n 1, 1) := xdt tbX6_termsOf_0_ok 12 rfl
theorem dX6_termsOf_21 : decode cX6_termsOf 21 = .ok (.iaload, 1) := xdt tbX6_termsOf_0_ok 13 rfl
theorem dX6_termsOf_22 : decode cX6_termsOf 22 = .ok (.iconst 4, 1) := xdt tbX6_termsOf_0_ok 14 rfl
theorem dX6_termsOf_23 : decode cX6_termsOf 23 = .ok (.if_icmp .ne 19, 3) := xdt tbX6_termsOf_0_ok 15 rfl
theorem dX6_termsOf_26 : decode cX6_termsOf 26 = .ok (.aload_n 0, 1) := xdt tbX6_termsOf_0_ok 16 rfl
theorem dX6_termsOf_27 : decode cX6_termsOf 27 = .ok (.getfield 30, 3) := xdt tbX6_termsOf_0_ok 17 rfl
theorem dX6_termsOf_30 : decode cX6_termsOf 30 = .ok (.iload_n 1, 1) := xdt tbX6_termsOf_0_ok 18 rfl
theorem dX6_termsOf_31 : decode cX6_termsOf 31 = .ok (.iaload, 1) := xdt tbX6_termsOf_0_ok 19 rfl
theorem dX6_termsOf_32 : decode cX6_termsOf 32 = .ok (.aload_n 0, 1) := xdt tbX6_termsOf_0_ok 20 rfl
theorem dX6_termsOf_33 : decode cX6_termsOf 33 = .ok (.getfield 27, 3) := xdt tbX6_termsOf_0_ok 21 rfl
theorem dX6_termsOf_36 : decode cX6_termsOf 36 = .ok (.iload_n 1, 1) := xdt tbX6_termsOf_0_ok 22 rfl
theorem dX6_termsOf_37 : decode cX6_termsOf 37 = .ok (.iaload, 1) := xdt tbX6_termsOf_0_ok 23 rfl
theorem dX6_termsOf_38 : decode cX6_termsOf 38 = .ok (.iadd, 1) := xdt tbX6_termsOf_0_ok 24 rfl
theorem dX6_termsOf_39 : decode cX6_termsOf 39 = .ok (.goto 9, 3) := xdt tbX6_termsOf_0_ok 25 rfl
theorem dX6_termsOf_42 : decode cX6_termsOf 42 = .ok (.aload_n 0, 1) := xdt tbX6_termsOf_0_ok 26 rfl
theorem dX6_termsOf_43 : decode cX6_termsOf 43 = .ok (.getfield 30, 3) := xdt tbX6_termsOf_0_ok 27 rfl
theorem dX6_termsOf_46 : decode cX6_termsOf 46 = .ok (.iload_n 1, 1) := xdt tbX6_termsOf_0_ok 28 rfl
theorem dX6_termsOf_47 : decode cX6_termsOf 47 = .ok (.iaload, 1) := xdt tbX6_termsOf_0_ok 29 rfl
theorem dX6_termsOf_48 : decode cX6_termsOf 48 = .ok (.invokevirtual 74, 3) := xdt tbX6_termsOf_0_ok 30 rfl
theorem dX6_termsOf_51 : decode cX6_termsOf 51 = .ok (.ireturn, 1) := xdt tbX6_termsOf_0_ok 31 rfl
def tbX6_detailOf_0 : List (Nat × Instr × Nat) := [(0, .aload_n 0, 1), (1, .getfield 21, 3), (4, .iload_n 1, 1), (5, .iaload, 1), (6, .iconst 3, 1), (7, .if_icmp .ne 23, 3), (10, .aload_n 0, 1), (11, .getfield 48, 3), (14, .getfield 71, 3), (17, .aload_n 0, 1), (18, .getfield 30, 3), (21, .iload_n 1, 1), (22, .iaload, 1), (23, .iaload, 1), (24, .bipush 12, 2), (26, .idiv, 1), (27, .goto 9, 3), (30, .aload_n 0, 1), (31, .getfield 27, 3), (34, .iload_n 1, 1), (35, .iaload, 1), (36, .ireturn, 1)]
theorem tbX6_detailOf_0_ok : tbX6_detailOf_0.all (fun q => decide (decode cX6_detailOf q.1 = .ok q.2)) = true := by decide +kernel
theorem dX6_detailOf_0 : decode cX6_detailOf 0 = .ok (.aload_n 0, 1) := xdt tbX6_detailOf_0_ok 0 rfl
theorem dX6_detailOf_1 : decode cX6_detailOf 1 = .ok (.getfield 21, 3) := xdt tbX6_detailOf_0_ok 1 rfl
theorem dX6_detailOf_4 : decode cX6_detailOf 4 = .ok (.iload_n 1, 1) := xdt tbX6_detailOf_0_ok 2 rfl
theorem dX6_detailOf_5 : decode cX6_detailOf 5 = .ok (.iaload, 1) := xdt tbX6_detailOf_0_ok 3 rfl
theorem dX6_detailOf_6 : decode cX6_detailOf 6 = .ok (.iconst 3, 1) := xdt tbX6_detailOf_0_ok 4 rfl
theorem dX6_detailOf_7 : decode cX6_detailOf 7 = .ok (.if_icmp .ne 23, 3) := xdt tbX6_detailOf_0_ok 5 rfl
theorem dX6_detailOf_10 : decode cX6_detailOf 10 = .ok (.aload_n 0, 1) := xdt tbX6_detailOf_0_ok 6 rfl
theorem dX6_detailOf_11 : decode cX6_detailOf 11 = .ok (.getfield 48, 3) := xdt tbX6_detailOf_0_ok 7 rfl
theorem dX6_detailOf_14 : decode cX6_detailOf 14 = .ok (.getfield 71, 3) := xdt tbX6_detailOf_0_ok 8 rfl
theorem dX6_detailOf_17 : decode cX6_detailOf 17 = .ok (.aload_n 0, 1) := xdt tbX6_detailOf_0_ok 9 rfl
theorem dX6_detailOf_18 : decode cX6_detailOf 18 = .ok (.getfield 30, 3) := xdt tbX6_detailOf_0_ok 10 rfl
theorem dX6_detailOf_21 : decode cX6_detailOf 21 = .ok (.iload_n 1, 1) := xdt tbX6_detailOf_0_ok 11 rfl
theorem dX6_detailOf_22 : decode cX6_detailOf 22 = .ok (.iaload, 1) := xdt tbX6_detailOf_0_ok 12 rfl
theorem dX6_detailOf_23 : decode cX6_detailOf 23 = .ok (.iaload, 1) := xdt tbX6_detailOf_0_ok 13 rfl
theorem dX6_detailOf_24 : decode cX6_detailOf 24 = .ok (.bipush 12, 2) := xdt tbX6_detailOf_0_ok 14 rfl
theorem dX6_detailOf_26 : decode cX6_detailOf 26 = .ok (.idiv, 1) := xdt tbX6_detailOf_0_ok 15 rfl
theorem dX6_detailOf_27 : decode cX6_detailOf 27 = .ok (.goto 9, 3) := xdt tbX6_detailOf_0_ok 16 rfl
theorem dX6_detailOf_30 : decode cX6_detailOf 30 = .ok (.aload_n 0, 1) := xdt tbX6_detailOf_0_ok 17 rfl
theorem dX6_detailOf_31 : decode cX6_detailOf 31 = .ok (.getfield 27, 3) := xdt tbX6_detailOf_0_ok 18 rfl
theorem dX6_detailOf_34 : decode cX6_detailOf 34 = .ok (.iload_n 1, 1) := xdt tbX6_detailOf_0_ok 19 rfl
theorem dX6_detailOf_35 : decode cX6_detailOf 35 = .ok (.iaload, 1) := xdt tbX6_detailOf_0_ok 20 rfl
theorem dX6_detailOf_36 : decode cX6_detailOf 36 = .ok (.ireturn, 1) := xdt tbX6_detailOf_0_ok 21 rfl
