def tbL_text_0 : List (Nat × Instr × Nat) := [(0, .aload_n 2, 1), (1, .iconst 0, 1), (2, .aload_n 0, 1), (3, .iload_n 1, 1), (4, .invokevirtual 7, 3), (7, .i2l, 1), (8, .lastore, 1), (9, .goto 6, 3), (12, .astore_n 3, 1), (13, .iconst 1, 1), (14, .ireturn, 1), (15, .iconst 0, 1), (16, .ireturn, 1)]
theorem tbL_text_0_ok : tbL_text_0.all (fun q => decide (decode cL_text q.1 = .ok q.2)) = true := by decide +kernel
theorem dL_text_0 : decode cL_text 0 = .ok (.aload_n 2, 1) := xdt tbL_text_0_ok 0 rfl
theorem dL_text_1 : decode cL_text 1 = .ok (.iconst 0, 1) := xdt tbL_text_0_ok 1 rfl
theorem dL_text_2 : decode cL_text 2 = .ok (.aload_n 0, 1) := xdt tbL_text_0_ok 2 rfl
theorem dL_text_3 : decode cL_text 3 = .ok (.iload_n 1, 1) := xdt tbL_text_0_ok 3 rfl
theorem dL_text_4 : decode cL_text 4 = .ok (.invokevirtual 7, 3) := xdt tbL_text_0_ok 4 rfl
theorem dL_text_7 : decode cL_text 7 = .ok (.i2l, 1) := xdt tbL_text_0_ok 5 rfl
theorem dL_text_8 : decode cL_text 8 = .ok (.lastore, 1) := xdt tbL_text_0_ok 6 rfl
theorem dL_text_9 : decode cL_text 9 = .ok (.goto 6, 3) := xdt tbL_text_0_ok 7 rfl
theorem dL_text_12 : decode cL_text 12 = .ok (.astore_n 3, 1) := xdt tbL_text_0_ok 8 rfl
theorem dL_text_13 : decode cL_text 13 = .ok (.iconst 1, 1) := xdt tbL_text_0_ok 9 rfl
theorem dL_text_14 : decode cL_text 14 = .ok (.ireturn, 1) := xdt tbL_text_0_ok 10 rfl
theorem dL_text_15 : decode cL_text 15 = .ok (.iconst 0, 1) := xdt tbL_text_0_ok 11 rfl
theorem dL_text_16 : decode cL_text 16 = .ok (.ireturn, 1) := xdt tbL_text_0_ok 12 rfl
def tbL_move_0 : List (Nat × Instr × Nat) := [(0, .aload 4, 2), (2, .iconst 0, 1), (3, .aload_n 0, 1), (4, .iload_n 1, 1), (5, .iload_n 2, 1), (6, .iload_n 3, 1), (7, .invokevirtual 15, 3), (10, .i2l, 1), (11, .lastore, 1), (12, .goto 7, 3), (15, .astore 5, 2), (17, .iconst 1, 1), (18, .ireturn, 1), (19, .iconst 0, 1), (20, .ireturn, 1)]
theorem tbL_move_0_ok : tbL_move_0.all (fun q => decide (decode cL_move q.1 = .ok q.2)) = true := by decide +kernel
theorem dL_move_0 : decode cL_move 0 = .ok (.aload 4, 2) := xdt tbL_move_0_ok 0 rfl
theorem dL_move_2 : decode cL_move 2 = .ok (.iconst 0, 1) := xdt tbL_move_0_ok 1 rfl
theorem dL_move_3 : decode cL_move 3 = .ok (.aload_n 0, 1) := xdt tbL_move_0_ok 2 rfl
theorem dL_move_4 : decode cL_move 4 = .ok (.iload_n 1, 1) := xdt tbL_move_0_ok 3 rfl
theorem dL_move_5 : decode cL_move 5 = .ok (.iload_n 2, 1) := xdt tbL_move_0_ok 4 rfl
theorem dL_move_6 : decode cL_move 6 = .ok (.iload_n 3, 1) := xdt tbL_move_0_ok 5 rfl
theorem dL_move_7 : decode cL_move 7 = .ok (.invokevirtual 15, 3) := xdt tbL_move_0_ok 6 rfl
theorem dL_move_10 : decode cL_move 10 = .ok (.i2l, 1) := xdt tbL_move_0_ok 7 rfl
theorem dL_move_11 : decode cL_move 11 = .ok (.lastore, 1) := xdt tbL_move_0_ok 8 rfl
theorem dL_move_12 : decode cL_move 12 = .ok (.goto 7, 3) := xdt tbL_move_0_ok 9 rfl
theorem dL_move_15 : decode cL_move 15 = .ok (.astore 5, 2) := xdt tbL_move_0_ok 10 rfl
theorem dL_move_17 : decode cL_move 17 = .ok (.iconst 1, 1) := xdt tbL_move_0_ok 11 rfl
theorem dL_move_18 : decode cL_move 18 = .ok (.ireturn, 1) := xdt tbL_move_0_ok 12 rfl
theorem dL_move_19 : decode cL_move 19 = .ok (.iconst 0, 1) := xdt tbL_move_0_ok 13 rfl
theorem dL_move_20 : decode cL_move 20 = .ok (.ireturn, 1) := xdt tbL_move_0_ok 14 rfl
def tbL_turn_0 : List (Nat × Instr × Nat) := [(0, .aload_n 3, 1), (1, .iconst 0, 1), (2, .aload_n 0, 1), (3, .iload_n 1, 1), (4, .iload_n 2, 1), (5, .invokevirtual 21, 3), (8, .i2l, 1), (9, .lastore, 1), (10, .goto 7, 3), (13, .astore 4, 2), (15, .iconst 1, 1), (16, .ireturn, 1), (17, .iconst 0, 1), (18, .ireturn, 1)]
theorem tbL_turn_0_ok : tbL_turn_0.all (fun q => decide (decode cL_turn q.1 = .ok q.2)) = true := by decide +kernel
theorem dL_turn_0 : decode cL_turn 0 = .ok (.aload_n 3, 1) := xdt tbL_turn_0_ok 0 rfl
theorem dL_turn_1 : decode cL_turn 1 = .ok (.iconst 0, 1) := xdt tbL_turn_0_ok 1 rfl
theorem dL_turn_2 : decode cL_turn 2 = .ok (.aload_n 0, 1) := xdt tbL_turn_0_ok 2 rfl
theorem dL_turn_3 : decode cL_turn 3 = .ok (.iload_n 1, 1) := xdt tbL_turn_0_ok 3 rfl
theorem dL_turn_4 : decode cL_turn 4 = .ok (.iload_n 2, 1) := xdt tbL_turn_0_ok 4 rfl
theorem dL_turn_5 : decode cL_turn 5 = .ok (.invokevirtual 21, 3) := xdt tbL_turn_0_ok 5 rfl
theorem dL_turn_8 : decode cL_turn 8 = .ok (.i2l, 1) := xdt tbL_turn_0_ok 6 rfl
theorem dL_turn_9 : decode cL_turn 9 = .ok (.lastore, 1) := xdt tbL_turn_0_ok 7 rfl
theorem dL_turn_10 : decode cL_turn 10 = .ok (.goto 7, 3) := xdt tbL_turn_0_ok 8 rfl
theorem dL_turn_13 : decode cL_turn 13 = .ok (.astore 4, 2) := xdt tbL_turn_0_ok 9 rfl
theorem dL_turn_15 : decode cL_turn 15 = .ok (.iconst 1, 1) := xdt tbL_turn_0_ok 10 rfl
theorem dL_turn_16 : decode cL_turn 16 = .ok (.ireturn, 1) := xdt tbL_turn_0_ok 11 rfl
theorem dL_turn_17 : decode cL_turn 17 = .ok (.iconst 0, 1) := xdt tbL_turn_0_ok 12 rfl
theorem dL_turn_18 : decode cL_turn 18 = .ok (.ireturn, 1) := xdt tbL_turn_0_ok 13 rfl
def tbL_told_0 : List (Nat × Instr × Nat) := [(0, .aload_n 2, 1), (1, .iconst 0, 1), (2, .aload_n 0, 1), (3, .iload_n 1, 1), (4, .invokevirtual 25, 3), (7, .i2l, 1), (8, .lastore, 1), (9, .goto 6, 3), (12, .astore_n 3, 1), (13, .iconst 1, 1), (14, .ireturn, 1), (15, .iconst 0, 1), (16, .ireturn, 1)]
theorem tbL_told_0_ok : tbL_told_0.all (fun q => decide (decode cL_told q.1 = .ok q.2)) = true := by decide +kernel
theorem dL_told_0 : decode cL_told 0 = .ok (.aload_n 2, 1) := xdt tbL_told_0_ok 0 rfl
theorem dL_told_1 : decode cL_told 1 = .ok (.iconst 0, 1) := xdt tbL_told_0_ok 1 rfl
theorem dL_told_2 : decode cL_told 2 = .ok (.aload_n 0, 1) := xdt tbL_told_0_ok 2 rfl
theorem dL_told_3 : decode cL_told 3 = .ok (.iload_n 1, 1) := xdt tbL_told_0_ok 3 rfl
theorem dL_told_4 : decode cL_told 4 = .ok (.invokevirtual 25, 3) := xdt tbL_told_0_ok 4 rfl
theorem dL_told_7 : decode cL_told 7 = .ok (.i2l, 1) := xdt tbL_told_0_ok 5 rfl
theorem dL_told_8 : decode cL_told 8 = .ok (.lastore, 1) := xdt tbL_told_0_ok 6 rfl
theorem dL_told_9 : decode cL_told 9 = .ok (.goto 6, 3) := xdt tbL_told_0_ok 7 rfl
theorem dL_told_12 : decode cL_told 12 = .ok (.astore_n 3, 1) := xdt tbL_told_0_ok 8 rfl
theorem dL_told_13 : decode cL_told 13 = .ok (.iconst 1, 1) := xdt tbL_told_0_ok 9 rfl
theorem dL_told_14 : decode cL_told 14 = .ok (.ireturn, 1) := xdt tbL_told_0_ok 10 rfl
theorem dL_told_15 : decode cL_told 15 = .ok (.iconst 0, 1) := xdt tbL_told_0_ok 11 rfl
theorem dL_told_16 : decode cL_told 16 = .ok (.ireturn, 1) := xdt tbL_told_0_ok 12 rfl
def tbL_unit_0 : List (Nat × Instr × Nat) := [(0, .aload_n 3, 1), (1, .iconst 0, 1), (2, .aload_n 0, 1), (3, .iload_n 1, 1), (4, .iload_n 2, 1), (5, .invokevirtual 28, 3), (8, .i2l, 1), (9, .lastore, 1), (10, .goto 11, 3), (13, .astore 4, 2), (15, .iconst 1, 1), (16, .ireturn, 1), (17, .astore 4, 2), (19, .iconst 2, 1), (20, .ireturn, 1), (21, .iconst 0, 1), (22, .ireturn, 1)]
theorem tbL_unit_0_ok : tbL_unit_0.all (fun q => decide (decode cL_unit q.1 = .ok q.2)) = true := by decide +kernel
theorem dL_unit_0 : decode cL_unit 0 = .ok (.aload_n 3, 1) := xdt tbL_unit_0_ok 0 rfl
theorem dL_unit_1 : decode cL_unit 1 = .ok (.iconst 0, 1) := xdt tbL_unit_0_ok 1 rfl
theorem dL_unit_2 : decode cL_unit 2 = .ok (.aload_n 0, 1) := xdt tbL_unit_0_ok 2 rfl
theorem dL_unit_3 : decode cL_unit 3 = .ok (.iload_n 1, 1) := xdt tbL_unit_0_ok 3 rfl
theorem dL_unit_4 : decode cL_unit 4 = .ok (.iload_n 2, 1) := xdt tbL_unit_0_ok 4 rfl
theorem dL_unit_5 : decode cL_unit 5 = .ok (.invokevirtual 28, 3) := xdt tbL_unit_0_ok 5 rfl
theorem dL_unit_8 : decode cL_unit 8 = .ok (.i2l, 1) := xdt tbL_unit_0_ok 6 rfl
theorem dL_unit_9 : decode cL_unit 9 = .ok (.lastore, 1) := xdt tbL_unit_0_ok 7 rfl
theorem dL_unit_10 : decode cL_unit 10 = .ok (.goto 11, 3) := xdt tbL_unit_0_ok 8 rfl
theorem dL_unit_13 : decode cL_unit 13 = .ok (.astore 4, 2) := xdt tbL_unit_0_ok 9 rfl
theorem dL_unit_15 : decode cL_unit 15 = .ok (.iconst 1, 1) := xdt tbL_unit_0_ok 10 rfl
theorem dL_unit_16 : decode cL_unit 16 = .ok (.ireturn, 1) := xdt tbL_unit_0_ok 11 rfl
theorem dL_unit_17 : decode cL_unit 17 = .ok (.astore 4, 2) := xdt tbL_unit_0_ok 12 rfl
theorem dL_unit_19 : decode cL_unit 19 = .ok (.iconst 2, 1) := xdt tbL_unit_0_ok 13 rfl
theorem dL_unit_20 : decode cL_unit 20 = .ok (.ireturn, 1) := xdt tbL_unit_0_ok 14 rfl
theorem dL_unit_21 : decode cL_unit 21 = .ok (.iconst 0, 1) := xdt tbL_unit_0_ok 15 rfl
theorem dL_unit_22 : decode cL_unit 22 = .ok (.ireturn, 1) := xdt tbL_unit_0_ok 16 rfl
def tbL_member_0 : List (Nat × Instr × Nat) := [(0, .aload 4, 2), (2, .iconst 0, 1), (3, .aload_n 0, 1), (4, .iload_n 1, 1), (5, .iload_n 2, 1), (6, .iload_n 3, 1), (7, .invokevirtual 31, 3), (10, .i2l, 1), (11, .lastore, 1), (12, .goto 11, 3), (15, .astore 5, 2), (17, .iconst 1, 1), (18, .ireturn, 1), (19, .astore 5, 2), (21, .iconst 2, 1), (22, .ireturn, 1), (23, .iconst 0, 1), (24, .ireturn, 1)]
theorem tbL_member_0_ok : tbL_member_0.all (fun q => decide (decode cL_member q.1 = .ok q.2)) = true := by decide +kernel
theorem dL_member_0 : decode cL_member 0 = .ok (.aload 4, 2) := xdt tbL_member_0_ok 0 rfl
theorem dL_member_2 : decode cL_member 2 = .ok (.iconst 0, 1) := xdt tbL_member_0_ok 1 rfl
theorem dL_member_3 : decode cL_member 3 = .ok (.aload_n 0, 1) := xdt tbL_member_0_ok 2 rfl
theorem dL_member_4 : decode cL_member 4 = .ok (.iload_n 1, 1) := xdt tbL_member_0_ok 3 rfl
theorem dL_member_5 : decode cL_member 5 = .ok (.iload_n 2, 1) := xdt tbL_member_0_ok 4 rfl
theorem dL_member_6 : decode cL_member 6 = .ok (.iload_n 3, 1) := xdt tbL_member_0_ok 5 rfl
theorem dL_member_7 : decode cL_member 7 = .ok (.invokevirtual 31, 3) := xdt tbL_member_0_ok 6 rfl
theorem dL_member_10 : decode cL_member 10 = .ok (.i2l, 1) := xdt tbL_member_0_ok 7 rfl
theorem dL_member_11 : decode cL_member 11 = .ok (.lastore, 1) := xdt tbL_member_0_ok 8 rfl
theorem dL_member_12 : decode cL_member 12 = .ok (.goto 11, 3) := xdt tbL_member_0_ok 9 rfl
theorem dL_member_15 : decode cL_member 15 = .ok (.astore 5, 2) := xdt tbL_member_0_ok 10 rfl
theorem dL_member_17 : decode cL_member 17 = .ok (.iconst 1, 1) := xdt tbL_member_0_ok 11 rfl
theorem dL_member_18 : decode cL_member 18 = .ok (.ireturn, 1) := xdt tbL_member_0_ok 12 rfl
theorem dL_member_19 : decode cL_member 19 = .ok (.astore 5, 2) := xdt tbL_member_0_ok 13 rfl
theorem dL_member_21 : decode cL_member 21 = .ok (.iconst 2, 1) := xdt tbL_member_0_ok 14 rfl
theorem dL_member_22 : decode cL_member 22 = .ok (.ireturn, 1) := xdt tbL_member_0_ok 15 rfl
theorem dL_member_23 : decode cL_member 23 = .ok (.iconst 0, 1) := xdt tbL_member_0_ok 16 rfl
theorem dL_member_24 : decode cL_member 24 = .ok (.ireturn, 1) := xdt tbL_member_0_ok 17 rfl
def tbL_lazy_0 : List (Nat × Instr × Nat) := [(0, .aload_n 2, 1), (1, .iconst 0, 1), (2, .aload_n 0, 1), (3, .iload_n 1, 1), (4, .invokevirtual 34, 3), (7, .i2l, 1), (8, .lastore, 1), (9, .goto 6, 3), (12, .astore_n 3, 1), (13, .iconst 1, 1), (14, .ireturn, 1), (15, .iconst 0, 1), (16, .ireturn, 1)]
theorem tbL_lazy_0_ok : tbL_lazy_0.all (fun q => decide (decode cL_lazy q.1 = .ok q.2)) = true := by decide +kernel
theorem dL_lazy_0 : decode cL_lazy 0 = .ok (.aload_n 2, 1) := xdt tbL_lazy_0_ok 0 rfl
theorem dL_lazy_1 : decode cL_lazy 1 = .ok (.iconst 0, 1) := xdt tbL_lazy_0_ok 1 rfl
theorem dL_lazy_2 : decode cL_lazy 2 = .ok (.aload_n 0, 1) := xdt tbL_lazy_0_ok 2 rfl
theorem dL_lazy_3 : decode cL_lazy 3 = .ok (.iload_n 1, 1) := xdt tbL_lazy_0_ok 3 rfl
theorem dL_lazy_4 : decode cL_lazy 4 = .ok (.invokevirtual 34, 3) := xdt tbL_lazy_0_ok 4 rfl
theorem dL_lazy_7 : decode cL_lazy 7 = .ok (.i2l, 1) := xdt tbL_lazy_0_ok 5 rfl
theorem dL_lazy_8 : decode cL_lazy 8 = .ok (.lastore, 1) := xdt tbL_lazy_0_ok 6 rfl
theorem dL_lazy_9 : decode cL_lazy 9 = .ok (.goto 6, 3) := xdt tbL_lazy_0_ok 7 rfl
theorem dL_lazy_12 : decode cL_lazy 12 = .ok (.astore_n 3, 1) := xdt tbL_lazy_0_ok 8 rfl
theorem dL_lazy_13 : decode cL_lazy 13 = .ok (.iconst 1, 1) := xdt tbL_lazy_0_ok 9 rfl
theorem dL_lazy_14 : decode cL_lazy 14 = .ok (.ireturn, 1) := xdt tbL_lazy_0_ok 10 rfl
theorem dL_lazy_15 : decode cL_lazy 15 = .ok (.iconst 0, 1) := xdt tbL_lazy_0_ok 11 rfl
theorem dL_lazy_16 : decode cL_lazy 16 = .ok (.ireturn, 1) := xdt tbL_lazy_0_ok 12 rfl
def tbL_eager_0 : List (Nat × Instr × Nat) := [(0, .aload_n 3, 1), (1, .iconst 0, 1), (2, .aload_n 0, 1), (3, .iload_n 1, 1), (4, .iload_n 2, 1), (5, .invokevirtual 37, 3), (8, .i2l, 1), (9, .lastore, 1), (10, .goto 7, 3), (13, .astore 4, 2), (15, .iconst 1, 1), (16, .ireturn, 1), (17, .iconst 0, 1), (18, .ireturn, 1)]
theorem tbL_eager_0_ok : tbL_eager_0.all (fun q => decide (decode cL_eager q.1 = .ok q.2)) = true := by decide +kernel
theorem dL_eager_0 : decode cL_eager 0 = .ok (.aload_n 3, 1) := xdt tbL_eager_0_ok 0 rfl
theorem dL_eager_1 : decode cL_eager 1 = .ok (.iconst 0, 1) := xdt tbL_eager_0_ok 1 rfl
theorem dL_eager_2 : decode cL_eager 2 = .ok (.aload_n 0, 1) := xdt tbL_eager_0_ok 2 rfl
theorem dL_eager_3 : decode cL_eager 3 = .ok (.iload_n 1, 1) := xdt tbL_eager_0_ok 3 rfl
theorem dL_eager_4 : decode cL_eager 4 = .ok (.iload_n 2, 1) := xdt tbL_eager_0_ok 4 rfl
theorem dL_eager_5 : decode cL_eager 5 = .ok (.invokevirtual 37, 3) := xdt tbL_eager_0_ok 5 rfl
theorem dL_eager_8 : decode cL_eager 8 = .ok (.i2l, 1) := xdt tbL_eager_0_ok 6 rfl
theorem dL_eager_9 : decode cL_eager 9 = .ok (.lastore, 1) := xdt tbL_eager_0_ok 7 rfl
theorem dL_eager_10 : decode cL_eager 10 = .ok (.goto 7, 3) := xdt tbL_eager_0_ok 8 rfl
theorem dL_eager_13 : decode cL_eager 13 = .ok (.astore 4, 2) := xdt tbL_eager_0_ok 9 rfl
theorem dL_eager_15 : decode cL_eager 15 = .ok (.iconst 1, 1) := xdt tbL_eager_0_ok 10 rfl
theorem dL_eager_16 : decode cL_eager 16 = .ok (.ireturn, 1) := xdt tbL_eager_0_ok 11 rfl
theorem dL_eager_17 : decode cL_eager 17 = .ok (.iconst 0, 1) := xdt tbL_eager_0_ok 12 rfl
theorem dL_eager_18 : decode cL_eager 18 = .ok (.ireturn, 1) := xdt tbL_eager_0_ok 13 rfl
def tbL_value_0 : List (Nat × Instr × Nat) := [(0, .aload_n 3, 1), (1, .iconst 0, 1), (2, .aload_n 0, 1), (3, .iload_n 1, 1), (4, .iload_n 2, 1), (5, .invokevirtual 40, 3), (8, .i2l, 1), (9, .lastore, 1), (10, .goto 7, 3), (13, .astore 4, 2), (15, .iconst 1, 1), (16, .ireturn, 1), (17, .iconst 0, 1), (18, .ireturn, 1)]
theorem tbL_value_0_ok : tbL_value_0.all (fun q => decide (decode cL_value q.1 = .ok q.2)) = true := by decide +kernel
theorem dL_value_0 : decode cL_value 0 = .ok (.aload_n 3, 1) := xdt tbL_value_0_ok 0 rfl
theorem dL_value_1 : decode cL_value 1 = .ok (.iconst 0, 1) := xdt tbL_value_0_ok 1 rfl
theorem dL_value_2 : decode cL_value 2 = .ok (.aload_n 0, 1) := xdt tbL_value_0_ok 2 rfl
theorem dL_value_3 : decode cL_value 3 = .ok (.iload_n 1, 1) := xdt tbL_value_0_ok 3 rfl
theorem dL_value_4 : decode cL_value 4 = .ok (.iload_n 2, 1) := xdt tbL_value_0_ok 4 rfl
theorem dL_value_5 : decode cL_value 5 = .ok (.invokevirtual 40, 3) := xdt tbL_value_0_ok 5 rfl
theorem dL_value_8 : decode cL_value 8 = .ok (.i2l, 1) := xdt tbL_value_0_ok 6 rfl
theorem dL_value_9 : decode cL_value 9 = .ok (.lastore, 1) := xdt tbL_value_0_ok 7 rfl
theorem dL_value_10 : decode cL_value 10 = .ok (.goto 7, 3) := xdt tbL_value_0_ok 8 rfl
theorem dL_value_13 : decode cL_value 13 = .ok (.astore 4, 2) := xdt tbL_value_0_ok 9 rfl
theorem dL_value_15 : decode cL_value 15 = .ok (.iconst 1, 1) := xdt tbL_value_0_ok 10 rfl
theorem dL_value_16 : decode cL_value 16 = .ok (.ireturn, 1) := xdt tbL_value_0_ok 11 rfl
theorem dL_value_17 : decode cL_value 17 = .ok (.iconst 0, 1) := xdt tbL_value_0_ok 12 rfl
theorem dL_value_18 : decode cL_value 18 = .ok (.ireturn, 1) := xdt tbL_value_0_ok 13 rfl
def tbL_state_0 : List (Nat × Instr × Nat) := [(0, .aload_n 2, 1), (1, .iconst 0, 1), (2, .aload_n 0, 1), (3, .iload_n 1, 1), (4, .invokevirtual 43, 3), (7, .i2l, 1), (8, .lastore, 1), (9, .goto 6, 3), (12, .astore_n 3, 1), (13, .iconst 1, 1), (14, .ireturn, 1), (15, .iconst 0, 1), (16, .ireturn, 1)]
theorem tbL_state_0_ok : tbL_state_0.all (fun q => decide (decode cL_state q.1 = .ok q.2)) = true := by decide +kernel
theorem dL_state_0 : decode cL_state 0 = .ok (.aload_n 2, 1) := xdt tbL_state_0_ok 0 rfl
theorem dL_state_1 : decode cL_state 1 = .ok (.iconst 0, 1) := xdt tbL_state_0_ok 1 rfl
theorem dL_state_2 : decode cL_state 2 = .ok (.aload_n 0, 1) := xdt tbL_state_0_ok 2 rfl
theorem dL_state_3 : decode cL_state 3 = .ok (.iload_n 1, 1) := xdt tbL_state_0_ok 3 rfl
theorem dL_state_4 : decode cL_state 4 = .ok (.invokevirtual 43, 3) := xdt tbL_state_0_ok 4 rfl
theorem dL_state_7 : decode cL_state 7 = .ok (.i2l, 1) := xdt tbL_state_0_ok 5 rfl
theorem dL_state_8 : decode cL_state 8 = .ok (.lastore, 1) := xdt tbL_state_0_ok 6 rfl
theorem dL_state_9 : decode cL_state 9 = .ok (.goto 6, 3) := xdt tbL_state_0_ok 7 rfl
theorem dL_state_12 : decode cL_state 12 = .ok (.astore_n 3, 1) := xdt tbL_state_0_ok 8 rfl
theorem dL_state_13 : decode cL_state 13 = .ok (.iconst 1, 1) := xdt tbL_state_0_ok 9 rfl
theorem dL_state_14 : decode cL_state 14 = .ok (.ireturn, 1) := xdt tbL_state_0_ok 10 rfl
theorem dL_state_15 : decode cL_state 15 = .ok (.iconst 0, 1) := xdt tbL_state_0_ok 11 rfl
theorem dL_state_16 : decode cL_state 16 = .ok (.ireturn, 1) := xdt tbL_state_0_ok 12 rfl
def tbL_surprise_0 : List (Nat × Instr × Nat) := [(0, .aload_n 3, 1), (1, .iconst 0, 1), (2, .aload_n 0, 1), (3, .iload_n 1, 1), (4, .iload_n 2, 1), (5, .invokevirtual 46, 3), (8, .i2l, 1), (9, .lastore, 1), (10, .goto 11, 3), (13, .astore 4, 2), (15, .iconst 1, 1), (16, .ireturn, 1), (17, .astore 4, 2), (19, .iconst 2, 1), (20, .ireturn, 1), (21, .iconst 0, 1), (22, .ireturn, 1)]
theorem tbL_surprise_0_ok : tbL_surprise_0.all (fun q => decide (decode cL_surprise q.1 = .ok q.2)) = true := by decide +kernel
theorem dL_surprise_0 : decode cL_surprise 0 = .ok (.aload_n 3, 1) := xdt tbL_surprise_0_ok 0 rfl
theorem dL_surprise_1 : decode cL_surprise 1 = .ok (.iconst 0, 1) := xdt tbL_surprise_0_ok 1 rfl
theorem dL_surprise_2 : decode cL_surprise 2 = .ok (.aload_n 0, 1) := xdt tbL_surprise_0_ok 2 rfl
theorem dL_surprise_3 : decode cL_surprise 3 = .ok (.iload_n 1, 1) := xdt tbL_surprise_0_ok 3 rfl
theorem dL_surprise_4 : decode cL_surprise 4 = .ok (.iload_n 2, 1) := xdt tbL_surprise_0_ok 4 rfl
theorem dL_surprise_5 : decode cL_surprise 5 = .ok (.invokevirtual 46, 3) := xdt tbL_surprise_0_ok 5 rfl
theorem dL_surprise_8 : decode cL_surprise 8 = .ok (.i2l, 1) := xdt tbL_surprise_0_ok 6 rfl
theorem dL_surprise_9 : decode cL_surprise 9 = .ok (.lastore, 1) := xdt tbL_surprise_0_ok 7 rfl
theorem dL_surprise_10 : decode cL_surprise 10 = .ok (.goto 11, 3) := xdt tbL_surprise_0_ok 8 rfl
theorem dL_surprise_13 : decode cL_surprise 13 = .ok (.astore 4, 2) := xdt tbL_surprise_0_ok 9 rfl
theorem dL_surprise_15 : decode cL_surprise 15 = .ok (.iconst 1, 1) := xdt tbL_surprise_0_ok 10 rfl
theorem dL_surprise_16 : decode cL_surprise 16 = .ok (.ireturn, 1) := xdt tbL_surprise_0_ok 11 rfl
theorem dL_surprise_17 : decode cL_surprise 17 = .ok (.astore 4, 2) := xdt tbL_surprise_0_ok 12 rfl
theorem dL_surprise_19 : decode cL_surprise 19 = .ok (.iconst 2, 1) := xdt tbL_surprise_0_ok 13 rfl
theorem dL_surprise_20 : decode cL_surprise 20 = .ok (.ireturn, 1) := xdt tbL_surprise_0_ok 14 rfl
theorem dL_surprise_21 : decode cL_surprise 21 = .ok (.iconst 0, 1) := xdt tbL_surprise_0_ok 15 rfl
theorem dL_surprise_22 : decode cL_surprise 22 = .ok (.ireturn, 1) := xdt tbL_surprise_0_ok 16 rfl
def tbL_trace_0 : List (Nat × Instr × Nat) := [(0, .aload_n 3, 1), (1, .iconst 0, 1), (2, .aload_n 0, 1), (3, .iload_n 1, 1), (4, .iload_n 2, 1), (5, .invokevirtual 49, 3), (8, .i2l, 1), (9, .lastore, 1), (10, .goto 7, 3), (13, .astore 4, 2), (15, .iconst 1, 1), (16, .ireturn, 1), (17, .iconst 0, 1), (18, .ireturn, 1)]
theorem tbL_trace_0_ok : tbL_trace_0.all (fun q => decide (decode cL_trace q.1 = .ok q.2)) = true := by decide +kernel
theorem dL_trace_0 : decode cL_trace 0 = .ok (.aload_n 3, 1) := xdt tbL_trace_0_ok 0 rfl
theorem dL_trace_1 : decode cL_trace 1 = .ok (.iconst 0, 1) := xdt tbL_trace_0_ok 1 rfl
theorem dL_trace_2 : decode cL_trace 2 = .ok (.aload_n 0, 1) := xdt tbL_trace_0_ok 2 rfl
theorem dL_trace_3 : decode cL_trace 3 = .ok (.iload_n 1, 1) := xdt tbL_trace_0_ok 3 rfl
theorem dL_trace_4 : decode cL_trace 4 = .ok (.iload_n 2, 1) := xdt tbL_trace_0_ok 4 rfl
theorem dL_trace_5 : decode cL_trace 5 = .ok (.invokevirtual 49, 3) := xdt tbL_trace_0_ok 5 rfl
theorem dL_trace_8 : decode cL_trace 8 = .ok (.i2l, 1) := xdt tbL_trace_0_ok 6 rfl
theorem dL_trace_9 : decode cL_trace 9 = .ok (.lastore, 1) := xdt tbL_trace_0_ok 7 rfl
theorem dL_trace_10 : decode cL_trace 10 = .ok (.goto 7, 3) := xdt tbL_trace_0_ok 8 rfl
theorem dL_trace_13 : decode cL_trace 13 = .ok (.astore 4, 2) := xdt tbL_trace_0_ok 9 rfl
theorem dL_trace_15 : decode cL_trace 15 = .ok (.iconst 1, 1) := xdt tbL_trace_0_ok 10 rfl
theorem dL_trace_16 : decode cL_trace 16 = .ok (.ireturn, 1) := xdt tbL_trace_0_ok 11 rfl
theorem dL_trace_17 : decode cL_trace 17 = .ok (.iconst 0, 1) := xdt tbL_trace_0_ok 12 rfl
theorem dL_trace_18 : decode cL_trace 18 = .ok (.ireturn, 1) := xdt tbL_trace_0_ok 13 rfl
def tbL_broken_0 : List (Nat × Instr × Nat) := [(0, .aload_n 3, 1), (1, .iconst 0, 1), (2, .aload_n 0, 1), (3, .iload_n 1, 1), (4, .iload_n 2, 1), (5, .invokevirtual 52, 3), (8, .i2l, 1), (9, .lastore, 1), (10, .goto 11, 3), (13, .astore 4, 2), (15, .iconst 1, 1), (16, .ireturn, 1), (17, .astore 4, 2), (19, .iconst 2, 1), (20, .ireturn, 1), (21, .iconst 0, 1), (22, .ireturn, 1)]
theorem tbL_broken_0_ok : tbL_broken_0.all (fun q => decide (decode cL_broken q.1 = .ok q.2)) = true := by decide +kernel
theorem dL_broken_0 : decode cL_broken 0 = .ok (.aload_n 3, 1) := xdt tbL_broken_0_ok 0 rfl
theorem dL_broken_1 : decode cL_broken 1 = .ok (.iconst 0, 1) := xdt tbL_broken_0_ok 1 rfl
theorem dL_broken_2 : decode cL_broken 2 = .ok (.aload_n 0, 1) := xdt tbL_broken_0_ok 2 rfl
theorem dL_broken_3 : decode cL_broken 3 = .ok (.iload_n 1, 1) := xdt tbL_broken_0_ok 3 rfl
theorem dL_broken_4 : decode cL_broken 4 = .ok (.iload_n 2, 1) := xdt tbL_broken_0_ok 4 rfl
theorem dL_broken_5 : decode cL_broken 5 = .ok (.invokevirtual 52, 3) := xdt tbL_broken_0_ok 5 rfl
theorem dL_broken_8 : decode cL_broken 8 = .ok (.i2l, 1) := xdt tbL_broken_0_ok 6 rfl
theorem dL_broken_9 : decode cL_broken 9 = .ok (.lastore, 1) := xdt tbL_broken_0_ok 7 rfl
theorem dL_broken_10 : decode cL_broken 10 = .ok (.goto 11, 3) := xdt tbL_broken_0_ok 8 rfl
theorem dL_broken_13 : decode cL_broken 13 = .ok (.astore 4, 2) := xdt tbL_broken_0_ok 9 rfl
theorem dL_broken_15 : decode cL_broken 15 = .ok (.iconst 1, 1) := xdt tbL_broken_0_ok 10 rfl
theorem dL_broken_16 : decode cL_broken 16 = .ok (.ireturn, 1) := xdt tbL_broken_0_ok 11 rfl
theorem dL_broken_17 : decode cL_broken 17 = .ok (.astore 4, 2) := xdt tbL_broken_0_ok 12 rfl
theorem dL_broken_19 : decode cL_broken 19 = .ok (.iconst 2, 1) := xdt tbL_broken_0_ok 13 rfl
theorem dL_broken_20 : decode cL_broken 20 = .ok (.ireturn, 1) := xdt tbL_broken_0_ok 14 rfl
theorem dL_broken_21 : decode cL_broken 21 = .ok (.iconst 0, 1) := xdt tbL_broken_0_ok 15 rfl
theorem dL_broken_22 : decode cL_broken 22 = .ok (.ireturn, 1) := xdt tbL_broken_0_ok 16 rfl
def tbL_alike_0 : List (Nat × Instr × Nat) := [(0, .aload_n 2, 1), (1, .iconst 0, 1), (2, .aload_n 0, 1), (3, .iload_n 1, 1), (4, .invokevirtual 55, 3), (7, .i2l, 1), (8, .lastore, 1), (9, .goto 6, 3), (12, .astore_n 3, 1), (13, .iconst 1, 1), (14, .ireturn, 1), (15, .iconst 0, 1), (16, .ireturn, 1)]
theorem tbL_alike_0_ok : tbL_alike_0.all (fun q => decide (decode cL_alike q.1 = .ok q.2)) = true := by decide +kernel
theorem dL_alike_0 : decode cL_alike 0 = .ok (.aload_n 2, 1) := xdt tbL_alike_0_ok 0 rfl
theorem dL_alike_1 : decode cL_alike 1 = .ok (.iconst 0, 1) := xdt tbL_alike_0_ok 1 rfl
theorem dL_alike_2 : decode cL_alike 2 = .ok (.aload_n 0, 1) := xdt tbL_alike_0_ok 2 rfl
theorem dL_alike_3 : decode cL_alike 3 = .ok (.iload_n 1, 1) := xdt tbL_alike_0_ok 3 rfl
theorem dL_alike_4 : decode cL_alike 4 = .ok (.invokevirtual 55, 3) := xdt tbL_alike_0_ok 4 rfl
theorem dL_alike_7 : decode cL_alike 7 = .ok (.i2l, 1) := xdt tbL_alike_0_ok 5 rfl
theorem dL_alike_8 : decode cL_alike 8 = .ok (.lastore, 1) := xdt tbL_alike_0_ok 6 rfl
theorem dL_alike_9 : decode cL_alike 9 = .ok (.goto 6, 3) := xdt tbL_alike_0_ok 7 rfl
theorem dL_alike_12 : decode cL_alike 12 = .ok (.astore_n 3, 1) := xdt tbL_alike_0_ok 8 rfl
theorem dL_alike_13 : decode cL_alike 13 = .ok (.iconst 1, 1) := xdt tbL_alike_0_ok 9 rfl
theorem dL_alike_14 : decode cL_alike 14 = .ok (.ireturn, 1) := xdt tbL_alike_0_ok 10 rfl
theorem dL_alike_15 : decode cL_alike 15 = .ok (.iconst 0, 1) := xdt tbL_alike_0_ok 11 rfl
theorem dL_alike_16 : decode cL_alike 16 = .ok (.ireturn, 1) := xdt tbL_alike_0_ok 12 rfl
def tbL_fewest_0 : List (Nat × Instr × Nat) := [(0, .aload_n 2, 1), (1, .iconst 0, 1), (2, .aload_n 0, 1), (3, .iload_n 1, 1), (4, .invokevirtual 58, 3), (7, .i2l, 1), (8, .lastore, 1), (9, .goto 6, 3), (12, .astore_n 3, 1), (13, .iconst 1, 1), (14, .ireturn, 1), (15, .iconst 0, 1), (16, .ireturn, 1)]
theorem tbL_fewest_0_ok : tbL_fewest_0.all (fun q => decide (decode cL_fewest q.1 = .ok q.2)) = true := by decide +kernel
theorem dL_fewest_0 : decode cL_fewest 0 = .ok (.aload_n 2, 1) := xdt tbL_fewest_0_ok 0 rfl
theorem dL_fewest_1 : decode cL_fewest 1 = .ok (.iconst 0, 1) := xdt tbL_fewest_0_ok 1 rfl
theorem dL_fewest_2 : decode cL_fewest 2 = .ok (.aload_n 0, 1) := xdt tbL_fewest_0_ok 2 rfl
theorem dL_fewest_3 : decode cL_fewest 3 = .ok (.iload_n 1, 1) := xdt tbL_fewest_0_ok 3 rfl
theorem dL_fewest_4 : decode cL_fewest 4 = .ok (.invokevirtual 58, 3) := xdt tbL_fewest_0_ok 4 rfl
theorem dL_fewest_7 : decode cL_fewest 7 = .ok (.i2l, 1) := xdt tbL_fewest_0_ok 5 rfl
theorem dL_fewest_8 : decode cL_fewest 8 = .ok (.lastore, 1) := xdt tbL_fewest_0_ok 6 rfl
theorem dL_fewest_9 : decode cL_fewest 9 = .ok (.goto 6, 3) := xdt tbL_fewest_0_ok 7 rfl
theorem dL_fewest_12 : decode cL_fewest 12 = .ok (.astore_n 3, 1) := xdt tbL_fewest_0_ok 8 rfl
theorem dL_fewest_13 : decode cL_fewest 13 = .ok (.iconst 1, 1) := xdt tbL_fewest_0_ok 9 rfl
theorem dL_fewest_14 : decode cL_fewest 14 = .ok (.ireturn, 1) := xdt tbL_fewest_0_ok 10 rfl
theorem dL_fewest_15 : decode cL_fewest 15 = .ok (.iconst 0, 1) := xdt tbL_fewest_0_ok 11 rfl
theorem dL_fewest_16 : decode cL_fewest 16 = .ok (.ireturn, 1) := xdt tbL_fewest_0_ok 12 rfl
def tbL_touches_0 : List (Nat × Instr × Nat) := [(0, .aload_n 2, 1), (1, .iconst 0, 1), (2, .aload_n 0, 1), (3, .iload_n 1, 1), (4, .invokevirtual 61, 3), (7, .i2l, 1), (8, .lastore, 1), (9, .goto 6, 3), (12, .astore_n 3, 1), (13, .iconst 1, 1), (14, .ireturn, 1), (15, .iconst 0, 1), (16, .ireturn, 1)]
theorem tbL_touches_0_ok : tbL_touches_0.all (fun q => decide (decode cL_touches q.1 = .ok q.2)) = true := by decide +kernel
theorem dL_touches_0 : decode cL_touches 0 = .ok (.aload_n 2, 1) := xdt tbL_touches_0_ok 0 rfl
theorem dL_touches_1 : decode cL_touches 1 = .ok (.iconst 0, 1) := xdt tbL_touches_0_ok 1 rfl
theorem dL_touches_2 : decode cL_touches 2 = .ok (.aload_n 0, 1) := xdt tbL_touches_0_ok 2 rfl
theorem dL_touches_3 : decode cL_touches 3 = .ok (.iload_n 1, 1) := xdt tbL_touches_0_ok 3 rfl
theorem dL_touches_4 : decode cL_touches 4 = .ok (.invokevirtual 61, 3) := xdt tbL_touches_0_ok 4 rfl
theorem dL_touches_7 : decode cL_touches 7 = .ok (.i2l, 1) := xdt tbL_touches_0_ok 5 rfl
theorem dL_touches_8 : decode cL_touches 8 = .ok (.lastore, 1) := xdt tbL_touches_0_ok 6 rfl
theorem dL_touches_9 : decode cL_touches 9 = .ok (.goto 6, 3) := xdt tbL_touches_0_ok 7 rfl
theorem dL_touches_12 : decode cL_touches 12 = .ok (.astore_n 3, 1) := xdt tbL_touches_0_ok 8 rfl
theorem dL_touches_13 : decode cL_touches 13 = .ok (.iconst 1, 1) := xdt tbL_touches_0_ok 9 rfl
theorem dL_touches_14 : decode cL_touches 14 = .ok (.ireturn, 1) := xdt tbL_touches_0_ok 10 rfl
theorem dL_touches_15 : decode cL_touches 15 = .ok (.iconst 0, 1) := xdt tbL_touches_0_ok 11 rfl
theorem dL_touches_16 : decode cL_touches 16 = .ok (.ireturn, 1) := xdt tbL_touches_0_ok 12 rfl
def tbL_reach_0 : List (Nat × Instr × Nat) := [(0, .aload_n 2, 1), (1, .iconst 0, 1), (2, .aload_n 0, 1), (3, .iload_n 1, 1), (4, .invokevirtual 64, 3), (7, .i2l, 1), (8, .lastore, 1), (9, .goto 6, 3), (12, .astore_n 3, 1), (13, .iconst 1, 1), (14, .ireturn, 1), (15, .iconst 0, 1), (16, .ireturn, 1)]
theorem tbL_reach_0_ok : tbL_reach_0.all (fun q => decide (decode cL_reach q.1 = .ok q.2)) = true := by decide +kernel
theorem dL_reach_0 : decode cL_reach 0 = .ok (.aload_n 2, 1) := xdt tbL_reach_0_ok 0 rfl
theorem dL_reach_1 : decode cL_reach 1 = .ok (.iconst 0, 1) := xdt tbL_reach_0_ok 1 rfl
theorem dL_reach_2 : decode cL_reach 2 = .ok (.aload_n 0, 1) := xdt tbL_reach_0_ok 2 rfl
theorem dL_reach_3 : decode cL_reach 3 = .ok (.iload_n 1, 1) := xdt tbL_reach_0_ok 3 rfl
theorem dL_reach_4 : decode cL_reach 4 = .ok (.invokevirtual 64, 3) := xdt tbL_reach_0_ok 4 rfl
theorem dL_reach_7 : decode cL_reach 7 = .ok (.i2l, 1) := xdt tbL_reach_0_ok 5 rfl
theorem dL_reach_8 : decode cL_reach 8 = .ok (.lastore, 1) := xdt tbL_reach_0_ok 6 rfl
theorem dL_reach_9 : decode cL_reach 9 = .ok (.goto 6, 3) := xdt tbL_reach_0_ok 7 rfl
theorem dL_reach_12 : decode cL_reach 12 = .ok (.astore_n 3, 1) := xdt tbL_reach_0_ok 8 rfl
theorem dL_reach_13 : decode cL_reach 13 = .ok (.iconst 1, 1) := xdt tbL_reach_0_ok 9 rfl
theorem dL_reach_14 : decode cL_reach 14 = .ok (.ireturn, 1) := xdt tbL_reach_0_ok 10 rfl
theorem dL_reach_15 : decode cL_reach 15 = .ok (.iconst 0, 1) := xdt tbL_reach_0_ok 11 rfl
theorem dL_reach_16 : decode cL_reach 16 = .ok (.ireturn, 1) := xdt tbL_reach_0_ok 12 rfl
def tbL_ring_0 : List (Nat × Instr × Nat) := [(0, .aload_n 2, 1), (1, .iconst 0, 1), (2, .aload_n 0, 1), (3, .iload_n 1, 1), (4, .invokevirtual 67, 3), (7, .i2l, 1), (8, .lastore, 1), (9, .goto 6, 3), (12, .astore_n 3, 1), (13, .iconst 1, 1), (14, .ireturn, 1), (15, .iconst 0, 1), (16, .ireturn, 1)]
theorem tbL_ring_0_ok : tbL_ring_0.all (fun q => decide (decode cL_ring q.1 = .ok q.2)) = true := by decide +kernel
theorem dL_ring_0 : decode cL_ring 0 = .ok (.aload_n 2, 1) := xdt tbL_ring_0_ok 0 rfl
theorem dL_ring_1 : decode cL_ring 1 = .ok (.iconst 0, 1) := xdt tbL_ring_0_ok 1 rfl
theorem dL_ring_2 : decode cL_ring 2 = .ok (.aload_n 0, 1) := xdt tbL_ring_0_ok 2 rfl
theorem dL_ring_3 : decode cL_ring 3 = .ok (.iload_n 1, 1) := xdt tbL_ring_0_ok 3 rfl
theorem dL_ring_4 : decode cL_ring 4 = .ok (.invokevirtual 67, 3) := xdt tbL_ring_0_ok 4 rfl
theorem dL_ring_7 : decode cL_ring 7 = .ok (.i2l, 1) := xdt tbL_ring_0_ok 5 rfl
theorem dL_ring_8 : decode cL_ring 8 = .ok (.lastore, 1) := xdt tbL_ring_0_ok 6 rfl
theorem dL_ring_9 : decode cL_ring 9 = .ok (.goto 6, 3) := xdt tbL_ring_0_ok 7 rfl
theorem dL_ring_12 : decode cL_ring 12 = .ok (.astore_n 3, 1) := xdt tbL_ring_0_ok 8 rfl
theorem dL_ring_13 : decode cL_ring 13 = .ok (.iconst 1, 1) := xdt tbL_ring_0_ok 9 rfl
theorem dL_ring_14 : decode cL_ring 14 = .ok (.ireturn, 1) := xdt tbL_ring_0_ok 10 rfl
theorem dL_ring_15 : decode cL_ring 15 = .ok (.iconst 0, 1) := xdt tbL_ring_0_ok 11 rfl
theorem dL_ring_16 : decode cL_ring 16 = .ok (.ireturn, 1) := xdt tbL_ring_0_ok 12 rfl
def tbL_least_0 : List (Nat × Instr × Nat) := [(0, .aload_n 2, 1), (1, .iconst 0, 1), (2, .aload_n 0, 1), (3, .iload_n 1, 1), (4, .invokevirtual 70, 3), (7, .i2l, 1), (8, .lastore, 1), (9, .goto 6, 3), (12, .astore_n 3, 1), (13, .iconst 1, 1), (14, .ireturn, 1), (15, .iconst 0, 1), (16, .ireturn, 1)]
theorem tbL_least_0_ok : tbL_least_0.all (fun q => decide (decode cL_least q.1 = .ok q.2)) = true := by decide +kernel
theorem dL_least_0 : decode cL_least 0 = .ok (.aload_n 2, 1) := xdt tbL_least_0_ok 0 rfl
theorem dL_least_1 : decode cL_least 1 = .ok (.iconst 0, 1) := xdt tbL_least_0_ok 1 rfl
theorem dL_least_2 : decode cL_least 2 = .ok (.aload_n 0, 1) := xdt tbL_least_0_ok 2 rfl
theorem dL_least_3 : decode cL_least 3 = .ok (.iload_n 1, 1) := xdt tbL_least_0_ok 3 rfl
theorem dL_least_4 : decode cL_least 4 = .ok (.invokevirtual 70, 3) := xdt tbL_least_0_ok 4 rfl
theorem dL_least_7 : decode cL_least 7 = .ok (.i2l, 1) := xdt tbL_least_0_ok 5 rfl
theorem dL_least_8 : decode cL_least 8 = .ok (.lastore, 1) := xdt tbL_least_0_ok 6 rfl
theorem dL_least_9 : decode cL_least 9 = .ok (.goto 6, 3) := xdt tbL_least_0_ok 7 rfl
theorem dL_least_12 : decode cL_least 12 = .ok (.astore_n 3, 1) := xdt tbL_least_0_ok 8 rfl
theorem dL_least_13 : decode cL_least 13 = .ok (.iconst 1, 1) := xdt tbL_least_0_ok 9 rfl
theorem dL_least_14 : decode cL_least 14 = .ok (.ireturn, 1) := xdt tbL_least_0_ok 10 rfl
theorem dL_least_15 : decode cL_least 15 = .ok (.iconst 0, 1) := xdt tbL_least_0_ok 11 rfl
theorem dL_least_16 : decode cL_least 16 = .ok (.ireturn, 1) := xdt tbL_least_0_ok 12 rfl
def tbL_breaks_0 : List (Nat × Instr × Nat) := [(0, .aload_n 2, 1), (1, .iconst 0, 1), (2, .aload_n 0, 1), (3, .iload_n 1, 1), (4, .invokevirtual 73, 3), (7, .i2l, 1), (8, .lastore, 1), (9, .goto 6, 3), (12, .astore_n 3, 1), (13, .iconst 1, 1), (14, .ireturn, 1), (15, .iconst 0, 1), (16, .ireturn, 1)]
theorem tbL_breaks_0_ok : tbL_breaks_0.all (fun q => decide (decode cL_breaks q.1 = .ok q.2)) = true := by decide +kernel
theorem dL_breaks_0 : decode cL_breaks 0 = .ok (.aload_n 2, 1) := xdt tbL_breaks_0_ok 0 rfl
theorem dL_breaks_1 : decode cL_breaks 1 = .ok (.iconst 0, 1) := xdt tbL_breaks_0_ok 1 rfl
theorem dL_breaks_2 : decode cL_breaks 2 = .ok (.aload_n 0, 1) := xdt tbL_breaks_0_ok 2 rfl
theorem dL_breaks_3 : decode cL_breaks 3 = .ok (.iload_n 1, 1) := xdt tbL_breaks_0_ok 3 rfl
theorem dL_breaks_4 : decode cL_breaks 4 = .ok (.invokevirtual 73, 3) := xdt tbL_breaks_0_ok 4 rfl
theorem dL_breaks_7 : decode cL_breaks 7 = .ok (.i2l, 1) := xdt tbL_breaks_0_ok 5 rfl
theorem dL_breaks_8 : decode cL_breaks 8 = .ok (.lastore, 1) := xdt tbL_breaks_0_ok 6 rfl
theorem dL_breaks_9 : decode cL_breaks 9 = .ok (.goto 6, 3) := xdt tbL_breaks_0_ok 7 rfl
theorem dL_breaks_12 : decode cL_breaks 12 = .ok (.astore_n 3, 1) := xdt tbL_breaks_0_ok 8 rfl
theorem dL_breaks_13 : decode cL_breaks 13 = .ok (.iconst 1, 1) := xdt tbL_breaks_0_ok 9 rfl
theorem dL_breaks_14 : decode cL_breaks 14 = .ok (.ireturn, 1) := xdt tbL_breaks_0_ok 10 rfl
theorem dL_breaks_15 : decode cL_breaks 15 = .ok (.iconst 0, 1) := xdt tbL_breaks_0_ok 11 rfl
theorem dL_breaks_16 : decode cL_breaks 16 = .ok (.ireturn, 1) := xdt tbL_breaks_0_ok 12 rfl
abbrev mL_text : XD := (yL_text, cL_text, 4, (some .int), 0)
abbrev mL_move : XD := (yL_move, cL_move, 6, (some .int), 0)
abbrev mL_turn : XD := (yL_turn, cL_turn, 5, (some .int), 0)
abbrev mL_told : XD := (yL_told, cL_told, 4, (some .int), 0)
abbrev mL_unit : XD := (yL_unit, cL_unit, 5, (some .int), 0)
abbrev mL_member : XD := (yL_member, cL_member, 6, (some .int), 0)
abbrev mL_lazy : XD := (yL_lazy, cL_lazy, 4, (some .int), 0)
abbrev mL_eager : XD := (yL_eager, cL_eager, 5, (some .int), 0)
abbrev mL_value : XD := (yL_value, cL_value, 5, (some .int), 0)
abbrev mL_state : XD := (yL_state, cL_state, 4, (some .int), 0)
abbrev mL_surprise : XD := (yL_surprise, cL_surprise, 5, (some .int), 0)
abbrev mL_trace : XD := (yL_trace, cL_trace, 5, (some .int), 0)
abbrev mL_broken : XD := (yL_broken, cL_broken, 5, (some .int), 0)
abbrev mL_alike : XD := (yL_alike, cL_alike, 4, (some .int), 0)
abbrev mL_fewest : XD := (yL_fewest, cL_fewest, 4, (some .int), 0)
abbrev mL_touches : XD := (yL_touches, cL_touches, 4, (some .int), 0)
abbrev mL_reach : XD := (yL_reach, cL_reach, 4, (some .int), 0)
abbrev mL_ring : XD := (yL_ring, cL_ring, 4, (some .int), 0)
abbrev mL_least : XD := (yL_least, cL_least, 4, (some .int), 0)
abbrev mL_breaks : XD := (yL_breaks, cL_breaks, 4, (some .int), 0)
theorem q741 : (Cond.classLink "BeginJudgeLaw" 13 "java/lang/IllegalArgumentException") ∈ xB := xmt3 119 rfl rfl
theorem q742 : (Cond.methodLink "BeginJudgeLaw" 7 ⟨"BeginJudge", "text", "(I)I"⟩) ∈ xB := xmt3 120 rfl rfl
theorem q743 : (Cond.instanceMethod ⟨"BeginJudge", "text", "(I)I"⟩) ∈ xB := xmt3 121 rfl rfl
theorem q744 : (Cond.selects "BeginJudge" ⟨"BeginJudge", "text", "(I)I"⟩ ⟨"BeginJudge", "text", "(I)I"⟩) ∈ xB := xmt3 122 rfl rfl
theorem q745 : (Cond.code ⟨"BeginJudge", "text", "(I)I"⟩ prog_1_method_3_code 3 (some .int)) ∈ xB := xmt3 123 rfl rfl
theorem q1049 : (Cond.classLink "BeginJudgeLaw" 19 "java/util/NoSuchElementException") ∈ xB := xmt4 187 rfl rfl
theorem q1050 : (Cond.methodLink "BeginJudgeLaw" 15 ⟨"BeginJudge", "move", "(III)I"⟩) ∈ xB := xmt4 188 rfl rfl
theorem q1051 : (Cond.instanceMethod ⟨"BeginJudge", "move", "(III)I"⟩) ∈ xB := xmt4 189 rfl rfl
theorem q1052 : (Cond.selects "BeginJudge" ⟨"BeginJudge", "move", "(III)I"⟩ ⟨"BeginJudge", "move", "(III)I"⟩) ∈ xB := xmt4 190 rfl rfl
theorem q1053 : (Cond.code ⟨"BeginJudge", "move", "(III)I"⟩ prog_1_method_5_code 4 (some .int)) ∈ xB := xmt4 191 rfl rfl
theorem q1091 : (Cond.methodLink "BeginJudgeLaw" 21 ⟨"BeginJudge", "turn", "(II)I"⟩) ∈ xB := xmt4 229 rfl rfl
theorem q1092 : (Cond.instanceMethod ⟨"BeginJudge", "turn", "(II)I"⟩) ∈ xB := xmt4 230 rfl rfl
theorem q1093 : (Cond.selects "BeginJudge" ⟨"BeginJudge", "turn", "(II)I"⟩ ⟨"BeginJudge", "turn", "(II)I"⟩) ∈ xB := xmt4 231 rfl rfl
theorem q1094 : (Cond.code ⟨"BeginJudge", "turn", "(II)I"⟩ prog_1_method_6_code 3 (some .int)) ∈ xB := xmt4 232 rfl rfl
theorem q1099 : (Cond.methodLink "BeginJudgeLaw" 25 ⟨"BeginJudge", "told", "(I)I"⟩) ∈ xB := xmt4 237 rfl rfl
theorem q1100 : (Cond.instanceMethod ⟨"BeginJudge", "told", "(I)I"⟩) ∈ xB := xmt4 238 rfl rfl
theorem q1101 : (Cond.selects "BeginJudge" ⟨"BeginJudge", "told", "(I)I"⟩ ⟨"BeginJudge", "told", "(I)I"⟩) ∈ xB := xmt4 239 rfl rfl
theorem q1102 : (Cond.code ⟨"BeginJudge", "told", "(I)I"⟩ prog_1_method_8_code 2 (some .int)) ∈ xB := xmt5 0 rfl rfl
theorem q1114 : (Cond.methodLink "BeginJudgeLaw" 28 ⟨"BeginJudge", "unit", "(II)I"⟩) ∈ xB := xmt5 12 rfl rfl
theorem q1115 : (Cond.instanceMethod ⟨"BeginJudge", "unit", "(II)I"⟩) ∈ xB := xmt5 13 rfl rfl
theorem q1116 : (Cond.selects "BeginJudge" ⟨"BeginJudge", "unit", "(II)I"⟩ ⟨"BeginJudge", "unit", "(II)I"⟩) ∈ xB := xmt5 14 rfl rfl
theorem q1117 : (Cond.code ⟨"BeginJudge", "unit", "(II)I"⟩ prog_1_method_9_code 3 (some .int)) ∈ xB := xmt5 15 rfl rfl
theorem q1125 : (Cond.methodLink "BeginJudgeLaw" 31 ⟨"BeginJudge", "member", "(III)I"⟩) ∈ xB := xmt5 23 rfl rfl
theorem q1126 : (Cond.instanceMethod ⟨"BeginJudge", "member", "(III)I"⟩) ∈ xB := xmt5 24 rfl rfl
theorem q1127 : (Cond.selects "BeginJudge" ⟨"BeginJudge", "member", "(III)I"⟩ ⟨"BeginJudge", "member", "(III)I"⟩) ∈ xB := xmt5 25 rfl rfl
theorem q1128 : (Cond.code ⟨"BeginJudge", "member", "(III)I"⟩ prog_1_method_10_code 5 (some .int)) ∈ xB := xmt5 26 rfl rfl
theorem q1148 : (Cond.methodLink "BeginJudgeLaw" 34 ⟨"BeginJudge", "lazy", "(I)I"⟩) ∈ xB := xmt5 46 rfl rfl
theorem q1149 : (Cond.instanceMethod ⟨"BeginJudge", "lazy", "(I)I"⟩) ∈ xB := xmt5 47 rfl rfl
theorem q1150 : (Cond.selects "BeginJudge" ⟨"BeginJudge", "lazy", "(I)I"⟩ ⟨"BeginJudge", "lazy", "(I)I"⟩) ∈ xB := xmt5 48 rfl rfl
theorem q1151 : (Cond.code ⟨"BeginJudge", "lazy", "(I)I"⟩ prog_1_method_11_code 2 (some .int)) ∈ xB := xmt5 49 rfl rfl
theorem q1163 : (Cond.methodLink "BeginJudgeLaw" 37 ⟨"BeginJudge", "eager", "(II)I"⟩) ∈ xB := xmt5 61 rfl rfl
theorem q1164 : (Cond.instanceMethod ⟨"BeginJudge", "eager", "(II)I"⟩) ∈ xB := xmt5 62 rfl rfl
theorem q1165 : (Cond.selects "BeginJudge" ⟨"BeginJudge", "eager", "(II)I"⟩ ⟨"BeginJudge", "eager", "(II)I"⟩) ∈ xB := xmt5 63 rfl rfl
theorem q1166 : (Cond.code ⟨"BeginJudge", "eager", "(II)I"⟩ prog_1_method_12_code 3 (some .int)) ∈ xB := xmt5 64 rfl rfl
theorem q1178 : (Cond.methodLink "BeginJudgeLaw" 40 ⟨"BeginJudge", "value", "(II)I"⟩) ∈ xB := xmt5 76 rfl rfl
theorem q1179 : (Cond.instanceMethod ⟨"BeginJudge", "value", "(II)I"⟩) ∈ xB := xmt5 77 rfl rfl
theorem q1180 : (Cond.selects "BeginJudge" ⟨"BeginJudge", "value", "(II)I"⟩ ⟨"BeginJudge", "value", "(II)I"⟩) ∈ xB := xmt5 78 rfl rfl
theorem q1181 : (Cond.code ⟨"BeginJudge", "value", "(II)I"⟩ prog_1_method_13_code 4 (some .int)) ∈ xB := xmt5 79 rfl rfl
theorem q1189 : (Cond.methodLink "BeginJudgeLaw" 43 ⟨"BeginJudge", "state", "(I)I"⟩) ∈ xB := xmt5 87 rfl rfl
theorem q1190 : (Cond.instanceMethod ⟨"BeginJudge", "state", "(I)I"⟩) ∈ xB := xmt5 88 rfl rfl
theorem q1191 : (Cond.selects "BeginJudge" ⟨"BeginJudge", "state", "(I)I"⟩ ⟨"BeginJudge", "state", "(I)I"⟩) ∈ xB := xmt5 89 rfl rfl
theorem q1192 : (Cond.code ⟨"BeginJudge", "state", "(I)I"⟩ prog_1_method_14_code 2 (some .int)) ∈ xB := xmt5 90 rfl rfl
theorem q1196 : (Cond.methodLink "BeginJudgeLaw" 46 ⟨"BeginJudge", "surprise", "(II)I"⟩) ∈ xB := xmt5 94 rfl rfl
theorem q1197 : (Cond.instanceMethod ⟨"BeginJudge", "surprise", "(II)I"⟩) ∈ xB := xmt5 95 rfl rfl
theorem q1198 : (Cond.selects "BeginJudge" ⟨"BeginJudge", "surprise", "(II)I"⟩ ⟨"BeginJudge", "surprise", "(II)I"⟩) ∈ xB := xmt5 96 rfl rfl
theorem q1199 : (Cond.code ⟨"BeginJudge", "surprise", "(II)I"⟩ prog_1_method_16_code 3 (some .int)) ∈ xB := xmt5 97 rfl rfl
theorem q1215 : (Cond.methodLink "BeginJudgeLaw" 49 ⟨"BeginJudge", "trace", "(II)I"⟩) ∈ xB := xmt5 113 rfl rfl
theorem q1216 : (Cond.instanceMethod ⟨"BeginJudge", "trace", "(II)I"⟩) ∈ xB := xmt5 114 rfl rfl
theorem q1217 : (Cond.selects "BeginJudge" ⟨"BeginJudge", "trace", "(II)I"⟩ ⟨"BeginJudge", "trace", "(II)I"⟩) ∈ xB := xmt5 115 rfl rfl
theorem q1218 : (Cond.code ⟨"BeginJudge", "trace", "(II)I"⟩ prog_1_method_17_code 4 (some .int)) ∈ xB := xmt5 116 rfl rfl
theorem q1222 : (Cond.methodLink "BeginJudgeLaw" 52 ⟨"BeginJudge", "broken", "(II)I"⟩) ∈ xB := xmt5 120 rfl rfl
theorem q1223 : (Cond.instanceMethod ⟨"BeginJudge", "broken", "(II)I"⟩) ∈ xB := xmt5 121 rfl rfl
theorem q1224 : (Cond.selects "BeginJudge" ⟨"BeginJudge", "broken", "(II)I"⟩ ⟨"BeginJudge", "broken", "(II)I"⟩) ∈ xB := xmt5 122 rfl rfl
theorem q1225 : (Cond.code ⟨"BeginJudge", "broken", "(II)I"⟩ prog_1_method_18_code 3 (some .int)) ∈ xB := xmt5 123 rfl rfl
theorem q1229 : (Cond.methodLink "BeginJudgeLaw" 55 ⟨"BeginJudge", "alike", "(I)I"⟩) ∈ xB := xmt5 127 rfl rfl
theorem q1230 : (Cond.instanceMethod ⟨"BeginJudge", "alike", "(I)I"⟩) ∈ xB := xmt5 128 rfl rfl
theorem q1231 : (Cond.selects "BeginJudge" ⟨"BeginJudge", "alike", "(I)I"⟩ ⟨"BeginJudge", "alike", "(I)I"⟩) ∈ xB := xmt5 129 rfl rfl
theorem q1232 : (Cond.code ⟨"BeginJudge", "alike", "(I)I"⟩ prog_1_method_19_code 2 (some .int)) ∈ xB := xmt5 130 rfl rfl
theorem q1244 : (Cond.methodLink "BeginJudgeLaw" 58 ⟨"BeginJudge", "fewest", "(I)I"⟩) ∈ xB := xmt5 142 rfl rfl
theorem q1245 : (Cond.instanceMethod ⟨"BeginJudge", "fewest", "(I)I"⟩) ∈ xB := xmt5 143 rfl rfl
theorem q1246 : (Cond.selects "BeginJudge" ⟨"BeginJudge", "fewest", "(I)I"⟩ ⟨"BeginJudge", "fewest", "(I)I"⟩) ∈ xB := xmt5 144 rfl rfl
theorem q1247 : (Cond.code ⟨"BeginJudge", "fewest", "(I)I"⟩ prog_1_method_20_code 2 (some .int)) ∈ xB := xmt5 145 rfl rfl
theorem q1296 : (Cond.methodLink "BeginJudgeLaw" 61 ⟨"BeginJudge", "touches", "(I)I"⟩) ∈ xB := xmt5 194 rfl rfl
theorem q1297 : (Cond.instanceMethod ⟨"BeginJudge", "touches", "(I)I"⟩) ∈ xB := xmt5 195 rfl rfl
theorem q1298 : (Cond.selects "BeginJudge" ⟨"BeginJudge", "touches", "(I)I"⟩ ⟨"BeginJudge", "touches", "(I)I"⟩) ∈ xB := xmt5 196 rfl rfl
theorem q1299 : (Cond.code ⟨"BeginJudge", "touches", "(I)I"⟩ prog_1_method_21_code 2 (some .int)) ∈ xB := xmt5 197 rfl rfl
theorem q1320 : (Cond.methodLink "BeginJudgeLaw" 64 ⟨"BeginJudge", "reach", "(I)I"⟩) ∈ xB := xmt5 218 rfl rfl
theorem q1321 : (Cond.instanceMethod ⟨"BeginJudge", "reach", "(I)I"⟩) ∈ xB := xmt5 219 rfl rfl
theorem q1322 : (Cond.selects "BeginJudge" ⟨"BeginJudge", "reach", "(I)I"⟩ ⟨"BeginJudge", "reach", "(I)I"⟩) ∈ xB := xmt5 220 rfl rfl
theorem q1323 : (Cond.code ⟨"BeginJudge", "reach", "(I)I"⟩ prog_1_method_22_code 2 (some .int)) ∈ xB := xmt5 221 rfl rfl
theorem q1327 : (Cond.methodLink "BeginJudgeLaw" 67 ⟨"BeginJudge", "ring", "(I)I"⟩) ∈ xB := xmt5 225 rfl rfl
theorem q1328 : (Cond.instanceMethod ⟨"BeginJudge", "ring", "(I)I"⟩) ∈ xB := xmt5 226 rfl rfl
theorem q1329 : (Cond.selects "BeginJudge" ⟨"BeginJudge", "ring", "(I)I"⟩ ⟨"BeginJudge", "ring", "(I)I"⟩) ∈ xB := xmt5 227 rfl rfl
theorem q1330 : (Cond.code ⟨"BeginJudge", "ring", "(I)I"⟩ prog_1_method_23_code 2 (some .int)) ∈ xB := xmt5 228 rfl rfl
theorem q1338 : (Cond.methodLink "BeginJudgeLaw" 70 ⟨"BeginJudge", "least", "(I)I"⟩) ∈ xB := xmt5 236 rfl rfl
theorem q1339 : (Cond.instanceMethod ⟨"BeginJudge", "least", "(I)I"⟩) ∈ xB := xmt5 237 rfl rfl
theorem q1340 : (Cond.selects "BeginJudge" ⟨"BeginJudge", "least", "(I)I"⟩ ⟨"BeginJudge", "least", "(I)I"⟩) ∈ xB := xmt5 238 rfl rfl
theorem q1341 : (Cond.code ⟨"BeginJudge", "least", "(I)I"⟩ prog_1_method_24_code 2 (some .int)) ∈ xB := xmt5 239 rfl rfl
theorem q1376 : (Cond.methodLink "BeginJudgeLaw" 73 ⟨"BeginJudge", "breaks", "(I)I"⟩) ∈ xB := xmt6 34 rfl rfl
theorem q1377 : (Cond.instanceMethod ⟨"BeginJudge", "breaks", "(I)I"⟩) ∈ xB := xmt6 35 rfl rfl
theorem q1378 : (Cond.selects "BeginJudge" ⟨"BeginJudge", "breaks", "(I)I"⟩ ⟨"BeginJudge", "breaks", "(I)I"⟩) ∈ xB := xmt6 36 rfl rfl
theorem q1379 : (Cond.code ⟨"BeginJudge", "breaks", "(I)I"⟩ prog_1_method_25_code 2 (some .int)) ∈ xB := xmt6 37 rfl rfl
theorem lmL_15 : xmv RL 15 mX8_move 3 8 := ⟨⟨q1050, q1053, q143, by decide +kernel, by decide⟩, q1051, q1052, by decide, TX8, 14, rfl⟩
theorem lmL_21 : xmv RL 21 mX8_turn 2 8 := ⟨⟨q1091, q1094, q143, by decide +kernel, by decide⟩, q1092, q1093, by decide, TX8, 14, rfl⟩
theorem lmL_25 : xmv RL 25 mX8_told 1 8 := ⟨⟨q1099, q1102, q143, by decide +kernel, by decide⟩, q1100, q1101, by decide, TX8, 14, rfl⟩
theorem lmL_28 : xmv RL 28 mX8_unit 2 8 := ⟨⟨q1114, q1117, q143, by decide +kernel, by decide⟩, q1115, q1116, by decide, TX8, 14, rfl⟩
theorem lmL_31 : xmv RL 31 mX8_member 3 8 := ⟨⟨q1125, q1128, q143, by decide +kernel, by decide⟩, q1126, q1127, by decide, TX8, 14, rfl⟩
theorem lmL_34 : xmv RL 34 mX8_lazy 1 8 := ⟨⟨q1148, q1151, q143, by decide +kernel, by decide⟩, q1149, q1150, by decide, TX8, 14, rfl⟩
theorem lmL_37 : xmv RL 37 mX8_eager 2 8 := ⟨⟨q1163, q1166, q143, by decide +kernel, by decide⟩, q1164, q1165, by decide, TX8, 14, rfl⟩
theorem lmL_40 : xmv RL 40 mX8_value 2 8 := ⟨⟨q1178, q1181, q143, by decide +kernel, by decide⟩, q1179, q1180, by decide, TX8, 14, rfl⟩
theorem lmL_43 : xmv RL 43 mX8_state 1 8 := ⟨⟨q1189, q1192, q143, by decide +kernel, by decide⟩, q1190, q1191, by decide, TX8, 14, rfl⟩
theorem lmL_46 : xmv RL 46 mX8_surprise 2 8 := ⟨⟨q1196, q1199, q143, by decide +kernel, by decide⟩, q1197, q1198, by decide, TX8, 14, rfl⟩
theorem lmL_49 : xmv RL 49 mX8_trace 2 8 := ⟨⟨q1215, q1218, q143, by decide +kernel, by decide⟩, q1216, q1217, by decide, TX8, 14, rfl⟩
theorem lmL_52 : xmv RL 52 mX8_broken 2 8 := ⟨⟨q1222, q1225, q143, by decide +kernel, by decide⟩, q1223, q1224, by decide, TX8, 14, rfl⟩
theorem lmL_55 : xmv RL 55 mX8_alike 1 8 := ⟨⟨q1229, q1232, q143, by decide +kernel, by decide⟩, q1230, q1231, by decide, TX8, 14, rfl⟩
theorem lmL_58 : xmv RL 58 mX8_fewest 1 8 := ⟨⟨q1244, q1247, q143, by decide +kernel, by decide⟩, q1245, q1246, by decide, TX8, 14, rfl⟩
theorem lmL_61 : xmv RL 61 mX8_touches 1 8 := ⟨⟨q1296, q1299, q143, by decide +kernel, by decide⟩, q1297, q1298, by decide, TX8, 14, rfl⟩
theorem lmL_64 : xmv RL 64 mX8_reach 1 8 := ⟨⟨q1320, q1323, q143, by decide +kernel, by decide⟩, q1321, q1322, by decide, TX8, 14, rfl⟩
theorem lmL_67 : xmv RL 67 mX8_ring 1 8 := ⟨⟨q1327, q1330, q143, by decide +kernel, by decide⟩, q1328, q1329, by decide, TX8, 14, rfl⟩
theorem lmL_7 : xmv RL 7 mX8_text 1 8 := ⟨⟨q742, q745, q143, by decide +kernel, by decide⟩, q743, q744, by decide, TX8, 14, rfl⟩
theorem lmL_70 : xmv RL 70 mX8_least 1 8 := ⟨⟨q1338, q1341, q143, by decide +kernel, by decide⟩, q1339, q1340, by decide, TX8, 14, rfl⟩
theorem lmL_73 : xmv RL 73 mX8_breaks 1 8 := ⟨⟨q1376, q1379, q143, by decide +kernel, by decide⟩, q1377, q1378, by decide, TX8, 14, rfl⟩
def fwL_text (N : Nat → Nat) (q0 : Nat) (x0 : Int32) (q1 : Nat) (m0 : XM) : Option (Int32 × XM) :=
    xct (fxX8_text N q0 x0 m0) (fun E m => if E = xIA then some (1, m) else none) (xca (fX8_text N q0 x0 m0) fun v1 m2 => xv (v1.toInt64) fun w3 => xlst N m2 q1 0 w3 fun m4 => some (0, m4))
def fwL_move (N : Nat → Nat) (q0 : Nat) (x0 : Int32) (x1 : Int32) (x2 : Int32) (q1 : Nat) (m0 : XM) : Option (Int32 × XM) :=
    xct (fxX8_move N q0 x0 x1 x2 m0) (fun E m => if E = xNS then some (1, m) else none) (xca (fX8_move N q0 x0 x1 x2 m0) fun v1 m2 => xv (v1.toInt64) fun w3 => xlst N m2 q1 0 w3 fun m4 => some (0, m4))
def fwL_turn (N : Nat → Nat) (q0 : Nat) (x0 : Int32) (x1 : Int32) (q1 : Nat) (m0 : XM) : Option (Int32 × XM) :=
    xct (fxX8_turn N q0 x0 x1 m0) (fun E m => if E = xNS then some (1, m) else none) (xca (fX8_turn N q0 x0 x1 m0) fun v1 m2 => xv (v1.toInt64) fun w3 => xlst N m2 q1 0 w3 fun m4 => some (0, m4))
def fwL_told (N : Nat → Nat) (q0 : Nat) (x0 : Int32) (q1 : Nat) (m0 : XM) : Option (Int32 × XM) :=
    xct (fxX8_told N q0 x0 m0) (fun E m => if E = xIA then some (1, m) else none) (xca (fX8_told N q0 x0 m0) fun v1 m2 => xv (v1.toInt64) fun w3 => xlst N m2 q1 0 w3 fun m4 => some (0, m4))
def fwL_unit (N : Nat → Nat) (q0 : Nat) (x0 : Int32) (x1 : Int32) (q1 : Nat) (m0 : XM) : Option (Int32 × XM) :=
    xct (fxX8_unit N q0 x0 x1 m0) (fun E m => if E = xNS then some (1, m) else if E = xIA then some (2, m) else none) (xca (fX8_unit N q0 x0 x1 m0) fun v1 m2 => xv (v1.toInt64) fun w3 => xlst N m2 q1 0 w3 fun m4 => some (0, m4))
def fwL_member (N : Nat → Nat) (q0 : Nat) (x0 : Int32) (x1 : Int32) (x2 : Int32) (q1 : Nat) (m0 : XM) : Option (Int32 × XM) :=
    xct (fxX8_member N q0 x0 x1 x2 m0) (fun E m => if E = xNS then some (1, m) else if E = xIA then some (2, m) else none) (xca (fX8_member N q0 x0 x1 x2 m0) fun v1 m2 => xv (v1.toInt64) fun w3 => xlst N m2 q1 0 w3 fun m4 => some (0, m4))
def fwL_lazy (N : Nat → Nat) (q0 : Nat) (x0 : Int32) (q1 : Nat) (m0 : XM) : Option (Int32 × XM) :=
    xct (fxX8_lazy N q0 x0 m0) (fun E m => if E = xIA then some (1, m) else none) (xca (fX8_lazy N q0 x0 m0) fun v1 m2 => xv (v1.toInt64) fun w3 => xlst N m2 q1 0 w3 fun m4 => some (0, m4))
def fwL_eager (N : Nat → Nat) (q0 : Nat) (x0 : Int32) (x1 : Int32) (q1 : Nat) (m0 : XM) : Option (Int32 × XM) :=
    xct (fxX8_eager N q0 x0 x1 m0) (fun E m => if E = xIA then some (1, m) else none) (xca (fX8_eager N q0 x0 x1 m0) fun v1 m2 => xv (v1.toInt64) fun w3 => xlst N m2 q1 0 w3 fun m4 => some (0, m4))
def fwL_value (N : Nat → Nat) (q0 : Nat) (x0 : Int32) (x1 : Int32) (q1 : Nat) (m0 : XM) : Option (Int32 × XM) :=
    xct (fxX8_value N q0 x0 x1 m0) (fun E m => if E = xNS then some (1, m) else none) (xca (fX8_value N q0 x0 x1 m0) fun v1 m2 => xv (v1.toInt64) fun w3 => xlst N m2 q1 0 w3 fun m4 => some (0, m4))
def fwL_state (N : Nat → Nat) (q0 : Nat) (x0 : Int32) (q1 : Nat) (m0 : XM) : Option (Int32 × XM) :=
    xct (fxX8_state N q0 x0 m0) (fun E m => if E = xNS then some (1, m) else none) (xca (fX8_state N q0 x0 m0) fun v1 m2 => xv (v1.toInt64) fun w3 => xlst N m2 q1 0 w3 fun m4 => some (0, m4))
def fwL_surprise (N : Nat → Nat) (q0 : Nat) (x0 : Int32) (x1 : Int32) (q1 : Nat) (m0 : XM) : Option (Int32 × XM) :=
    xct (fxX8_surprise N q0 x0 x1 m0) (fun E m => if E = xNS then some (1, m) else if E = xIA then some (2, m) else none) (xca (fX8_surprise N q0 x0 x1 m0) fun v1 m2 => xv (v1.toInt64) fun w3 => xlst N m2 q1 0 w3 fun m4 => some (0, m4))
def fwL_trace (N : Nat → Nat) (q0 : Nat) (x0 : Int32) (x1 : Int32) (q1 : Nat) (m0 : XM) : Option (Int32 × XM) :=
    xct (fxX8_trace N q0 x0 x1 m0) (fun E m => if E = xNS then some (1, m) else none) (xca (fX8_trace N q0 x0 x1 m0) fun v1 m2 => xv (v1.toInt64) fun w3 => xlst N m2 q1 0 w3 fun m4 => some (0, m4))
def fwL_broken (N : Nat → Nat) (q0 : Nat) (x0 : Int32) (x1 : Int32) (q1 : Nat) (m0 : XM) : Option (Int32 × XM) :=
    xct (fxX8_broken N q0 x0 x1 m0) (fun E m => if E = xNS then some (1, m) else if E = xIA then some (2, m) else none) (xca (fX8_broken N q0 x0 x1 m0) fun v1 m2 => xv (v1.toInt64) fun w3 => xlst N m2 q1 0 w3 fun m4 => some (0, m4))
def fwL_alike (N : Nat → Nat) (q0 : Nat) (x0 : Int32) (q1 : Nat) (m0 : XM) : Option (Int32 × XM) :=
    xct (fxX8_alike N q0 x0 m0) (fun E m => if E = xIA then some (1, m) else none) (xca (fX8_alike N q0 x0 m0) fun v1 m2 => xv (v1.toInt64) fun w3 => xlst N m2 q1 0 w3 fun m4 => some (0, m4))
def fwL_fewest (N : Nat → Nat) (q0 : Nat) (x0 : Int32) (q1 : Nat) (m0 : XM) : Option (Int32 × XM) :=
    xct (fxX8_fewest N q0 x0 m0) (fun E m => if E = xIA then some (1, m) else none) (xca (fX8_fewest N q0 x0 m0) fun v1 m2 => xv (v1.toInt64) fun w3 => xlst N m2 q1 0 w3 fun m4 => some (0, m4))
def fwL_touches (N : Nat → Nat) (q0 : Nat) (x0 : Int32) (q1 : Nat) (m0 : XM) : Option (Int32 × XM) :=
    xct (fxX8_touches N q0 x0 m0) (fun E m => if E = xNS then some (1, m) else none) (xca (fX8_touches N q0 x0 m0) fun v1 m2 => xv (v1.toInt64) fun w3 => xlst N m2 q1 0 w3 fun m4 => some (0, m4))
def fwL_reach (N : Nat → Nat) (q0 : Nat) (x0 : Int32) (q1 : Nat) (m0 : XM) : Option (Int32 × XM) :=
    xct (fxX8_reach N q0 x0 m0) (fun E m => if E = xNS then some (1, m) else none) (xca (fX8_reach N q0 x0 m0) fun v1 m2 => xv (v1.toInt64) fun w3 => xlst N m2 q1 0 w3 fun m4 => some (0, m4))
def fwL_ring (N : Nat → Nat) (q0 : Nat) (x0 : Int32) (q1 : Nat) (m0 : XM) : Option (Int32 × XM) :=
    xct (fxX8_ring N q0 x0 m0) (fun E m => if E = xNS then some (1, m) else none) (xca (fX8_ring N q0 x0 m0) fun v1 m2 => xv (v1.toInt64) fun w3 => xlst N m2 q1 0 w3 fun m4 => some (0, m4))
def fwL_least (N : Nat → Nat) (q0 : Nat) (x0 : Int32) (q1 : Nat) (m0 : XM) : Option (Int32 × XM) :=
    xct (fxX8_least N q0 x0 m0) (fun E m => if E = xIA then some (1, m) else none) (xca (fX8_least N q0 x0 m0) fun v1 m2 => xv (v1.toInt64) fun w3 => xlst N m2 q1 0 w3 fun m4 => some (0, m4))
def fwL_breaks (N : Nat → Nat) (q0 : Nat) (x0 : Int32) (q1 : Nat) (m0 : XM) : Option (Int32 × XM) :=
    xct (fxX8_breaks N q0 x0 m0) (fun E m => if E = xIA then some (1, m) else none) (xca (fX8_breaks N q0 x0 m0) fun v1 m2 => xv (v1.toInt64) fun w3 => xlst N m2 q1 0 w3 fun m4 => some (0, m4))
set_option maxRecDepth 20000 in
set_option maxHeartbeats 4000000 in
theorem wwL_text {G : XG} {l : Launch} {d : Nat} (hn : xN G) (hst : l.stackTraces = false) (hdep : 47 ≤ d) {m0 : XM} (hT : xT G m0) {q0 : Nat} {x0 : Int32} {q1 : Nat} (hq0 : isa G q0 8) (hq1 : isa G q1 11) : ∀ z, fwL_text (xln G) q0 x0 q1 m0 = some z → xWMet G l mL_text [(0, 9, 12, 13)] d [.ref (xad G q0), .int x0, .ref (xad G q1)] m0 z := by
  refine xWMet_of (by decide +kernel) hn hT (Nat.le_of_ble_eq_true rfl) (fun X sz FY F => ?_)
  have F1 := xF_more F (Nat.le_refl _) (Nat.le_refl _)
  refine xj_sub (lv' := [(0, .ref (xad G q0)), (1, .int x0), (2, .ref (xad G q1))]) [0, 1, 2] rfl ?_
  unfold fwL_text
  refine xj_aload_n F 2 dL_text_0 rfl ?_
  refine xj_iconst F 0 dL_text_1 (by decide) ?_
  refine xj_aload_n F 0 dL_text_2 rfl ?_
  refine xj_iload_n F 1 dL_text_3 rfl ?_
  refine xj_catch (b := q0) (As := [.int x0]) (d' := 46) (lv2 := []) F FY hq0 lmL_7 rfl rfl (Nat.le_of_ble_eq_true rfl) (Nat.le_trans (Nat.le_of_ble_eq_true rfl) hdep) dL_text_4 (fun hT z hz => wxX8_text (xnd F) hst (Nat.le_refl _) hT (a0 := q0) (a1 := x0) hq0 z hz) (fun E m1 => ?_) ?_
  · by_cases e0 : E = xIA
    · refine Or.inr ⟨12, ⟨_, _, _, xsplit0 [(0, 9, 12, 13)] rfl, (fun z hz => by cases hz), by decide, by decide, by rw [e0]; exact q741, by rw [e0]; decide, rfl⟩, fun q => ?_⟩
      refine xj_eq (t2 := some (1, m1)) (by simp only [if_pos e0]) ?_
      refine xj_astore_n (lv' := (3, .ref q) :: [(0, .ref (xad G q0)), (1, .int x0), (2, .ref (xad G q1))]) F1 dL_text_12 (by decide) rfl ?_
      refine xj_iconst F1 1 dL_text_13 (by decide) ?_
      exact xj_retW F1 (Nat.le_refl _) (Nat.le_refl _) rfl dL_text_14
    · skip
      refine Or.inl (fun z hz => ?_)
      simp only [if_neg e0] at hz
      cases hz
  · refine xj_callVI (b := q0) (As := [.int x0]) (d' := 46) F hq0 lmL_7 rfl rfl (Nat.le_of_ble_eq_true rfl) (xfitX (Nat.le_trans (Nat.le_of_ble_eq_true rfl) hdep)) dL_text_4 (fun hT z hz => wX8_text (xnd F) (Nat.le_refl _) hT (a0 := q0) (a1 := x0) hq0 z hz) (fun v1 m2 => ?_)
    refine xj_i2l F dL_text_7 (fun w3 => ?_)
    refine xj_last F hq1 dL_text_8 (fun m4 => ?_)
    refine xj_goto (tgt := 15) F dL_text_9 (by decide) ?_
    refine xj_iconst F 0 dL_text_15 (by decide) ?_
    exact xj_retW F (Nat.zero_le _) (Nat.zero_le _) rfl dL_text_16
set_option maxRecDepth 20000 in
set_option maxHeartbeats 4000000 in
theorem wwL_move {G : XG} {l : Launch} {d : Nat} (hn : xN G) (hst : l.stackTraces = false) (hdep : 10 ≤ d) {m0 : XM} (hT : xT G m0) {q0 : Nat} {x0 x1 x2 : Int32} {q1 : Nat} (hq0 : isa G q0 8) (hq1 : isa G q1 11) : ∀ z, fwL_move (xln G) q0 x0 x1 x2 q1 m0 = some z → xWMet G l mL_move [(0, 12, 15, 19)] d [.ref (xad G q0), .int x0, .int x1, .int x2, .ref (xad G q1)] m0 z := by
  refine xWMet_of (by decide +kernel) hn hT (Nat.le_of_ble_eq_true rfl) (fun X sz FY F => ?_)
  have F1 := xF_more F (Nat.le_refl _) (Nat.le_refl _)
  refine xj_sub (lv' := [(0, .ref (xad G q0)), (1, .int x0), (2, .int x1), (3, .int x2), (4, .ref (xad G q1))]) [0, 1, 2, 3, 4] rfl ?_
  unfold fwL_move
  refine xj_aload F 4 dL_move_0 rfl ?_
  refine xj_iconst F 0 dL_move_2 (by decide) ?_
  refine xj_aload_n F 0 dL_move_3 rfl ?_
  refine xj_iload_n F 1 dL_move_4 rfl ?_
  refine xj_iload_n F 2 dL_move_5 rfl ?_
  refine xj_iload_n F 3 dL_move_6 rfl ?_
  refine xj_catch (b := q0) (As := [.int x0, .int x1, .int x2]) (d' := 9) (lv2 := []) F FY hq0 lmL_15 rfl rfl (Nat.le_of_ble_eq_true rfl) (Nat.le_trans (Nat.le_of_ble_eq_true rfl) hdep) dL_move_7 (fun hT z hz => wxX8_move (xnd F) hst (Nat.le_refl _) hT (a0 := q0) (a1 := x0) (a2 := x1) (a3 := x2) hq0 z hz) (fun E m1 => ?_) ?_
  · by_cases e0 : E = xNS
    · refine Or.inr ⟨15, ⟨_, _, _, xsplit0 [(0, 12, 15, 19)] rfl, (fun z hz => by cases hz), by decide, by decide, by rw [e0]; exact q1049, by rw [e0]; decide, rfl⟩, fun q => ?_⟩
      refine xj_eq (t2 := some (1, m1)) (by simp only [if_pos e0]) ?_
      refine xj_astore (lv' := (5, .ref q) :: [(0, .ref (xad G q0)), (1, .int x0), (2, .int x1), (3, .int x2), (4, .ref (xad G q1))]) F1 dL_move_15 (by decide) rfl ?_
      refine xj_iconst F1 1 dL_move_17 (by decide) ?_
      exact xj_retW F1 (Nat.le_refl _) (Nat.le_refl _) rfl dL_move_18
    · skip
      refine Or.inl (fun z hz => ?_)
      simp only [if_neg e0] at hz
      cases hz
  · refine xj_callVI (b := q0) (As := [.int x0, .int x1, .int x2]) (d' := 3) F hq0 lmL_15 rfl rfl (Nat.le_of_ble_eq_true rfl) (xfitX (Nat.le_trans (Nat.le_of_ble_eq_true rfl) hdep)) dL_move_7 (fun hT z hz => wX8_move (xnd F) (Nat.le_refl _) hT (a0 := q0) (a1 := x0) (a2 := x1) (a3 := x2) hq0 z hz) (fun v1 m2 => ?_)
    refine xj_i2l F dL_move_10 (fun w3 => ?_)
    refine xj_last F hq1 dL_move_11 (fun m4 => ?_)
    refine xj_goto (tgt := 19) F dL_move_12 (by decide) ?_
    refine xj_iconst F 0 dL_move_19 (by decide) ?_
    exact xj_retW F (Nat.zero_le _) (Nat.zero_le _) rfl dL_move_20
set_option maxRecDepth 20000 in
set_option maxHeartbeats 4000000 in
theorem wwL_turn {G : XG} {l : Launch} {d : Nat} (hn : xN G) (hst : l.stackTraces = false) (hdep : 10 ≤ d) {m0 : XM} (hT : xT G m0) {q0 : Nat} {x0 x1 : Int32} {q1 : Nat} (hq0 : isa G q0 8) (hq1 : isa G q1 11) : ∀ z, fwL_turn (xln G) q0 x0 x1 q1 m0 = some z → xWMet G l mL_turn [(0, 10, 13, 19)] d [.ref (xad G q0), .int x0, .int x1, .ref (xad G q1)] m0 z := by
  refine xWMet_of (by decide +kernel) hn hT (Nat.le_of_ble_eq_true rfl) (fun X sz FY F => ?_)
  have F1 := xF_more F (Nat.le_refl _) (Nat.le_refl _)
  refine xj_sub (lv' := [(0, .ref (xad G q0)), (1, .int x0), (2, .int x1), (3, .ref (xad G q1))]) [0, 1, 2, 3] rfl ?_
  unfold fwL_turn
  refine xj_aload_n F 3 dL_turn_0 rfl ?_
  refine xj_iconst F 0 dL_turn_1 (by decide) ?_
  refine xj_aload_n F 0 dL_turn_2 rfl ?_
  refine xj_iload_n F 1 dL_turn_3 rfl ?_
  refine xj_iload_n F 2 dL_turn_4 rfl ?_
  refine xj_catch (b := q0) (As := [.int x0, .int x1]) (d' := 9) (lv2 := []) F FY hq0 lmL_21 rfl rfl (Nat.le_of_ble_eq_true rfl) (Nat.le_trans (Nat.le_of_ble_eq_true rfl) hdep) dL_turn_5 (fun hT z hz => wxX8_turn (xnd F) hst (Nat.le_refl _) hT (a0 := q0) (a1 := x0) (a2 := x1) hq0 z hz) (fun E m1 => ?_) ?_
  · by_cases e0 : E = xNS
    · refine Or.inr ⟨13, ⟨_, _, _, xsplit0 [(0, 10, 13, 19)] rfl, (fun z hz => by cases hz), by decide, by decide, by rw [e0]; exact q1049, by rw [e0]; decide, rfl⟩, fun q => ?_⟩
      refine xj_eq (t2 := some (1, m1)) (by simp only [if_pos e0]) ?_
      refine xj_astore (lv' := (4, .ref q) :: [(0, .ref (xad G q0)), (1, .int x0), (2, .int x1), (3, .ref (xad G q1))]) F1 dL_turn_13 (by decide) rfl ?_
      refine xj_iconst F1 1 dL_turn_15 (by decide) ?_
      exact xj_retW F1 (Nat.le_refl _) (Nat.le_refl _) rfl dL_turn_16
    · skip
      refine Or.inl (fun z hz => ?_)
      simp only [if_neg e0] at hz
      cases hz
  · refine xj_callVI (b := q0) (As := [.int x0, .int x1]) (d' := 3) F hq0 lmL_21 rfl rfl (Nat.le_of_ble_eq_true rfl) (xfitX (Nat.le_trans (Nat.le_of_ble_eq_true rfl) hdep)) dL_turn_5 (fun hT z hz => wX8_turn (xnd F) (Nat.le_refl _) hT (a0 := q0) (a1 := x0) (a2 := x1) hq0 z hz) (fun v1 m2 => ?_)
    refine xj_i2l F dL_turn_8 (fun w3 => ?_)
    refine xj_last F hq1 dL_turn_9 (fun m4 => ?_)
    refine xj_goto (tgt := 17) F dL_turn_10 (by decide) ?_
    refine xj_iconst F 0 dL_turn_17 (by decide) ?_
    exact xj_retW F (Nat.zero_le _) (Nat.zero_le _) rfl dL_turn_18
set_option maxRecDepth 20000 in
set_option maxHeartbeats 4000000 in
theorem wwL_told {G : XG} {l : Launch} {d : Nat} (hn : xN G) (hst : l.stackTraces = false) (hdep : 9 ≤ d) {m0 : XM} (hT : xT G m0) {q0 : Nat} {x0 : Int32} {q1 : Nat} (hq0 : isa G q0 8) (hq1 : isa G q1 11) : ∀ z, fwL_told (xln G) q0 x0 q1 m0 = some z → xWMet G l mL_told [(0, 9, 12, 13)] d [.ref (xad G q0), .int x0, .ref (xad G q1)] m0 z := by
  refine xWMet_of (by decide +kernel) hn hT (Nat.le_of_ble_eq_true rfl) (fun X sz FY F => ?_)
  have F1 := xF_more F (Nat.le_refl _) (Nat.le_refl _)
  refine xj_sub (lv' := [(0, .ref (xad G q0)), (1, .int x0), (2, .ref (xad G q1))]) [0, 1, 2] rfl ?_
  unfold fwL_told
  refine xj_aload_n F 2 dL_told_0 rfl ?_
  refine xj_iconst F 0 dL_told_1 (by decide) ?_
  refine xj_aload_n F 0 dL_told_2 rfl ?_
  refine xj_iload_n F 1 dL_told_3 rfl ?_
  refine xj_catch (b := q0) (As := [.int x0]) (d' := 8) (lv2 := []) F FY hq0 lmL_25 rfl rfl (Nat.le_of_ble_eq_true rfl) (Nat.le_trans (Nat.le_of_ble_eq_true rfl) hdep) dL_told_4 (fun hT z hz => wxX8_told (xnd F) hst (Nat.le_refl _) hT (a0 := q0) (a1 := x0) hq0 z hz) (fun E m1 => ?_) ?_
  · by_cases e0 : E = xIA
    · refine Or.inr ⟨12, ⟨_, _, _, xsplit0 [(0, 9, 12, 13)] rfl, (fun z hz => by cases hz), by decide, by decide, by rw [e0]; exact q741, by rw [e0]; decide, rfl⟩, fun q => ?_⟩
      refine xj_eq (t2 := some (1, m1)) (by simp only [if_pos e0]) ?_
      refine xj_astore_n (lv' := (3, .ref q) :: [(0, .ref (xad G q0)), (1, .int x0), (2, .ref (xad G q1))]) F1 dL_told_12 (by decide) rfl ?_
      refine xj_iconst F1 1 dL_told_13 (by decide) ?_
      exact xj_retW F1 (Nat.le_refl _) (Nat.le_refl _) rfl dL_told_14
    · skip
      refine Or.inl (fun z hz => ?_)
      simp only [if_neg e0] at hz
      cases hz
  · refine xj_callVI (b := q0) (As := [.int x0]) (d' := 2) F hq0 lmL_25 rfl rfl (Nat.le_of_ble_eq_true rfl) (xfitX (Nat.le_trans (Nat.le_of_ble_eq_true rfl) hdep)) dL_told_4 (fun hT z hz => wX8_told (xnd F) (Nat.le_refl _) hT (a0 := q0) (a1 := x0) hq0 z hz) (fun v1 m2 => ?_)
    refine xj_i2l F dL_told_7 (fun w3 => ?_)
    refine xj_last F hq1 dL_told_8 (fun m4 => ?_)
    refine xj_goto (tgt := 15) F dL_told_9 (by decide) ?_
    refine xj_iconst F 0 dL_told_15 (by decide) ?_
    exact xj_retW F (Nat.zero_le _) (Nat.zero_le _) rfl dL_told_16
set_option maxRecDepth 20000 in
set_option maxHeartbeats 4000000 in
theorem wwL_unit {G : XG} {l : Launch} {d : Nat} (hn : xN G) (hst : l.stackTraces = false) (hdep : 9 ≤ d) {m0 : XM} (hT : xT G m0) {q0 : Nat} {x0 x1 : Int32} {q1 : Nat} (hq0 : isa G q0 8) (hq1 : isa G q1 11) : ∀ z, fwL_unit (xln G) q0 x0 x1 q1 m0 = some z → xWMet G l mL_unit [(0, 10, 13, 19), (0, 10, 17, 13)] d [.ref (xad G q0), .int x0, .int x1, .ref (xad G q1)] m0 z := by
  refine xWMet_of (by decide +kernel) hn hT (Nat.le_of_ble_eq_true rfl) (fun X sz FY F => ?_)
  have F1 := xF_more F (Nat.le_refl _) (Nat.le_refl _)
  refine xj_sub (lv' := [(0, .ref (xad G q0)), (1, .int x0), (2, .int x1), (3, .ref (xad G q1))]) [0, 1, 2, 3] rfl ?_
  unfold fwL_unit
  refine xj_aload_n F 3 dL_unit_0 rfl ?_
  refine xj_iconst F 0 dL_unit_1 (by decide) ?_
  refine xj_aload_n F 0 dL_unit_2 rfl ?_
  refine xj_iload_n F 1 dL_unit_3 rfl ?_
  refine xj_iload_n F 2 dL_unit_4 rfl ?_
  refine xj_catch (b := q0) (As := [.int x0, .int x1]) (d' := 8) (lv2 := []) F FY hq0 lmL_28 rfl rfl (Nat.le_of_ble_eq_true rfl) (Nat.le_trans (Nat.le_of_ble_eq_true rfl) hdep) dL_unit_5 (fun hT z hz => wxX8_unit (xnd F) hst (Nat.le_refl _) hT (a0 := q0) (a1 := x0) (a2 := x1) hq0 z hz) (fun E m1 => ?_) ?_
  · by_cases e0 : E = xNS
    · refine Or.inr ⟨13, ⟨_, _, _, xsplit0 [(0, 10, 13, 19), (0, 10, 17, 13)] rfl, (fun z hz => by cases hz), by decide, by decide, by rw [e0]; exact q1049, by rw [e0]; decide, rfl⟩, fun q => ?_⟩
      refine xj_eq (t2 := some (1, m1)) (by simp only [if_pos e0]) ?_
      refine xj_astore (lv' := (4, .ref q) :: [(0, .ref (xad G q0)), (1, .int x0), (2, .int x1), (3, .ref (xad G q1))]) F1 dL_unit_13 (by decide) rfl ?_
      refine xj_iconst F1 1 dL_unit_15 (by decide) ?_
      exact xj_retW F1 (Nat.le_refl _) (Nat.le_refl _) rfl dL_unit_16
    · skip
      by_cases e1 : E = xIA
      · refine Or.inr ⟨17, ⟨_, _, _, xsplit1 [(0, 10, 13, 19), (0, 10, 17, 13)] rfl, (fun z hz => by rw [List.mem_singleton.mp hz]; exact ⟨by decide, e1, q1049⟩), by decide, by decide, by rw [e1]; exact q741, by rw [e1]; decide, rfl⟩, fun q => ?_⟩
        refine xj_eq (t2 := some (2, m1)) (by simp only [if_neg e0, if_pos e1]) ?_
        refine xj_astore (lv' := (4, .ref q) :: [(0, .ref (xad G q0)), (1, .int x0), (2, .int x1), (3, .ref (xad G q1))]) F1 dL_unit_17 (by decide) rfl ?_
        refine xj_iconst F1 2 dL_unit_19 (by decide) ?_
        exact xj_retW F1 (Nat.le_refl _) (Nat.le_refl _) rfl dL_unit_20
      · skip
        refine Or.inl (fun z hz => ?_)
        simp only [if_neg e0, if_neg e1] at hz
        cases hz
  · refine xj_callVI (b := q0) (As := [.int x0, .int x1]) (d' := 2) F hq0 lmL_28 rfl rfl (Nat.le_of_ble_eq_true rfl) (xfitX (Nat.le_trans (Nat.le_of_ble_eq_true rfl) hdep)) dL_unit_5 (fun hT z hz => wX8_unit (xnd F) (Nat.le_refl _) hT (a0 := q0) (a1 := x0) (a2 := x1) hq0 z hz) (fun v1 m2 => ?_)
    refine xj_i2l F dL_unit_8 (fun w3 => ?_)
    refine xj_last F hq1 dL_unit_9 (fun m4 => ?_)
    refine xj_goto (tgt := 21) F dL_unit_10 (by decide) ?_
    refine xj_iconst F 0 dL_unit_21 (by decide) ?_
    exact xj_retW F (Nat.zero_le _) (Nat.zero_le _) rfl dL_unit_22
set_option maxRecDepth 20000 in
set_option maxHeartbeats 4000000 in
theorem wwL_member {G : XG} {l : Launch} {d : Nat} (hn : xN G) (hst : l.stackTraces = false) (hdep : 10 ≤ d) {m0 : XM} (hT : xT G m0) {q0 : Nat} {x0 x1 x2 : Int32} {q1 : Nat} (hq0 : isa G q0 8) (hq1 : isa G q1 11) : ∀ z, fwL_member (xln G) q0 x0 x1 x2 q1 m0 = some z → xWMet G l mL_member [(0, 12, 15, 19), (0, 12, 19, 13)] d [.ref (xad G q0), .int x0, .int x1, .int x2, .ref (xad G q1)] m0 z := by
  refine xWMet_of (by decide +kernel) hn hT (Nat.le_of_ble_eq_true rfl) (fun X sz FY F => ?_)
  have F1 := xF_more F (Nat.le_refl _) (Nat.le_refl _)
  refine xj_sub (lv' := [(0, .ref (xad G q0)), (1, .int x0), (2, .int x1), (3, .int x2), (4, .ref (xad G q1))]) [0, 1, 2, 3, 4] rfl ?_
  unfold fwL_member
  refine xj_aload F 4 dL_member_0 rfl ?_
  refine xj_iconst F 0 dL_member_2 (by decide) ?_
  refine xj_aload_n F 0 dL_member_3 rfl ?_
  refine xj_iload_n F 1 dL_member_4 rfl ?_
  refine xj_iload_n F 2 dL_member_5 rfl ?_
  refine xj_iload_n F 3 dL_member_6 rfl ?_
  refine xj_catch (b := q0) (As := [.int x0, .int x1, .int x2]) (d' := 9) (lv2 := []) F FY hq0 lmL_31 rfl rfl (Nat.le_of_ble_eq_true rfl) (Nat.le_trans (Nat.le_of_ble_eq_true rfl) hdep) dL_member_7 (fun hT z hz => wxX8_member (xnd F) hst (Nat.le_refl _) hT (a0 := q0) (a1 := x0) (a2 := x1) (a3 := x2) hq0 z hz) (fun E m1 => ?_) ?_
  · by_cases e0 : E = xNS
    · refine Or.inr ⟨15, ⟨_, _, _, xsplit0 [(0, 12, 15, 19), (0, 12, 19, 13)] rfl, (fun z hz => by cases hz), by decide, by decide, by rw [e0]; exact q1049, by rw [e0]; decide, rfl⟩, fun q => ?_⟩
      refine xj_eq (t2 := some (1, m1)) (by simp only [if_pos e0]) ?_
      refine xj_astore (lv' := (5, .ref q) :: [(0, .ref (xad G q0)), (1, .int x0), (2, .int x1), (3, .int x2), (4, .ref (xad G q1))]) F1 dL_member_15 (by decide) rfl ?_
      refine xj_iconst F1 1 dL_member_17 (by decide) ?_
      exact xj_retW F1 (Nat.le_refl _) (Nat.le_refl _) rfl dL_member_18
    · skip
      by_cases e1 : E = xIA
      · refine Or.inr ⟨19, ⟨_, _, _, xsplit1 [(0, 12, 15, 19), (0, 12, 19, 13)] rfl, (fun z hz => by rw [List.mem_singleton.mp hz]; exact ⟨by decide, e1, q1049⟩), by decide, by decide, by rw [e1]; exact q741, by rw [e1]; decide, rfl⟩, fun q => ?_⟩
        refine xj_eq (t2 := some (2, m1)) (by simp only [if_neg e0, if_pos e1]) ?_
        refine xj_astore (lv' := (5, .ref q) :: [(0, .ref (xad G q0)), (1, .int x0), (2, .int x1), (3, .int x2), (4, .ref (xad G q1))]) F1 dL_member_19 (by decide) rfl ?_
        refine xj_iconst F1 2 dL_member_21 (by decide) ?_
        exact xj_retW F1 (Nat.le_refl _) (Nat.le_refl _) rfl dL_member_22
      · skip
        refine Or.inl (fun z hz => ?_)
        simp only [if_neg e0, if_neg e1] at hz
        cases hz
  · refine xj_callVI (b := q0) (As := [.int x0, .int x1, .int x2]) (d' := 3) F hq0 lmL_31 rfl rfl (Nat.le_of_ble_eq_true rfl) (xfitX (Nat.le_trans (Nat.le_of_ble_eq_true rfl) hdep)) dL_member_7 (fun hT z hz => wX8_member (xnd F) (Nat.le_refl _) hT (a0 := q0) (a1 := x0) (a2 := x1) (a3 := x2) hq0 z hz) (fun v1 m2 => ?_)
    refine xj_i2l F dL_member_10 (fun w3 => ?_)
    refine xj_last F hq1 dL_member_11 (fun m4 => ?_)
    refine xj_goto (tgt := 23) F dL_member_12 (by decide) ?_
    refine xj_iconst F 0 dL_member_23 (by decide) ?_
    exact xj_retW F (Nat.zero_le _) (Nat.zero_le _) rfl dL_member_24
set_option maxRecDepth 20000 in
set_option maxHeartbeats 4000000 in
theorem wwL_lazy {G : XG} {l : Launch} {d : Nat} (hn : xN G) (hst : l.stackTraces = false) (hdep : 206 ≤ d) {m0 : XM} (hT : xT G m0) {q0 : Nat} {x0 : Int32} {q1 : Nat} (hq0 : isa G q0 8) (hq1 : isa G q1 11) : ∀ z, fwL_lazy (xln G) q0 x0 q1 m0 = some z → xWMet G l mL_lazy [(0, 9, 12, 13)] d [.ref (xad G q0), .int x0, .ref (xad G q1)] m0 z := by
  refine xWMet_of (by decide +kernel) hn hT (Nat.le_of_ble_eq_true rfl) (fun X sz FY F => ?_)
  have F1 := xF_more F (Nat.le_refl _) (Nat.le_refl _)
  refine xj_sub (lv' := [(0, .ref (xad G q0)), (1, .int x0), (2, .ref (xad G q1))]) [0, 1, 2] rfl ?_
  unfold fwL_lazy
  refine xj_aload_n F 2 dL_lazy_0 rfl ?_
  refine xj_iconst F 0 dL_lazy_1 (by decide) ?_
  refine xj_aload_n F 0 dL_lazy_2 rfl ?_
  refine xj_iload_n F 1 dL_lazy_3 rfl ?_
  refine xj_catch (b := q0) (As := [.int x0]) (d' := 205) (lv2 := []) F FY hq0 lmL_34 rfl rfl (Nat.le_of_ble_eq_true rfl) (Nat.le_trans (Nat.le_of_ble_eq_true rfl) hdep) dL_lazy_4 (fun hT z hz => wxX8_lazy (xnd F) hst (Nat.le_refl _) hT (a0 := q0) (a1 := x0) hq0 z hz) (fun E m1 => ?_) ?_
  · by_cases e0 : E = xIA
    · refine Or.inr ⟨12, ⟨_, _, _, xsplit0 [(0, 9, 12, 13)] rfl, (fun z hz => by cases hz), by decide, by decide, by rw [e0]; exact q741, by rw [e0]; decide, rfl⟩, fun q => ?_⟩
      refine xj_eq (t2 := some (1, m1)) (by simp only [if_pos e0]) ?_
      refine xj_astore_n (lv' := (3, .ref q) :: [(0, .ref (xad G q0)), (1, .int x0), (2, .ref (xad G q1))]) F1 dL_lazy_12 (by decide) rfl ?_
      refine xj_iconst F1 1 dL_lazy_13 (by decide) ?_
      exact xj_retW F1 (Nat.le_refl _) (Nat.le_refl _) rfl dL_lazy_14
    · skip
      refine Or.inl (fun z hz => ?_)
      simp only [if_neg e0] at hz
      cases hz
  · refine xj_callVI (b := q0) (As := [.int x0]) (d' := 205) F hq0 lmL_34 rfl rfl (Nat.le_of_ble_eq_true rfl) (xfitX (Nat.le_trans (Nat.le_of_ble_eq_true rfl) hdep)) dL_lazy_4 (fun hT z hz => wX8_lazy (xnd F) (Nat.le_refl _) hT (a0 := q0) (a1 := x0) hq0 z hz) (fun v1 m2 => ?_)
    refine xj_i2l F dL_lazy_7 (fun w3 => ?_)
    refine xj_last F hq1 dL_lazy_8 (fun m4 => ?_)
    refine xj_goto (tgt := 15) F dL_lazy_9 (by decide) ?_
    refine xj_iconst F 0 dL_lazy_15 (by decide) ?_
    exact xj_retW F (Nat.zero_le _) (Nat.zero_le _) rfl dL_lazy_16
set_option maxRecDepth 20000 in
set_option maxHeartbeats 4000000 in
theorem wwL_eager {G : XG} {l : Launch} {d : Nat} (hn : xN G) (hst : l.stackTraces = false) (hdep : 205 ≤ d) {m0 : XM} (hT : xT G m0) {q0 : Nat} {x0 x1 : Int32} {q1 : Nat} (hq0 : isa G q0 8) (hq1 : isa G q1 11) : ∀ z, fwL_eager (xln G) q0 x0 x1 q1 m0 = some z → xWMet G l mL_eager [(0, 10, 13, 13)] d [.ref (xad G q0), .int x0, .int x1, .ref (xad G q1)] m0 z := by
  refine xWMet_of (by decide +kernel) hn hT (Nat.le_of_ble_eq_true rfl) (fun X sz FY F => ?_)
  have F1 := xF_more F (Nat.le_refl _) (Nat.le_refl _)
  refine xj_sub (lv' := [(0, .ref (xad G q0)), (1, .int x0), (2, .int x1), (3, .ref (xad G q1))]) [0, 1, 2, 3] rfl ?_
  unfold fwL_eager
  refine xj_aload_n F 3 dL_eager_0 rfl ?_
  refine xj_iconst F 0 dL_eager_1 (by decide) ?_
  refine xj_aload_n F 0 dL_eager_2 rfl ?_
  refine xj_iload_n F 1 dL_eager_3 rfl ?_
  refine xj_iload_n F 2 dL_eager_4 rfl ?_
  refine xj_catch (b := q0) (As := [.int x0, .int x1]) (d' := 204) (lv2 := []) F FY hq0 lmL_37 rfl rfl (Nat.le_of_ble_eq_true rfl) (Nat.le_trans (Nat.le_of_ble_eq_true rfl) hdep) dL_eager_5 (fun hT z hz => wxX8_eager (xnd F) hst (Nat.le_refl _) hT (a0 := q0) (a1 := x0) (a2 := x1) hq0 z hz) (fun E m1 => ?_) ?_
  · by_cases e0 : E = xIA
    · refine Or.inr ⟨13, ⟨_, _, _, xsplit0 [(0, 10, 13, 13)] rfl, (fun z hz => by cases hz), by decide, by decide, by rw [e0]; exact q741, by rw [e0]; decide, rfl⟩, fun q => ?_⟩
      refine xj_eq (t2 := some (1, m1)) (by simp only [if_pos e0]) ?_
      refine xj_astore (lv' := (4, .ref q) :: [(0, .ref (xad G q0)), (1, .int x0), (2, .int x1), (3, .ref (xad G q1))]) F1 dL_eager_13 (by decide) rfl ?_
      refine xj_iconst F1 1 dL_eager_15 (by decide) ?_
      exact xj_retW F1 (Nat.le_refl _) (Nat.le_refl _) rfl dL_eager_16
    · skip
      refine Or.inl (fun z hz => ?_)
      simp only [if_neg e0] at hz
      cases hz
  · refine xj_callVI (b := q0) (As := [.int x0, .int x1]) (d' := 204) F hq0 lmL_37 rfl rfl (Nat.le_of_ble_eq_true rfl) (xfitX (Nat.le_trans (Nat.le_of_ble_eq_true rfl) hdep)) dL_eager_5 (fun hT z hz => wX8_eager (xnd F) (Nat.le_refl _) hT (a0 := q0) (a1 := x0) (a2 := x1) hq0 z hz) (fun v1 m2 => ?_)
    refine xj_i2l F dL_eager_8 (fun w3 => ?_)
    refine xj_last F hq1 dL_eager_9 (fun m4 => ?_)
    refine xj_goto (tgt := 17) F dL_eager_10 (by decide) ?_
    refine xj_iconst F 0 dL_eager_17 (by decide) ?_
    exact xj_retW F (Nat.zero_le _) (Nat.zero_le _) rfl dL_eager_18
set_option maxRecDepth 20000 in
set_option maxHeartbeats 4000000 in
theorem wwL_value {G : XG} {l : Launch} {d : Nat} (hn : xN G) (hst : l.stackTraces = false) (hdep : 206 ≤ d) {m0 : XM} (hT : xT G m0) {q0 : Nat} {x0 x1 : Int32} {q1 : Nat} (hq0 : isa G q0 8) (hq1 : isa G q1 11) : ∀ z, fwL_value (xln G) q0 x0 x1 q1 m0 = some z → xWMet G l mL_value [(0, 10, 13, 19)] d [.ref (xad G q0), .int x0, .int x1, .ref (xad G q1)] m0 z := by
  refine xWMet_of (by decide +kernel) hn hT (Nat.le_of_ble_eq_true rfl) (fun X sz FY F => ?_)
  have F1 := xF_more F (Nat.le_refl _) (Nat.le_refl _)
  refine xj_sub (lv' := [(0, .ref (xad G q0)), (1, .int x0), (2, .int x1), (3, .ref (xad G q1))]) [0, 1, 2, 3] rfl ?_
  unfold fwL_value
  refine xj_aload_n F 3 dL_value_0 rfl ?_
  refine xj_iconst F 0 dL_value_1 (by decide) ?_
  refine xj_aload_n F 0 dL_value_2 rfl ?_
  refine xj_iload_n F 1 dL_value_3 rfl ?_
  refine xj_iload_n F 2 dL_value_4 rfl ?_
  refine xj_catch (b := q0) (As := [.int x0, .int x1]) (d' := 205) (lv2 := []) F FY hq0 lmL_40 rfl rfl (Nat.le_of_ble_eq_true rfl) (Nat.le_trans (Nat.le_of_ble_eq_true rfl) hdep) dL_value_5 (fun hT z hz => wxX8_value (xnd F) hst (Nat.le_refl _) hT (a0 := q0) (a1 := x0) (a2 := x1) hq0 z hz) (fun E m1 => ?_) ?_
  · by_cases e0 : E = xNS
    · refine Or.inr ⟨13, ⟨_, _, _, xsplit0 [(0, 10, 13, 19)] rfl, (fun z hz => by cases hz), by decide, by decide, by rw [e0]; exact q1049, by rw [e0]; decide, rfl⟩, fun q => ?_⟩
      refine xj_eq (t2 := some (1, m1)) (by simp only [if_pos e0]) ?_
      refine xj_astore (lv' := (4, .ref q) :: [(0, .ref (xad G q0)), (1, .int x0), (2, .int x1), (3, .ref (xad G q1))]) F1 dL_value_13 (by decide) rfl ?_
      refine xj_iconst F1 1 dL_value_15 (by decide) ?_
      exact xj_retW F1 (Nat.le_refl _) (Nat.le_refl _) rfl dL_value_16
    · skip
      refine Or.inl (fun z hz => ?_)
      simp only [if_neg e0] at hz
      cases hz
  · refine xj_callVI (b := q0) (As := [.int x0, .int x1]) (d' := 205) F hq0 lmL_40 rfl rfl (Nat.le_of_ble_eq_true rfl) (xfitX (Nat.le_trans (Nat.le_of_ble_eq_true rfl) hdep)) dL_value_5 (fun hT z hz => wX8_value (xnd F) (Nat.le_refl _) hT (a0 := q0) (a1 := x0) (a2 := x1) hq0 z hz) (fun v1 m2 => ?_)
    refine xj_i2l F dL_value_8 (fun w3 => ?_)
    refine xj_last F hq1 dL_value_9 (fun m4 => ?_)
    refine xj_goto (tgt := 17) F dL_value_10 (by decide) ?_
    refine xj_iconst F 0 dL_value_17 (by decide) ?_
    exact xj_retW F (Nat.zero_le _) (Nat.zero_le _) rfl dL_value_18
set_option maxRecDepth 20000 in
set_option maxHeartbeats 4000000 in
theorem wwL_state {G : XG} {l : Launch} {d : Nat} (hn : xN G) (hst : l.stackTraces = false) (hdep : 206 ≤ d) {m0 : XM} (hT : xT G m0) {q0 : Nat} {x0 : Int32} {q1 : Nat} (hq0 : isa G q0 8) (hq1 : isa G q1 11) : ∀ z, fwL_state (xln G) q0 x0 q1 m0 = some z → xWMet G l mL_state [(0, 9, 12, 19)] d [.ref (xad G q0), .int x0, .ref (xad G q1)] m0 z := by
  refine xWMet_of (by decide +kernel) hn hT (Nat.le_of_ble_eq_true rfl) (fun X sz FY F => ?_)
  have F1 := xF_more F (Nat.le_refl _) (Nat.le_refl _)
  refine xj_sub (lv' := [(0, .ref (xad G q0)), (1, .int x0), (2, .ref (xad G q1))]) [0, 1, 2] rfl ?_
  unfold fwL_state
  refine xj_aload_n F 2 dL_state_0 rfl ?_
  refine xj_iconst F 0 dL_state_1 (by decide) ?_
  refine xj_aload_n F 0 dL_state_2 rfl ?_
  refine xj_iload_n F 1 dL_state_3 rfl ?_
  refine xj_catch (b := q0) (As := [.int x0]) (d' := 205) (lv2 := []) F FY hq0 lmL_43 rfl rfl (Nat.le_of_ble_eq_true rfl) (Nat.le_trans (Nat.le_of_ble_eq_true rfl) hdep) dL_state_4 (fun hT z hz => wxX8_state (xnd F) hst (Nat.le_refl _) hT (a0 := q0) (a1 := x0) hq0 z hz) (fun E m1 => ?_) ?_
  · by_cases e0 : E = xNS
    · refine Or.inr ⟨12, ⟨_, _, _, xsplit0 [(0, 9, 12, 19)] rfl, (fun z hz => by cases hz), by decide, by decide, by rw [e0]; exact q1049, by rw [e0]; decide, rfl⟩, fun q => ?_⟩
      refine xj_eq (t2 := some (1, m1)) (by simp only [if_pos e0]) ?_
      refine xj_astore_n (lv' := (3, .ref q) :: [(0, .ref (xad G q0)), (1, .int x0), (2, .ref (xad G q1))]) F1 dL_state_12 (by decide) rfl ?_
      refine xj_iconst F1 1 dL_state_13 (by decide) ?_
      exact xj_retW F1 (Nat.le_refl _) (Nat.le_refl _) rfl dL_state_14
    · skip
      refine Or.inl (fun z hz => ?_)
      simp only [if_neg e0] at hz
      cases hz
  · refine xj_callVI (b := q0) (As := [.int x0]) (d' := 205) F hq0 lmL_43 rfl rfl (Nat.le_of_ble_eq_true rfl) (xfitX (Nat.le_trans (Nat.le_of_ble_eq_true rfl) hdep)) dL_state_4 (fun hT z hz => wX8_state (xnd F) (Nat.le_refl _) hT (a0 := q0) (a1 := x0) hq0 z hz) (fun v1 m2 => ?_)
    refine xj_i2l F dL_state_7 (fun w3 => ?_)
    refine xj_last F hq1 dL_state_8 (fun m4 => ?_)
    refine xj_goto (tgt := 15) F dL_state_9 (by decide) ?_
    refine xj_iconst F 0 dL_state_15 (by decide) ?_
    exact xj_retW F (Nat.zero_le _) (Nat.zero_le _) rfl dL_state_16
set_option maxRecDepth 20000 in
set_option maxHeartbeats 4000000 in
theorem wwL_surprise {G : XG} {l : Launch} {d : Nat} (hn : xN G) (hst : l.stackTraces = false) (hdep : 207 ≤ d) {m0 : XM} (hT : xT G m0) {q0 : Nat} {x0 x1 : Int32} {q1 : Nat} (hq0 : isa G q0 8) (hq1 : isa G q1 11) : ∀ z, fwL_surprise (xln G) q0 x0 x1 q1 m0 = some z → xWMet G l mL_surprise [(0, 10, 13, 19), (0, 10, 17, 13)] d [.ref (xad G q0), .int x0, .int x1, .ref (xad G q1)] m0 z := by
  refine xWMet_of (by decide +kernel) hn hT (Nat.le_of_ble_eq_true rfl) (fun X sz FY F => ?_)
  have F1 := xF_more F (Nat.le_refl _) (Nat.le_refl _)
  refine xj_sub (lv' := [(0, .ref (xad G q0)), (1, .int x0), (2, .int x1), (3, .ref (xad G q1))]) [0, 1, 2, 3] rfl ?_
  unfold fwL_surprise
  refine xj_aload_n F 3 dL_surprise_0 rfl ?_
  refine xj_iconst F 0 dL_surprise_1 (by decide) ?_
  refine xj_aload_n F 0 dL_surprise_2 rfl ?_
  refine xj_iload_n F 1 dL_surprise_3 rfl ?_
  refine xj_iload_n F 2 dL_surprise_4 rfl ?_
  refine xj_catch (b := q0) (As := [.int x0, .int x1]) (d' := 206) (lv2 := []) F FY hq0 lmL_46 rfl rfl (Nat.le_of_ble_eq_true rfl) (Nat.le_trans (Nat.le_of_ble_eq_true rfl) hdep) dL_surprise_5 (fun hT z hz => wxX8_surprise (xnd F) hst (Nat.le_refl _) hT (a0 := q0) (a1 := x0) (a2 := x1) hq0 z hz) (fun E m1 => ?_) ?_
  · by_cases e0 : E = xNS
    · refine Or.inr ⟨13, ⟨_, _, _, xsplit0 [(0, 10, 13, 19), (0, 10, 17, 13)] rfl, (fun z hz => by cases hz), by decide, by decide, by rw [e0]; exact q1049, by rw [e0]; decide, rfl⟩, fun q => ?_⟩
      refine xj_eq (t2 := some (1, m1)) (by simp only [if_pos e0]) ?_
      refine xj_astore (lv' := (4, .ref q) :: [(0, .ref (xad G q0)), (1, .int x0), (2, .int x1), (3, .ref (xad G q1))]) F1 dL_surprise_13 (by decide) rfl ?_
      refine xj_iconst F1 1 dL_surprise_15 (by decide) ?_
      exact xj_retW F1 (Nat.le_refl _) (Nat.le_refl _) rfl dL_surprise_16
    · skip
      by_cases e1 : E = xIA
      · refine Or.inr ⟨17, ⟨_, _, _, xsplit1 [(0, 10, 13, 19), (0, 10, 17, 13)] rfl, (fun z hz => by rw [List.mem_singleton.mp hz]; exact ⟨by decide, e1, q1049⟩), by decide, by decide, by rw [e1]; exact q741, by rw [e1]; decide, rfl⟩, fun q => ?_⟩
        refine xj_eq (t2 := some (2, m1)) (by simp only [if_neg e0, if_pos e1]) ?_
        refine xj_astore (lv' := (4, .ref q) :: [(0, .ref (xad G q0)), (1, .int x0), (2, .int x1), (3, .ref (xad G q1))]) F1 dL_surprise_17 (by decide) rfl ?_
        refine xj_iconst F1 2 dL_surprise_19 (by decide) ?_
        exact xj_retW F1 (Nat.le_refl _) (Nat.le_refl _) rfl dL_surprise_20
      · skip
        refine Or.inl (fun z hz => ?_)
        simp only [if_neg e0, if_neg e1] at hz
        cases hz
  · refine xj_callVI (b := q0) (As := [.int x0, .int x1]) (d' := 206) F hq0 lmL_46 rfl rfl (Nat.le_of_ble_eq_true rfl) (xfitX (Nat.le_trans (Nat.le_of_ble_eq_true rfl) hdep)) dL_surprise_5 (fun hT z hz => wX8_surprise (xnd F) (Nat.le_refl _) hT (a0 := q0) (a1 := x0) (a2 := x1) hq0 z hz) (fun v1 m2 => ?_)
    refine xj_i2l F dL_surprise_8 (fun w3 => ?_)
    refine xj_last F hq1 dL_surprise_9 (fun m4 => ?_)
    refine xj_goto (tgt := 21) F dL_surprise_10 (by decide) ?_
    refine xj_iconst F 0 dL_surprise_21 (by decide) ?_
    exact xj_retW F (Nat.zero_le _) (Nat.zero_le _) rfl dL_surprise_22
set_option maxRecDepth 20000 in
set_option maxHeartbeats 4000000 in
theorem wwL_trace {G : XG} {l : Launch} {d : Nat} (hn : xN G) (hst : l.stackTraces = false) (hdep : 207 ≤ d) {m0 : XM} (hT : xT G m0) {q0 : Nat} {x0 x1 : Int32} {q1 : Nat} (hq0 : isa G q0 8) (hq1 : isa G q1 11) : ∀ z, fwL_trace (xln G) q0 x0 x1 q1 m0 = some z → xWMet G l mL_trace [(0, 10, 13, 19)] d [.ref (xad G q0), .int x0, .int x1, .ref (xad G q1)] m0 z := by
  refine xWMet_of (by decide +kernel) hn hT (Nat.le_of_ble_eq_true rfl) (fun X sz FY F => ?_)
  have F1 := xF_more F (Nat.le_refl _) (Nat.le_refl _)
  refine xj_sub (lv' := [(0, .ref (xad G q0)), (1, .int x0), (2, .int x1), (3, .ref (xad G q1))]) [0, 1, 2, 3] rfl ?_
  unfold fwL_trace
  refine xj_aload_n F 3 dL_trace_0 rfl ?_
  refine xj_iconst F 0 dL_trace_1 (by decide) ?_
  refine xj_aload_n F 0 dL_trace_2 rfl ?_
  refine xj_iload_n F 1 dL_trace_3 rfl ?_
  refine xj_iload_n F 2 dL_trace_4 rfl ?_
  refine xj_catch (b := q0) (As := [.int x0, .int x1]) (d' := 206) (lv2 := []) F FY hq0 lmL_49 rfl rfl (Nat.le_of_ble_eq_true rfl) (Nat.le_trans (Nat.le_of_ble_eq_true rfl) hdep) dL_trace_5 (fun hT z hz => wxX8_trace (xnd F) hst (Nat.le_refl _) hT (a0 := q0) (a1 := x0) (a2 := x1) hq0 z hz) (fun E m1 => ?_) ?_
  · by_cases e0 : E = xNS
    · refine Or.inr ⟨13, ⟨_, _, _, xsplit0 [(0, 10, 13, 19)] rfl, (fun z hz => by cases hz), by decide, by decide, by rw [e0]; exact q1049, by rw [e0]; decide, rfl⟩, fun q => ?_⟩
      refine xj_eq (t2 := some (1, m1)) (by simp only [if_pos e0]) ?_
      refine xj_astore (lv' := (4, .ref q) :: [(0, .ref (xad G q0)), (1, .int x0), (2, .int x1), (3, .ref (xad G q1))]) F1 dL_trace_13 (by decide) rfl ?_
      refine xj_iconst F1 1 dL_trace_15 (by decide) ?_
      exact xj_retW F1 (Nat.le_refl _) (Nat.le_refl _) rfl dL_trace_16
    · skip
      refine Or.inl (fun z hz => ?_)
      simp only [if_neg e0] at hz
      cases hz
  · refine xj_callVI (b := q0) (As := [.int x0, .int x1]) (d' := 206) F hq0 lmL_49 rfl rfl (Nat.le_of_ble_eq_true rfl) (xfitX (Nat.le_trans (Nat.le_of_ble_eq_true rfl) hdep)) dL_trace_5 (fun hT z hz => wX8_trace (xnd F) (Nat.le_refl _) hT (a0 := q0) (a1 := x0) (a2 := x1) hq0 z hz) (fun v1 m2 => ?_)
    refine xj_i2l F dL_trace_8 (fun w3 => ?_)
    refine xj_last F hq1 dL_trace_9 (fun m4 => ?_)
    refine xj_goto (tgt := 17) F dL_trace_10 (by decide) ?_
    refine xj_iconst F 0 dL_trace_17 (by decide) ?_
    exact xj_retW F (Nat.zero_le _) (Nat.zero_le _) rfl dL_trace_18
set_option maxRecDepth 20000 in
set_option maxHeartbeats 4000000 in
theorem wwL_broken {G : XG} {l : Launch} {d : Nat} (hn : xN G) (hst : l.stackTraces = false) (hdep : 206 ≤ d) {m0 : XM} (hT : xT G m0) {q0 : Nat} {x0 x1 : Int32} {q1 : Nat} (hq0 : isa G q0 8) (hq1 : isa G q1 11) : ∀ z, fwL_broken (xln G) q0 x0 x1 q1 m0 = some z → xWMet G l mL_broken [(0, 10, 13, 19), (0, 10, 17, 13)] d [.ref (xad G q0), .int x0, .int x1, .ref (xad G q1)] m0 z := by
  refine xWMet_of (by decide +kernel) hn hT (Nat.le_of_ble_eq_true rfl) (fun X sz FY F => ?_)
  have F1 := xF_more F (Nat.le_refl _) (Nat.le_refl _)
  refine xj_sub (lv' := [(0, .ref (xad G q0)), (1, .int x0), (2, .int x1), (3, .ref (xad G q1))]) [0, 1, 2, 3] rfl ?_
  unfold fwL_broken
  refine xj_aload_n F 3 dL_broken_0 rfl ?_
  refine xj_iconst F 0 dL_broken_1 (by decide) ?_
  refine xj_aload_n F 0 dL_broken_2 rfl ?_
  refine xj_iload_n F 1 dL_broken_3 rfl ?_
  refine xj_iload_n F 2 dL_broken_4 rfl ?_
  refine xj_catch (b := q0) (As := [.int x0, .int x1]) (d' := 205) (lv2 := []) F FY hq0 lmL_52 rfl rfl (Nat.le_of_ble_eq_true rfl) (Nat.le_trans (Nat.le_of_ble_eq_true rfl) hdep) dL_broken_5 (fun hT z hz => wxX8_broken (xnd F) hst (Nat.le_refl _) hT (a0 := q0) (a1 := x0) (a2 := x1) hq0 z hz) (fun E m1 => ?_) ?_
  · by_cases e0 : E = xNS
    · refine Or.inr ⟨13, ⟨_, _, _, xsplit0 [(0, 10, 13, 19), (0, 10, 17, 13)] rfl, (fun z hz => by cases hz), by decide, by decide, by rw [e0]; exact q1049, by rw [e0]; decide, rfl⟩, fun q => ?_⟩
      refine xj_eq (t2 := some (1, m1)) (by simp only [if_pos e0]) ?_
      refine xj_astore (lv' := (4, .ref q) :: [(0, .ref (xad G q0)), (1, .int x0), (2, .int x1), (3, .ref (xad G q1))]) F1 dL_broken_13 (by decide) rfl ?_
      refine xj_iconst F1 1 dL_broken_15 (by decide) ?_
      exact xj_retW F1 (Nat.le_refl _) (Nat.le_refl _) rfl dL_broken_16
    · skip
      by_cases e1 : E = xIA
      · refine Or.inr ⟨17, ⟨_, _, _, xsplit1 [(0, 10, 13, 19), (0, 10, 17, 13)] rfl, (fun z hz => by rw [List.mem_singleton.mp hz]; exact ⟨by decide, e1, q1049⟩), by decide, by decide, by rw [e1]; exact q741, by rw [e1]; decide, rfl⟩, fun q => ?_⟩
        refine xj_eq (t2 := some (2, m1)) (by simp only [if_neg e0, if_pos e1]) ?_
        refine xj_astore (lv' := (4, .ref q) :: [(0, .ref (xad G q0)), (1, .int x0), (2, .int x1), (3, .ref (xad G q1))]) F1 dL_broken_17 (by decide) rfl ?_
        refine xj_iconst F1 2 dL_broken_19 (by decide) ?_
        exact xj_retW F1 (Nat.le_refl _) (Nat.le_refl _) rfl dL_broken_20
      · skip
        refine Or.inl (fun z hz => ?_)
        simp only [if_neg e0, if_neg e1] at hz
        cases hz
  · refine xj_callVI (b := q0) (As := [.int x0, .int x1]) (d' := 205) F hq0 lmL_52 rfl rfl (Nat.le_of_ble_eq_true rfl) (xfitX (Nat.le_trans (Nat.le_of_ble_eq_true rfl) hdep)) dL_broken_5 (fun hT z hz => wX8_broken (xnd F) (Nat.le_refl _) hT (a0 := q0) (a1 := x0) (a2 := x1) hq0 z hz) (fun v1 m2 => ?_)
    refine xj_i2l F dL_broken_8 (fun w3 => ?_)
    refine xj_last F hq1 dL_broken_9 (fun m4 => ?_)
    refine xj_goto (tgt := 21) F dL_broken_10 (by decide) ?_
    refine xj_iconst F 0 dL_broken_21 (by decide) ?_
    exact xj_retW F (Nat.zero_le _) (Nat.zero_le _) rfl dL_broken_22
set_option maxRecDepth 20000 in
set_option maxHeartbeats 4000000 in
theorem wwL_alike {G : XG} {l : Launch} {d : Nat} (hn : xN G) (hst : l.stackTraces = false) (hdep : 206 ≤ d) {m0 : XM} (hT : xT G m0) {q0 : Nat} {x0 : Int32} {q1 : Nat} (hq0 : isa G q0 8) (hq1 : isa G q1 11) : ∀ z, fwL_alike (xln G) q0 x0 q1 m0 = some z → xWMet G l mL_alike [(0, 9, 12, 13)] d [.ref (xad G q0), .int x0, .ref (xad G q1)] m0 z := by
  refine xWMet_of (by decide +kernel) hn hT (Nat.le_of_ble_eq_true rfl) (fun X sz FY F => ?_)
  have F1 := xF_more F (Nat.le_refl _) (Nat.le_refl _)
  refine xj_sub (lv' := [(0, .ref (xad G q0)), (1, .int x0), (2, .ref (xad G q1))]) [0, 1, 2] rfl ?_
  unfold fwL_alike
  refine xj_aload_n F 2 dL_alike_0 rfl ?_
  refine xj_iconst F 0 dL_alike_1 (by decide) ?_
  refine xj_aload_n F 0 dL_alike_2 rfl ?_
  refine xj_iload_n F 1 dL_alike_3 rfl ?_
  refine xj_catch (b := q0) (As := [.int x0]) (d' := 205) (lv2 := []) F FY hq0 lmL_55 rfl rfl (Nat.le_of_ble_eq_true rfl) (Nat.le_trans (Nat.le_of_ble_eq_true rfl) hdep) dL_alike_4 (fun hT z hz => wxX8_alike (xnd F) hst (Nat.le_refl _) hT (a0 := q0) (a1 := x0) hq0 z hz) (fun E m1 => ?_) ?_
  · by_cases e0 : E = xIA
    · refine Or.inr ⟨12, ⟨_, _, _, xsplit0 [(0, 9, 12, 13)] rfl, (fun z hz => by cases hz), by decide, by decide, by rw [e0]; exact q741, by rw [e0]; decide, rfl⟩, fun q => ?_⟩
      refine xj_eq (t2 := some (1, m1)) (by simp only [if_pos e0]) ?_
      refine xj_astore_n (lv' := (3, .ref q) :: [(0, .ref (xad G q0)), (1, .int x0), (2, .ref (xad G q1))]) F1 dL_alike_12 (by decide) rfl ?_
      refine xj_iconst F1 1 dL_alike_13 (by decide) ?_
      exact xj_retW F1 (Nat.le_refl _) (Nat.le_refl _) rfl dL_alike_14
    · skip
      refine Or.inl (fun z hz => ?_)
      simp only [if_neg e0] at hz
      cases hz
  · refine xj_callVI (b := q0) (As := [.int x0]) (d' := 205) F hq0 lmL_55 rfl rfl (Nat.le_of_ble_eq_true rfl) (xfitX (Nat.le_trans (Nat.le_of_ble_eq_true rfl) hdep)) dL_alike_4 (fun hT z hz => wX8_alike (xnd F) (Nat.le_refl _) hT (a0 := q0) (a1 := x0) hq0 z hz) (fun v1 m2 => ?_)
    refine xj_i2l F dL_alike_7 (fun w3 => ?_)
    refine xj_last F hq1 dL_alike_8 (fun m4 => ?_)
    refine xj_goto (tgt := 15) F dL_alike_9 (by decide) ?_
    refine xj_iconst F 0 dL_alike_15 (by decide) ?_
    exact xj_retW F (Nat.zero_le _) (Nat.zero_le _) rfl dL_alike_16
set_option maxRecDepth 20000 in
set_option maxHeartbeats 4000000 in
theorem wwL_fewest {G : XG} {l : Launch} {d : Nat} (hn : xN G) (hst : l.stackTraces = false) (hdep : 226 ≤ d) {m0 : XM} (hT : xT G m0) {q0 : Nat} {x0 : Int32} {q1 : Nat} (hq0 : isa G q0 8) (hq1 : isa G q1 11) : ∀ z, fwL_fewest (xln G) q0 x0 q1 m0 = some z → xWMet G l mL_fewest [(0, 9, 12, 13)] d [.ref (xad G q0), .int x0, .ref (xad G q1)] m0 z := by
  refine xWMet_of (by decide +kernel) hn hT (Nat.le_of_ble_eq_true rfl) (fun X sz FY F => ?_)
  have F1 := xF_more F (Nat.le_refl _) (Nat.le_refl _)
  refine xj_sub (lv' := [(0, .ref (xad G q0)), (1, .int x0), (2, .ref (xad G q1))]) [0, 1, 2] rfl ?_
  unfold fwL_fewest
  refine xj_aload_n F 2 dL_fewest_0 rfl ?_
  refine xj_iconst F 0 dL_fewest_1 (by decide) ?_
  refine xj_aload_n F 0 dL_fewest_2 rfl ?_
  refine xj_iload_n F 1 dL_fewest_3 rfl ?_
  refine xj_catch (b := q0) (As := [.int x0]) (d' := 225) (lv2 := []) F FY hq0 lmL_58 rfl rfl (Nat.le_of_ble_eq_true rfl) (Nat.le_trans (Nat.le_of_ble_eq_true rfl) hdep) dL_fewest_4 (fun hT z hz => wxX8_fewest (xnd F) hst (Nat.le_refl _) hT (a0 := q0) (a1 := x0) hq0 z hz) (fun E m1 => ?_) ?_
  · by_cases e0 : E = xIA
    · refine Or.inr ⟨12, ⟨_, _, _, xsplit0 [(0, 9, 12, 13)] rfl, (fun z hz => by cases hz), by decide, by decide, by rw [e0]; exact q741, by rw [e0]; decide, rfl⟩, fun q => ?_⟩
      refine xj_eq (t2 := some (1, m1)) (by simp only [if_pos e0]) ?_
      refine xj_astore_n (lv' := (3, .ref q) :: [(0, .ref (xad G q0)), (1, .int x0), (2, .ref (xad G q1))]) F1 dL_fewest_12 (by decide) rfl ?_
      refine xj_iconst F1 1 dL_fewest_13 (by decide) ?_
      exact xj_retW F1 (Nat.le_refl _) (Nat.le_refl _) rfl dL_fewest_14
    · skip
      refine Or.inl (fun z hz => ?_)
      simp only [if_neg e0] at hz
      cases hz
  · refine xj_callVI (b := q0) (As := [.int x0]) (d' := 225) F hq0 lmL_58 rfl rfl (Nat.le_of_ble_eq_true rfl) (xfitX (Nat.le_trans (Nat.le_of_ble_eq_true rfl) hdep)) dL_fewest_4 (fun hT z hz => wX8_fewest (xnd F) (Nat.le_refl _) hT (a0 := q0) (a1 := x0) hq0 z hz) (fun v1 m2 => ?_)
    refine xj_i2l F dL_fewest_7 (fun w3 => ?_)
    refine xj_last F hq1 dL_fewest_8 (fun m4 => ?_)
    refine xj_goto (tgt := 15) F dL_fewest_9 (by decide) ?_
    refine xj_iconst F 0 dL_fewest_15 (by decide) ?_
    exact xj_retW F (Nat.zero_le _) (Nat.zero_le _) rfl dL_fewest_16
set_option maxRecDepth 20000 in
set_option maxHeartbeats 4000000 in
theorem wwL_touches {G : XG} {l : Launch} {d : Nat} (hn : xN G) (hst : l.stackTraces = false) (hdep : 9 ≤ d) {m0 : XM} (hT : xT G m0) {q0 : Nat} {x0 : Int32} {q1 : Nat} (hq0 : isa G q0 8) (hq1 : isa G q1 11) : ∀ z, fwL_touches (xln G) q0 x0 q1 m0 = some z → xWMet G l mL_touches [(0, 9, 12, 19)] d [.ref (xad G q0), .int x0, .ref (xad G q1)] m0 z := by
  refine xWMet_of (by decide +kernel) hn hT (Nat.le_of_ble_eq_true rfl) (fun X sz FY F => ?_)
  have F1 := xF_more F (Nat.le_refl _) (Nat.le_refl _)
  refine xj_sub (lv' := [(0, .ref (xad G q0)), (1, .int x0), (2, .ref (xad G q1))]) [0, 1, 2] rfl ?_
  unfold fwL_touches
  refine xj_aload_n F 2 dL_touches_0 rfl ?_
  refine xj_iconst F 0 dL_touches_1 (by decide) ?_
  refine xj_aload_n F 0 dL_touches_2 rfl ?_
  refine xj_iload_n F 1 dL_touches_3 rfl ?_
  refine xj_catch (b := q0) (As := [.int x0]) (d' := 8) (lv2 := []) F FY hq0 lmL_61 rfl rfl (Nat.le_of_ble_eq_true rfl) (Nat.le_trans (Nat.le_of_ble_eq_true rfl) hdep) dL_touches_4 (fun hT z hz => wxX8_touches (xnd F) hst (Nat.le_refl _) hT (a0 := q0) (a1 := x0) hq0 z hz) (fun E m1 => ?_) ?_
  · by_cases e0 : E = xNS
    · refine Or.inr ⟨12, ⟨_, _, _, xsplit0 [(0, 9, 12, 19)] rfl, (fun z hz => by cases hz), by decide, by decide, by rw [e0]; exact q1049, by rw [e0]; decide, rfl⟩, fun q => ?_⟩
      refine xj_eq (t2 := some (1, m1)) (by simp only [if_pos e0]) ?_
      refine xj_astore_n (lv' := (3, .ref q) :: [(0, .ref (xad G q0)), (1, .int x0), (2, .ref (xad G q1))]) F1 dL_touches_12 (by decide) rfl ?_
      refine xj_iconst F1 1 dL_touches_13 (by decide) ?_
      exact xj_retW F1 (Nat.le_refl _) (Nat.le_refl _) rfl dL_touches_14
    · skip
      refine Or.inl (fun z hz => ?_)
      simp only [if_neg e0] at hz
      cases hz
  · refine xj_callVI (b := q0) (As := [.int x0]) (d' := 4) F hq0 lmL_61 rfl rfl (Nat.le_of_ble_eq_true rfl) (xfitX (Nat.le_trans (Nat.le_of_ble_eq_true rfl) hdep)) dL_touches_4 (fun hT z hz => wX8_touches (xnd F) (Nat.le_refl _) hT (a0 := q0) (a1 := x0) hq0 z hz) (fun v1 m2 => ?_)
    refine xj_i2l F dL_touches_7 (fun w3 => ?_)
    refine xj_last F hq1 dL_touches_8 (fun m4 => ?_)
    refine xj_goto (tgt := 15) F dL_touches_9 (by decide) ?_
    refine xj_iconst F 0 dL_touches_15 (by decide) ?_
    exact xj_retW F (Nat.zero_le _) (Nat.zero_le _) rfl dL_touches_16
set_option maxRecDepth 20000 in
set_option maxHeartbeats 4000000 in
theorem wwL_reach {G : XG} {l : Launch} {d : Nat} (hn : xN G) (hst : l.stackTraces = false) (hdep : 9 ≤ d) {m0 : XM} (hT : xT G m0) {q0 : Nat} {x0 : Int32} {q1 : Nat} (hq0 : isa G q0 8) (hq1 : isa G q1 11) : ∀ z, fwL_reach (xln G) q0 x0 q1 m0 = some z → xWMet G l mL_reach [(0, 9, 12, 19)] d [.ref (xad G q0), .int x0, .ref (xad G q1)] m0 z := by
  refine xWMet_of (by decide +kernel) hn hT (Nat.le_of_ble_eq_true rfl) (fun X sz FY F => ?_)
  have F1 := xF_more F (Nat.le_refl _) (Nat.le_refl _)
  refine xj_sub (lv' := [(0, .ref (xad G q0)), (1, .int x0), (2, .ref (xad G q1))]) [0, 1, 2] rfl ?_
  unfold fwL_reach
  refine xj_aload_n F 2 dL_reach_0 rfl ?_
  refine xj_iconst F 0 dL_reach_1 (by decide) ?_
  refine xj_aload_n F 0 dL_reach_2 rfl ?_
  refine xj_iload_n F 1 dL_reach_3 rfl ?_
  refine xj_catch (b := q0) (As := [.int x0]) (d' := 8) (lv2 := []) F FY hq0 lmL_64 rfl rfl (Nat.le_of_ble_eq_true rfl) (Nat.le_trans (Nat.le_of_ble_eq_true rfl) hdep) dL_reach_4 (fun hT z hz => wxX8_reach (xnd F) hst (Nat.le_refl _) hT (a0 := q0) (a1 := x0) hq0 z hz) (fun E m1 => ?_) ?_
  · by_cases e0 : E = xNS
    · refine Or.inr ⟨12, ⟨_, _, _, xsplit0 [(0, 9, 12, 19)] rfl, (fun z hz => by cases hz), by decide, by decide, by rw [e0]; exact q1049, by rw [e0]; decide, rfl⟩, fun q => ?_⟩
      refine xj_eq (t2 := some (1, m1)) (by simp only [if_pos e0]) ?_
      refine xj_astore_n (lv' := (3, .ref q) :: [(0, .ref (xad G q0)), (1, .int x0), (2, .ref (xad G q1))]) F1 dL_reach_12 (by decide) rfl ?_
      refine xj_iconst F1 1 dL_reach_13 (by decide) ?_
      exact xj_retW F1 (Nat.le_refl _) (Nat.le_refl _) rfl dL_reach_14
    · skip
      refine Or.inl (fun z hz => ?_)
      simp only [if_neg e0] at hz
      cases hz
  · refine xj_callVI (b := q0) (As := [.int x0]) (d' := 4) F hq0 lmL_64 rfl rfl (Nat.le_of_ble_eq_true rfl) (xfitX (Nat.le_trans (Nat.le_of_ble_eq_true rfl) hdep)) dL_reach_4 (fun hT z hz => wX8_reach (xnd F) (Nat.le_refl _) hT (a0 := q0) (a1 := x0) hq0 z hz) (fun v1 m2 => ?_)
    refine xj_i2l F dL_reach_7 (fun w3 => ?_)
    refine xj_last F hq1 dL_reach_8 (fun m4 => ?_)
    refine xj_goto (tgt := 15) F dL_reach_9 (by decide) ?_
    refine xj_iconst F 0 dL_reach_15 (by decide) ?_
    exact xj_retW F (Nat.zero_le _) (Nat.zero_le _) rfl dL_reach_16
set_option maxRecDepth 20000 in
set_option maxHeartbeats 4000000 in
theorem wwL_ring {G : XG} {l : Launch} {d : Nat} (hn : xN G) (hst : l.stackTraces = false) (hdep : 9 ≤ d) {m0 : XM} (hT : xT G m0) {q0 : Nat} {x0 : Int32} {q1 : Nat} (hq0 : isa G q0 8) (hq1 : isa G q1 11) : ∀ z, fwL_ring (xln G) q0 x0 q1 m0 = some z → xWMet G l mL_ring [(0, 9, 12, 19)] d [.ref (xad G q0), .int x0, .ref (xad G q1)] m0 z := by
  refine xWMet_of (by decide +kernel) hn hT (Nat.le_of_ble_eq_true rfl) (fun X sz FY F => ?_)
  have F1 := xF_more F (Nat.le_refl _) (Nat.le_refl _)
  refine xj_sub (lv' := [(0, .ref (xad G q0)), (1, .int x0), (2, .ref (xad G q1))]) [0, 1, 2] rfl ?_
  unfold fwL_ring
  refine xj_aload_n F 2 dL_ring_0 rfl ?_
  refine xj_iconst F 0 dL_ring_1 (by decide) ?_
  refine xj_aload_n F 0 dL_ring_2 rfl ?_
  refine xj_iload_n F 1 dL_ring_3 rfl ?_
  refine xj_catch (b := q0) (As := [.int x0]) (d' := 8) (lv2 := []) F FY hq0 lmL_67 rfl rfl (Nat.le_of_ble_eq_true rfl) (Nat.le_trans (Nat.le_of_ble_eq_true rfl) hdep) dL_ring_4 (fun hT z hz => wxX8_ring (xnd F) hst (Nat.le_refl _) hT (a0 := q0) (a1 := x0) hq0 z hz) (fun E m1 => ?_) ?_
  · by_cases e0 : E = xNS
    · refine Or.inr ⟨12, ⟨_, _, _, xsplit0 [(0, 9, 12, 19)] rfl, (fun z hz => by cases hz), by decide, by decide, by rw [e0]; exact q1049, by rw [e0]; decide, rfl⟩, fun q => ?_⟩
      refine xj_eq (t2 := some (1, m1)) (by simp only [if_pos e0]) ?_
      refine xj_astore_n (lv' := (3, .ref q) :: [(0, .ref (xad G q0)), (1, .int x0), (2, .ref (xad G q1))]) F1 dL_ring_12 (by decide) rfl ?_
      refine xj_iconst F1 1 dL_ring_13 (by decide) ?_
      exact xj_retW F1 (Nat.le_refl _) (Nat.le_refl _) rfl dL_ring_14
    · skip
      refine Or.inl (fun z hz => ?_)
      simp only [if_neg e0] at hz
      cases hz
  · refine xj_callVI (b := q0) (As := [.int x0]) (d' := 4) F hq0 lmL_67 rfl rfl (Nat.le_of_ble_eq_true rfl) (xfitX (Nat.le_trans (Nat.le_of_ble_eq_true rfl) hdep)) dL_ring_4 (fun hT z hz => wX8_ring (xnd F) (Nat.le_refl _) hT (a0 := q0) (a1 := x0) hq0 z hz) (fun v1 m2 => ?_)
    refine xj_i2l F dL_ring_7 (fun w3 => ?_)
    refine xj_last F hq1 dL_ring_8 (fun m4 => ?_)
    refine xj_goto (tgt := 15) F dL_ring_9 (by decide) ?_
    refine xj_iconst F 0 dL_ring_15 (by decide) ?_
    exact xj_retW F (Nat.zero_le _) (Nat.zero_le _) rfl dL_ring_16
set_option maxRecDepth 20000 in
set_option maxHeartbeats 4000000 in
theorem wwL_least {G : XG} {l : Launch} {d : Nat} (hn : xN G) (hst : l.stackTraces = false) (hdep : 9 ≤ d) {m0 : XM} (hT : xT G m0) {q0 : Nat} {x0 : Int32} {q1 : Nat} (hq0 : isa G q0 8) (hq1 : isa G q1 11) : ∀ z, fwL_least (xln G) q0 x0 q1 m0 = some z → xWMet G l mL_least [(0, 9, 12, 13)] d [.ref (xad G q0), .int x0, .ref (xad G q1)] m0 z := by
  refine xWMet_of (by decide +kernel) hn hT (Nat.le_of_ble_eq_true rfl) (fun X sz FY F => ?_)
  have F1 := xF_more F (Nat.le_refl _) (Nat.le_refl _)
  refine xj_sub (lv' := [(0, .ref (xad G q0)), (1, .int x0), (2, .ref (xad G q1))]) [0, 1, 2] rfl ?_
  unfold fwL_least
  refine xj_aload_n F 2 dL_least_0 rfl ?_
  refine xj_iconst F 0 dL_least_1 (by decide) ?_
  refine xj_aload_n F 0 dL_least_2 rfl ?_
  refine xj_iload_n F 1 dL_least_3 rfl ?_
  refine xj_catch (b := q0) (As := [.int x0]) (d' := 8) (lv2 := []) F FY hq0 lmL_70 rfl rfl (Nat.le_of_ble_eq_true rfl) (Nat.le_trans (Nat.le_of_ble_eq_true rfl) hdep) dL_least_4 (fun hT z hz => wxX8_least (xnd F) hst (Nat.le_refl _) hT (a0 := q0) (a1 := x0) hq0 z hz) (fun E m1 => ?_) ?_
  · by_cases e0 : E = xIA
    · refine Or.inr ⟨12, ⟨_, _, _, xsplit0 [(0, 9, 12, 13)] rfl, (fun z hz => by cases hz), by decide, by decide, by rw [e0]; exact q741, by rw [e0]; decide, rfl⟩, fun q => ?_⟩
      refine xj_eq (t2 := some (1, m1)) (by simp only [if_pos e0]) ?_
      refine xj_astore_n (lv' := (3, .ref q) :: [(0, .ref (xad G q0)), (1, .int x0), (2, .ref (xad G q1))]) F1 dL_least_12 (by decide) rfl ?_
      refine xj_iconst F1 1 dL_least_13 (by decide) ?_
      exact xj_retW F1 (Nat.le_refl _) (Nat.le_refl _) rfl dL_least_14
    · skip
      refine Or.inl (fun z hz => ?_)
      simp only [if_neg e0] at hz
      cases hz
  · refine xj_callVI (b := q0) (As := [.int x0]) (d' := 5) F hq0 lmL_70 rfl rfl (Nat.le_of_ble_eq_true rfl) (xfitX (Nat.le_trans (Nat.le_of_ble_eq_true rfl) hdep)) dL_least_4 (fun hT z hz => wX8_least (xnd F) (Nat.le_refl _) hT (a0 := q0) (a1 := x0) hq0 z hz) (fun v1 m2 => ?_)
    refine xj_i2l F dL_least_7 (fun w3 => ?_)
    refine xj_last F hq1 dL_least_8 (fun m4 => ?_)
    refine xj_goto (tgt := 15) F dL_least_9 (by decide) ?_
    refine xj_iconst F 0 dL_least_15 (by decide) ?_
    exact xj_retW F (Nat.zero_le _) (Nat.zero_le _) rfl dL_least_16
set_option maxRecDepth 20000 in
set_option maxHeartbeats 4000000 in
theorem wwL_breaks {G : XG} {l : Launch} {d : Nat} (hn : xN G) (hst : l.stackTraces = false) (hdep : 8 ≤ d) {m0 : XM} (hT : xT G m0) {q0 : Nat} {x0 : Int32} {q1 : Nat} (hq0 : isa G q0 8) (hq1 : isa G q1 11) : ∀ z, fwL_breaks (xln G) q0 x0 q1 m0 = some z → xWMet G l mL_breaks [(0, 9, 12, 13)] d [.ref (xad G q0), .int x0, .ref (xad G q1)] m0 z := by
  refine xWMet_of (by decide +kernel) hn hT (Nat.le_of_ble_eq_true rfl) (fun X sz FY F => ?_)
  have F1 := xF_more F (Nat.le_refl _) (Nat.le_refl _)
  refine xj_sub (lv' := [(0, .ref (xad G q0)), (1, .int x0), (2, .ref (xad G q1))]) [0, 1, 2] rfl ?_
  unfold fwL_breaks
  refine xj_aload_n F 2 dL_breaks_0 rfl ?_
  refine xj_iconst F 0 dL_breaks_1 (by decide) ?_
  refine xj_aload_n F 0 dL_breaks_2 rfl ?_
  refine xj_iload_n F 1 dL_breaks_3 rfl ?_
  refine xj_catch (b := q0) (As := [.int x0]) (d' := 7) (lv2 := []) F FY hq0 lmL_73 rfl rfl (Nat.le_of_ble_eq_true rfl) (Nat.le_trans (Nat.le_of_ble_eq_true rfl) hdep) dL_breaks_4 (fun hT z hz => wxX8_breaks (xnd F) hst (Nat.le_refl _) hT (a0 := q0) (a1 := x0) hq0 z hz) (fun E m1 => ?_) ?_
  · by_cases e0 : E = xIA
    · refine Or.inr ⟨12, ⟨_, _, _, xsplit0 [(0, 9, 12, 13)] rfl, (fun z hz => by cases hz), by decide, by decide, by rw [e0]; exact q741, by rw [e0]; decide, rfl⟩, fun q => ?_⟩
      refine xj_eq (t2 := some (1, m1)) (by simp only [if_pos e0]) ?_
      refine xj_astore_n (lv' := (3, .ref q) :: [(0, .ref (xad G q0)), (1, .int x0), (2, .ref (xad G q1))]) F1 dL_breaks_12 (by decide) rfl ?_
      refine xj_iconst F1 1 dL_breaks_13 (by decide) ?_
      exact xj_retW F1 (Nat.le_refl _) (Nat.le_refl _) rfl dL_breaks_14
    · skip
      refine Or.inl (fun z hz => ?_)
      simp only [if_neg e0] at hz
      cases hz
  · refine xj_callVI (b := q0) (As := [.int x0]) (d' := 4) F hq0 lmL_73 rfl rfl (Nat.le_of_ble_eq_true rfl) (xfitX (Nat.le_trans (Nat.le_of_ble_eq_true rfl) hdep)) dL_breaks_4 (fun hT z hz => wX8_breaks (xnd F) (Nat.le_refl _) hT (a0 := q0) (a1 := x0) hq0 z hz) (fun v1 m2 => ?_)
    refine xj_i2l F dL_breaks_7 (fun w3 => ?_)
    refine xj_last F hq1 dL_breaks_8 (fun m4 => ?_)
    refine xj_goto (tgt := 15) F dL_breaks_9 (by decide) ?_
    refine xj_iconst F 0 dL_breaks_15 (by decide) ?_
    exact xj_retW F (Nat.zero_le _) (Nat.zero_le _) rfl dL_breaks_16
