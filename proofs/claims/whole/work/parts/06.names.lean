/-! 06.names: printed by names.py: every method of the class (ta_) and of the reference (tb_) for the small machine; words by their places among lw_tbl -/
def lw_gt : List Cond := lw_tbl.filter goodWord
theorem lw_gt_good : ∀ w ∈ lw_gt, (w.onTables && w.keeps) = true ∨ ∃ ty, w = .arrayClass ty := fun w hw => good_of_word (List.mem_filter.mp hw).2
def ta_R : String := "TieredLocks"
def ta_T : u_T := fun k => match k with
  | 0 => ("TieredLocks", "modes", "[I", true)
  | 1 => ("TieredLocks", "situations", "[I", true)
  | 2 => ("TieredLocks", "wishes", "[I", true)
  | _ => ("TieredLocks", "places", "[I", true)
def ta_ty : Nat → FieldType := fun k => match k with
  | 0 => .array .int
  | 1 => .array .int
  | 2 => .array .int
  | _ => .array .int
/-- <init>()V -/
def ta_c0 : List (Nat × Instr) := []
/-- begin()I -/
def ta_c1 : List (Nat × Instr) := [(0, .iconst 0), (1, .istore_n 1), (2, .iload_n 1), (3, .bipush 8), (5, .if_icmp .ge (27)), (8, .aload_n 0), (9, .getfield 13), (12, .iload_n 1), (13, .iaload), (14, .ifCond .ne (12)), (17, .aload_n 0), (18, .getfield 13), (21, .iload_n 1), (22, .iconst 1), (23, .iastore), (24, .iload_n 1), (25, .ireturn), (26, .iinc 1 (1)), (29, .goto (-27)), (32, .iconst (-1)), (33, .ireturn)]
/-- lock(III)I -/
def ta_c2 : List (Nat × Instr) := [(0, .iload_n 1), (1, .invokestatic 22), (4, .ifCond .eq (18)), (7, .iload_n 2), (8, .invokestatic 26), (11, .ifCond .eq (11)), (14, .iload_n 2), (15, .iload_n 3), (16, .invokestatic 29), (19, .ifCond .ne (11)), (22, .new 33), (25, .dup), (26, .invokespecial 35), (29, .athrow), (30, .aload_n 0), (31, .getfield 13), (34, .iload_n 1), (35, .iaload), (36, .iconst 1), (37, .if_icmp .eq (11)), (40, .new 36), (43, .dup), (44, .invokespecial 38), (47, .athrow), (48, .aload_n 0), (49, .iload_n 1), (50, .iload_n 2), (51, .iload_n 3), (52, .invokevirtual 39), (55, .ifCond .ne (11)), (58, .new 43), (61, .dup), (62, .invokespecial 45), (65, .athrow), (66, .aload_n 0), (67, .iload_n 1), (68, .iload_n 2), (69, .iload_n 3), (70, .invokevirtual 46), (73, .ireturn)]
/-- unlock(II)V -/
def ta_c3 : List (Nat × Instr) := [(0, .iload_n 1), (1, .invokestatic 22), (4, .ifCond .eq (10)), (7, .iload_n 2), (8, .invokestatic 26), (11, .ifCond .ne (11)), (14, .new 33), (17, .dup), (18, .invokespecial 35), (21, .athrow), (22, .aload_n 0), (23, .getfield 13), (26, .iload_n 1), (27, .iaload), (28, .iconst 1), (29, .if_icmp .ne (12)), (32, .aload_n 0), (33, .iload_n 1), (34, .iload_n 2), (35, .invokevirtual 50), (38, .ifCond .ne (11)), (41, .new 36), (44, .dup), (45, .invokespecial 38), (48, .athrow), (49, .aload_n 0), (50, .iload_n 1), (51, .iload_n 2), (52, .invokevirtual 53), (55, .ifCond .eq (11)), (58, .new 43), (61, .dup), (62, .invokespecial 45), (65, .athrow), (66, .aload_n 0), (67, .iload_n 1), (68, .iload_n 2), (69, .invokevirtual 56), (72, .pop), (73, .return_)]
/-- escalate(II)I -/
def ta_c4 : List (Nat × Instr) := [(0, .iload_n 1), (1, .invokestatic 22), (4, .ifCond .eq (10)), (7, .iload_n 2), (8, .invokestatic 60), (11, .ifCond .ne (11)), (14, .new 33), (17, .dup), (18, .invokespecial 35), (21, .athrow), (22, .aload_n 0), (23, .getfield 13), (26, .iload_n 1), (27, .iaload), (28, .iconst 1), (29, .if_icmp .eq (11)), (32, .new 36), (35, .dup), (36, .invokespecial 38), (39, .athrow), (40, .aload_n 0), (41, .iload_n 1), (42, .iload_n 2), (43, .invokevirtual 63), (46, .ifCond .ne (5)), (49, .iconst 0), (50, .ireturn), (51, .aload_n 0), (52, .iload_n 1), (53, .iload_n 2), (54, .invokevirtual 66), (57, .ifCond .eq (7)), (60, .iconst 5), (61, .goto (4)), (64, .iconst 3), (65, .aload_n 0), (66, .iload_n 1), (67, .iload_n 2), (68, .invokevirtual 69), (71, .invokestatic 72), (74, .istore_n 3), (75, .aload_n 0), (76, .iload_n 1), (77, .iload_n 2), (78, .iload_n 3), (79, .invokevirtual 75), (82, .ifCond .ne (5)), (85, .iconst (-1)), (86, .ireturn), (87, .aload_n 0), (88, .iload_n 1), (89, .iload_n 2), (90, .iload_n 3), (91, .invokevirtual 78), (94, .aload_n 0), (95, .iload_n 1), (96, .iload_n 2), (97, .invokevirtual 82), (100, .istore 4), (102, .aload_n 0), (103, .iload_n 2), (104, .invokevirtual 85), (107, .pop), (108, .iload 4), (110, .ireturn)]
/-- end(I)I -/
def ta_c5 : List (Nat × Instr) := [(0, .iload_n 1), (1, .invokestatic 22), (4, .ifCond .ne (11)), (7, .new 33), (10, .dup), (11, .invokespecial 35), (14, .athrow), (15, .aload_n 0), (16, .getfield 13), (19, .iload_n 1), (20, .iaload), (21, .ifCond .ne (11)), (24, .new 36), (27, .dup), (28, .invokespecial 38), (31, .athrow), (32, .aload_n 0), (33, .iload_n 1), (34, .invokevirtual 89), (37, .istore_n 2), (38, .iload_n 2), (39, .iconst (-1)), (40, .if_icmp .eq (8)), (43, .aload_n 0), (44, .iload_n 1), (45, .invokevirtual 92), (48, .aload_n 0), (49, .getfield 13), (52, .iload_n 1), (53, .iconst 0), (54, .iastore), (55, .iconst 0), (56, .istore_n 3), (57, .bipush 33), (59, .istore 4), (61, .iload 4), (63, .ifCond .lt (35)), (66, .aload_n 0), (67, .iload_n 1), (68, .iload 4), (70, .invokevirtual 50), (73, .ifCond .ne (9)), (76, .iload 4), (78, .iload_n 2), (79, .if_icmp .ne (13)), (82, .iload_n 3), (83, .aload_n 0), (84, .iload_n 1), (85, .iload 4), (87, .invokevirtual 56), (90, .iadd), (91, .istore_n 3), (92, .iinc 4 (-1)), (95, .goto (-34)), (98, .iload_n 3), (99, .ireturn)]
/-- held(II)I -/
def ta_c6 : List (Nat × Instr) := [(0, .iload_n 1), (1, .invokestatic 22), (4, .ifCond .eq (19)), (7, .iload_n 2), (8, .invokestatic 26), (11, .ifCond .eq (12)), (14, .aload_n 0), (15, .iload_n 1), (16, .iload_n 2), (17, .invokevirtual 69), (20, .goto (4)), (23, .iconst (-1)), (24, .ireturn)]
/-- state(I)I -/
def ta_c7 : List (Nat × Instr) := [(0, .iload_n 1), (1, .invokestatic 22), (4, .ifCond .eq (12)), (7, .aload_n 0), (8, .getfield 13), (11, .iload_n 1), (12, .iaload), (13, .goto (4)), (16, .iconst (-1)), (17, .ireturn)]
/-- wanted(I)I -/
def ta_c8 : List (Nat × Instr) := [(0, .iload_n 1), (1, .invokestatic 22), (4, .ifCond .eq (12)), (7, .aload_n 0), (8, .getfield 16), (11, .iload_n 1), (12, .iaload), (13, .goto (4)), (16, .iconst (-1)), (17, .ireturn)]
/-- queue(II)I -/
def ta_c9 : List (Nat × Instr) := [(0, .iload_n 1), (1, .invokestatic 26), (4, .ifCond .eq (12)), (7, .aload_n 0), (8, .iload_n 1), (9, .iload_n 2), (10, .invokevirtual 96), (13, .goto (4)), (16, .iconst (-1)), (17, .ireturn)]
/-- waitsFor(I)I -/
def ta_c10 : List (Nat × Instr) := [(0, .iload_n 1), (1, .invokestatic 22), (4, .ifCond .eq (11)), (7, .aload_n 0), (8, .iload_n 1), (9, .invokevirtual 99), (12, .goto (4)), (15, .iconst (-1)), (16, .ireturn)]
/-- access(II)I -/
def ta_c11 : List (Nat × Instr) := [(0, .iload_n 1), (1, .invokestatic 22), (4, .ifCond .eq (17)), (7, .iload_n 2), (8, .invokestatic 26), (11, .ifCond .eq (10)), (14, .iload_n 2), (15, .invokestatic 102), (18, .ifCond .ne (5)), (21, .iconst (-1)), (22, .ireturn), (23, .aload_n 0), (24, .iload_n 1), (25, .iload_n 2), (26, .invokevirtual 69), (29, .invokestatic 105), (32, .aload_n 0), (33, .iload_n 1), (34, .iload_n 2), (35, .invokevirtual 108), (38, .invokestatic 111), (41, .ireturn)]
/-- locks(I)I -/
def ta_c12 : List (Nat × Instr) := [(0, .iload_n 1), (1, .invokestatic 22), (4, .ifCond .ne (5)), (7, .iconst (-1)), (8, .ireturn), (9, .iconst 0), (10, .istore_n 2), (11, .iconst 0), (12, .istore_n 3), (13, .iload_n 3), (14, .bipush 34), (16, .if_icmp .ge (21)), (19, .aload_n 0), (20, .iload_n 1), (21, .iload_n 3), (22, .invokevirtual 50), (25, .ifCond .eq (6)), (28, .iinc 2 (1)), (31, .iinc 3 (1)), (34, .goto (-21)), (37, .iload_n 2), (38, .ireturn)]
/-- isTransaction(I)Z -/
def ta_c13 : List (Nat × Instr) := [(0, .iload_n 0), (1, .ifCond .lt (13)), (4, .iload_n 0), (5, .bipush 8), (7, .if_icmp .ge (7)), (10, .iconst 1), (11, .goto (4)), (14, .iconst 0), (15, .ireturn)]
/-- isResource(I)Z -/
def ta_c14 : List (Nat × Instr) := [(0, .iload_n 0), (1, .ifCond .lt (13)), (4, .iload_n 0), (5, .bipush 34), (7, .if_icmp .ge (7)), (10, .iconst 1), (11, .goto (4)), (14, .iconst 0), (15, .ireturn)]
/-- isRow(I)Z -/
def ta_c15 : List (Nat × Instr) := [(0, .iload_n 0), (1, .bipush 10), (3, .if_icmp .lt (7)), (6, .iconst 1), (7, .goto (4)), (10, .iconst 0), (11, .ireturn)]
/-- isTableOrPage(I)Z -/
def ta_c16 : List (Nat × Instr) := [(0, .iload_n 0), (1, .iconst 1), (2, .if_icmp .lt (13)), (5, .iload_n 0), (6, .bipush 10), (8, .if_icmp .ge (7)), (11, .iconst 1), (12, .goto (4)), (15, .iconst 0), (16, .ireturn)]
/-- parentOf(I)I -/
def ta_c17 : List (Nat × Instr) := [(0, .iload_n 0), (1, .ifCond .ne (5)), (4, .iconst (-1)), (5, .ireturn), (6, .iload_n 0), (7, .iconst 4), (8, .if_icmp .ge (5)), (11, .iconst 0), (12, .ireturn), (13, .iload_n 0), (14, .bipush 10), (16, .if_icmp .ge (11)), (19, .iconst 1), (20, .iload_n 0), (21, .iconst 4), (22, .isub), (23, .iconst 2), (24, .idiv), (25, .iadd), (26, .ireturn), (27, .iconst 4), (28, .iload_n 0), (29, .bipush 10), (31, .isub), (32, .iconst 4), (33, .idiv), (34, .iadd), (35, .ireturn)]
/-- isBelow(II)Z -/
def ta_c18 : List (Nat × Instr) := [(0, .iload_n 0), (1, .invokestatic 116), (4, .istore_n 2), (5, .iconst 0), (6, .istore_n 3), (7, .iload_n 3), (8, .iconst 3), (9, .if_icmp .ge (26)), (12, .iload_n 2), (13, .iconst (-1)), (14, .if_icmp .eq (21)), (17, .iload_n 2), (18, .iload_n 1), (19, .if_icmp .ne (5)), (22, .iconst 1), (23, .ireturn), (24, .iload_n 2), (25, .invokestatic 116), (28, .istore_n 2), (29, .iinc 3 (1)), (32, .goto (-25)), (35, .iconst 0), (36, .ireturn)]
/-- goTogether(II)Z -/
def ta_c19 : List (Nat × Instr) := [(0, .getstatic 119), (3, .iload_n 0), (4, .iaload), (5, .iload_n 1), (6, .ishr), (7, .iconst 1), (8, .iand), (9, .iconst 1), (10, .if_icmp .ne (7)), (13, .iconst 1), (14, .goto (4)), (17, .iconst 0), (18, .ireturn)]
/-- join(II)I -/
def ta_c20 : List (Nat × Instr) := [(0, .iload_n 0), (1, .iload_n 1), (2, .invokestatic 122), (5, .istore_n 2), (6, .iload_n 0), (7, .iload_n 1), (8, .invokestatic 111), (11, .istore_n 3), (12, .iload_n 2), (13, .iconst 2), (14, .if_icmp .ne (12)), (17, .iload_n 3), (18, .iconst 3), (19, .if_icmp .ne (7)), (22, .iconst 4), (23, .goto (4)), (26, .iload_n 3), (27, .ireturn)]
/-- covers(II)Z -/
def ta_c21 : List (Nat × Instr) := [(0, .iload_n 0), (1, .iload_n 1), (2, .invokestatic 72), (5, .iload_n 0), (6, .if_icmp .ne (7)), (9, .iconst 1), (10, .goto (4)), (13, .iconst 0), (14, .ireturn)]
/-- onlyReads(I)Z -/
def ta_c22 : List (Nat × Instr) := [(0, .iload_n 0), (1, .iconst 1), (2, .if_icmp .eq (8)), (5, .iload_n 0), (6, .iconst 3), (7, .if_icmp .ne (7)), (10, .iconst 1), (11, .goto (4)), (14, .iconst 0), (15, .ireturn)]
/-- canBeAsked(II)Z -/
def ta_c23 : List (Nat × Instr) := [(0, .iload_n 0), (1, .invokestatic 102), (4, .ifCond .eq (21)), (7, .iload_n 1), (8, .iconst 3), (9, .if_icmp .eq (8)), (12, .iload_n 1), (13, .iconst 5), (14, .if_icmp .ne (7)), (17, .iconst 1), (18, .goto (22)), (21, .iconst 0), (22, .goto (18)), (25, .iload_n 1), (26, .iconst 1), (27, .if_icmp .lt (12)), (30, .iload_n 1), (31, .iconst 5), (32, .if_icmp .gt (7)), (35, .iconst 1), (36, .goto (4)), (39, .iconst 0), (40, .ireturn)]
/-- rightBy(I)I -/
def ta_c24 : List (Nat × Instr) := [(0, .iload_n 0), (1, .iconst 5), (2, .if_icmp .ne (5)), (5, .iconst 2), (6, .ireturn), (7, .iload_n 0), (8, .iconst 3), (9, .if_icmp .eq (8)), (12, .iload_n 0), (13, .iconst 4), (14, .if_icmp .ne (7)), (17, .iconst 1), (18, .goto (4)), (21, .iconst 0), (22, .ireturn)]
/-- modeOf(II)I -/
def ta_c25 : List (Nat × Instr) := [(0, .aload_n 0), (1, .getfield 9), (4, .iload_n 1), (5, .bipush 34), (7, .imul), (8, .iload_n 2), (9, .iadd), (10, .iaload), (11, .ireturn)]
/-- setMode(III)V -/
def ta_c26 : List (Nat × Instr) := [(0, .aload_n 0), (1, .getfield 9), (4, .iload_n 1), (5, .bipush 34), (7, .imul), (8, .iload_n 2), (9, .iadd), (10, .iload_n 3), (11, .iastore), (12, .return_)]
/-- isHolder(II)Z -/
def ta_c27 : List (Nat × Instr) := [(0, .aload_n 0), (1, .iload_n 1), (2, .iload_n 2), (3, .invokevirtual 69), (6, .ifCond .eq (7)), (9, .iconst 1), (10, .goto (4)), (13, .iconst 0), (14, .ireturn)]
/-- holdsOnChild(II)Z -/
def ta_c28 : List (Nat × Instr) := [(0, .iload_n 2), (1, .iconst 1), (2, .iadd), (3, .istore_n 3), (4, .iload_n 3), (5, .bipush 34), (7, .if_icmp .ge (28)), (10, .iload_n 3), (11, .invokestatic 116), (14, .iload_n 2), (15, .if_icmp .ne (14)), (18, .aload_n 0), (19, .iload_n 1), (20, .iload_n 3), (21, .invokevirtual 50), (24, .ifCond .eq (5)), (27, .iconst 1), (28, .ireturn), (29, .iinc 3 (1)), (32, .goto (-28)), (35, .iconst 0), (36, .ireturn)]
/-- fitsOthers(III)Z -/
def ta_c29 : List (Nat × Instr) := [(0, .iconst 0), (1, .istore 4), (3, .iload 4), (5, .bipush 8), (7, .if_icmp .ge (31)), (10, .iload 4), (12, .iload_n 1), (13, .if_icmp .eq (19)), (16, .iload_n 3), (17, .aload_n 0), (18, .iload 4), (20, .iload_n 2), (21, .invokevirtual 69), (24, .invokestatic 125), (27, .ifCond .ne (5)), (30, .iconst 0), (31, .ireturn), (32, .iinc 4 (1)), (35, .goto (-32)), (38, .iconst 1), (39, .ireturn)]
/-- rightFromAbove(II)I -/
def ta_c30 : List (Nat × Instr) := [(0, .iconst 0), (1, .istore_n 3), (2, .iload_n 2), (3, .invokestatic 116), (6, .istore 4), (8, .iconst 0), (9, .istore 5), (11, .iload 5), (13, .iconst 3), (14, .if_icmp .ge (37)), (17, .iload 4), (19, .iconst (-1)), (20, .if_icmp .eq (31)), (23, .iload_n 3), (24, .aload_n 0), (25, .iload_n 1), (26, .iload 4), (28, .invokevirtual 69), (31, .invokestatic 105), (34, .invokestatic 111), (37, .istore_n 3), (38, .iload 4), (40, .invokestatic 116), (43, .istore 4), (45, .iinc 5 (1)), (48, .goto (-37)), (51, .iload_n 3), (52, .ireturn)]
/-- giveUp(II)I -/
def ta_c31 : List (Nat × Instr) := [(0, .aload_n 0), (1, .iload_n 1), (2, .iload_n 2), (3, .iconst 0), (4, .invokevirtual 78), (7, .aload_n 0), (8, .iload_n 2), (9, .invokevirtual 85), (12, .ireturn)]
/-- isAnnounced(III)Z -/
def ta_c32 : List (Nat × Instr) := [(0, .iload_n 2), (1, .invokestatic 116), (4, .istore 4), (6, .iload 4), (8, .iconst (-1)), (9, .if_icmp .eq (28)), (12, .aload_n 0), (13, .iload_n 1), (14, .iload 4), (16, .invokevirtual 69), (19, .iload_n 3), (20, .invokestatic 128), (23, .ifCond .eq (7)), (26, .iconst 1), (27, .goto (4)), (30, .iconst 2), (31, .invokestatic 131), (34, .ifCond .eq (7)), (37, .iconst 1), (38, .goto (4)), (41, .iconst 0), (42, .ireturn)]
/-- isCovered(III)Z -/
def ta_c33 : List (Nat × Instr) := [(0, .aload_n 0), (1, .iload_n 1), (2, .iload_n 2), (3, .invokevirtual 108), (6, .iload_n 3), (7, .invokestatic 128), (10, .ifCond .eq (7)), (13, .iconst 1), (14, .goto (4)), (17, .iconst 2), (18, .if_icmp .lt (7)), (21, .iconst 1), (22, .goto (4)), (25, .iconst 0), (26, .ireturn)]
/-- request(III)I -/
def ta_c34 : List (Nat × Instr) := [(0, .aload_n 0), (1, .iload_n 1), (2, .iload_n 2), (3, .iload_n 3), (4, .invokevirtual 134), (7, .ifCond .eq (5)), (10, .iconst 2), (11, .ireturn), (12, .iload_n 3), (13, .aload_n 0), (14, .iload_n 1), (15, .iload_n 2), (16, .invokevirtual 69), (19, .invokestatic 72), (22, .istore 4), (24, .iload 4), (26, .aload_n 0), (27, .iload_n 1), (28, .iload_n 2), (29, .invokevirtual 69), (32, .if_icmp .ne (5)), (35, .iconst 3), (36, .ireturn), (37, .aload_n 0), (38, .iload_n 1), (39, .iload_n 2), (40, .iload 4), (42, .invokevirtual 75), (45, .ifCond .eq (32)), (48, .aload_n 0), (49, .iload_n 1), (50, .iload_n 2), (51, .invokevirtual 50), (54, .ifCond .ne (13)), (57, .aload_n 0), (58, .iload_n 2), (59, .iconst 0), (60, .invokevirtual 96), (63, .iconst (-1)), (64, .if_icmp .ne (13)), (67, .aload_n 0), (68, .iload_n 1), (69, .iload_n 2), (70, .iload 4), (72, .invokevirtual 78), (75, .iconst 1), (76, .ireturn), (77, .aload_n 0), (78, .iload_n 1), (79, .iload_n 2), (80, .iload 4), (82, .invokevirtual 137), (85, .aload_n 0), (86, .iload_n 1), (87, .invokevirtual 140), (90, .ifCond .eq (10)), (93, .aload_n 0), (94, .iload_n 1), (95, .invokevirtual 92), (98, .iconst 4), (99, .ireturn), (100, .iconst 0), (101, .ireturn)]
/-- awaitedBy(I)I -/
def ta_c35 : List (Nat × Instr) := [(0, .aload_n 0), (1, .getfield 13), (4, .iload_n 1), (5, .iaload), (6, .iconst 2), (7, .if_icmp .lt (14)), (10, .aload_n 0), (11, .getfield 13), (14, .iload_n 1), (15, .iaload), (16, .iconst 2), (17, .isub), (18, .goto (4)), (21, .iconst (-1)), (22, .ireturn)]
/-- standingAt(II)I -/
def ta_c36 : List (Nat × Instr) := [(0, .iconst 0), (1, .istore_n 3), (2, .iload_n 3), (3, .bipush 8), (5, .if_icmp .ge (30)), (8, .aload_n 0), (9, .iload_n 3), (10, .invokevirtual 89), (13, .iload_n 1), (14, .if_icmp .ne (15)), (17, .aload_n 0), (18, .getfield 19), (21, .iload_n 3), (22, .iaload), (23, .iload_n 2), (24, .if_icmp .ne (5)), (27, .iload_n 3), (28, .ireturn), (29, .iinc 3 (1)), (32, .goto (-30)), (35, .iconst (-1)), (36, .ireturn)]
/-- enterQueue(III)V -/
def ta_c37 : List (Nat × Instr) := [(0, .aload_n 0), (1, .iload_n 1), (2, .iload_n 2), (3, .invokevirtual 143), (6, .istore 4), (8, .aload_n 0), (9, .iload_n 2), (10, .iload 4), (12, .iconst 1), (13, .invokevirtual 146), (16, .aload_n 0), (17, .getfield 13), (20, .iload_n 1), (21, .iconst 2), (22, .iload_n 2), (23, .iadd), (24, .iastore), (25, .aload_n 0), (26, .getfield 16), (29, .iload_n 1), (30, .iload_n 3), (31, .iastore), (32, .aload_n 0), (33, .getfield 19), (36, .iload_n 1), (37, .iload 4), (39, .iastore), (40, .return_)]
/-- leaveQueue(I)V -/
def ta_c38 : List (Nat × Instr) := [(0, .aload_n 0), (1, .iload_n 1), (2, .invokevirtual 89), (5, .istore_n 2), (6, .aload_n 0), (7, .getfield 13), (10, .iload_n 1), (11, .iconst 1), (12, .iastore), (13, .aload_n 0), (14, .getfield 16), (17, .iload_n 1), (18, .iconst 0), (19, .iastore), (20, .aload_n 0), (21, .iload_n 2), (22, .aload_n 0), (23, .getfield 19), (26, .iload_n 1), (27, .iaload), (28, .iconst (-1)), (29, .invokevirtual 146), (32, .return_)]
/-- placeFor(II)I -/
def ta_c39 : List (Nat × Instr) := [(0, .iconst 0), (1, .istore_n 3), (2, .iconst 0), (3, .istore 4), (5, .iload 4), (7, .bipush 8), (9, .if_icmp .ge (41)), (12, .aload_n 0), (13, .iload 4), (15, .invokevirtual 89), (18, .iload_n 2), (19, .if_icmp .ne (25)), (22, .aload_n 0), (23, .iload 4), (25, .iload_n 2), (26, .invokevirtual 50), (29, .ifCond .ne (12)), (32, .aload_n 0), (33, .iload_n 1), (34, .iload_n 2), (35, .invokevirtual 50), (38, .ifCond .ne (6)), (41, .iinc 3 (1)), (44, .iinc 4 (1)), (47, .goto (-42)), (50, .iload_n 3), (51, .ireturn)]
/-- shiftQueue(III)V -/
def ta_c40 : List (Nat × Instr) := [(0, .iconst 0), (1, .istore 4), (3, .iload 4), (5, .bipush 8), (7, .if_icmp .ge (41)), (10, .aload_n 0), (11, .iload 4), (13, .invokevirtual 89), (16, .iload_n 1), (17, .if_icmp .ne (25)), (20, .aload_n 0), (21, .getfield 19), (24, .iload 4), (26, .iaload), (27, .iload_n 2), (28, .if_icmp .lt (14)), (31, .aload_n 0), (32, .getfield 19), (35, .iload 4), (37, .dup2), (38, .iaload), (39, .iload_n 3), (40, .iadd), (41, .iastore), (42, .iinc 4 (1)), (45, .goto (-42)), (48, .return_)]
/-- serve(I)I -/
def ta_c41 : List (Nat × Instr) := [(0, .iconst 0), (1, .istore_n 2), (2, .iload_n 2), (3, .bipush 8), (5, .if_icmp .ge (55)), (8, .aload_n 0), (9, .iload_n 1), (10, .iconst 0), (11, .invokevirtual 96), (14, .istore_n 3), (15, .iload_n 3), (16, .iconst (-1)), (17, .if_icmp .eq (18)), (20, .aload_n 0), (21, .iload_n 3), (22, .iload_n 1), (23, .aload_n 0), (24, .getfield 16), (27, .iload_n 3), (28, .iaload), (29, .invokevirtual 75), (32, .ifCond .ne (5)), (35, .iload_n 2), (36, .ireturn), (37, .aload_n 0), (38, .iload_n 3), (39, .iload_n 1), (40, .aload_n 0), (41, .getfield 16), (44, .iload_n 3), (45, .iaload), (46, .invokevirtual 78), (49, .aload_n 0), (50, .iload_n 3), (51, .invokevirtual 92), (54, .iinc 2 (1)), (57, .goto (-55)), (60, .bipush 8), (62, .ireturn)]
/-- blockersOf(I)I -/
def ta_c42 : List (Nat × Instr) := [(0, .aload_n 0), (1, .iload_n 1), (2, .invokevirtual 89), (5, .istore_n 2), (6, .iload_n 2), (7, .iconst (-1)), (8, .if_icmp .ne (5)), (11, .iconst 0), (12, .ireturn), (13, .iconst 0), (14, .istore_n 3), (15, .iconst 0), (16, .istore 4), (18, .iload 4), (20, .bipush 8), (22, .if_icmp .ge (33)), (25, .iload 4), (27, .iload_n 1), (28, .if_icmp .eq (21)), (31, .aload_n 0), (32, .iload 4), (34, .iload_n 1), (35, .iload_n 2), (36, .invokevirtual 149), (39, .ifCond .eq (10)), (42, .iload_n 3), (43, .iconst 1), (44, .iload 4), (46, .ishl), (47, .ior), (48, .istore_n 3), (49, .iinc 4 (1)), (52, .goto (-34)), (55, .iload_n 3), (56, .ireturn)]
/-- blocks(III)Z -/
def ta_c43 : List (Nat × Instr) := [(0, .aload_n 0), (1, .iload_n 1), (2, .iload_n 3), (3, .invokevirtual 69), (6, .aload_n 0), (7, .getfield 16), (10, .iload_n 2), (11, .iaload), (12, .invokestatic 125), (15, .ifCond .eq (27)), (18, .aload_n 0), (19, .iload_n 1), (20, .invokevirtual 89), (23, .iload_n 3), (24, .if_icmp .ne (22)), (27, .aload_n 0), (28, .getfield 19), (31, .iload_n 1), (32, .iaload), (33, .aload_n 0), (34, .getfield 19), (37, .iload_n 2), (38, .iaload), (39, .if_icmp .ge (7)), (42, .iconst 1), (43, .goto (4)), (46, .iconst 0), (47, .ireturn)]
/-- isInCircle(I)Z -/
def ta_c44 : List (Nat × Instr) := [(0, .aload_n 0), (1, .iload_n 1), (2, .invokevirtual 99), (5, .istore_n 2), (6, .iconst 0), (7, .istore_n 3), (8, .iload_n 3), (9, .bipush 8), (11, .if_icmp .ge (17)), (14, .iload_n 2), (15, .aload_n 0), (16, .iload_n 2), (17, .invokevirtual 152), (20, .ior), (21, .istore_n 2), (22, .iinc 3 (1)), (25, .goto (-17)), (28, .iload_n 2), (29, .iload_n 1), (30, .invokestatic 155), (33, .ireturn)]
/-- blockersOfAll(I)I -/
def ta_c45 : List (Nat × Instr) := [(0, .iconst 0), (1, .istore_n 2), (2, .iconst 0), (3, .istore_n 3), (4, .iload_n 3), (5, .bipush 8), (7, .if_icmp .ge (25)), (10, .iload_n 1), (11, .iload_n 3), (12, .invokestatic 155), (15, .ifCond .eq (11)), (18, .iload_n 2), (19, .aload_n 0), (20, .iload_n 3), (21, .invokevirtual 99), (24, .ior), (25, .istore_n 2), (26, .iinc 3 (1)), (29, .goto (-25)), (32, .iload_n 2), (33, .ireturn)]
/-- contains(II)Z -/
def ta_c46 : List (Nat × Instr) := [(0, .iload_n 0), (1, .iload_n 1), (2, .ishr), (3, .iconst 1), (4, .iand), (5, .iconst 1), (6, .if_icmp .ne (7)), (9, .iconst 1), (10, .goto (4)), (13, .iconst 0), (14, .ireturn)]
/-- countBelow(II)I -/
def ta_c47 : List (Nat × Instr) := [(0, .iconst 0), (1, .istore_n 3), (2, .iload_n 2), (3, .iconst 1), (4, .iadd), (5, .istore 4), (7, .iload 4), (9, .bipush 34), (11, .if_icmp .ge (31)), (14, .iload 4), (16, .iload_n 2), (17, .invokestatic 158), (20, .ifCond .eq (16)), (23, .aload_n 0), (24, .iload_n 1), (25, .iload 4), (27, .invokevirtual 50), (30, .ifCond .eq (6)), (33, .iinc 3 (1)), (36, .iinc 4 (1)), (39, .goto (-32)), (42, .iload_n 3), (43, .ireturn)]
/-- writesWithin(II)Z -/
def ta_c48 : List (Nat × Instr) := [(0, .iload_n 2), (1, .istore_n 3), (2, .iload_n 3), (3, .bipush 34), (5, .if_icmp .ge (37)), (8, .iload_n 3), (9, .iload_n 2), (10, .if_icmp .eq (11)), (13, .iload_n 3), (14, .iload_n 2), (15, .invokestatic 158), (18, .ifCond .eq (18)), (21, .aload_n 0), (22, .iload_n 1), (23, .iload_n 3), (24, .invokevirtual 69), (27, .iconst 2), (28, .invokestatic 131), (31, .ifCond .eq (5)), (34, .iconst 1), (35, .ireturn), (36, .iinc 3 (1)), (39, .goto (-37)), (42, .iconst 0), (43, .ireturn)]
/-- giveUpBelow(II)I -/
def ta_c49 : List (Nat × Instr) := [(0, .iconst 0), (1, .istore_n 3), (2, .bipush 33), (4, .istore 4), (6, .iload 4), (8, .iload_n 2), (9, .if_icmp .le (39)), (12, .iload 4), (14, .iload_n 2), (15, .invokestatic 158), (18, .ifCond .eq (24)), (21, .aload_n 0), (22, .iload_n 1), (23, .iload 4), (25, .invokevirtual 50), (28, .ifCond .eq (14)), (31, .aload_n 0), (32, .iload_n 1), (33, .iload 4), (35, .invokevirtual 56), (38, .pop), (39, .iinc 3 (1)), (42, .iinc 4 (-1)), (45, .goto (-39)), (48, .iload_n 3), (49, .ireturn)]
def ta_cs : List (List (Nat × Instr) × Nat × Option FieldType) := [(ta_c0, 1, none), (ta_c1, 2, some .int), (ta_c2, 4, some .int), (ta_c3, 3, none), (ta_c4, 5, some .int), (ta_c5, 5, some .int), (ta_c6, 3, some .int), (ta_c7, 2, some .int), (ta_c8, 2, some .int), (ta_c9, 3, some .int), (ta_c10, 2, some .int), (ta_c11, 3, some .int), (ta_c12, 4, some .int), (ta_c13, 1, some .boolean), (ta_c14, 1, some .boolean), (ta_c15, 1, some .boolean), (ta_c16, 1, some .boolean), (ta_c17, 1, some .int), (ta_c18, 4, some .boolean), (ta_c19, 2, some .boolean), (ta_c20, 4, some .int), (ta_c21, 2, some .boolean), (ta_c22, 1, some .boolean), (ta_c23, 2, some .boolean), (ta_c24, 1, some .int), (ta_c25, 3, some .int), (ta_c26, 4, none), (ta_c27, 3, some .boolean), (ta_c28, 4, some .boolean), (ta_c29, 5, some .boolean), (ta_c30, 6, some .int), (ta_c31, 3, some .int), (ta_c32, 5, some .boolean), (ta_c33, 4, some .boolean), (ta_c34, 5, some .int), (ta_c35, 2, some .int), (ta_c36, 4, some .int), (ta_c37, 5, none), (ta_c38, 3, none), (ta_c39, 5, some .int), (ta_c40, 5, none), (ta_c41, 4, some .int), (ta_c42, 5, some .int), (ta_c43, 4, some .boolean), (ta_c44, 4, some .boolean), (ta_c45, 4, some .int), (ta_c46, 2, some .boolean), (ta_c47, 5, some .int), (ta_c48, 4, some .boolean), (ta_c49, 5, some .int)]
def ta_nms : List MethodName := [⟨"TieredLocks", "<init>", "()V"⟩, ⟨"TieredLocks", "begin", "()I"⟩, ⟨"TieredLocks", "lock", "(III)I"⟩, ⟨"TieredLocks", "unlock", "(II)V"⟩, ⟨"TieredLocks", "escalate", "(II)I"⟩, ⟨"TieredLocks", "end", "(I)I"⟩, ⟨"TieredLocks", "held", "(II)I"⟩, ⟨"TieredLocks", "state", "(I)I"⟩, ⟨"TieredLocks", "wanted", "(I)I"⟩, ⟨"TieredLocks", "queue", "(II)I"⟩, ⟨"TieredLocks", "waitsFor", "(I)I"⟩, ⟨"TieredLocks", "access", "(II)I"⟩, ⟨"TieredLocks", "locks", "(I)I"⟩, ⟨"TieredLocks", "isTransaction", "(I)Z"⟩, ⟨"TieredLocks", "isResource", "(I)Z"⟩, ⟨"TieredLocks", "isRow", "(I)Z"⟩, ⟨"TieredLocks", "isTableOrPage", "(I)Z"⟩, ⟨"TieredLocks", "parentOf", "(I)I"⟩, ⟨"TieredLocks", "isBelow", "(II)Z"⟩, ⟨"TieredLocks", "goTogether", "(II)Z"⟩, ⟨"TieredLocks", "join", "(II)I"⟩, ⟨"TieredLocks", "covers", "(II)Z"⟩, ⟨"TieredLocks", "onlyReads", "(I)Z"⟩, ⟨"TieredLocks", "canBeAsked", "(II)Z"⟩, ⟨"TieredLocks", "rightBy", "(I)I"⟩, ⟨"TieredLocks", "modeOf", "(II)I"⟩, ⟨"TieredLocks", "setMode", "(III)V"⟩, ⟨"TieredLocks", "isHolder", "(II)Z"⟩, ⟨"TieredLocks", "holdsOnChild", "(II)Z"⟩, ⟨"TieredLocks", "fitsOthers", "(III)Z"⟩, ⟨"TieredLocks", "rightFromAbove", "(II)I"⟩, ⟨"TieredLocks", "giveUp", "(II)I"⟩, ⟨"TieredLocks", "isAnnounced", "(III)Z"⟩, ⟨"TieredLocks", "isCovered", "(III)Z"⟩, ⟨"TieredLocks", "request", "(III)I"⟩, ⟨"TieredLocks", "awaitedBy", "(I)I"⟩, ⟨"TieredLocks", "standingAt", "(II)I"⟩, ⟨"TieredLocks", "enterQueue", "(III)V"⟩, ⟨"TieredLocks", "leaveQueue", "(I)V"⟩, ⟨"TieredLocks", "placeFor", "(II)I"⟩, ⟨"TieredLocks", "shiftQueue", "(III)V"⟩, ⟨"TieredLocks", "serve", "(I)I"⟩, ⟨"TieredLocks", "blockersOf", "(I)I"⟩, ⟨"TieredLocks", "blocks", "(III)Z"⟩, ⟨"TieredLocks", "isInCircle", "(I)Z"⟩, ⟨"TieredLocks", "blockersOfAll", "(I)I"⟩, ⟨"TieredLocks", "contains", "(II)Z"⟩, ⟨"TieredLocks", "countBelow", "(II)I"⟩, ⟨"TieredLocks", "writesWithin", "(II)Z"⟩, ⟨"TieredLocks", "giveUpBelow", "(II)I"⟩]
def ta_bss : List ByteArray := [prog_1_method_1_code, prog_1_method_2_code, prog_1_method_3_code, prog_1_method_4_code, prog_1_method_5_code, prog_1_method_6_code, prog_1_method_7_code, prog_1_method_8_code, prog_1_method_9_code, prog_1_method_10_code, prog_1_method_11_code, prog_1_method_12_code, prog_1_method_13_code, prog_1_method_14_code, prog_1_method_15_code, prog_1_method_16_code, prog_1_method_17_code, prog_1_method_18_code, prog_1_method_19_code, prog_1_method_20_code, prog_1_method_21_code, prog_1_method_22_code, prog_1_method_23_code, prog_1_method_24_code, prog_1_method_25_code, prog_1_method_26_code, prog_1_method_27_code, prog_1_method_28_code, prog_1_method_29_code, prog_1_method_30_code, prog_1_method_31_code, prog_1_method_32_code, prog_1_method_33_code, prog_1_method_34_code, prog_1_method_35_code, prog_1_method_36_code, prog_1_method_37_code, prog_1_method_38_code, prog_1_method_39_code, prog_1_method_40_code, prog_1_method_41_code, prog_1_method_42_code, prog_1_method_43_code, prog_1_method_44_code, prog_1_method_45_code, prog_1_method_46_code, prog_1_method_47_code, prog_1_method_48_code, prog_1_method_49_code, prog_1_method_50_code]
def ta_sts : List Bool := [false, false, false, false, false, false, false, false, false, false, false, false, false, true, true, true, true, true, true, true, true, true, true, true, true, false, false, false, false, false, false, false, false, false, false, false, false, false, false, false, false, false, false, false, false, false, true, false, false, false]
def ta_nm (j : Nat) : MethodName := ta_nms.getD j ⟨"", "", ""⟩
def ta_bs (j : Nat) : ByteArray := ta_bss.getD j ⟨#[]⟩
def ta_sta (j : Nat) : Bool := ta_sts.getD j false
def ta_fl : List (Nat × Nat) := [(9, 0), (13, 1), (16, 2), (19, 3), (119, 99)]
def ta_ln : List (Nat × Nat) := [(0, 272), (1, 8), (2, 8), (3, 8), (99, 6)]
def ta_mt : List (Nat × Nat × Nat) := [(22, 13, 1), (26, 14, 1), (29, 23, 2), (39, 32, 4), (46, 34, 4), (50, 27, 3), (53, 28, 3), (56, 31, 3), (60, 16, 1), (63, 47, 3), (66, 48, 3), (69, 25, 3), (72, 20, 2), (75, 29, 4), (78, 26, 4), (82, 49, 3), (85, 41, 2), (89, 35, 2), (92, 38, 2), (96, 36, 3), (99, 42, 2), (102, 15, 1), (105, 24, 1), (108, 30, 3), (111, 1000, 2), (116, 17, 1), (122, 1001, 2), (125, 19, 2), (128, 22, 1), (131, 21, 2), (134, 33, 4), (137, 37, 4), (140, 44, 2), (143, 39, 3), (146, 40, 4), (149, 43, 4), (152, 45, 2), (155, 46, 2), (158, 18, 2)]
def ta_ex : List (Nat × Nat) := [(33, 1), (36, 2), (43, 3)]
def ta_P : tl_P := (fun j => ta_cs.getD j ([], 0, none), tl_lk ta_fl, tl_lk ta_ln, tl_lk2 ta_mt, tl_lk ta_ex)
theorem ta_d0 : (ta_c0.all fun q => decide (decode prog_1_method_1_code q.1 = .ok (q.2, tl_len q.2)) && tl_ok ta_P ta_sta 1 q.1 q.2) = true := by decide +kernel
theorem ta_d1 : (ta_c1.all fun q => decide (decode prog_1_method_2_code q.1 = .ok (q.2, tl_len q.2)) && tl_ok ta_P ta_sta 2 q.1 q.2) = true := by decide +kernel
theorem ta_d2 : (ta_c2.all fun q => decide (decode prog_1_method_3_code q.1 = .ok (q.2, tl_len q.2)) && tl_ok ta_P ta_sta 4 q.1 q.2) = true := by decide +kernel
theorem ta_d3 : (ta_c3.all fun q => decide (decode prog_1_method_4_code q.1 = .ok (q.2, tl_len q.2)) && tl_ok ta_P ta_sta 3 q.1 q.2) = true := by decide +kernel
theorem ta_d4 : (ta_c4.all fun q => decide (decode prog_1_method_5_code q.1 = .ok (q.2, tl_len q.2)) && tl_ok ta_P ta_sta 5 q.1 q.2) = true := by decide +kernel
theorem ta_d5 : (ta_c5.all fun q => decide (decode prog_1_method_6_code q.1 = .ok (q.2, tl_len q.2)) && tl_ok ta_P ta_sta 5 q.1 q.2) = true := by decide +kernel
theorem ta_d6 : (ta_c6.all fun q => decide (decode prog_1_method_7_code q.1 = .ok (q.2, tl_len q.2)) && tl_ok ta_P ta_sta 3 q.1 q.2) = true := by decide +kernel
theorem ta_d7 : (ta_c7.all fun q => decide (decode prog_1_method_8_code q.1 = .ok (q.2, tl_len q.2)) && tl_ok ta_P ta_sta 2 q.1 q.2) = true := by decide +kernel
theorem ta_d8 : (ta_c8.all fun q => decide (decode prog_1_method_9_code q.1 = .ok (q.2, tl_len q.2)) && tl_ok ta_P ta_sta 2 q.1 q.2) = true := by decide +kernel
theorem ta_d9 : (ta_c9.all fun q => decide (decode prog_1_method_10_code q.1 = .ok (q.2, tl_len q.2)) && tl_ok ta_P ta_sta 3 q.1 q.2) = true := by decide +kernel
theorem ta_d10 : (ta_c10.all fun q => decide (decode prog_1_method_11_code q.1 = .ok (q.2, tl_len q.2)) && tl_ok ta_P ta_sta 2 q.1 q.2) = true := by decide +kernel
theorem ta_d11 : (ta_c11.all fun q => decide (decode prog_1_method_12_code q.1 = .ok (q.2, tl_len q.2)) && tl_ok ta_P ta_sta 3 q.1 q.2) = true := by decide +kernel
theorem ta_d12 : (ta_c12.all fun q => decide (decode prog_1_method_13_code q.1 = .ok (q.2, tl_len q.2)) && tl_ok ta_P ta_sta 4 q.1 q.2) = true := by decide +kernel
theorem ta_d13 : (ta_c13.all fun q => decide (decode prog_1_method_14_code q.1 = .ok (q.2, tl_len q.2)) && tl_ok ta_P ta_sta 1 q.1 q.2) = true := by decide +kernel
theorem ta_d14 : (ta_c14.all fun q => decide (decode prog_1_method_15_code q.1 = .ok (q.2, tl_len q.2)) && tl_ok ta_P ta_sta 1 q.1 q.2) = true := by decide +kernel
theorem ta_d15 : (ta_c15.all fun q => decide (decode prog_1_method_16_code q.1 = .ok (q.2, tl_len q.2)) && tl_ok ta_P ta_sta 1 q.1 q.2) = true := by decide +kernel
theorem ta_d16 : (ta_c16.all fun q => decide (decode prog_1_method_17_code q.1 = .ok (q.2, tl_len q.2)) && tl_ok ta_P ta_sta 1 q.1 q.2) = true := by decide +kernel
theorem ta_d17 : (ta_c17.all fun q => decide (decode prog_1_method_18_code q.1 = .ok (q.2, tl_len q.2)) && tl_ok ta_P ta_sta 1 q.1 q.2) = true := by decide +kernel
theorem ta_d18 : (ta_c18.all fun q => decide (decode prog_1_method_19_code q.1 = .ok (q.2, tl_len q.2)) && tl_ok ta_P ta_sta 4 q.1 q.2) = true := by decide +kernel
theorem ta_d19 : (ta_c19.all fun q => decide (decode prog_1_method_20_code q.1 = .ok (q.2, tl_len q.2)) && tl_ok ta_P ta_sta 2 q.1 q.2) = true := by decide +kernel
theorem ta_d20 : (ta_c20.all fun q => decide (decode prog_1_method_21_code q.1 = .ok (q.2, tl_len q.2)) && tl_ok ta_P ta_sta 4 q.1 q.2) = true := by decide +kernel
theorem ta_d21 : (ta_c21.all fun q => decide (decode prog_1_method_22_code q.1 = .ok (q.2, tl_len q.2)) && tl_ok ta_P ta_sta 2 q.1 q.2) = true := by decide +kernel
theorem ta_d22 : (ta_c22.all fun q => decide (decode prog_1_method_23_code q.1 = .ok (q.2, tl_len q.2)) && tl_ok ta_P ta_sta 1 q.1 q.2) = true := by decide +kernel
theorem ta_d23 : (ta_c23.all fun q => decide (decode prog_1_method_24_code q.1 = .ok (q.2, tl_len q.2)) && tl_ok ta_P ta_sta 2 q.1 q.2) = true := by decide +kernel
theorem ta_d24 : (ta_c24.all fun q => decide (decode prog_1_method_25_code q.1 = .ok (q.2, tl_len q.2)) && tl_ok ta_P ta_sta 1 q.1 q.2) = true := by decide +kernel
theorem ta_d25 : (ta_c25.all fun q => decide (decode prog_1_method_26_code q.1 = .ok (q.2, tl_len q.2)) && tl_ok ta_P ta_sta 3 q.1 q.2) = true := by decide +kernel
theorem ta_d26 : (ta_c26.all fun q => decide (decode prog_1_method_27_code q.1 = .ok (q.2, tl_len q.2)) && tl_ok ta_P ta_sta 4 q.1 q.2) = true := by decide +kernel
theorem ta_d27 : (ta_c27.all fun q => decide (decode prog_1_method_28_code q.1 = .ok (q.2, tl_len q.2)) && tl_ok ta_P ta_sta 3 q.1 q.2) = true := by decide +kernel
theorem ta_d28 : (ta_c28.all fun q => decide (decode prog_1_method_29_code q.1 = .ok (q.2, tl_len q.2)) && tl_ok ta_P ta_sta 4 q.1 q.2) = true := by decide +kernel
theorem ta_d29 : (ta_c29.all fun q => decide (decode prog_1_method_30_code q.1 = .ok (q.2, tl_len q.2)) && tl_ok ta_P ta_sta 5 q.1 q.2) = true := by decide +kernel
theorem ta_d30 : (ta_c30.all fun q => decide (decode prog_1_method_31_code q.1 = .ok (q.2, tl_len q.2)) && tl_ok ta_P ta_sta 6 q.1 q.2) = true := by decide +kernel
theorem ta_d31 : (ta_c31.all fun q => decide (decode prog_1_method_32_code q.1 = .ok (q.2, tl_len q.2)) && tl_ok ta_P ta_sta 3 q.1 q.2) = true := by decide +kernel
theorem ta_d32 : (ta_c32.all fun q => decide (decode prog_1_method_33_code q.1 = .ok (q.2, tl_len q.2)) && tl_ok ta_P ta_sta 5 q.1 q.2) = true := by decide +kernel
theorem ta_d33 : (ta_c33.all fun q => decide (decode prog_1_method_34_code q.1 = .ok (q.2, tl_len q.2)) && tl_ok ta_P ta_sta 4 q.1 q.2) = true := by decide +kernel
theorem ta_d34 : (ta_c34.all fun q => decide (decode prog_1_method_35_code q.1 = .ok (q.2, tl_len q.2)) && tl_ok ta_P ta_sta 5 q.1 q.2) = true := by decide +kernel
theorem ta_d35 : (ta_c35.all fun q => decide (decode prog_1_method_36_code q.1 = .ok (q.2, tl_len q.2)) && tl_ok ta_P ta_sta 2 q.1 q.2) = true := by decide +kernel
theorem ta_d36 : (ta_c36.all fun q => decide (decode prog_1_method_37_code q.1 = .ok (q.2, tl_len q.2)) && tl_ok ta_P ta_sta 4 q.1 q.2) = true := by decide +kernel
theorem ta_d37 : (ta_c37.all fun q => decide (decode prog_1_method_38_code q.1 = .ok (q.2, tl_len q.2)) && tl_ok ta_P ta_sta 5 q.1 q.2) = true := by decide +kernel
theorem ta_d38 : (ta_c38.all fun q => decide (decode prog_1_method_39_code q.1 = .ok (q.2, tl_len q.2)) && tl_ok ta_P ta_sta 3 q.1 q.2) = true := by decide +kernel
theorem ta_d39 : (ta_c39.all fun q => decide (decode prog_1_method_40_code q.1 = .ok (q.2, tl_len q.2)) && tl_ok ta_P ta_sta 5 q.1 q.2) = true := by decide +kernel
theorem ta_d40 : (ta_c40.all fun q => decide (decode prog_1_method_41_code q.1 = .ok (q.2, tl_len q.2)) && tl_ok ta_P ta_sta 5 q.1 q.2) = true := by decide +kernel
theorem ta_d41 : (ta_c41.all fun q => decide (decode prog_1_method_42_code q.1 = .ok (q.2, tl_len q.2)) && tl_ok ta_P ta_sta 4 q.1 q.2) = true := by decide +kernel
theorem ta_d42 : (ta_c42.all fun q => decide (decode prog_1_method_43_code q.1 = .ok (q.2, tl_len q.2)) && tl_ok ta_P ta_sta 5 q.1 q.2) = true := by decide +kernel
theorem ta_d43 : (ta_c43.all fun q => decide (decode prog_1_method_44_code q.1 = .ok (q.2, tl_len q.2)) && tl_ok ta_P ta_sta 4 q.1 q.2) = true := by decide +kernel
theorem ta_d44 : (ta_c44.all fun q => decide (decode prog_1_method_45_code q.1 = .ok (q.2, tl_len q.2)) && tl_ok ta_P ta_sta 4 q.1 q.2) = true := by decide +kernel
theorem ta_d45 : (ta_c45.all fun q => decide (decode prog_1_method_46_code q.1 = .ok (q.2, tl_len q.2)) && tl_ok ta_P ta_sta 4 q.1 q.2) = true := by decide +kernel
theorem ta_d46 : (ta_c46.all fun q => decide (decode prog_1_method_47_code q.1 = .ok (q.2, tl_len q.2)) && tl_ok ta_P ta_sta 2 q.1 q.2) = true := by decide +kernel
theorem ta_d47 : (ta_c47.all fun q => decide (decode prog_1_method_48_code q.1 = .ok (q.2, tl_len q.2)) && tl_ok ta_P ta_sta 5 q.1 q.2) = true := by decide +kernel
theorem ta_d48 : (ta_c48.all fun q => decide (decode prog_1_method_49_code q.1 = .ok (q.2, tl_len q.2)) && tl_ok ta_P ta_sta 4 q.1 q.2) = true := by decide +kernel
theorem ta_d49 : (ta_c49.all fun q => decide (decode prog_1_method_50_code q.1 = .ok (q.2, tl_len q.2)) && tl_ok ta_P ta_sta 5 q.1 q.2) = true := by decide +kernel
set_option maxRecDepth 20000 in
theorem ta_w0 : Cond.code (ta_nm 0) (ta_bs 0) 1 (none) ∈ lw_gt := List.mem_filter.mpr ⟨List.mem_of_getElem? (i := 48) rfl, rfl⟩
set_option maxRecDepth 20000 in
theorem ta_w1 : Cond.code (ta_nm 1) (ta_bs 1) 2 (some .int) ∈ lw_gt := List.mem_filter.mpr ⟨List.mem_of_getElem? (i := 69) rfl, rfl⟩
set_option maxRecDepth 20000 in
theorem ta_w2 : Cond.code (ta_nm 2) (ta_bs 2) 4 (some .int) ∈ lw_gt := List.mem_filter.mpr ⟨List.mem_of_getElem? (i := 158) rfl, rfl⟩
set_option maxRecDepth 20000 in
theorem ta_w3 : Cond.code (ta_nm 3) (ta_bs 3) 3 (none) ∈ lw_gt := List.mem_filter.mpr ⟨List.mem_of_getElem? (i := 320) rfl, rfl⟩
set_option maxRecDepth 20000 in
theorem ta_w4 : Cond.code (ta_nm 4) (ta_bs 4) 5 (some .int) ∈ lw_gt := List.mem_filter.mpr ⟨List.mem_of_getElem? (i := 339) rfl, rfl⟩
set_option maxRecDepth 20000 in
theorem ta_w5 : Cond.code (ta_nm 5) (ta_bs 5) 5 (some .int) ∈ lw_gt := List.mem_filter.mpr ⟨List.mem_of_getElem? (i := 364) rfl, rfl⟩
set_option maxRecDepth 20000 in
theorem ta_w6 : Cond.code (ta_nm 6) (ta_bs 6) 3 (some .int) ∈ lw_gt := List.mem_filter.mpr ⟨List.mem_of_getElem? (i := 73) rfl, rfl⟩
set_option maxRecDepth 20000 in
theorem ta_w7 : Cond.code (ta_nm 7) (ta_bs 7) 2 (some .int) ∈ lw_gt := List.mem_filter.mpr ⟨List.mem_of_getElem? (i := 87) rfl, rfl⟩
set_option maxRecDepth 20000 in
theorem ta_w8 : Cond.code (ta_nm 8) (ta_bs 8) 2 (some .int) ∈ lw_gt := List.mem_filter.mpr ⟨List.mem_of_getElem? (i := 91) rfl, rfl⟩
set_option maxRecDepth 20000 in
theorem ta_w9 : Cond.code (ta_nm 9) (ta_bs 9) 3 (some .int) ∈ lw_gt := List.mem_filter.mpr ⟨List.mem_of_getElem? (i := 95) rfl, rfl⟩
set_option maxRecDepth 20000 in
theorem ta_w10 : Cond.code (ta_nm 10) (ta_bs 10) 2 (some .int) ∈ lw_gt := List.mem_filter.mpr ⟨List.mem_of_getElem? (i := 107) rfl, rfl⟩
set_option maxRecDepth 20000 in
theorem ta_w11 : Cond.code (ta_nm 11) (ta_bs 11) 3 (some .int) ∈ lw_gt := List.mem_filter.mpr ⟨List.mem_of_getElem? (i := 124) rfl, rfl⟩
set_option maxRecDepth 20000 in
theorem ta_w12 : Cond.code (ta_nm 12) (ta_bs 12) 4 (some .int) ∈ lw_gt := List.mem_filter.mpr ⟨List.mem_of_getElem? (i := 144) rfl, rfl⟩
set_option maxRecDepth 20000 in
theorem ta_w13 : Cond.code (ta_nm 13) (ta_bs 13) 1 (some .boolean) ∈ lw_gt := List.mem_filter.mpr ⟨List.mem_of_getElem? (i := 76) rfl, rfl⟩
set_option maxRecDepth 20000 in
theorem ta_w14 : Cond.code (ta_nm 14) (ta_bs 14) 1 (some .boolean) ∈ lw_gt := List.mem_filter.mpr ⟨List.mem_of_getElem? (i := 79) rfl, rfl⟩
set_option maxRecDepth 20000 in
theorem ta_w15 : Cond.code (ta_nm 15) (ta_bs 15) 1 (some .boolean) ∈ lw_gt := List.mem_filter.mpr ⟨List.mem_of_getElem? (i := 127) rfl, rfl⟩
set_option maxRecDepth 20000 in
theorem ta_w16 : Cond.code (ta_nm 16) (ta_bs 16) 1 (some .boolean) ∈ lw_gt := List.mem_filter.mpr ⟨List.mem_of_getElem? (i := 342) rfl, rfl⟩
set_option maxRecDepth 20000 in
theorem ta_w17 : Cond.code (ta_nm 17) (ta_bs 17) 1 (some .int) ∈ lw_gt := List.mem_filter.mpr ⟨List.mem_of_getElem? (i := 137) rfl, rfl⟩
set_option maxRecDepth 20000 in
theorem ta_w18 : Cond.code (ta_nm 18) (ta_bs 18) 4 (some .boolean) ∈ lw_gt := List.mem_filter.mpr ⟨List.mem_of_getElem? (i := 349) rfl, rfl⟩
set_option maxRecDepth 20000 in
theorem ta_w19 : Cond.code (ta_nm 19) (ta_bs 19) 2 (some .boolean) ∈ lw_gt := List.mem_filter.mpr ⟨List.mem_of_getElem? (i := 118) rfl, rfl⟩
set_option maxRecDepth 20000 in
theorem ta_w20 : Cond.code (ta_nm 20) (ta_bs 20) 4 (some .int) ∈ lw_gt := List.mem_filter.mpr ⟨List.mem_of_getElem? (i := 252) rfl, rfl⟩
set_option maxRecDepth 20000 in
theorem ta_w21 : Cond.code (ta_nm 21) (ta_bs 21) 2 (some .boolean) ∈ lw_gt := List.mem_filter.mpr ⟨List.mem_of_getElem? (i := 249) rfl, rfl⟩
set_option maxRecDepth 20000 in
theorem ta_w22 : Cond.code (ta_nm 22) (ta_bs 22) 1 (some .boolean) ∈ lw_gt := List.mem_filter.mpr ⟨List.mem_of_getElem? (i := 246) rfl, rfl⟩
set_option maxRecDepth 20000 in
theorem ta_w23 : Cond.code (ta_nm 23) (ta_bs 23) 2 (some .boolean) ∈ lw_gt := List.mem_filter.mpr ⟨List.mem_of_getElem? (i := 161) rfl, rfl⟩
set_option maxRecDepth 20000 in
theorem ta_w24 : Cond.code (ta_nm 24) (ta_bs 24) 1 (some .int) ∈ lw_gt := List.mem_filter.mpr ⟨List.mem_of_getElem? (i := 130) rfl, rfl⟩
set_option maxRecDepth 20000 in
theorem ta_w25 : Cond.code (ta_nm 25) (ta_bs 25) 3 (some .int) ∈ lw_gt := List.mem_filter.mpr ⟨List.mem_of_getElem? (i := 83) rfl, rfl⟩
set_option maxRecDepth 20000 in
theorem ta_w26 : Cond.code (ta_nm 26) (ta_bs 26) 4 (none) ∈ lw_gt := List.mem_filter.mpr ⟨List.mem_of_getElem? (i := 286) rfl, rfl⟩
set_option maxRecDepth 20000 in
theorem ta_w27 : Cond.code (ta_nm 27) (ta_bs 27) 3 (some .boolean) ∈ lw_gt := List.mem_filter.mpr ⟨List.mem_of_getElem? (i := 148) rfl, rfl⟩
set_option maxRecDepth 20000 in
theorem ta_w28 : Cond.code (ta_nm 28) (ta_bs 28) 4 (some .boolean) ∈ lw_gt := List.mem_filter.mpr ⟨List.mem_of_getElem? (i := 324) rfl, rfl⟩
set_option maxRecDepth 20000 in
theorem ta_w29 : Cond.code (ta_nm 29) (ta_bs 29) 5 (some .boolean) ∈ lw_gt := List.mem_filter.mpr ⟨List.mem_of_getElem? (i := 282) rfl, rfl⟩
set_option maxRecDepth 20000 in
theorem ta_w30 : Cond.code (ta_nm 30) (ta_bs 30) 6 (some .int) ∈ lw_gt := List.mem_filter.mpr ⟨List.mem_of_getElem? (i := 134) rfl, rfl⟩
set_option maxRecDepth 20000 in
theorem ta_w31 : Cond.code (ta_nm 31) (ta_bs 31) 3 (some .int) ∈ lw_gt := List.mem_filter.mpr ⟨List.mem_of_getElem? (i := 328) rfl, rfl⟩
set_option maxRecDepth 20000 in
theorem ta_w32 : Cond.code (ta_nm 32) (ta_bs 32) 5 (some .boolean) ∈ lw_gt := List.mem_filter.mpr ⟨List.mem_of_getElem? (i := 243) rfl, rfl⟩
set_option maxRecDepth 20000 in
theorem ta_w33 : Cond.code (ta_nm 33) (ta_bs 33) 4 (some .boolean) ∈ lw_gt := List.mem_filter.mpr ⟨List.mem_of_getElem? (i := 278) rfl, rfl⟩
set_option maxRecDepth 20000 in
theorem ta_w34 : Cond.code (ta_nm 34) (ta_bs 34) 5 (some .int) ∈ lw_gt := List.mem_filter.mpr ⟨List.mem_of_getElem? (i := 274) rfl, rfl⟩
set_option maxRecDepth 20000 in
theorem ta_w35 : Cond.code (ta_nm 35) (ta_bs 35) 2 (some .int) ∈ lw_gt := List.mem_filter.mpr ⟨List.mem_of_getElem? (i := 103) rfl, rfl⟩
set_option maxRecDepth 20000 in
theorem ta_w36 : Cond.code (ta_nm 36) (ta_bs 36) 4 (some .int) ∈ lw_gt := List.mem_filter.mpr ⟨List.mem_of_getElem? (i := 99) rfl, rfl⟩
set_option maxRecDepth 20000 in
theorem ta_w37 : Cond.code (ta_nm 37) (ta_bs 37) 5 (none) ∈ lw_gt := List.mem_filter.mpr ⟨List.mem_of_getElem? (i := 290) rfl, rfl⟩
set_option maxRecDepth 20000 in
theorem ta_w38 : Cond.code (ta_nm 38) (ta_bs 38) 3 (none) ∈ lw_gt := List.mem_filter.mpr ⟨List.mem_of_getElem? (i := 313) rfl, rfl⟩
set_option maxRecDepth 20000 in
theorem ta_w39 : Cond.code (ta_nm 39) (ta_bs 39) 5 (some .int) ∈ lw_gt := List.mem_filter.mpr ⟨List.mem_of_getElem? (i := 294) rfl, rfl⟩
set_option maxRecDepth 20000 in
theorem ta_w40 : Cond.code (ta_nm 40) (ta_bs 40) 5 (none) ∈ lw_gt := List.mem_filter.mpr ⟨List.mem_of_getElem? (i := 298) rfl, rfl⟩
set_option maxRecDepth 20000 in
theorem ta_w41 : Cond.code (ta_nm 41) (ta_bs 41) 4 (some .int) ∈ lw_gt := List.mem_filter.mpr ⟨List.mem_of_getElem? (i := 332) rfl, rfl⟩
set_option maxRecDepth 20000 in
theorem ta_w42 : Cond.code (ta_nm 42) (ta_bs 42) 5 (some .int) ∈ lw_gt := List.mem_filter.mpr ⟨List.mem_of_getElem? (i := 111) rfl, rfl⟩
set_option maxRecDepth 20000 in
theorem ta_w43 : Cond.code (ta_nm 43) (ta_bs 43) 4 (some .boolean) ∈ lw_gt := List.mem_filter.mpr ⟨List.mem_of_getElem? (i := 115) rfl, rfl⟩
set_option maxRecDepth 20000 in
theorem ta_w44 : Cond.code (ta_nm 44) (ta_bs 44) 4 (some .boolean) ∈ lw_gt := List.mem_filter.mpr ⟨List.mem_of_getElem? (i := 302) rfl, rfl⟩
set_option maxRecDepth 20000 in
theorem ta_w45 : Cond.code (ta_nm 45) (ta_bs 45) 4 (some .int) ∈ lw_gt := List.mem_filter.mpr ⟨List.mem_of_getElem? (i := 306) rfl, rfl⟩
set_option maxRecDepth 20000 in
theorem ta_w46 : Cond.code (ta_nm 46) (ta_bs 46) 2 (some .boolean) ∈ lw_gt := List.mem_filter.mpr ⟨List.mem_of_getElem? (i := 309) rfl, rfl⟩
set_option maxRecDepth 20000 in
theorem ta_w47 : Cond.code (ta_nm 47) (ta_bs 47) 5 (some .int) ∈ lw_gt := List.mem_filter.mpr ⟨List.mem_of_getElem? (i := 346) rfl, rfl⟩
set_option maxRecDepth 20000 in
theorem ta_w48 : Cond.code (ta_nm 48) (ta_bs 48) 4 (some .boolean) ∈ lw_gt := List.mem_filter.mpr ⟨List.mem_of_getElem? (i := 353) rfl, rfl⟩
set_option maxRecDepth 20000 in
theorem ta_w49 : Cond.code (ta_nm 49) (ta_bs 49) 5 (some .int) ∈ lw_gt := List.mem_filter.mpr ⟨List.mem_of_getElem? (i := 357) rfl, rfl⟩
def ta_wl : List Cond := [.initialized "TieredLocks", .laysFinal "TieredLocks" "TieredLocks" "modes" "[I", .laysFinal "TieredLocks" "TieredLocks" "situations" "[I", .laysFinal "TieredLocks" "TieredLocks" "wishes" "[I", .laysFinal "TieredLocks" "TieredLocks" "places" "[I", .fieldLink "TieredLocks" 9 "TieredLocks" "modes" "[I", .fieldLink "TieredLocks" 13 "TieredLocks" "situations" "[I", .fieldLink "TieredLocks" 16 "TieredLocks" "wishes" "[I", .fieldLink "TieredLocks" 19 "TieredLocks" "places" "[I", .fieldLink "TieredLocks" 119 "TieredLocks" "TOGETHER" "[I", .methodLink "TieredLocks" 22 (ta_nm 13), .methodLink "TieredLocks" 26 (ta_nm 14), .methodLink "TieredLocks" 29 (ta_nm 23), .methodLink "TieredLocks" 39 (ta_nm 32), .methodLink "TieredLocks" 46 (ta_nm 34), .methodLink "TieredLocks" 50 (ta_nm 27), .methodLink "TieredLocks" 53 (ta_nm 28), .methodLink "TieredLocks" 56 (ta_nm 31), .methodLink "TieredLocks" 60 (ta_nm 16), .methodLink "TieredLocks" 63 (ta_nm 47), .methodLink "TieredLocks" 66 (ta_nm 48), .methodLink "TieredLocks" 69 (ta_nm 25), .methodLink "TieredLocks" 72 (ta_nm 20), .methodLink "TieredLocks" 75 (ta_nm 29), .methodLink "TieredLocks" 78 (ta_nm 26), .methodLink "TieredLocks" 82 (ta_nm 49), .methodLink "TieredLocks" 85 (ta_nm 41), .methodLink "TieredLocks" 89 (ta_nm 35), .methodLink "TieredLocks" 92 (ta_nm 38), .methodLink "TieredLocks" 96 (ta_nm 36), .methodLink "TieredLocks" 99 (ta_nm 42), .methodLink "TieredLocks" 102 (ta_nm 15), .methodLink "TieredLocks" 105 (ta_nm 24), .methodLink "TieredLocks" 108 (ta_nm 30), .methodLink "TieredLocks" 111 Lib.Math.max.name, .methodLink "TieredLocks" 116 (ta_nm 17), .methodLink "TieredLocks" 122 Lib.Math.min.name, .methodLink "TieredLocks" 125 (ta_nm 19), .methodLink "TieredLocks" 128 (ta_nm 22), .methodLink "TieredLocks" 131 (ta_nm 21), .methodLink "TieredLocks" 134 (ta_nm 33), .methodLink "TieredLocks" 137 (ta_nm 37), .methodLink "TieredLocks" 140 (ta_nm 44), .methodLink "TieredLocks" 143 (ta_nm 39), .methodLink "TieredLocks" 146 (ta_nm 40), .methodLink "TieredLocks" 149 (ta_nm 43), .methodLink "TieredLocks" 152 (ta_nm 45), .methodLink "TieredLocks" 155 (ta_nm 46), .methodLink "TieredLocks" 158 (ta_nm 18), .static (ta_nm 13), .static (ta_nm 14), .static (ta_nm 15), .static (ta_nm 16), .static (ta_nm 17), .static (ta_nm 18), .static (ta_nm 19), .static (ta_nm 20), .static (ta_nm 21), .static (ta_nm 22), .static (ta_nm 23), .static (ta_nm 24), .instanceMethod (ta_nm 25), .instanceMethod (ta_nm 26), .instanceMethod (ta_nm 27), .instanceMethod (ta_nm 28), .instanceMethod (ta_nm 29), .instanceMethod (ta_nm 30), .instanceMethod (ta_nm 31), .instanceMethod (ta_nm 32), .instanceMethod (ta_nm 33), .instanceMethod (ta_nm 34), .instanceMethod (ta_nm 35), .instanceMethod (ta_nm 36), .instanceMethod (ta_nm 37), .instanceMethod (ta_nm 38), .instanceMethod (ta_nm 39), .instanceMethod (ta_nm 40), .instanceMethod (ta_nm 41), .instanceMethod (ta_nm 42), .instanceMethod (ta_nm 43), .instanceMethod (ta_nm 44), .instanceMethod (ta_nm 45), .static (ta_nm 46), .instanceMethod (ta_nm 47), .instanceMethod (ta_nm 48), .instanceMethod (ta_nm 49), .selects "TieredLocks" (ta_nm 25) (ta_nm 25), .selects "TieredLocks" (ta_nm 26) (ta_nm 26), .selects "TieredLocks" (ta_nm 27) (ta_nm 27), .selects "TieredLocks" (ta_nm 28) (ta_nm 28), .selects "TieredLocks" (ta_nm 29) (ta_nm 29), .selects "TieredLocks" (ta_nm 30) (ta_nm 30), .selects "TieredLocks" (ta_nm 31) (ta_nm 31), .selects "TieredLocks" (ta_nm 32) (ta_nm 32), .selects "TieredLocks" (ta_nm 33) (ta_nm 33), .selects "TieredLocks" (ta_nm 34) (ta_nm 34), .selects "TieredLocks" (ta_nm 35) (ta_nm 35), .selects "TieredLocks" (ta_nm 36) (ta_nm 36), .selects "TieredLocks" (ta_nm 37) (ta_nm 37), .selects "TieredLocks" (ta_nm 38) (ta_nm 38), .selects "TieredLocks" (ta_nm 39) (ta_nm 39), .selects "TieredLocks" (ta_nm 40) (ta_nm 40), .selects "TieredLocks" (ta_nm 41) (ta_nm 41), .selects "TieredLocks" (ta_nm 42) (ta_nm 42), .selects "TieredLocks" (ta_nm 43) (ta_nm 43), .selects "TieredLocks" (ta_nm 44) (ta_nm 44), .selects "TieredLocks" (ta_nm 45) (ta_nm 45), .selects "TieredLocks" (ta_nm 47) (ta_nm 47), .selects "TieredLocks" (ta_nm 48) (ta_nm 48), .selects "TieredLocks" (ta_nm 49) (ta_nm 49), .static Lib.Math.max.name, .static Lib.Math.min.name, .initialized "java/lang/Math"]
theorem ta_wl_ok : ta_wl = [35, 56, 58, 60, 62, 52, 53, 54, 55, 119, 74, 77, 159, 240, 271, 145, 321, 325, 340, 343, 350, 80, 250, 279, 283, 354, 329, 100, 310, 96, 108, 125, 128, 131, 138, 135, 253, 116, 244, 247, 275, 287, 299, 291, 295, 112, 303, 307, 347, 75, 78, 126, 341, 136, 348, 117, 251, 248, 245, 160, 129, 82, 285, 147, 323, 281, 133, 327, 242, 277, 273, 102, 98, 289, 312, 293, 297, 331, 110, 114, 301, 305, 308, 345, 352, 356, 0, 12, 6, 19, 11, 5, 20, 8, 10, 9, 2, 1, 13, 18, 14, 15, 21, 3, 4, 16, 17, 22, 23, 24, 139, 254, 42].filterMap (fun i => lw_tbl[i]?) := by decide +kernel
theorem ta_wl_g : ta_wl.all goodWord = true := by decide +kernel
theorem ta_wl_in : ∀ w ∈ ta_wl, w ∈ lw_gt := by
  intro w hw
  have h1 := List.all_eq_true.mp ta_wl_g w hw
  rw [ta_wl_ok] at hw
  obtain ⟨i, -, hi⟩ := List.mem_filterMap.mp hw
  exact List.mem_filter.mpr ⟨List.mem_of_getElem? hi, h1⟩
def tb_R : String := "TieredLocksModel"
def tb_T : u_T := fun k => match k with
  | 0 => ("TieredLocksModel", "held", "[I", true)
  | 1 => ("TieredLocksModel", "state", "[I", true)
  | 2 => ("TieredLocksModel", "wanted", "[I", true)
  | 3 => ("TieredLocksModel", "queue", "[I", true)
  | 4 => ("TieredLocksModel", "length", "[I", true)
  | _ => ("TieredLocksModel", "thrown", "I", false)
def tb_ty : Nat → FieldType := fun k => match k with
  | 0 => .array .int
  | 1 => .array .int
  | 2 => .array .int
  | 3 => .array .int
  | 4 => .array .int
  | _ => .int
/-- <init>()V -/
def tb_c0 : List (Nat × Instr) := []
/-- thrown()I -/
def tb_c1 : List (Nat × Instr) := [(0, .aload_n 0), (1, .getfield 25), (4, .ireturn)]
/-- refuse(I)I -/
def tb_c2 : List (Nat × Instr) := [(0, .aload_n 0), (1, .iload_n 1), (2, .putfield 25), (5, .iconst 0), (6, .ireturn)]
/-- parentOf(I)I -/
def tb_c3 : List (Nat × Instr) := [(0, .iload_n 0), (1, .bipush 9), (3, .if_icmp .le (14)), (6, .iconst 4), (7, .iload_n 0), (8, .bipush 10), (10, .isub), (11, .iconst 4), (12, .idiv), (13, .iadd), (14, .goto (27)), (17, .iload_n 0), (18, .iconst 3), (19, .if_icmp .le (13)), (22, .iconst 1), (23, .iload_n 0), (24, .iconst 4), (25, .isub), (26, .iconst 2), (27, .idiv), (28, .iadd), (29, .goto (12)), (32, .iload_n 0), (33, .ifCond .le (7)), (36, .iconst 0), (37, .goto (4)), (40, .iconst (-1)), (41, .ireturn)]
/-- isBelow(II)Z -/
def tb_c4 : List (Nat × Instr) := [(0, .iload_n 0), (1, .invokestatic 29), (4, .istore_n 2), (5, .iload_n 2), (6, .ifCond .lt (16)), (9, .iload_n 2), (10, .iload_n 1), (11, .if_icmp .eq (11)), (14, .iload_n 2), (15, .invokestatic 29), (18, .istore_n 2), (19, .goto (-14)), (22, .iload_n 2), (23, .iload_n 1), (24, .if_icmp .ne (7)), (27, .iconst 1), (28, .goto (4)), (31, .iconst 0), (32, .ireturn)]
/-- goTogether(II)Z -/
def tb_c5 : List (Nat × Instr) := [(0, .iload_n 0), (1, .iload_n 1), (2, .if_icmp .ge (7)), (5, .iload_n 0), (6, .goto (4)), (9, .iload_n 1), (10, .istore_n 2), (11, .iload_n 0), (12, .iload_n 1), (13, .if_icmp .ge (7)), (16, .iload_n 1), (17, .goto (4)), (20, .iload_n 0), (21, .istore_n 3), (22, .iload_n 2), (23, .ifCond .eq (28)), (26, .iload_n 2), (27, .iconst 1), (28, .if_icmp .ne (8)), (31, .iload_n 3), (32, .iconst 5), (33, .if_icmp .lt (18)), (36, .iload_n 2), (37, .iload_n 3), (38, .if_icmp .ne (17)), (41, .iload_n 2), (42, .iconst 2), (43, .if_icmp .eq (8)), (46, .iload_n 2), (47, .iconst 3), (48, .if_icmp .ne (7)), (51, .iconst 1), (52, .goto (4)), (55, .iconst 0), (56, .ireturn)]
/-- join(II)I -/
def tb_c6 : List (Nat × Instr) := [(0, .iload_n 0), (1, .iload_n 1), (2, .if_icmp .ge (7)), (5, .iload_n 0), (6, .goto (4)), (9, .iload_n 1), (10, .istore_n 2), (11, .iload_n 0), (12, .iload_n 1), (13, .if_icmp .ge (7)), (16, .iload_n 1), (17, .goto (4)), (20, .iload_n 0), (21, .istore_n 3), (22, .iload_n 2), (23, .iconst 2), (24, .if_icmp .ne (12)), (27, .iload_n 3), (28, .iconst 3), (29, .if_icmp .ne (7)), (32, .iconst 4), (33, .goto (4)), (36, .iload_n 3), (37, .ireturn)]
/-- covers(II)Z -/
def tb_c7 : List (Nat × Instr) := [(0, .iload_n 0), (1, .iload_n 1), (2, .invokestatic 33), (5, .iload_n 0), (6, .if_icmp .ne (7)), (9, .iconst 1), (10, .goto (4)), (13, .iconst 0), (14, .ireturn)]
/-- isTransaction(I)Z -/
def tb_c8 : List (Nat × Instr) := [(0, .iload_n 0), (1, .ifCond .lt (13)), (4, .iload_n 0), (5, .bipush 8), (7, .if_icmp .ge (7)), (10, .iconst 1), (11, .goto (4)), (14, .iconst 0), (15, .ireturn)]
/-- isResource(I)Z -/
def tb_c9 : List (Nat × Instr) := [(0, .iload_n 0), (1, .ifCond .lt (13)), (4, .iload_n 0), (5, .bipush 34), (7, .if_icmp .ge (7)), (10, .iconst 1), (11, .goto (4)), (14, .iconst 0), (15, .ireturn)]
/-- fits(III)Z -/
def tb_c10 : List (Nat × Instr) := [(0, .iconst 1), (1, .istore 4), (3, .iconst 0), (4, .istore 5), (6, .iload 5), (8, .bipush 8), (10, .if_icmp .ge (46)), (13, .iload 4), (15, .ifCond .eq (32)), (18, .iload 5), (20, .iload_n 1), (21, .if_icmp .eq (22)), (24, .iload_n 3), (25, .aload_n 0), (26, .getfield 7), (29, .bipush 34), (31, .iload 5), (33, .imul), (34, .iload_n 2), (35, .iadd), (36, .iaload), (37, .invokestatic 37), (40, .ifCond .eq (7)), (43, .iconst 1), (44, .goto (4)), (47, .iconst 0), (48, .istore 4), (50, .iinc 5 (1)), (53, .goto (-47)), (56, .iload 4), (58, .ireturn)]
/-- leave(II)V -/
def tb_c11 : List (Nat × Instr) := [(0, .aload_n 0), (1, .getfield 22), (4, .iload_n 1), (5, .dup2), (6, .iaload), (7, .iconst 1), (8, .isub), (9, .iastore), (10, .iload_n 2), (11, .istore_n 3), (12, .iload_n 3), (13, .aload_n 0), (14, .getfield 22), (17, .iload_n 1), (18, .iaload), (19, .if_icmp .ge (33)), (22, .aload_n 0), (23, .getfield 19), (26, .bipush 8), (28, .iload_n 1), (29, .imul), (30, .iload_n 3), (31, .iadd), (32, .aload_n 0), (33, .getfield 19), (36, .bipush 8), (38, .iload_n 1), (39, .imul), (40, .iload_n 3), (41, .iadd), (42, .iconst 1), (43, .iadd), (44, .iaload), (45, .iastore), (46, .iinc 3 (1)), (49, .goto (-37)), (52, .return_)]
/-- serve(I)I -/
def tb_c12 : List (Nat × Instr) := [(0, .iconst 0), (1, .istore_n 2), (2, .aload_n 0), (3, .getfield 22), (6, .iload_n 1), (7, .iaload), (8, .ifCond .le (87)), (11, .aload_n 0), (12, .aload_n 0), (13, .getfield 19), (16, .bipush 8), (18, .iload_n 1), (19, .imul), (20, .iaload), (21, .iload_n 1), (22, .aload_n 0), (23, .getfield 16), (26, .aload_n 0), (27, .getfield 19), (30, .bipush 8), (32, .iload_n 1), (33, .imul), (34, .iaload), (35, .iaload), (36, .invokevirtual 41), (39, .ifCond .eq (56)), (42, .aload_n 0), (43, .getfield 19), (46, .bipush 8), (48, .iload_n 1), (49, .imul), (50, .iaload), (51, .istore_n 3), (52, .aload_n 0), (53, .getfield 7), (56, .bipush 34), (58, .iload_n 3), (59, .imul), (60, .iload_n 1), (61, .iadd), (62, .aload_n 0), (63, .getfield 16), (66, .iload_n 3), (67, .iaload), (68, .iastore), (69, .aload_n 0), (70, .getfield 16), (73, .iload_n 3), (74, .iconst 0), (75, .iastore), (76, .aload_n 0), (77, .getfield 13), (80, .iload_n 3), (81, .iconst 1), (82, .iastore), (83, .aload_n 0), (84, .iload_n 1), (85, .iconst 0), (86, .invokevirtual 45), (89, .iinc 2 (1)), (92, .goto (-90)), (95, .iload_n 2), (96, .ireturn)]
/-- placeOf(II)I -/
def tb_c13 : List (Nat × Instr) := [(0, .iconst 0), (1, .istore_n 3), (2, .iload_n 3), (3, .aload_n 0), (4, .getfield 22), (7, .iload_n 2), (8, .iaload), (9, .if_icmp .ge (24)), (12, .aload_n 0), (13, .getfield 19), (16, .bipush 8), (18, .iload_n 2), (19, .imul), (20, .iload_n 3), (21, .iadd), (22, .iaload), (23, .iload_n 1), (24, .if_icmp .eq (9)), (27, .iinc 3 (1)), (30, .goto (-28)), (33, .iload_n 3), (34, .ireturn)]
/-- waits(I)I -/
def tb_c14 : List (Nat × Instr) := [(0, .aload_n 0), (1, .getfield 13), (4, .iload_n 1), (5, .iaload), (6, .iconst 2), (7, .if_icmp .ge (5)), (10, .iconst 0), (11, .ireturn), (12, .aload_n 0), (13, .getfield 13), (16, .iload_n 1), (17, .iaload), (18, .iconst 2), (19, .isub), (20, .istore_n 2), (21, .iconst 0), (22, .istore_n 3), (23, .iconst 0), (24, .istore 4), (26, .iload 4), (28, .bipush 8), (30, .if_icmp .ge (50)), (33, .iload 4), (35, .iload_n 1), (36, .if_icmp .eq (36)), (39, .aload_n 0), (40, .getfield 16), (43, .iload_n 1), (44, .iaload), (45, .aload_n 0), (46, .getfield 7), (49, .bipush 34), (51, .iload 4), (53, .imul), (54, .iload_n 2), (55, .iadd), (56, .iaload), (57, .invokestatic 37), (60, .ifCond .ne (12)), (63, .iload_n 3), (64, .iconst 1), (65, .iload 4), (67, .ishl), (68, .ior), (69, .goto (4)), (72, .iload_n 3), (73, .istore_n 3), (74, .iinc 4 (1)), (77, .goto (-51)), (80, .iconst 0), (81, .istore 4), (83, .iload 4), (85, .aload_n 0), (86, .iload_n 1), (87, .iload_n 2), (88, .invokevirtual 49), (91, .if_icmp .ge (26)), (94, .iload_n 3), (95, .iconst 1), (96, .aload_n 0), (97, .getfield 19), (100, .bipush 8), (102, .iload_n 2), (103, .imul), (104, .iload 4), (106, .iadd), (107, .iaload), (108, .ishl), (109, .ior), (110, .istore_n 3), (111, .iinc 4 (1)), (114, .goto (-31)), (117, .iload_n 3), (118, .ireturn)]
/-- isRound(I)Z -/
def tb_c15 : List (Nat × Instr) := [(0, .aload_n 0), (1, .iload_n 1), (2, .invokevirtual 52), (5, .istore_n 2), (6, .iconst 0), (7, .istore_n 3), (8, .iload_n 3), (9, .bipush 8), (11, .if_icmp .ge (48)), (14, .iconst 0), (15, .istore 4), (17, .iload 4), (19, .bipush 8), (21, .if_icmp .ge (32)), (24, .iload_n 2), (25, .iload 4), (27, .ishr), (28, .iconst 1), (29, .iand), (30, .iconst 1), (31, .if_icmp .ne (14)), (34, .iload_n 2), (35, .aload_n 0), (36, .iload 4), (38, .invokevirtual 52), (41, .ior), (42, .goto (4)), (45, .iload_n 2), (46, .istore_n 2), (47, .iinc 4 (1)), (50, .goto (-33)), (53, .iinc 3 (1)), (56, .goto (-48)), (59, .iload_n 2), (60, .iload_n 1), (61, .ishr), (62, .iconst 1), (63, .iand), (64, .iconst 1), (65, .if_icmp .ne (7)), (68, .iconst 1), (69, .goto (4)), (72, .iconst 0), (73, .ireturn)]
/-- begin()I -/
def tb_c16 : List (Nat × Instr) := [(0, .aload_n 0), (1, .iconst 0), (2, .putfield 25), (5, .iconst 0), (6, .istore_n 1), (7, .iload_n 1), (8, .bipush 8), (10, .if_icmp .ge (27)), (13, .aload_n 0), (14, .getfield 13), (17, .iload_n 1), (18, .iaload), (19, .ifCond .ne (12)), (22, .aload_n 0), (23, .getfield 13), (26, .iload_n 1), (27, .iconst 1), (28, .iastore), (29, .iload_n 1), (30, .ireturn), (31, .iinc 1 (1)), (34, .goto (-27)), (37, .iconst (-1)), (38, .ireturn)]
/-- isCovered(III)Z -/
def tb_c17 : List (Nat × Instr) := [(0, .iconst 0), (1, .istore 4), (3, .iload_n 2), (4, .invokestatic 29), (7, .istore 5), (9, .iload 5), (11, .ifCond .lt (67)), (14, .aload_n 0), (15, .getfield 7), (18, .bipush 34), (20, .iload_n 1), (21, .imul), (22, .iload 5), (24, .iadd), (25, .iaload), (26, .istore 6), (28, .iload 4), (30, .ifCond .ne (31)), (33, .iload 6), (35, .iconst 5), (36, .if_icmp .eq (25)), (39, .iload 6), (41, .iconst 3), (42, .if_icmp .eq (9)), (45, .iload 6), (47, .iconst 4), (48, .if_icmp .ne (17)), (51, .iload_n 3), (52, .iconst 1), (53, .if_icmp .eq (8)), (56, .iload_n 3), (57, .iconst 3), (58, .if_icmp .ne (7)), (61, .iconst 1), (62, .goto (4)), (65, .iconst 0), (66, .istore 4), (68, .iload 5), (70, .invokestatic 29), (73, .istore 5), (75, .goto (-66)), (78, .iload 4), (80, .ireturn)]
/-- ask(III)I -/
def tb_c18 : List (Nat × Instr) := [(0, .aload_n 0), (1, .getfield 7), (4, .bipush 34), (6, .iload_n 1), (7, .imul), (8, .iload_n 2), (9, .iadd), (10, .iaload), (11, .istore 4), (13, .aload_n 0), (14, .iload_n 1), (15, .iload_n 2), (16, .iload_n 3), (17, .invokevirtual 41), (20, .ifCond .eq (31)), (23, .iload 4), (25, .ifCond .gt (12)), (28, .aload_n 0), (29, .getfield 22), (32, .iload_n 2), (33, .iaload), (34, .ifCond .ne (17)), (37, .aload_n 0), (38, .getfield 7), (41, .bipush 34), (43, .iload_n 1), (44, .imul), (45, .iload_n 2), (46, .iadd), (47, .iload_n 3), (48, .iastore), (49, .iconst 1), (50, .ireturn), (51, .aload_n 0), (52, .getfield 22), (55, .iload_n 2), (56, .iaload), (57, .istore 5), (59, .iload 4), (61, .ifCond .le (41)), (64, .iload 5), (66, .ifCond .le (36)), (69, .aload_n 0), (70, .getfield 7), (73, .bipush 34), (75, .aload_n 0), (76, .getfield 19), (79, .bipush 8), (81, .iload_n 2), (82, .imul), (83, .iload 5), (85, .iadd), (86, .iconst 1), (87, .isub), (88, .iaload), (89, .imul), (90, .iload_n 2), (91, .iadd), (92, .iaload), (93, .ifCond .ne (9)), (96, .iinc 5 (-1)), (99, .goto (-40)), (102, .aload_n 0), (103, .getfield 22), (106, .iload_n 2), (107, .iaload), (108, .istore 6), (110, .iload 6), (112, .iload 5), (114, .if_icmp .le (35)), (117, .aload_n 0), (118, .getfield 19), (121, .bipush 8), (123, .iload_n 2), (124, .imul), (125, .iload 6), (127, .iadd), (128, .aload_n 0), (129, .getfield 19), (132, .bipush 8), (134, .iload_n 2), (135, .imul), (136, .iload 6), (138, .iadd), (139, .iconst 1), (140, .isub), (141, .iaload), (142, .iastore), (143, .iinc 6 (-1)), (146, .goto (-36)), (149, .aload_n 0), (150, .getfield 19), (153, .bipush 8), (155, .iload_n 2), (156, .imul), (157, .iload 5), (159, .iadd), (160, .iload_n 1), (161, .iastore), (162, .aload_n 0), (163, .getfield 22), (166, .iload_n 2), (167, .dup2), (168, .iaload), (169, .iconst 1), (170, .iadd), (171, .iastore), (172, .aload_n 0), (173, .getfield 13), (176, .iload_n 1), (177, .iconst 2), (178, .iload_n 2), (179, .iadd), (180, .iastore), (181, .aload_n 0), (182, .getfield 16), (185, .iload_n 1), (186, .iload_n 3), (187, .iastore), (188, .aload_n 0), (189, .iload_n 1), (190, .invokevirtual 55), (193, .ifCond .ne (5)), (196, .iconst 0), (197, .ireturn), (198, .aload_n 0), (199, .iload_n 2), (200, .iload 5), (202, .invokevirtual 45), (205, .aload_n 0), (206, .getfield 13), (209, .iload_n 1), (210, .iconst 1), (211, .iastore), (212, .aload_n 0), (213, .getfield 16), (216, .iload_n 1), (217, .iconst 0), (218, .iastore), (219, .iconst 4), (220, .ireturn)]
/-- lock(III)I -/
def tb_c19 : List (Nat × Instr) := [(0, .aload_n 0), (1, .iconst 0), (2, .putfield 25), (5, .iload_n 1), (6, .invokestatic 59), (9, .ifCond .eq (36)), (12, .iload_n 2), (13, .invokestatic 62), (16, .ifCond .eq (29)), (19, .iload_n 3), (20, .iconst 1), (21, .if_icmp .lt (24)), (24, .iload_n 3), (25, .iconst 5), (26, .if_icmp .gt (19)), (29, .iload_n 2), (30, .bipush 9), (32, .if_icmp .le (19)), (35, .iload_n 3), (36, .iconst 3), (37, .if_icmp .eq (14)), (40, .iload_n 3), (41, .iconst 5), (42, .if_icmp .eq (9)), (45, .aload_n 0), (46, .iconst 1), (47, .invokevirtual 65), (50, .ireturn), (51, .aload_n 0), (52, .getfield 13), (55, .iload_n 1), (56, .iaload), (57, .iconst 1), (58, .if_icmp .eq (9)), (61, .aload_n 0), (62, .iconst 2), (63, .invokevirtual 65), (66, .ireturn), (67, .iload_n 2), (68, .ifCond .le (44)), (71, .aload_n 0), (72, .getfield 7), (75, .bipush 34), (77, .iload_n 1), (78, .imul), (79, .iload_n 2), (80, .invokestatic 29), (83, .iadd), (84, .iaload), (85, .iload_n 3), (86, .iconst 1), (87, .if_icmp .eq (8)), (90, .iload_n 3), (91, .iconst 3), (92, .if_icmp .ne (7)), (95, .iconst 1), (96, .goto (4)), (99, .iconst 2), (100, .invokestatic 68), (103, .ifCond .ne (9)), (106, .aload_n 0), (107, .iconst 3), (108, .invokevirtual 65), (111, .ireturn), (112, .aload_n 0), (113, .iload_n 1), (114, .iload_n 2), (115, .iload_n 3), (116, .invokevirtual 71), (119, .ifCond .eq (5)), (122, .iconst 2), (123, .ireturn), (124, .aload_n 0), (125, .getfield 7), (128, .bipush 34), (130, .iload_n 1), (131, .imul), (132, .iload_n 2), (133, .iadd), (134, .iaload), (135, .istore 4), (137, .iload 4), (139, .iload_n 3), (140, .invokestatic 68), (143, .ifCond .eq (7)), (146, .iconst 3), (147, .goto (15)), (150, .aload_n 0), (151, .iload_n 1), (152, .iload_n 2), (153, .iload 4), (155, .iload_n 3), (156, .invokestatic 33), (159, .invokevirtual 74), (162, .ireturn)]
/-- unlock(II)V -/
def tb_c20 : List (Nat × Instr) := [(0, .aload_n 0), (1, .iconst 0), (2, .putfield 25), (5, .iload_n 1), (6, .invokestatic 59), (9, .ifCond .eq (10)), (12, .iload_n 2), (13, .invokestatic 62), (16, .ifCond .ne (9)), (19, .aload_n 0), (20, .iconst 1), (21, .putfield 25), (24, .return_), (25, .aload_n 0), (26, .getfield 13), (29, .iload_n 1), (30, .iaload), (31, .iconst 1), (32, .if_icmp .ne (17)), (35, .aload_n 0), (36, .getfield 7), (39, .bipush 34), (41, .iload_n 1), (42, .imul), (43, .iload_n 2), (44, .iadd), (45, .iaload), (46, .ifCond .ne (9)), (49, .aload_n 0), (50, .iconst 2), (51, .putfield 25), (54, .return_), (55, .iconst 0), (56, .istore_n 3), (57, .iload_n 3), (58, .bipush 34), (60, .if_icmp .ge (37)), (63, .iload_n 3), (64, .invokestatic 29), (67, .iload_n 2), (68, .if_icmp .ne (23)), (71, .aload_n 0), (72, .getfield 7), (75, .bipush 34), (77, .iload_n 1), (78, .imul), (79, .iload_n 3), (80, .iadd), (81, .iaload), (82, .ifCond .le (9)), (85, .aload_n 0), (86, .iconst 3), (87, .putfield 25), (90, .return_), (91, .iinc 3 (1)), (94, .goto (-37)), (97, .aload_n 0), (98, .getfield 7), (101, .bipush 34), (103, .iload_n 1), (104, .imul), (105, .iload_n 2), (106, .iadd), (107, .iconst 0), (108, .iastore), (109, .aload_n 0), (110, .iload_n 2), (111, .invokevirtual 78), (114, .istore_n 3), (115, .return_)]
/-- escalate(II)I -/
def tb_c21 : List (Nat × Instr) := [(0, .aload_n 0), (1, .iconst 0), (2, .putfield 25), (5, .iload_n 1), (6, .invokestatic 59), (9, .ifCond .eq (14)), (12, .iload_n 2), (13, .iconst 1), (14, .if_icmp .lt (9)), (17, .iload_n 2), (18, .bipush 9), (20, .if_icmp .le (9)), (23, .aload_n 0), (24, .iconst 1), (25, .invokevirtual 65), (28, .ireturn), (29, .aload_n 0), (30, .getfield 13), (33, .iload_n 1), (34, .iaload), (35, .iconst 1), (36, .if_icmp .eq (9)), (39, .aload_n 0), (40, .iconst 2), (41, .invokevirtual 65), (44, .ireturn), (45, .aload_n 0), (46, .getfield 7), (49, .bipush 34), (51, .iload_n 1), (52, .imul), (53, .iload_n 2), (54, .iadd), (55, .iaload), (56, .istore_n 3), (57, .iload_n 3), (58, .iconst 2), (59, .if_icmp .eq (13)), (62, .iload_n 3), (63, .iconst 4), (64, .if_icmp .eq (8)), (67, .iload_n 3), (68, .iconst 5), (69, .if_icmp .ne (7)), (72, .iconst 1), (73, .goto (4)), (76, .iconst 0), (77, .istore 4), (79, .iconst 0), (80, .istore 5), (82, .iconst 0), (83, .istore 6), (85, .iload 6), (87, .bipush 34), (89, .if_icmp .ge (82)), (92, .iload 6), (94, .iload_n 2), (95, .invokestatic 81), (98, .ifCond .eq (18)), (101, .aload_n 0), (102, .getfield 7), (105, .bipush 34), (107, .iload_n 1), (108, .imul), (109, .iload 6), (111, .iadd), (112, .iaload), (113, .goto (4)), (116, .iconst 0), (117, .istore 7), (119, .iload 7), (121, .ifCond .le (10)), (124, .iload 5), (126, .iconst 1), (127, .iadd), (128, .goto (5)), (131, .iload 5), (133, .istore 5), (135, .iload 4), (137, .ifCond .ne (21)), (140, .iload 7), (142, .iconst 2), (143, .if_icmp .eq (15)), (146, .iload 7), (148, .iconst 4), (149, .if_icmp .eq (9)), (152, .iload 7), (154, .iconst 5), (155, .if_icmp .ne (7)), (158, .iconst 1), (159, .goto (4)), (162, .iconst 0), (163, .istore 4), (165, .iinc 6 (1)), (168, .goto (-83)), (171, .iload_n 3), (172, .iload 4), (174, .ifCond .eq (7)), (177, .iconst 5), (178, .goto (4)), (181, .iconst 3), (182, .invokestatic 33), (185, .istore 6), (187, .iload 5), (189, .ifCond .ne (5)), (192, .iconst 0), (193, .ireturn), (194, .aload_n 0), (195, .iload_n 1), (196, .iload_n 2), (197, .iload 6), (199, .invokevirtual 41), (202, .ifCond .ne (5)), (205, .iconst (-1)), (206, .ireturn), (207, .aload_n 0), (208, .getfield 7), (211, .bipush 34), (213, .iload_n 1), (214, .imul), (215, .iload_n 2), (216, .iadd), (217, .iload 6), (219, .iastore), (220, .iconst 0), (221, .istore 7), (223, .iconst 0), (224, .istore 8), (226, .iload 8), (228, .iconst 2), (229, .if_icmp .ge (67)), (232, .bipush 33), (234, .istore 9), (236, .iload 9), (238, .ifCond .lt (52)), (241, .iload 9), (243, .iload_n 2), (244, .invokestatic 81), (247, .ifCond .eq (37)), (250, .aload_n 0), (251, .getfield 7), (254, .bipush 34), (256, .iload_n 1), (257, .imul), (258, .iload 9), (260, .iadd), (261, .iconst 0), (262, .iastore), (263, .iload 8), (265, .ifCond .ne (8)), (268, .iload 7), (270, .goto (12)), (273, .iload 7), (275, .aload_n 0), (276, .iload 9), (278, .invokevirtual 78), (281, .iadd), (282, .istore 7), (284, .iinc 9 (-1)), (287, .goto (-51)), (290, .iinc 8 (1)), (293, .goto (-67)), (296, .iload 7), (298, .aload_n 0), (299, .iload_n 2), (300, .invokevirtual 78), (303, .iadd), (304, .istore 7), (306, .iload 5), (308, .ireturn)]
/-- end(I)I -/
def tb_c22 : List (Nat × Instr) := [(0, .aload_n 0), (1, .iconst 0), (2, .putfield 25), (5, .iload_n 1), (6, .invokestatic 59), (9, .ifCond .ne (9)), (12, .aload_n 0), (13, .iconst 1), (14, .invokevirtual 65), (17, .ireturn), (18, .aload_n 0), (19, .getfield 13), (22, .iload_n 1), (23, .iaload), (24, .ifCond .ne (9)), (27, .aload_n 0), (28, .iconst 2), (29, .invokevirtual 65), (32, .ireturn), (33, .aload_n 0), (34, .getfield 13), (37, .iload_n 1), (38, .iaload), (39, .iconst 2), (40, .isub), (41, .istore_n 2), (42, .iload_n 2), (43, .ifCond .lt (14)), (46, .aload_n 0), (47, .iload_n 2), (48, .aload_n 0), (49, .iload_n 1), (50, .iload_n 2), (51, .invokevirtual 49), (54, .invokevirtual 45), (57, .aload_n 0), (58, .getfield 13), (61, .iload_n 1), (62, .iconst 0), (63, .iastore), (64, .aload_n 0), (65, .getfield 16), (68, .iload_n 1), (69, .iconst 0), (70, .iastore), (71, .iconst 0), (72, .istore_n 3), (73, .bipush 33), (75, .istore 4), (77, .iload 4), (79, .ifCond .lt (52)), (82, .iload 4), (84, .iload_n 2), (85, .if_icmp .eq (18)), (88, .aload_n 0), (89, .getfield 7), (92, .bipush 34), (94, .iload_n 1), (95, .imul), (96, .iload 4), (98, .iadd), (99, .iaload), (100, .ifCond .le (25)), (103, .aload_n 0), (104, .getfield 7), (107, .bipush 34), (109, .iload_n 1), (110, .imul), (111, .iload 4), (113, .iadd), (114, .iconst 0), (115, .iastore), (116, .iload_n 3), (117, .aload_n 0), (118, .iload 4), (120, .invokevirtual 78), (123, .iadd), (124, .istore_n 3), (125, .iinc 4 (-1)), (128, .goto (-51)), (131, .iload_n 3), (132, .ireturn)]
/-- held(II)I -/
def tb_c23 : List (Nat × Instr) := [(0, .aload_n 0), (1, .iconst 0), (2, .putfield 25), (5, .iload_n 1), (6, .invokestatic 59), (9, .ifCond .eq (24)), (12, .iload_n 2), (13, .invokestatic 62), (16, .ifCond .eq (17)), (19, .aload_n 0), (20, .getfield 7), (23, .bipush 34), (25, .iload_n 1), (26, .imul), (27, .iload_n 2), (28, .iadd), (29, .iaload), (30, .goto (4)), (33, .iconst (-1)), (34, .ireturn)]
/-- state(I)I -/
def tb_c24 : List (Nat × Instr) := [(0, .aload_n 0), (1, .iconst 0), (2, .putfield 25), (5, .iload_n 1), (6, .invokestatic 59), (9, .ifCond .eq (12)), (12, .aload_n 0), (13, .getfield 13), (16, .iload_n 1), (17, .iaload), (18, .goto (4)), (21, .iconst (-1)), (22, .ireturn)]
/-- wanted(I)I -/
def tb_c25 : List (Nat × Instr) := [(0, .aload_n 0), (1, .iconst 0), (2, .putfield 25), (5, .iload_n 1), (6, .invokestatic 59), (9, .ifCond .eq (12)), (12, .aload_n 0), (13, .getfield 16), (16, .iload_n 1), (17, .iaload), (18, .goto (4)), (21, .iconst (-1)), (22, .ireturn)]
/-- queue(II)I -/
def tb_c26 : List (Nat × Instr) := [(0, .aload_n 0), (1, .iconst 0), (2, .putfield 25), (5, .iload_n 1), (6, .invokestatic 62), (9, .ifCond .eq (31)), (12, .iload_n 2), (13, .ifCond .lt (27)), (16, .iload_n 2), (17, .aload_n 0), (18, .getfield 22), (21, .iload_n 1), (22, .iaload), (23, .if_icmp .ge (17)), (26, .aload_n 0), (27, .getfield 19), (30, .bipush 8), (32, .iload_n 1), (33, .imul), (34, .iload_n 2), (35, .iadd), (36, .iaload), (37, .goto (4)), (40, .iconst (-1)), (41, .ireturn)]
/-- waitsFor(I)I -/
def tb_c27 : List (Nat × Instr) := [(0, .aload_n 0), (1, .iconst 0), (2, .putfield 25), (5, .iload_n 1), (6, .invokestatic 59), (9, .ifCond .eq (11)), (12, .aload_n 0), (13, .iload_n 1), (14, .invokevirtual 52), (17, .goto (4)), (20, .iconst (-1)), (21, .ireturn)]
/-- access(II)I -/
def tb_c28 : List (Nat × Instr) := [(0, .aload_n 0), (1, .iconst 0), (2, .putfield 25), (5, .iload_n 1), (6, .invokestatic 59), (9, .ifCond .eq (15)), (12, .iload_n 2), (13, .bipush 10), (15, .if_icmp .lt (9)), (18, .iload_n 2), (19, .bipush 33), (21, .if_icmp .le (5)), (24, .iconst (-1)), (25, .ireturn), (26, .iconst 0), (27, .istore_n 3), (28, .iconst 0), (29, .istore 4), (31, .iload_n 2), (32, .istore 5), (34, .iload 5), (36, .ifCond .lt (67)), (39, .aload_n 0), (40, .getfield 7), (43, .bipush 34), (45, .iload_n 1), (46, .imul), (47, .iload 5), (49, .iadd), (50, .iaload), (51, .istore 6), (53, .iload_n 3), (54, .ifCond .ne (9)), (57, .iload 6), (59, .iconst 5), (60, .if_icmp .ne (7)), (63, .iconst 1), (64, .goto (4)), (67, .iconst 0), (68, .istore_n 3), (69, .iload 4), (71, .ifCond .ne (15)), (74, .iload 6), (76, .iconst 3), (77, .if_icmp .eq (9)), (80, .iload 6), (82, .iconst 4), (83, .if_icmp .ne (7)), (86, .iconst 1), (87, .goto (4)), (90, .iconst 0), (91, .istore 4), (93, .iload 5), (95, .invokestatic 29), (98, .istore 5), (100, .goto (-66)), (103, .iload_n 3), (104, .ifCond .eq (7)), (107, .iconst 2), (108, .goto (13)), (111, .iload 4), (113, .ifCond .eq (7)), (116, .iconst 1), (117, .goto (4)), (120, .iconst 0), (121, .ireturn)]
/-- locks(I)I -/
def tb_c29 : List (Nat × Instr) := [(0, .aload_n 0), (1, .iconst 0), (2, .putfield 25), (5, .iload_n 1), (6, .invokestatic 59), (9, .ifCond .ne (5)), (12, .iconst (-1)), (13, .ireturn), (14, .iconst 0), (15, .istore_n 2), (16, .iconst 0), (17, .istore_n 3), (18, .iload_n 3), (19, .bipush 34), (21, .if_icmp .ge (31)), (24, .aload_n 0), (25, .getfield 7), (28, .bipush 34), (30, .iload_n 1), (31, .imul), (32, .iload_n 3), (33, .iadd), (34, .iaload), (35, .ifCond .le (9)), (38, .iload_n 2), (39, .iconst 1), (40, .iadd), (41, .goto (4)), (44, .iload_n 2), (45, .istore_n 2), (46, .iinc 3 (1)), (49, .goto (-31)), (52, .iload_n 2), (53, .ireturn)]
def tb_cs : List (List (Nat × Instr) × Nat × Option FieldType) := [(tb_c0, 1, none), (tb_c1, 1, some .int), (tb_c2, 2, some .int), (tb_c3, 1, some .int), (tb_c4, 3, some .boolean), (tb_c5, 4, some .boolean), (tb_c6, 4, some .int), (tb_c7, 2, some .boolean), (tb_c8, 1, some .boolean), (tb_c9, 1, some .boolean), (tb_c10, 6, some .boolean), (tb_c11, 4, none), (tb_c12, 4, some .int), (tb_c13, 4, some .int), (tb_c14, 5, some .int), (tb_c15, 5, some .boolean), (tb_c16, 2, some .int), (tb_c17, 7, some .boolean), (tb_c18, 7, some .int), (tb_c19, 5, some .int), (tb_c20, 4, none), (tb_c21, 10, some .int), (tb_c22, 5, some .int), (tb_c23, 3, some .int), (tb_c24, 2, some .int), (tb_c25, 2, some .int), (tb_c26, 3, some .int), (tb_c27, 2, some .int), (tb_c28, 7, some .int), (tb_c29, 4, some .int)]
def tb_nms : List MethodName := [⟨"TieredLocksModel", "<init>", "()V"⟩, ⟨"TieredLocksModel", "thrown", "()I"⟩, ⟨"TieredLocksModel", "refuse", "(I)I"⟩, ⟨"TieredLocksModel", "parentOf", "(I)I"⟩, ⟨"TieredLocksModel", "isBelow", "(II)Z"⟩, ⟨"TieredLocksModel", "goTogether", "(II)Z"⟩, ⟨"TieredLocksModel", "join", "(II)I"⟩, ⟨"TieredLocksModel", "covers", "(II)Z"⟩, ⟨"TieredLocksModel", "isTransaction", "(I)Z"⟩, ⟨"TieredLocksModel", "isResource", "(I)Z"⟩, ⟨"TieredLocksModel", "fits", "(III)Z"⟩, ⟨"TieredLocksModel", "leave", "(II)V"⟩, ⟨"TieredLocksModel", "serve", "(I)I"⟩, ⟨"TieredLocksModel", "placeOf", "(II)I"⟩, ⟨"TieredLocksModel", "waits", "(I)I"⟩, ⟨"TieredLocksModel", "isRound", "(I)Z"⟩, ⟨"TieredLocksModel", "begin", "()I"⟩, ⟨"TieredLocksModel", "isCovered", "(III)Z"⟩, ⟨"TieredLocksModel", "ask", "(III)I"⟩, ⟨"TieredLocksModel", "lock", "(III)I"⟩, ⟨"TieredLocksModel", "unlock", "(II)V"⟩, ⟨"TieredLocksModel", "escalate", "(II)I"⟩, ⟨"TieredLocksModel", "end", "(I)I"⟩, ⟨"TieredLocksModel", "held", "(II)I"⟩, ⟨"TieredLocksModel", "state", "(I)I"⟩, ⟨"TieredLocksModel", "wanted", "(I)I"⟩, ⟨"TieredLocksModel", "queue", "(II)I"⟩, ⟨"TieredLocksModel", "waitsFor", "(I)I"⟩, ⟨"TieredLocksModel", "access", "(II)I"⟩, ⟨"TieredLocksModel", "locks", "(I)I"⟩]
def tb_bss : List ByteArray := [prog_3_method_1_code, prog_3_method_2_code, prog_3_method_3_code, prog_3_method_4_code, prog_3_method_5_code, prog_3_method_6_code, prog_3_method_7_code, prog_3_method_8_code, prog_3_method_9_code, prog_3_method_10_code, prog_3_method_11_code, prog_3_method_12_code, prog_3_method_13_code, prog_3_method_14_code, prog_3_method_15_code, prog_3_method_16_code, prog_3_method_17_code, prog_3_method_18_code, prog_3_method_19_code, prog_3_method_20_code, prog_3_method_21_code, prog_3_method_22_code, prog_3_method_23_code, prog_3_method_24_code, prog_3_method_25_code, prog_3_method_26_code, prog_3_method_27_code, prog_3_method_28_code, prog_3_method_29_code, prog_3_method_30_code]
def tb_sts : List Bool := [false, false, false, true, true, true, true, true, true, true, false, false, false, false, false, false, false, false, false, false, false, false, false, false, false, false, false, false, false, false]
def tb_nm (j : Nat) : MethodName := tb_nms.getD j ⟨"", "", ""⟩
def tb_bs (j : Nat) : ByteArray := tb_bss.getD j ⟨#[]⟩
def tb_sta (j : Nat) : Bool := tb_sts.getD j false
def tb_fl : List (Nat × Nat) := [(7, 0), (13, 1), (16, 2), (19, 3), (22, 4), (25, 5)]
def tb_ln : List (Nat × Nat) := [(0, 272), (1, 8), (2, 8), (3, 272), (4, 34)]
def tb_mt : List (Nat × Nat × Nat) := [(29, 3, 1), (33, 6, 2), (37, 5, 2), (41, 10, 4), (45, 11, 3), (49, 13, 3), (52, 14, 2), (55, 15, 2), (59, 8, 1), (62, 9, 1), (65, 2, 2), (68, 7, 2), (71, 17, 4), (74, 18, 4), (78, 12, 2), (81, 4, 2)]
def tb_ex : List (Nat × Nat) := []
def tb_P : tl_P := (fun j => tb_cs.getD j ([], 0, none), tl_lk tb_fl, tl_lk tb_ln, tl_lk2 tb_mt, tl_lk tb_ex)
theorem tb_d0 : (tb_c0.all fun q => decide (decode prog_3_method_1_code q.1 = .ok (q.2, tl_len q.2)) && tl_ok tb_P tb_sta 1 q.1 q.2) = true := by decide +kernel
theorem tb_d1 : (tb_c1.all fun q => decide (decode prog_3_method_2_code q.1 = .ok (q.2, tl_len q.2)) && tl_ok tb_P tb_sta 1 q.1 q.2) = true := by decide +kernel
theorem tb_d2 : (tb_c2.all fun q => decide (decode prog_3_method_3_code q.1 = .ok (q.2, tl_len q.2)) && tl_ok tb_P tb_sta 2 q.1 q.2) = true := by decide +kernel
theorem tb_d3 : (tb_c3.all fun q => decide (decode prog_3_method_4_code q.1 = .ok (q.2, tl_len q.2)) && tl_ok tb_P tb_sta 1 q.1 q.2) = true := by decide +kernel
theorem tb_d4 : (tb_c4.all fun q => decide (decode prog_3_method_5_code q.1 = .ok (q.2, tl_len q.2)) && tl_ok tb_P tb_sta 3 q.1 q.2) = true := by decide +kernel
theorem tb_d5 : (tb_c5.all fun q => decide (decode prog_3_method_6_code q.1 = .ok (q.2, tl_len q.2)) && tl_ok tb_P tb_sta 4 q.1 q.2) = true := by decide +kernel
theorem tb_d6 : (tb_c6.all fun q => decide (decode prog_3_method_7_code q.1 = .ok (q.2, tl_len q.2)) && tl_ok tb_P tb_sta 4 q.1 q.2) = true := by decide +kernel
theorem tb_d7 : (tb_c7.all fun q => decide (decode prog_3_method_8_code q.1 = .ok (q.2, tl_len q.2)) && tl_ok tb_P tb_sta 2 q.1 q.2) = true := by decide +kernel
theorem tb_d8 : (tb_c8.all fun q => decide (decode prog_3_method_9_code q.1 = .ok (q.2, tl_len q.2)) && tl_ok tb_P tb_sta 1 q.1 q.2) = true := by decide +kernel
theorem tb_d9 : (tb_c9.all fun q => decide (decode prog_3_method_10_code q.1 = .ok (q.2, tl_len q.2)) && tl_ok tb_P tb_sta 1 q.1 q.2) = true := by decide +kernel
theorem tb_d10 : (tb_c10.all fun q => decide (decode prog_3_method_11_code q.1 = .ok (q.2, tl_len q.2)) && tl_ok tb_P tb_sta 6 q.1 q.2) = true := by decide +kernel
theorem tb_d11 : (tb_c11.all fun q => decide (decode prog_3_method_12_code q.1 = .ok (q.2, tl_len q.2)) && tl_ok tb_P tb_sta 4 q.1 q.2) = true := by decide +kernel
theorem tb_d12 : (tb_c12.all fun q => decide (decode prog_3_method_13_code q.1 = .ok (q.2, tl_len q.2)) && tl_ok tb_P tb_sta 4 q.1 q.2) = true := by decide +kernel
theorem tb_d13 : (tb_c13.all fun q => decide (decode prog_3_method_14_code q.1 = .ok (q.2, tl_len q.2)) && tl_ok tb_P tb_sta 4 q.1 q.2) = true := by decide +kernel
theorem tb_d14 : (tb_c14.all fun q => decide (decode prog_3_method_15_code q.1 = .ok (q.2, tl_len q.2)) && tl_ok tb_P tb_sta 5 q.1 q.2) = true := by decide +kernel
theorem tb_d15 : (tb_c15.all fun q => decide (decode prog_3_method_16_code q.1 = .ok (q.2, tl_len q.2)) && tl_ok tb_P tb_sta 5 q.1 q.2) = true := by decide +kernel
theorem tb_d16 : (tb_c16.all fun q => decide (decode prog_3_method_17_code q.1 = .ok (q.2, tl_len q.2)) && tl_ok tb_P tb_sta 2 q.1 q.2) = true := by decide +kernel
theorem tb_d17 : (tb_c17.all fun q => decide (decode prog_3_method_18_code q.1 = .ok (q.2, tl_len q.2)) && tl_ok tb_P tb_sta 7 q.1 q.2) = true := by decide +kernel
theorem tb_d18 : (tb_c18.all fun q => decide (decode prog_3_method_19_code q.1 = .ok (q.2, tl_len q.2)) && tl_ok tb_P tb_sta 7 q.1 q.2) = true := by decide +kernel
theorem tb_d19 : (tb_c19.all fun q => decide (decode prog_3_method_20_code q.1 = .ok (q.2, tl_len q.2)) && tl_ok tb_P tb_sta 5 q.1 q.2) = true := by decide +kernel
theorem tb_d20 : (tb_c20.all fun q => decide (decode prog_3_method_21_code q.1 = .ok (q.2, tl_len q.2)) && tl_ok tb_P tb_sta 4 q.1 q.2) = true := by decide +kernel
theorem tb_d21 : (tb_c21.all fun q => decide (decode prog_3_method_22_code q.1 = .ok (q.2, tl_len q.2)) && tl_ok tb_P tb_sta 10 q.1 q.2) = true := by decide +kernel
theorem tb_d22 : (tb_c22.all fun q => decide (decode prog_3_method_23_code q.1 = .ok (q.2, tl_len q.2)) && tl_ok tb_P tb_sta 5 q.1 q.2) = true := by decide +kernel
theorem tb_d23 : (tb_c23.all fun q => decide (decode prog_3_method_24_code q.1 = .ok (q.2, tl_len q.2)) && tl_ok tb_P tb_sta 3 q.1 q.2) = true := by decide +kernel
theorem tb_d24 : (tb_c24.all fun q => decide (decode prog_3_method_25_code q.1 = .ok (q.2, tl_len q.2)) && tl_ok tb_P tb_sta 2 q.1 q.2) = true := by decide +kernel
theorem tb_d25 : (tb_c25.all fun q => decide (decode prog_3_method_26_code q.1 = .ok (q.2, tl_len q.2)) && tl_ok tb_P tb_sta 2 q.1 q.2) = true := by decide +kernel
theorem tb_d26 : (tb_c26.all fun q => decide (decode prog_3_method_27_code q.1 = .ok (q.2, tl_len q.2)) && tl_ok tb_P tb_sta 3 q.1 q.2) = true := by decide +kernel
theorem tb_d27 : (tb_c27.all fun q => decide (decode prog_3_method_28_code q.1 = .ok (q.2, tl_len q.2)) && tl_ok tb_P tb_sta 2 q.1 q.2) = true := by decide +kernel
theorem tb_d28 : (tb_c28.all fun q => decide (decode prog_3_method_29_code q.1 = .ok (q.2, tl_len q.2)) && tl_ok tb_P tb_sta 7 q.1 q.2) = true := by decide +kernel
theorem tb_d29 : (tb_c29.all fun q => decide (decode prog_3_method_30_code q.1 = .ok (q.2, tl_len q.2)) && tl_ok tb_P tb_sta 4 q.1 q.2) = true := by decide +kernel
set_option maxRecDepth 20000 in
theorem tb_w0 : Cond.code (tb_nm 0) (tb_bs 0) 1 (none) ∈ lw_gt := List.mem_filter.mpr ⟨List.mem_of_getElem? (i := 369) rfl, rfl⟩
set_option maxRecDepth 20000 in
theorem tb_w1 : Cond.code (tb_nm 1) (tb_bs 1) 1 (some .int) ∈ lw_gt := List.mem_filter.mpr ⟨List.mem_of_getElem? (i := 393) rfl, rfl⟩
set_option maxRecDepth 20000 in
theorem tb_w2 : Cond.code (tb_nm 2) (tb_bs 2) 2 (some .int) ∈ lw_gt := List.mem_filter.mpr ⟨List.mem_of_getElem? (i := 411) rfl, rfl⟩
set_option maxRecDepth 20000 in
theorem tb_w3 : Cond.code (tb_nm 3) (tb_bs 3) 1 (some .int) ∈ lw_gt := List.mem_filter.mpr ⟨List.mem_of_getElem? (i := 414) rfl, rfl⟩
set_option maxRecDepth 20000 in
theorem tb_w4 : Cond.code (tb_nm 4) (tb_bs 4) 3 (some .boolean) ∈ lw_gt := List.mem_filter.mpr ⟨List.mem_of_getElem? (i := 466) rfl, rfl⟩
set_option maxRecDepth 20000 in
theorem tb_w5 : Cond.code (tb_nm 5) (tb_bs 5) 4 (some .boolean) ∈ lw_gt := List.mem_filter.mpr ⟨List.mem_of_getElem? (i := 435) rfl, rfl⟩
set_option maxRecDepth 20000 in
theorem tb_w6 : Cond.code (tb_nm 6) (tb_bs 6) 4 (some .int) ∈ lw_gt := List.mem_filter.mpr ⟨List.mem_of_getElem? (i := 420) rfl, rfl⟩
set_option maxRecDepth 20000 in
theorem tb_w7 : Cond.code (tb_nm 7) (tb_bs 7) 2 (some .boolean) ∈ lw_gt := List.mem_filter.mpr ⟨List.mem_of_getElem? (i := 417) rfl, rfl⟩
set_option maxRecDepth 20000 in
theorem tb_w8 : Cond.code (tb_nm 8) (tb_bs 8) 1 (some .boolean) ∈ lw_gt := List.mem_filter.mpr ⟨List.mem_of_getElem? (i := 404) rfl, rfl⟩
set_option maxRecDepth 20000 in
theorem tb_w9 : Cond.code (tb_nm 9) (tb_bs 9) 1 (some .boolean) ∈ lw_gt := List.mem_filter.mpr ⟨List.mem_of_getElem? (i := 407) rfl, rfl⟩
set_option maxRecDepth 20000 in
theorem tb_w10 : Cond.code (tb_nm 10) (tb_bs 10) 6 (some .boolean) ∈ lw_gt := List.mem_filter.mpr ⟨List.mem_of_getElem? (i := 432) rfl, rfl⟩
set_option maxRecDepth 20000 in
theorem tb_w11 : Cond.code (tb_nm 11) (tb_bs 11) 4 (none) ∈ lw_gt := List.mem_filter.mpr ⟨List.mem_of_getElem? (i := 451) rfl, rfl⟩
set_option maxRecDepth 20000 in
theorem tb_w12 : Cond.code (tb_nm 12) (tb_bs 12) 4 (some .int) ∈ lw_gt := List.mem_filter.mpr ⟨List.mem_of_getElem? (i := 459) rfl, rfl⟩
set_option maxRecDepth 20000 in
theorem tb_w13 : Cond.code (tb_nm 13) (tb_bs 13) 4 (some .int) ∈ lw_gt := List.mem_filter.mpr ⟨List.mem_of_getElem? (i := 447) rfl, rfl⟩
set_option maxRecDepth 20000 in
theorem tb_w14 : Cond.code (tb_nm 14) (tb_bs 14) 5 (some .int) ∈ lw_gt := List.mem_filter.mpr ⟨List.mem_of_getElem? (i := 443) rfl, rfl⟩
set_option maxRecDepth 20000 in
theorem tb_w15 : Cond.code (tb_nm 15) (tb_bs 15) 5 (some .boolean) ∈ lw_gt := List.mem_filter.mpr ⟨List.mem_of_getElem? (i := 439) rfl, rfl⟩
set_option maxRecDepth 20000 in
theorem tb_w16 : Cond.code (tb_nm 16) (tb_bs 16) 2 (some .int) ∈ lw_gt := List.mem_filter.mpr ⟨List.mem_of_getElem? (i := 397) rfl, rfl⟩
set_option maxRecDepth 20000 in
theorem tb_w17 : Cond.code (tb_nm 17) (tb_bs 17) 7 (some .boolean) ∈ lw_gt := List.mem_filter.mpr ⟨List.mem_of_getElem? (i := 424) rfl, rfl⟩
set_option maxRecDepth 20000 in
theorem tb_w18 : Cond.code (tb_nm 18) (tb_bs 18) 7 (some .int) ∈ lw_gt := List.mem_filter.mpr ⟨List.mem_of_getElem? (i := 428) rfl, rfl⟩
set_option maxRecDepth 20000 in
theorem tb_w19 : Cond.code (tb_nm 19) (tb_bs 19) 5 (some .int) ∈ lw_gt := List.mem_filter.mpr ⟨List.mem_of_getElem? (i := 401) rfl, rfl⟩
set_option maxRecDepth 20000 in
theorem tb_w20 : Cond.code (tb_nm 20) (tb_bs 20) 4 (none) ∈ lw_gt := List.mem_filter.mpr ⟨List.mem_of_getElem? (i := 455) rfl, rfl⟩
set_option maxRecDepth 20000 in
theorem tb_w21 : Cond.code (tb_nm 21) (tb_bs 21) 10 (some .int) ∈ lw_gt := List.mem_filter.mpr ⟨List.mem_of_getElem? (i := 463) rfl, rfl⟩
set_option maxRecDepth 20000 in
theorem tb_w22 : Cond.code (tb_nm 22) (tb_bs 22) 5 (some .int) ∈ lw_gt := List.mem_filter.mpr ⟨List.mem_of_getElem? (i := 470) rfl, rfl⟩
set_option maxRecDepth 20000 in
theorem tb_w23 : Cond.code (tb_nm 23) (tb_bs 23) 3 (some .int) ∈ lw_gt := List.mem_filter.mpr ⟨List.mem_of_getElem? (i := 474) rfl, rfl⟩
set_option maxRecDepth 20000 in
theorem tb_w24 : Cond.code (tb_nm 24) (tb_bs 24) 2 (some .int) ∈ lw_gt := List.mem_filter.mpr ⟨List.mem_of_getElem? (i := 478) rfl, rfl⟩
set_option maxRecDepth 20000 in
theorem tb_w25 : Cond.code (tb_nm 25) (tb_bs 25) 2 (some .int) ∈ lw_gt := List.mem_filter.mpr ⟨List.mem_of_getElem? (i := 482) rfl, rfl⟩
set_option maxRecDepth 20000 in
theorem tb_w26 : Cond.code (tb_nm 26) (tb_bs 26) 3 (some .int) ∈ lw_gt := List.mem_filter.mpr ⟨List.mem_of_getElem? (i := 486) rfl, rfl⟩
set_option maxRecDepth 20000 in
theorem tb_w27 : Cond.code (tb_nm 27) (tb_bs 27) 2 (some .int) ∈ lw_gt := List.mem_filter.mpr ⟨List.mem_of_getElem? (i := 490) rfl, rfl⟩
set_option maxRecDepth 20000 in
theorem tb_w28 : Cond.code (tb_nm 28) (tb_bs 28) 7 (some .int) ∈ lw_gt := List.mem_filter.mpr ⟨List.mem_of_getElem? (i := 494) rfl, rfl⟩
set_option maxRecDepth 20000 in
theorem tb_w29 : Cond.code (tb_nm 29) (tb_bs 29) 4 (some .int) ∈ lw_gt := List.mem_filter.mpr ⟨List.mem_of_getElem? (i := 498) rfl, rfl⟩
def tb_wl : List Cond := [.initialized "TieredLocksModel", .laysFinal "TieredLocksModel" "TieredLocksModel" "held" "[I", .laysFinal "TieredLocksModel" "TieredLocksModel" "state" "[I", .laysFinal "TieredLocksModel" "TieredLocksModel" "wanted" "[I", .laysFinal "TieredLocksModel" "TieredLocksModel" "queue" "[I", .laysFinal "TieredLocksModel" "TieredLocksModel" "length" "[I", .lays "TieredLocksModel" "TieredLocksModel" "thrown" "I", .fieldLink "TieredLocksModel" 7 "TieredLocksModel" "held" "[I", .fieldLink "TieredLocksModel" 13 "TieredLocksModel" "state" "[I", .fieldLink "TieredLocksModel" 16 "TieredLocksModel" "wanted" "[I", .fieldLink "TieredLocksModel" 19 "TieredLocksModel" "queue" "[I", .fieldLink "TieredLocksModel" 22 "TieredLocksModel" "length" "[I", .fieldLink "TieredLocksModel" 25 "TieredLocksModel" "thrown" "I", .methodLink "TieredLocksModel" 29 (tb_nm 3), .methodLink "TieredLocksModel" 33 (tb_nm 6), .methodLink "TieredLocksModel" 37 (tb_nm 5), .methodLink "TieredLocksModel" 41 (tb_nm 10), .methodLink "TieredLocksModel" 45 (tb_nm 11), .methodLink "TieredLocksModel" 49 (tb_nm 13), .methodLink "TieredLocksModel" 52 (tb_nm 14), .methodLink "TieredLocksModel" 55 (tb_nm 15), .methodLink "TieredLocksModel" 59 (tb_nm 8), .methodLink "TieredLocksModel" 62 (tb_nm 9), .methodLink "TieredLocksModel" 65 (tb_nm 2), .methodLink "TieredLocksModel" 68 (tb_nm 7), .methodLink "TieredLocksModel" 71 (tb_nm 17), .methodLink "TieredLocksModel" 74 (tb_nm 18), .methodLink "TieredLocksModel" 78 (tb_nm 12), .methodLink "TieredLocksModel" 81 (tb_nm 4), .instanceMethod (tb_nm 2), .static (tb_nm 3), .static (tb_nm 4), .static (tb_nm 5), .static (tb_nm 6), .static (tb_nm 7), .static (tb_nm 8), .static (tb_nm 9), .instanceMethod (tb_nm 10), .instanceMethod (tb_nm 11), .instanceMethod (tb_nm 12), .instanceMethod (tb_nm 13), .instanceMethod (tb_nm 14), .instanceMethod (tb_nm 15), .instanceMethod (tb_nm 17), .instanceMethod (tb_nm 18), .selects "TieredLocksModel" (tb_nm 2) (tb_nm 2), .selects "TieredLocksModel" (tb_nm 10) (tb_nm 10), .selects "TieredLocksModel" (tb_nm 11) (tb_nm 11), .selects "TieredLocksModel" (tb_nm 12) (tb_nm 12), .selects "TieredLocksModel" (tb_nm 13) (tb_nm 13), .selects "TieredLocksModel" (tb_nm 14) (tb_nm 14), .selects "TieredLocksModel" (tb_nm 15) (tb_nm 15), .selects "TieredLocksModel" (tb_nm 17) (tb_nm 17), .selects "TieredLocksModel" (tb_nm 18) (tb_nm 18)]
theorem tb_wl_ok : tb_wl = [36, 379, 381, 383, 385, 387, 377, 372, 373, 374, 375, 376, 371, 412, 418, 433, 429, 448, 444, 440, 436, 402, 405, 408, 415, 421, 425, 456, 464, 410, 413, 465, 434, 419, 416, 403, 406, 431, 450, 458, 446, 442, 438, 423, 427, 25, 28, 32, 33, 31, 30, 29, 26, 27].filterMap (fun i => lw_tbl[i]?) := by decide +kernel
theorem tb_wl_g : tb_wl.all goodWord = true := by decide +kernel
theorem tb_wl_in : ∀ w ∈ tb_wl, w ∈ lw_gt := by
  intro w hw
  have h1 := List.all_eq_true.mp tb_wl_g w hw
  rw [tb_wl_ok] at hw
  obtain ⟨i, -, hi⟩ := List.mem_filterMap.mp hw
  exact List.mem_filter.mpr ⟨List.mem_of_getElem? hi, h1⟩
theorem tl_chk {P : tl_P} {sta : Nat → Bool} {nL : Nat} {b : ByteArray} {rows : List (Nat × Instr)} (h : (rows.all fun q => decide (decode b q.1 = .ok (q.2, tl_len q.2)) && tl_ok P sta nL q.1 q.2) = true) : ∀ q ∈ rows, decode b q.1 = .ok (q.2, tl_len q.2) ∧ tl_ok P sta nL q.1 q.2 = true := by
  intro q hq
  have h1 := List.all_eq_true.mp h q hq
  rw [Bool.and_eq_true] at h1
  exact ⟨of_decide_eq_true h1.1, h1.2⟩
theorem tl_lk_mem : ∀ (l : List (Nat × Nat)) (i v : Nat), tl_lk l i = some v → (i, v) ∈ l
  | [], _, _, h => by cases h
  | q :: l, i, v, h => by
    unfold tl_lk at h
    cases hb : Nat.beq q.1 i with
    | true =>
      rw [hb] at h
      have e1 : q.1 = i := Nat.eq_of_beq_eq_true hb
      have e2 : q.2 = v := Option.some.inj h
      subst e1; subst e2
      exact List.mem_cons_self
    | false =>
      rw [hb] at h
      exact List.mem_cons_of_mem _ (tl_lk_mem l i v h)
theorem tl_lk2_mem : ∀ (l : List (Nat × Nat × Nat)) (i : Nat) (v : Nat × Nat), tl_lk2 l i = some v → (i, v) ∈ l
  | [], _, _, h => by cases h
  | q :: l, i, v, h => by
    unfold tl_lk2 at h
    cases hb : Nat.beq q.1 i with
    | true =>
      rw [hb] at h
      have e1 : q.1 = i := Nat.eq_of_beq_eq_true hb
      have e2 : q.2 = v := Option.some.inj h
      subst e1; subst e2
      exact List.mem_cons_self
    | false =>
      rw [hb] at h
      exact List.mem_cons_of_mem _ (tl_lk2_mem l i v h)
set_option maxRecDepth 20000 in
theorem tl_mmax : Cond.code Lib.Math.max.name Lib.Math.max.code 2 (some .int) ∈ lw_gt := List.mem_filter.mpr ⟨List.mem_of_getElem? (i := 140) (by decide +kernel), rfl⟩
set_option maxRecDepth 20000 in
theorem tl_mmin : Cond.code Lib.Math.min.name Lib.Math.min.code 2 (some .int) ∈ lw_gt := List.mem_filter.mpr ⟨List.mem_of_getElem? (i := 255) (by decide +kernel), rfl⟩
set_option maxRecDepth 20000 in
theorem ta_f1 : ∀ j, j < 50 → ∀ q ∈ (ta_P.1 j).1, decode (ta_bs j) q.1 = .ok (q.2, tl_len q.2) ∧ tl_ok ta_P ta_sta (ta_P.1 j).2.1 q.1 q.2 = true
  | 0, _ => tl_chk ta_d0
  | 1, _ => tl_chk ta_d1
  | 2, _ => tl_chk ta_d2
  | 3, _ => tl_chk ta_d3
  | 4, _ => tl_chk ta_d4
  | 5, _ => tl_chk ta_d5
  | 6, _ => tl_chk ta_d6
  | 7, _ => tl_chk ta_d7
  | 8, _ => tl_chk ta_d8
  | 9, _ => tl_chk ta_d9
  | 10, _ => tl_chk ta_d10
  | 11, _ => tl_chk ta_d11
  | 12, _ => tl_chk ta_d12
  | 13, _ => tl_chk ta_d13
  | 14, _ => tl_chk ta_d14
  | 15, _ => tl_chk ta_d15
  | 16, _ => tl_chk ta_d16
  | 17, _ => tl_chk ta_d17
  | 18, _ => tl_chk ta_d18
  | 19, _ => tl_chk ta_d19
  | 20, _ => tl_chk ta_d20
  | 21, _ => tl_chk ta_d21
  | 22, _ => tl_chk ta_d22
  | 23, _ => tl_chk ta_d23
  | 24, _ => tl_chk ta_d24
  | 25, _ => tl_chk ta_d25
  | 26, _ => tl_chk ta_d26
  | 27, _ => tl_chk ta_d27
  | 28, _ => tl_chk ta_d28
  | 29, _ => tl_chk ta_d29
  | 30, _ => tl_chk ta_d30
  | 31, _ => tl_chk ta_d31
  | 32, _ => tl_chk ta_d32
  | 33, _ => tl_chk ta_d33
  | 34, _ => tl_chk ta_d34
  | 35, _ => tl_chk ta_d35
  | 36, _ => tl_chk ta_d36
  | 37, _ => tl_chk ta_d37
  | 38, _ => tl_chk ta_d38
  | 39, _ => tl_chk ta_d39
  | 40, _ => tl_chk ta_d40
  | 41, _ => tl_chk ta_d41
  | 42, _ => tl_chk ta_d42
  | 43, _ => tl_chk ta_d43
  | 44, _ => tl_chk ta_d44
  | 45, _ => tl_chk ta_d45
  | 46, _ => tl_chk ta_d46
  | 47, _ => tl_chk ta_d47
  | 48, _ => tl_chk ta_d48
  | 49, _ => tl_chk ta_d49
  | n + 50, h => absurd h (by omega)
set_option maxRecDepth 20000 in
theorem ta_f2 : ∀ j, j < 50 → (ta_nm j).cls = "TieredLocks" ∧ (ta_P.1 j).2.1 ≤ 20 ∧ Cond.code (ta_nm j) (ta_bs j) (ta_P.1 j).2.1 (ta_P.1 j).2.2 ∈ lw_gt
  | 0, _ => ⟨rfl, Nat.le_of_ble_eq_true rfl, ta_w0⟩
  | 1, _ => ⟨rfl, Nat.le_of_ble_eq_true rfl, ta_w1⟩
  | 2, _ => ⟨rfl, Nat.le_of_ble_eq_true rfl, ta_w2⟩
  | 3, _ => ⟨rfl, Nat.le_of_ble_eq_true rfl, ta_w3⟩
  | 4, _ => ⟨rfl, Nat.le_of_ble_eq_true rfl, ta_w4⟩
  | 5, _ => ⟨rfl, Nat.le_of_ble_eq_true rfl, ta_w5⟩
  | 6, _ => ⟨rfl, Nat.le_of_ble_eq_true rfl, ta_w6⟩
  | 7, _ => ⟨rfl, Nat.le_of_ble_eq_true rfl, ta_w7⟩
  | 8, _ => ⟨rfl, Nat.le_of_ble_eq_true rfl, ta_w8⟩
  | 9, _ => ⟨rfl, Nat.le_of_ble_eq_true rfl, ta_w9⟩
  | 10, _ => ⟨rfl, Nat.le_of_ble_eq_true rfl, ta_w10⟩
  | 11, _ => ⟨rfl, Nat.le_of_ble_eq_true rfl, ta_w11⟩
  | 12, _ => ⟨rfl, Nat.le_of_ble_eq_true rfl, ta_w12⟩
  | 13, _ => ⟨rfl, Nat.le_of_ble_eq_true rfl, ta_w13⟩
  | 14, _ => ⟨rfl, Nat.le_of_ble_eq_true rfl, ta_w14⟩
  | 15, _ => ⟨rfl, Nat.le_of_ble_eq_true rfl, ta_w15⟩
  | 16, _ => ⟨rfl, Nat.le_of_ble_eq_true rfl, ta_w16⟩
  | 17, _ => ⟨rfl, Nat.le_of_ble_eq_true rfl, ta_w17⟩
  | 18, _ => ⟨rfl, Nat.le_of_ble_eq_true rfl, ta_w18⟩
  | 19, _ => ⟨rfl, Nat.le_of_ble_eq_true rfl, ta_w19⟩
  | 20, _ => ⟨rfl, Nat.le_of_ble_eq_true rfl, ta_w20⟩
  | 21, _ => ⟨rfl, Nat.le_of_ble_eq_true rfl, ta_w21⟩
  | 22, _ => ⟨rfl, Nat.le_of_ble_eq_true rfl, ta_w22⟩
  | 23, _ => ⟨rfl, Nat.le_of_ble_eq_true rfl, ta_w23⟩
  | 24, _ => ⟨rfl, Nat.le_of_ble_eq_true rfl, ta_w24⟩
  | 25, _ => ⟨rfl, Nat.le_of_ble_eq_true rfl, ta_w25⟩
  | 26, _ => ⟨rfl, Nat.le_of_ble_eq_true rfl, ta_w26⟩
  | 27, _ => ⟨rfl, Nat.le_of_ble_eq_true rfl, ta_w27⟩
  | 28, _ => ⟨rfl, Nat.le_of_ble_eq_true rfl, ta_w28⟩
  | 29, _ => ⟨rfl, Nat.le_of_ble_eq_true rfl, ta_w29⟩
  | 30, _ => ⟨rfl, Nat.le_of_ble_eq_true rfl, ta_w30⟩
  | 31, _ => ⟨rfl, Nat.le_of_ble_eq_true rfl, ta_w31⟩
  | 32, _ => ⟨rfl, Nat.le_of_ble_eq_true rfl, ta_w32⟩
  | 33, _ => ⟨rfl, Nat.le_of_ble_eq_true rfl, ta_w33⟩
  | 34, _ => ⟨rfl, Nat.le_of_ble_eq_true rfl, ta_w34⟩
  | 35, _ => ⟨rfl, Nat.le_of_ble_eq_true rfl, ta_w35⟩
  | 36, _ => ⟨rfl, Nat.le_of_ble_eq_true rfl, ta_w36⟩
  | 37, _ => ⟨rfl, Nat.le_of_ble_eq_true rfl, ta_w37⟩
  | 38, _ => ⟨rfl, Nat.le_of_ble_eq_true rfl, ta_w38⟩
  | 39, _ => ⟨rfl, Nat.le_of_ble_eq_true rfl, ta_w39⟩
  | 40, _ => ⟨rfl, Nat.le_of_ble_eq_true rfl, ta_w40⟩
  | 41, _ => ⟨rfl, Nat.le_of_ble_eq_true rfl, ta_w41⟩
  | 42, _ => ⟨rfl, Nat.le_of_ble_eq_true rfl, ta_w42⟩
  | 43, _ => ⟨rfl, Nat.le_of_ble_eq_true rfl, ta_w43⟩
  | 44, _ => ⟨rfl, Nat.le_of_ble_eq_true rfl, ta_w44⟩
  | 45, _ => ⟨rfl, Nat.le_of_ble_eq_true rfl, ta_w45⟩
  | 46, _ => ⟨rfl, Nat.le_of_ble_eq_true rfl, ta_w46⟩
  | 47, _ => ⟨rfl, Nat.le_of_ble_eq_true rfl, ta_w47⟩
  | 48, _ => ⟨rfl, Nat.le_of_ble_eq_true rfl, ta_w48⟩
  | 49, _ => ⟨rfl, Nat.le_of_ble_eq_true rfl, ta_w49⟩
  | n + 50, h => absurd h (by omega)
theorem ta_f4 : ∀ w ∈ u_ws "TieredLocks" ta_T 4, w ∈ lw_gt := by
  have e : u_ws "TieredLocks" ta_T 4 = [1, 2, 3, 4].filterMap (fun i => ta_wl[i]?) := by decide +kernel
  intro w hw
  rw [e] at hw
  obtain ⟨i, -, hi⟩ := List.mem_filterMap.mp hw
  exact ta_wl_in w (List.mem_of_getElem? hi)
theorem ta_f5 : ∀ k, k < 4 → (ta_T k).1 = "TieredLocks" ∧ (k ∈ [0, 1, 2, 3] ↔ (ta_P.2.2.1 k).isSome = true) ∧ (ta_P.2.2.1 k = none → (ta_T k).2.2.2 = false ∧ parseFieldDescriptor (ta_T k).2.2.1 = some .int) := by decide +kernel
theorem ta_f6 : ∀ q ∈ ta_ln, q.2 < 2 ^ 31 ∧ (q.1 ∈ [0, 1, 2, 3] ∨ (q.1 = 99 ∧ true = true ∧ q.2 = 6)) := by decide +kernel
theorem ta_f7 : ∀ q ∈ ta_fl, (q.2 < 99 → q.2 < 4 ∧ Cond.fieldLink "TieredLocks" q.1 "TieredLocks" (ta_T q.2).2.1 (ta_T q.2).2.2.1 ∈ ta_wl) ∧ (q.2 = 99 → true = true ∧ Cond.fieldLink "TieredLocks" q.1 "TieredLocks" "TOGETHER" "[I" ∈ ta_wl) := by decide +kernel
theorem ta_f8a : ∀ q ∈ ta_mt, q.2.1 < 1000 → q.2.1 < 50 ∧ q.2.2 ≤ (ta_P.1 q.2.1).2.1 ∧ Cond.methodLink "TieredLocks" q.1 (ta_nm q.2.1) ∈ ta_wl := by decide +kernel
theorem ta_f8b : ∀ q ∈ ta_mt, q.2.1 < 1000 → ta_sta q.2.1 = true → Cond.static (ta_nm q.2.1) ∈ ta_wl ∧ (parseMethodDescriptor (ta_nm q.2.1).desc).map (fun d => d.parameters.length) = some q.2.2 := by decide +kernel
theorem ta_f8c : ∀ q ∈ ta_mt, q.2.1 < 1000 → ta_sta q.2.1 = false → Cond.instanceMethod (ta_nm q.2.1) ∈ ta_wl ∧ Cond.selects "TieredLocks" (ta_nm q.2.1) (ta_nm q.2.1) ∈ ta_wl ∧ (parseMethodDescriptor (ta_nm q.2.1).desc).map (fun d => d.parameters.length) = some (q.2.2 - 1) := by decide +kernel
theorem ta_f8d : ∀ q ∈ ta_mt, q.2.1 = 1000 → Cond.methodLink "TieredLocks" q.1 Lib.Math.max.name ∈ ta_wl ∧ Cond.static Lib.Math.max.name ∈ ta_wl ∧ Cond.initialized "java/lang/Math" ∈ ta_wl := by decide +kernel
theorem ta_f8e : ∀ q ∈ ta_mt, q.2.1 = 1001 → Cond.methodLink "TieredLocks" q.1 Lib.Math.min.name ∈ ta_wl ∧ Cond.static Lib.Math.min.name ∈ ta_wl ∧ Cond.initialized "java/lang/Math" ∈ ta_wl := by decide +kernel
theorem ta_face : tl_face ta_P 4 [0, 1, 2, 3] true 6 "TieredLocks" "TOGETHER" ta_T ta_ty 50 ta_nm ta_bs ta_sta lw_gt := by
  refine ⟨ta_f1, ta_f2, lw_gt_good, ⟨by decide, by decide, by decide, ta_wl_in _ (List.mem_of_getElem? (i := 0) rfl), ta_f4⟩, ta_f5, fun k n h => ta_f6 _ (tl_lk_mem _ _ _ h), fun ix k h => ?_, fun ix q h => ?_, by decide, by decide +kernel, by decide +kernel⟩
  · have h1 := ta_f7 _ (tl_lk_mem _ _ _ h)
    exact ⟨fun z => ⟨(h1.1 z).1, ta_wl_in _ (h1.1 z).2⟩, fun z => ⟨(h1.2 z).1, ta_wl_in _ (h1.2 z).2⟩⟩
  · have hm := tl_lk2_mem _ _ _ h
    refine ⟨fun z => ?_, fun z => ?_, fun z => ?_⟩
    · obtain ⟨k1, k2, k3⟩ := ta_f8a _ hm z
      have k4 := ta_f8b _ hm z
      have k5 := ta_f8c _ hm z
      exact ⟨k1, k2, ta_wl_in _ k3, fun y => ⟨ta_wl_in _ (k4 y).1, (k4 y).2⟩, fun y => ⟨ta_wl_in _ (k5 y).1, ta_wl_in _ (k5 y).2.1, (k5 y).2.2⟩⟩
    · obtain ⟨k1, k2, k3⟩ := ta_f8d _ hm z
      exact ⟨ta_wl_in _ k1, ta_wl_in _ k2, ta_wl_in _ k3, tl_mmax⟩
    · obtain ⟨k1, k2, k3⟩ := ta_f8e _ hm z
      exact ⟨ta_wl_in _ k1, ta_wl_in _ k2, ta_wl_in _ k3, tl_mmin⟩
set_option maxRecDepth 20000 in
theorem tb_f1 : ∀ j, j < 30 → ∀ q ∈ (tb_P.1 j).1, decode (tb_bs j) q.1 = .ok (q.2, tl_len q.2) ∧ tl_ok tb_P tb_sta (tb_P.1 j).2.1 q.1 q.2 = true
  | 0, _ => tl_chk tb_d0
  | 1, _ => tl_chk tb_d1
  | 2, _ => tl_chk tb_d2
  | 3, _ => tl_chk tb_d3
  | 4, _ => tl_chk tb_d4
  | 5, _ => tl_chk tb_d5
  | 6, _ => tl_chk tb_d6
  | 7, _ => tl_chk tb_d7
  | 8, _ => tl_chk tb_d8
  | 9, _ => tl_chk tb_d9
  | 10, _ => tl_chk tb_d10
  | 11, _ => tl_chk tb_d11
  | 12, _ => tl_chk tb_d12
  | 13, _ => tl_chk tb_d13
  | 14, _ => tl_chk tb_d14
  | 15, _ => tl_chk tb_d15
  | 16, _ => tl_chk tb_d16
  | 17, _ => tl_chk tb_d17
  | 18, _ => tl_chk tb_d18
  | 19, _ => tl_chk tb_d19
  | 20, _ => tl_chk tb_d20
  | 21, _ => tl_chk tb_d21
  | 22, _ => tl_chk tb_d22
  | 23, _ => tl_chk tb_d23
  | 24, _ => tl_chk tb_d24
  | 25, _ => tl_chk tb_d25
  | 26, _ => tl_chk tb_d26
  | 27, _ => tl_chk tb_d27
  | 28, _ => tl_chk tb_d28
  | 29, _ => tl_chk tb_d29
  | n + 30, h => absurd h (by omega)
set_option maxRecDepth 20000 in
theorem tb_f2 : ∀ j, j < 30 → (tb_nm j).cls = "TieredLocksModel" ∧ (tb_P.1 j).2.1 ≤ 20 ∧ Cond.code (tb_nm j) (tb_bs j) (tb_P.1 j).2.1 (tb_P.1 j).2.2 ∈ lw_gt
  | 0, _ => ⟨rfl, Nat.le_of_ble_eq_true rfl, tb_w0⟩
  | 1, _ => ⟨rfl, Nat.le_of_ble_eq_true rfl, tb_w1⟩
  | 2, _ => ⟨rfl, Nat.le_of_ble_eq_true rfl, tb_w2⟩
  | 3, _ => ⟨rfl, Nat.le_of_ble_eq_true rfl, tb_w3⟩
  | 4, _ => ⟨rfl, Nat.le_of_ble_eq_true rfl, tb_w4⟩
  | 5, _ => ⟨rfl, Nat.le_of_ble_eq_true rfl, tb_w5⟩
  | 6, _ => ⟨rfl, Nat.le_of_ble_eq_true rfl, tb_w6⟩
  | 7, _ => ⟨rfl, Nat.le_of_ble_eq_true rfl, tb_w7⟩
  | 8, _ => ⟨rfl, Nat.le_of_ble_eq_true rfl, tb_w8⟩
  | 9, _ => ⟨rfl, Nat.le_of_ble_eq_true rfl, tb_w9⟩
  | 10, _ => ⟨rfl, Nat.le_of_ble_eq_true rfl, tb_w10⟩
  | 11, _ => ⟨rfl, Nat.le_of_ble_eq_true rfl, tb_w11⟩
  | 12, _ => ⟨rfl, Nat.le_of_ble_eq_true rfl, tb_w12⟩
  | 13, _ => ⟨rfl, Nat.le_of_ble_eq_true rfl, tb_w13⟩
  | 14, _ => ⟨rfl, Nat.le_of_ble_eq_true rfl, tb_w14⟩
  | 15, _ => ⟨rfl, Nat.le_of_ble_eq_true rfl, tb_w15⟩
  | 16, _ => ⟨rfl, Nat.le_of_ble_eq_true rfl, tb_w16⟩
  | 17, _ => ⟨rfl, Nat.le_of_ble_eq_true rfl, tb_w17⟩
  | 18, _ => ⟨rfl, Nat.le_of_ble_eq_true rfl, tb_w18⟩
  | 19, _ => ⟨rfl, Nat.le_of_ble_eq_true rfl, tb_w19⟩
  | 20, _ => ⟨rfl, Nat.le_of_ble_eq_true rfl, tb_w20⟩
  | 21, _ => ⟨rfl, Nat.le_of_ble_eq_true rfl, tb_w21⟩
  | 22, _ => ⟨rfl, Nat.le_of_ble_eq_true rfl, tb_w22⟩
  | 23, _ => ⟨rfl, Nat.le_of_ble_eq_true rfl, tb_w23⟩
  | 24, _ => ⟨rfl, Nat.le_of_ble_eq_true rfl, tb_w24⟩
  | 25, _ => ⟨rfl, Nat.le_of_ble_eq_true rfl, tb_w25⟩
  | 26, _ => ⟨rfl, Nat.le_of_ble_eq_true rfl, tb_w26⟩
  | 27, _ => ⟨rfl, Nat.le_of_ble_eq_true rfl, tb_w27⟩
  | 28, _ => ⟨rfl, Nat.le_of_ble_eq_true rfl, tb_w28⟩
  | 29, _ => ⟨rfl, Nat.le_of_ble_eq_true rfl, tb_w29⟩
  | n + 30, h => absurd h (by omega)
theorem tb_f4 : ∀ w ∈ u_ws "TieredLocksModel" tb_T 6, w ∈ lw_gt := by
  have e : u_ws "TieredLocksModel" tb_T 6 = [1, 2, 3, 4, 5, 6].filterMap (fun i => tb_wl[i]?) := by decide +kernel
  intro w hw
  rw [e] at hw
  obtain ⟨i, -, hi⟩ := List.mem_filterMap.mp hw
  exact tb_wl_in w (List.mem_of_getElem? hi)
theorem tb_f5 : ∀ k, k < 6 → (tb_T k).1 = "TieredLocksModel" ∧ (k ∈ [0, 1, 2, 3, 4] ↔ (tb_P.2.2.1 k).isSome = true) ∧ (tb_P.2.2.1 k = none → (tb_T k).2.2.2 = false ∧ parseFieldDescriptor (tb_T k).2.2.1 = some .int) := by decide +kernel
theorem tb_f6 : ∀ q ∈ tb_ln, q.2 < 2 ^ 31 ∧ (q.1 ∈ [0, 1, 2, 3, 4] ∨ (q.1 = 99 ∧ false = true ∧ q.2 = 6)) := by decide +kernel
theorem tb_f7 : ∀ q ∈ tb_fl, (q.2 < 99 → q.2 < 6 ∧ Cond.fieldLink "TieredLocksModel" q.1 "TieredLocksModel" (tb_T q.2).2.1 (tb_T q.2).2.2.1 ∈ tb_wl) ∧ (q.2 = 99 → false = true ∧ Cond.fieldLink "TieredLocksModel" q.1 "TieredLocksModel" "TOGETHER" "[I" ∈ tb_wl) := by decide +kernel
theorem tb_f8a : ∀ q ∈ tb_mt, q.2.1 < 1000 → q.2.1 < 30 ∧ q.2.2 ≤ (tb_P.1 q.2.1).2.1 ∧ Cond.methodLink "TieredLocksModel" q.1 (tb_nm q.2.1) ∈ tb_wl := by decide +kernel
theorem tb_f8b : ∀ q ∈ tb_mt, q.2.1 < 1000 → tb_sta q.2.1 = true → Cond.static (tb_nm q.2.1) ∈ tb_wl ∧ (parseMethodDescriptor (tb_nm q.2.1).desc).map (fun d => d.parameters.length) = some q.2.2 := by decide +kernel
theorem tb_f8c : ∀ q ∈ tb_mt, q.2.1 < 1000 → tb_sta q.2.1 = false → Cond.instanceMethod (tb_nm q.2.1) ∈ tb_wl ∧ Cond.selects "TieredLocksModel" (tb_nm q.2.1) (tb_nm q.2.1) ∈ tb_wl ∧ (parseMethodDescriptor (tb_nm q.2.1).desc).map (fun d => d.parameters.length) = some (q.2.2 - 1) := by decide +kernel
theorem tb_f8d : ∀ q ∈ tb_mt, q.2.1 = 1000 → Cond.methodLink "TieredLocksModel" q.1 Lib.Math.max.name ∈ tb_wl ∧ Cond.static Lib.Math.max.name ∈ tb_wl ∧ Cond.initialized "java/lang/Math" ∈ tb_wl := by decide +kernel
theorem tb_f8e : ∀ q ∈ tb_mt, q.2.1 = 1001 → Cond.methodLink "TieredLocksModel" q.1 Lib.Math.min.name ∈ tb_wl ∧ Cond.static Lib.Math.min.name ∈ tb_wl ∧ Cond.initialized "java/lang/Math" ∈ tb_wl := by decide +kernel
theorem tb_face : tl_face tb_P 6 [0, 1, 2, 3, 4] false 6 "TieredLocksModel" "TOGETHER" tb_T tb_ty 30 tb_nm tb_bs tb_sta lw_gt := by
  refine ⟨tb_f1, tb_f2, lw_gt_good, ⟨by decide, by decide, by decide, tb_wl_in _ (List.mem_of_getElem? (i := 0) rfl), tb_f4⟩, tb_f5, fun k n h => tb_f6 _ (tl_lk_mem _ _ _ h), fun ix k h => ?_, fun ix q h => ?_, by decide, by decide +kernel, by decide +kernel⟩
  · have h1 := tb_f7 _ (tl_lk_mem _ _ _ h)
    exact ⟨fun z => ⟨(h1.1 z).1, tb_wl_in _ (h1.1 z).2⟩, fun z => ⟨(h1.2 z).1, tb_wl_in _ (h1.2 z).2⟩⟩
  · have hm := tl_lk2_mem _ _ _ h
    refine ⟨fun z => ?_, fun z => ?_, fun z => ?_⟩
    · obtain ⟨k1, k2, k3⟩ := tb_f8a _ hm z
      have k4 := tb_f8b _ hm z
      have k5 := tb_f8c _ hm z
      exact ⟨k1, k2, tb_wl_in _ k3, fun y => ⟨tb_wl_in _ (k4 y).1, (k4 y).2⟩, fun y => ⟨tb_wl_in _ (k5 y).1, tb_wl_in _ (k5 y).2.1, (k5 y).2.2⟩⟩
    · obtain ⟨k1, k2, k3⟩ := tb_f8d _ hm z
      exact ⟨tb_wl_in _ k1, tb_wl_in _ k2, tb_wl_in _ k3, tl_mmax⟩
    · obtain ⟨k1, k2, k3⟩ := tb_f8e _ hm z
      exact ⟨tb_wl_in _ k1, tb_wl_in _ k2, tb_wl_in _ k3, tl_mmin⟩
