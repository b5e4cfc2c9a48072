/-! ===== THE TABLES OF THE SMALL MACHINE: by program (wip/p26/gen.py) out of the claim's printed listing; each row: place, instruction, length, what it links to ===== -/
abbrev MRow : Type := Nat × Instr × Nat × List Nat
def tb_0 : List MRow := [
  (0, .aload_n 0, 1, []), (1, .invokespecial 3, 3, [1002, 310]), (4, .aload_n 0, 1, []), (5, .new 9, 3, [3, 311]), (8, .dup, 1, []), (9, .invokespecial 11, 3, [47, 1, 6, 0, 0]), (12, .putfield 12, 3, [0, 1, 0, 392]), (15, .aload_n 0, 1, []),
  (16, .bipush 6, 2, []), (18, .anewarray 18, 3, [53, 324]), (21, .putfield 20, 3, [0, 2, 0, 393]), (24, .aload_n 0, 1, []), (25, .new 18, 3, [4, 324]), (28, .dup, 1, []), (29, .invokespecial 24, 3, [52, 1, 6, 0, 1]), (32, .putfield 25, 3, [0, 3, 0, 394]),
  (35, .aload_n 0, 1, []), (36, .bipush 6, 2, []), (38, .newarray .int, 2, [50]), (40, .putfield 29, 3, [0, 4, 0, 395]), (43, .aload_n 0, 1, []), (44, .bipush 12, 2, []), (46, .newarray .int, 2, [50]), (48, .putfield 33, 3, [0, 5, 0, 396]),
  (51, .aload_n 0, 1, []), (52, .bipush 12, 2, []), (54, .newarray .int, 2, [50]), (56, .putfield 36, 3, [0, 6, 0, 398]), (59, .aload_n 0, 1, []), (60, .iconst (-1), 1, []), (61, .putfield 39, 3, [0, 11, 0, 407]), (64, .aload_n 0, 1, []),
  (65, .aload_n 1, 1, []), (66, .putfield 43, 3, [0, 0, 0, 390]), (69, .iconst 0, 1, []), (70, .istore_n 2, 1, []), (71, .iload_n 2, 1, []), (72, .aload_n 0, 1, []), (73, .getfield 20, 3, [0, 2, 0, 393]), (76, .arraylength, 1, []),
  (77, .if_icmp .ge 22, 3, [99]), (80, .aload_n 0, 1, []), (81, .getfield 20, 3, [0, 2, 0, 393]), (84, .iload_n 2, 1, []), (85, .new 18, 3, [4, 324]), (88, .dup, 1, []), (89, .invokespecial 24, 3, [52, 1, 6, 0, 1]), (92, .aastore, 1, []),
  (93, .iinc 2 1, 3, []), (96, .goto (-25), 3, [71]), (99, .return_, 1, [])
  ]
def tb_1 : List MRow := [
  (0, .iload_n 1, 1, []), (1, .ifCond .lt 12, 3, [13]), (4, .iload_n 1, 1, []), (5, .aload_n 0, 1, []), (6, .getfield 20, 3, [0, 2, 0, 393]), (9, .arraylength, 1, []), (10, .if_icmp .lt 8, 3, [18]), (13, .aload_n 0, 1, []),
  (14, .getfield 25, 3, [0, 3, 0, 394]), (17, .areturn, 1, []), (18, .aload_n 0, 1, []), (19, .getfield 20, 3, [0, 2, 0, 393]), (22, .iload_n 1, 1, []), (23, .aaload, 1, []), (24, .astore_n 2, 1, []), (25, .aload_n 2, 1, []),
  (26, .ifnonnull 10, 3, [36]), (29, .aload_n 0, 1, []), (30, .getfield 25, 3, [0, 3, 0, 394]), (33, .goto 4, 3, [37]), (36, .aload_n 2, 1, []), (37, .areturn, 1, [])
  ]
def tb_2 : List MRow := [
  (0, .aload_n 0, 1, []), (1, .iconst 0, 1, []), (2, .putfield 47, 3, [0, 7, 0, 401]), (5, .aload_n 0, 1, []), (6, .iconst 0, 1, []), (7, .putfield 50, 3, [0, 8, 0, 403]), (10, .aload_n 0, 1, []), (11, .iconst 0, 1, []),
  (12, .putfield 53, 3, [0, 9, 0, 405]), (15, .aload_n 0, 1, []), (16, .iconst 0, 1, []), (17, .putfield 56, 3, [0, 10, 0, 406]), (20, .aload_n 0, 1, []), (21, .iconst 0, 1, []), (22, .putfield 59, 3, [0, 12, 0, 410]), (25, .aload_n 0, 1, []),
  (26, .iconst 0, 1, []), (27, .putfield 62, 3, [0, 13, 0, 411]), (30, .aload_n 0, 1, []), (31, .getfield 29, 3, [0, 4, 0, 395]), (34, .iconst 0, 1, []), (35, .invokestatic 66, 3, [187, 2, 0, 0, 1305]), (38, .aload_n 0, 1, []), (39, .getfield 33, 3, [0, 5, 0, 396]),
  (42, .iconst 0, 1, []), (43, .invokestatic 66, 3, [187, 2, 0, 0, 1305]), (46, .aload_n 0, 1, []), (47, .getfield 36, 3, [0, 6, 0, 398]), (50, .iconst 0, 1, []), (51, .invokestatic 66, 3, [187, 2, 0, 0, 1305]), (54, .iconst 0, 1, []), (55, .istore_n 1, 1, []),
  (56, .iload_n 1, 1, []), (57, .bipush 6, 2, []), (59, .if_icmp .ge 22, 3, [81]), (62, .aload_n 0, 1, []), (63, .iload_n 1, 1, []), (64, .invokevirtual 72, 3, [1, 2, 2, 0, 571]), (67, .aload_n 0, 1, []), (68, .getfield 43, 3, [0, 0, 0, 390]),
  (71, .iload_n 1, 1, []), (72, .invokevirtual 76, 3, [53, 3, 2, 4, 1306]), (75, .iinc 1 1, 3, []), (78, .goto (-22), 3, [56]), (81, .aload_n 0, 1, []), (82, .aload_n 0, 1, []), (83, .invokevirtual 80, 3, [6, 1, 2, 0, 566]), (86, .iconst 2, 1, []),
  (87, .if_icmp .lt 14, 3, [101]), (90, .aload_n 0, 1, []), (91, .getfield 43, 3, [0, 0, 0, 390]), (94, .iconst 4, 1, []), (95, .invokevirtual 84, 3, [85, 2, 2, 8, 570]), (98, .ifCond .ne 7, 3, [105]), (101, .iconst (-1), 1, []), (102, .goto 8, 3, [110]),
  (105, .aload_n 0, 1, []), (106, .iconst 0, 1, []), (107, .invokevirtual 90, 3, [7, 2, 2, 0, 741]), (110, .putfield 39, 3, [0, 11, 0, 407]), (113, .return_, 1, [])
  ]
def tb_3 : List MRow := [
  (0, .aload_n 0, 1, []), (1, .aload_n 1, 1, []), (2, .getfield 47, 3, [0, 7, 0, 401]), (5, .putfield 47, 3, [0, 7, 0, 401]), (8, .aload_n 0, 1, []), (9, .aload_n 1, 1, []), (10, .getfield 50, 3, [0, 8, 0, 403]), (13, .putfield 50, 3, [0, 8, 0, 403]),
  (16, .aload_n 0, 1, []), (17, .aload_n 1, 1, []), (18, .getfield 53, 3, [0, 9, 0, 405]), (21, .putfield 53, 3, [0, 9, 0, 405]), (24, .aload_n 0, 1, []), (25, .aload_n 1, 1, []), (26, .getfield 56, 3, [0, 10, 0, 406]), (29, .putfield 56, 3, [0, 10, 0, 406]),
  (32, .aload_n 0, 1, []), (33, .aload_n 1, 1, []), (34, .getfield 39, 3, [0, 11, 0, 407]), (37, .putfield 39, 3, [0, 11, 0, 407]), (40, .aload_n 0, 1, []), (41, .aload_n 1, 1, []), (42, .getfield 59, 3, [0, 12, 0, 410]), (45, .putfield 59, 3, [0, 12, 0, 410]),
  (48, .aload_n 0, 1, []), (49, .aload_n 1, 1, []), (50, .getfield 62, 3, [0, 13, 0, 411]), (53, .putfield 62, 3, [0, 13, 0, 411]), (56, .aload_n 1, 1, []), (57, .getfield 29, 3, [0, 4, 0, 395]), (60, .aload_n 0, 1, []), (61, .getfield 29, 3, [0, 4, 0, 395]),
  (64, .invokestatic 93, 3, [125, 2, 1, 0, 2]), (67, .aload_n 1, 1, []), (68, .getfield 33, 3, [0, 5, 0, 396]), (71, .aload_n 0, 1, []), (72, .getfield 33, 3, [0, 5, 0, 396]), (75, .invokestatic 93, 3, [125, 2, 1, 0, 2]), (78, .aload_n 1, 1, []), (79, .getfield 36, 3, [0, 6, 0, 398]),
  (82, .aload_n 0, 1, []), (83, .getfield 36, 3, [0, 6, 0, 398]), (86, .invokestatic 93, 3, [125, 2, 1, 0, 2]), (89, .iconst 0, 1, []), (90, .istore_n 2, 1, []), (91, .iload_n 2, 1, []), (92, .bipush 6, 2, []), (94, .if_icmp .ge 22, 3, [116]),
  (97, .aload_n 0, 1, []), (98, .iload_n 2, 1, []), (99, .invokevirtual 72, 3, [1, 2, 2, 0, 571]), (102, .aload_n 1, 1, []), (103, .iload_n 2, 1, []), (104, .invokevirtual 72, 3, [1, 2, 2, 0, 571]), (107, .invokevirtual 97, 3, [54, 2, 2, 4, 773]), (110, .iinc 2 1, 3, []),
  (113, .goto (-22), 3, [91]), (116, .return_, 1, [])
  ]
def tb_4 : List MRow := [
  (0, .aload_n 0, 1, []), (1, .getfield 39, 3, [0, 11, 0, 407]), (4, .ifCond .ge 7, 3, [11]), (7, .iconst 1, 1, []), (8, .goto 4, 3, [12]), (11, .iconst 0, 1, []), (12, .ireturn, 1, [2])
  ]
def tb_5 : List MRow := [
  (0, .aload_n 0, 1, []), (1, .invokevirtual 101, 3, [4, 1, 2, 0, 553]), (4, .ifCond .eq 7, 3, [11]), (7, .iconst (-1), 1, []), (8, .goto 25, 3, [33]), (11, .aload_n 0, 1, []), (12, .getfield 43, 3, [0, 0, 0, 390]), (15, .getfield 105, 3, [8, 13, 1, 3]),
  (18, .aload_n 0, 1, []), (19, .getfield 50, 3, [0, 8, 0, 403]), (22, .bipush 8, 2, []), (24, .imul, 1, []), (25, .aload_n 0, 1, []), (26, .getfield 56, 3, [0, 10, 0, 406]), (29, .iadd, 1, []), (30, .invokestatic 108, 3, [123, 2, 1, 0, 4]),
  (33, .ireturn, 1, [0])
  ]
def tb_6 : List MRow := [
  (0, .iconst 0, 1, []), (1, .istore_n 1, 1, []), (2, .iconst 0, 1, []), (3, .istore_n 2, 1, []), (4, .iload_n 2, 1, []), (5, .aload_n 0, 1, []), (6, .getfield 43, 3, [0, 0, 0, 390]), (9, .iconst 3, 1, []),
  (10, .invokevirtual 84, 3, [85, 2, 2, 8, 570]), (13, .if_icmp .ge 23, 3, [36]), (16, .aload_n 0, 1, []), (17, .iload_n 2, 1, []), (18, .invokevirtual 72, 3, [1, 2, 2, 0, 571]), (21, .getfield 112, 3, [4, 2, 1, 5]), (24, .ifCond .eq 6, 3, [30]), (27, .iinc 1 1, 3, []),
  (30, .iinc 2 1, 3, []), (33, .goto (-29), 3, [4]), (36, .iload_n 1, 1, []), (37, .ireturn, 1, [0])
  ]
def tb_7 : List MRow := [
  (0, .iload_n 1, 1, []), (1, .istore_n 2, 1, []), (2, .iload_n 2, 1, []), (3, .aload_n 0, 1, []), (4, .getfield 43, 3, [0, 0, 0, 390]), (7, .iconst 3, 1, []), (8, .invokevirtual 84, 3, [85, 2, 2, 8, 570]), (11, .if_icmp .ge 22, 3, [33]),
  (14, .aload_n 0, 1, []), (15, .iload_n 2, 1, []), (16, .invokevirtual 72, 3, [1, 2, 2, 0, 571]), (19, .getfield 112, 3, [4, 2, 1, 5]), (22, .ifCond .eq 5, 3, [27]), (25, .iload_n 2, 1, []), (26, .ireturn, 1, [0]), (27, .iinc 2 1, 3, []),
  (30, .goto (-28), 3, [2]), (33, .iconst (-1), 1, []), (34, .ireturn, 1, [0])
  ]
def tb_8 : List MRow := [
  (0, .iload_n 1, 1, []), (1, .bipush 11, 2, []), (3, .if_icmp .ge 10, 3, [13]), (6, .aload_n 0, 1, []), (7, .invokevirtual 80, 3, [6, 1, 2, 0, 566]), (10, .goto 14, 3, [24]), (13, .aload_n 0, 1, []), (14, .getfield 29, 3, [0, 4, 0, 395]),
  (17, .iload_n 1, 1, []), (18, .bipush 11, 2, []), (20, .isub, 1, []), (21, .invokestatic 108, 3, [123, 2, 1, 0, 4]), (24, .ireturn, 1, [0])
  ]
def tb_9 : List MRow := [
  (0, .iconst 0, 1, []), (1, .istore_n 2, 1, []), (2, .iconst 0, 1, []), (3, .istore_n 3, 1, []), (4, .iload_n 3, 1, []), (5, .aload_n 0, 1, []), (6, .getfield 43, 3, [0, 0, 0, 390]), (9, .iconst 3, 1, []),
  (10, .invokevirtual 84, 3, [85, 2, 2, 8, 570]), (13, .if_icmp .ge 21, 3, [34]), (16, .aload_n 0, 1, []), (17, .iload_n 3, 1, []), (18, .iload_n 1, 1, []), (19, .invokevirtual 115, 3, [10, 3, 2, 0, 615]), (22, .ifCond .eq 6, 3, [28]), (25, .iinc 2 1, 3, []),
  (28, .iinc 3 1, 3, []), (31, .goto (-27), 3, [4]), (34, .iload_n 2, 1, []), (35, .ireturn, 1, [0])
  ]
def tb_10 : List MRow := [
  (0, .aload_n 0, 1, []), (1, .iload_n 1, 1, []), (2, .invokevirtual 72, 3, [1, 2, 2, 0, 571]), (5, .astore_n 3, 1, []), (6, .aload_n 0, 1, []), (7, .iload_n 2, 1, []), (8, .invokevirtual 72, 3, [1, 2, 2, 0, 571]), (11, .astore 4, 2, []),
  (13, .aload_n 3, 1, []), (14, .getfield 112, 3, [4, 2, 1, 5]), (17, .aload 4, 2, []), (19, .getfield 112, 3, [4, 2, 1, 5]), (22, .if_icmp .eq 8, 3, [30]), (25, .aload_n 3, 1, []), (26, .getfield 112, 3, [4, 2, 1, 5]), (29, .ireturn, 1, [2]),
  (30, .aload_n 3, 1, []), (31, .getfield 119, 3, [4, 5, 1, 6]), (34, .aload 4, 2, []), (36, .getfield 119, 3, [4, 5, 1, 6]), (39, .if_icmp .eq 23, 3, [62]), (42, .aload_n 3, 1, []), (43, .getfield 119, 3, [4, 5, 1, 6]), (46, .aload 4, 2, []),
  (48, .getfield 119, 3, [4, 5, 1, 6]), (51, .if_icmp .le 7, 3, [58]), (54, .iconst 1, 1, []), (55, .goto 17, 3, [72]), (58, .iconst 0, 1, []), (59, .goto 13, 3, [72]), (62, .iload_n 1, 1, []), (63, .iload_n 2, 1, []),
  (64, .if_icmp .ge 7, 3, [71]), (67, .iconst 1, 1, []), (68, .goto 4, 3, [72]), (71, .iconst 0, 1, []), (72, .ireturn, 1, [2])
  ]
def tb_11 : List MRow := [
  (0, .aload_n 0, 1, []), (1, .iload_n 1, 1, []), (2, .invokevirtual 72, 3, [1, 2, 2, 0, 571]), (5, .astore_n 3, 1, []), (6, .iconst 0, 1, []), (7, .istore 4, 2, []), (9, .iconst 0, 1, []), (10, .istore 5, 2, []),
  (12, .iload 5, 2, []), (14, .aload_n 0, 1, []), (15, .getfield 43, 3, [0, 0, 0, 390]), (18, .getfield 122, 3, [8, 5, 1, 7]), (21, .iload_n 2, 1, []), (22, .invokestatic 108, 3, [123, 2, 1, 0, 4]), (25, .if_icmp .ge 96, 3, [121]), (28, .aload_n 0, 1, []),
  (29, .getfield 43, 3, [0, 0, 0, 390]), (32, .iload_n 2, 1, []), (33, .iload 5, 2, []), (35, .invokevirtual 125, 3, [88, 3, 2, 8, 633]), (38, .istore 6, 2, []), (40, .aload_n 0, 1, []), (41, .getfield 43, 3, [0, 0, 0, 390]), (44, .getfield 129, 3, [8, 2, 1, 8]),
  (47, .iload 6, 2, []), (49, .invokestatic 108, 3, [123, 2, 1, 0, 4]), (52, .istore 7, 2, []), (54, .iconst 5, 1, []), (55, .aload_n 3, 1, []), (56, .getfield 132, 3, [4, 1, 1, 9]), (59, .iload 6, 2, []), (61, .invokestatic 108, 3, [123, 2, 1, 0, 4]),
  (64, .invokestatic 135, 3, [182, 2, 0, 0, 634]), (67, .istore 8, 2, []), (69, .aload_n 3, 1, []), (70, .getfield 140, 3, [4, 0, 1, 10]), (73, .iload 7, 2, []), (75, .invokestatic 108, 3, [123, 2, 1, 0, 4]), (78, .aload_n 0, 1, []), (79, .getfield 43, 3, [0, 0, 0, 390]),
  (82, .getfield 143, 3, [8, 1, 1, 11]), (85, .iload 7, 2, []), (87, .invokestatic 108, 3, [123, 2, 1, 0, 4]), (90, .iadd, 1, []), (91, .iload 8, 2, []), (93, .iadd, 1, []), (94, .istore 9, 2, []), (96, .iload 5, 2, []),
  (98, .ifCond .ne 8, 3, [106]), (101, .iload 9, 2, []), (103, .goto 10, 3, [113]), (106, .iload 4, 2, []), (108, .iload 9, 2, []), (110, .invokestatic 135, 3, [182, 2, 0, 0, 634]), (113, .istore 4, 2, []), (115, .iinc 5 1, 3, []),
  (118, .goto (-106), 3, [12]), (121, .iload_n 1, 1, []), (122, .aload_n 0, 1, []), (123, .getfield 39, 3, [0, 11, 0, 407]), (126, .if_icmp .ne 15, 3, [141]), (129, .iload_n 2, 1, []), (130, .aload_n 0, 1, []), (131, .invokevirtual 146, 3, [5, 1, 2, 0, 637]),
  (134, .if_icmp .ne 7, 3, [141]), (137, .iconst 1, 1, []), (138, .goto 4, 3, [142]), (141, .iconst 0, 1, []), (142, .istore 5, 2, []), (144, .iload 5, 2, []), (146, .ifCond .eq 15, 3, [161]), (149, .iload 4, 2, []),
  (151, .iconst 3, 1, []), (152, .aload_n 0, 1, []), (153, .getfield 59, 3, [0, 12, 0, 410]), (156, .imul, 1, []), (157, .iadd, 1, []), (158, .goto 5, 3, [163]), (161, .iload 4, 2, []), (163, .ireturn, 1, [0])
  ]
def tb_12 : List MRow := [
  (0, .aload_n 0, 1, []), (1, .invokevirtual 101, 3, [4, 1, 2, 0, 553]), (4, .ifCond .eq 5, 3, [9]), (7, .iconst 0, 1, []), (8, .ireturn, 1, [2]), (9, .aload_n 0, 1, []), (10, .aload_n 0, 1, []), (11, .getfield 39, 3, [0, 11, 0, 407]),
  (14, .invokevirtual 72, 3, [1, 2, 2, 0, 571]), (17, .astore_n 2, 1, []), (18, .iload_n 1, 1, []), (19, .lookupswitch 61 #[(1, 25), (2, 47)], 25, [80, 44, 66]), (44, .aload_n 0, 1, []), (45, .getfield 59, 3, [0, 12, 0, 410]), (48, .iconst 2, 1, []), (49, .if_icmp .ge 15, 3, [64]),
  (52, .aload_n 2, 1, []), (53, .getfield 119, 3, [4, 5, 1, 6]), (56, .iconst 1, 1, []), (57, .if_icmp .lt 7, 3, [64]), (60, .iconst 1, 1, []), (61, .goto 4, 3, [65]), (64, .iconst 0, 1, []), (65, .ireturn, 1, [2]),
  (66, .aload_n 2, 1, []), (67, .getfield 149, 3, [4, 7, 1, 12]), (70, .iconst 1, 1, []), (71, .if_icmp .lt 7, 3, [78]), (74, .iconst 1, 1, []), (75, .goto 4, 3, [79]), (78, .iconst 0, 1, []), (79, .ireturn, 1, [2]),
  (80, .iconst 1, 1, []), (81, .ireturn, 1, [2])
  ]
def tb_13 : List MRow := [
  (0, .iload_n 1, 1, []), (1, .iconst 1, 1, []), (2, .if_icmp .ne 10, 3, [12]), (5, .aload_n 0, 1, []), (6, .invokevirtual 152, 3, [14, 1, 2, 0, 702]), (9, .goto 16, 3, [25]), (12, .iload_n 1, 1, []), (13, .iconst 2, 1, []),
  (14, .if_icmp .ne 11, 3, [25]), (17, .aload_n 0, 1, []), (18, .invokevirtual 155, 3, [15, 1, 2, 0, 711]), (21, .aload_n 0, 1, []), (22, .invokevirtual 158, 3, [25, 1, 2, 0, 737]), (25, .return_, 1, [])
  ]
def tb_14 : List MRow := [
  (0, .aload_n 0, 1, []), (1, .aload_n 0, 1, []), (2, .getfield 39, 3, [0, 11, 0, 407]), (5, .invokevirtual 72, 3, [1, 2, 2, 0, 571]), (8, .astore_n 1, 1, []), (9, .aload_n 1, 1, []), (10, .dup, 1, []), (11, .getfield 119, 3, [4, 5, 1, 6]),
  (14, .iconst 1, 1, []), (15, .isub, 1, []), (16, .putfield 119, 3, [4, 5, 1, 6]), (19, .aload_n 1, 1, []), (20, .dup, 1, []), (21, .getfield 161, 3, [4, 8, 1, 13]), (24, .iconst 1, 1, []), (25, .iadd, 1, []),
  (26, .putfield 161, 3, [4, 8, 1, 13]), (29, .aload_n 0, 1, []), (30, .dup, 1, []), (31, .getfield 59, 3, [0, 12, 0, 410]), (34, .iconst 1, 1, []), (35, .iadd, 1, []), (36, .putfield 59, 3, [0, 12, 0, 410]), (39, .aload_n 0, 1, []),
  (40, .iconst 2, 1, []), (41, .invokevirtual 164, 3, [16, 2, 2, 0, 706]), (44, .return_, 1, [])
  ]
def tb_15 : List MRow := [
  (0, .aload_n 0, 1, []), (1, .aload_n 0, 1, []), (2, .getfield 39, 3, [0, 11, 0, 407]), (5, .invokevirtual 72, 3, [1, 2, 2, 0, 571]), (8, .dup, 1, []), (9, .getfield 149, 3, [4, 7, 1, 12]), (12, .iconst 1, 1, []), (13, .isub, 1, []),
  (14, .putfield 149, 3, [4, 7, 1, 12]), (17, .aload_n 0, 1, []), (18, .iconst 3, 1, []), (19, .invokevirtual 164, 3, [16, 2, 2, 0, 706]), (22, .return_, 1, [])
  ]
def tb_16 : List MRow := [
  (0, .aload_n 0, 1, []), (1, .getfield 29, 3, [0, 4, 0, 395]), (4, .iload_n 1, 1, []), (5, .aload_n 0, 1, []), (6, .getfield 29, 3, [0, 4, 0, 395]), (9, .iload_n 1, 1, []), (10, .invokestatic 108, 3, [123, 2, 1, 0, 4]), (13, .iconst 1, 1, []),
  (14, .iadd, 1, []), (15, .invokestatic 168, 3, [124, 3, 1, 0, 14]), (18, .return_, 1, [])
  ]
def tb_17 : List MRow := [
  (0, .iconst 0, 1, []), (1, .istore_n 2, 1, []), (2, .iload_n 2, 1, []), (3, .iload_n 1, 1, []), (4, .if_icmp .ge 31, 3, [35]), (7, .aload_n 0, 1, []), (8, .invokevirtual 101, 3, [4, 1, 2, 0, 553]), (11, .ifCond .ne 24, 3, [35]),
  (14, .aload_n 0, 1, []), (15, .invokevirtual 172, 3, [18, 1, 2, 0, 662]), (18, .ifCond .ne 7, 3, [25]), (21, .aload_n 0, 1, []), (22, .invokevirtual 175, 3, [20, 1, 2, 0, 715]), (25, .aload_n 0, 1, []), (26, .invokevirtual 158, 3, [25, 1, 2, 0, 737]), (29, .iinc 2 1, 3, []),
  (32, .goto (-30), 3, [2]), (35, .iload_n 2, 1, []), (36, .ireturn, 1, [0])
  ]
def tb_18 : List MRow := [
  (0, .iconst 0, 1, []), (1, .istore_n 1, 1, []), (2, .iload_n 1, 1, []), (3, .aload_n 0, 1, []), (4, .getfield 43, 3, [0, 0, 0, 390]), (7, .iconst 5, 1, []), (8, .invokevirtual 84, 3, [85, 2, 2, 8, 570]), (11, .if_icmp .ge 79, 3, [90]),
  (14, .aload_n 0, 1, []), (15, .iload_n 1, 1, []), (16, .bipush 15, 2, []), (18, .invokevirtual 178, 3, [19, 3, 2, 0, 666]), (21, .ifCond .eq 27, 3, [48]), (24, .aload_n 0, 1, []), (25, .iconst 1, 1, []), (26, .invokevirtual 181, 3, [12, 2, 2, 0, 670]),
  (29, .ifCond .eq 19, 3, [48]), (32, .aload_n 0, 1, []), (33, .getfield 12, 3, [0, 1, 0, 392]), (36, .aload_n 0, 1, []), (37, .iload_n 1, 1, []), (38, .invokevirtual 185, 3, [48, 3, 2, 3, 674]), (41, .ifCond .eq 7, 3, [48]), (44, .aload_n 0, 1, []),
  (45, .invokevirtual 152, 3, [14, 1, 2, 0, 702]), (48, .aload_n 0, 1, []), (49, .iload_n 1, 1, []), (50, .bipush 16, 2, []), (52, .invokevirtual 178, 3, [19, 3, 2, 0, 666]), (55, .ifCond .eq 29, 3, [84]), (58, .aload_n 0, 1, []), (59, .iconst 2, 1, []),
  (60, .invokevirtual 181, 3, [12, 2, 2, 0, 670]), (63, .ifCond .eq 21, 3, [84]), (66, .aload_n 0, 1, []), (67, .getfield 12, 3, [0, 1, 0, 392]), (70, .aload_n 0, 1, []), (71, .iload_n 1, 1, []), (72, .invokevirtual 185, 3, [48, 3, 2, 3, 674]), (75, .ifCond .eq 9, 3, [84]),
  (78, .aload_n 0, 1, []), (79, .invokevirtual 155, 3, [15, 1, 2, 0, 711]), (82, .iconst 1, 1, []), (83, .ireturn, 1, [2]), (84, .iinc 1 1, 3, []), (87, .goto (-85), 3, [2]), (90, .iconst 0, 1, []), (91, .ireturn, 1, [2])
  ]
def tb_19 : List MRow := [
  (0, .aload_n 0, 1, []), (1, .getfield 43, 3, [0, 0, 0, 390]), (4, .getfield 189, 3, [8, 15, 1, 15]), (7, .iload_n 1, 1, []), (8, .invokestatic 108, 3, [123, 2, 1, 0, 4]), (11, .aload_n 0, 1, []), (12, .getfield 39, 3, [0, 11, 0, 407]), (15, .if_icmp .ne 22, 3, [37]),
  (18, .aload_n 0, 1, []), (19, .getfield 43, 3, [0, 0, 0, 390]), (22, .getfield 192, 3, [8, 14, 1, 16]), (25, .iload_n 1, 1, []), (26, .invokestatic 108, 3, [123, 2, 1, 0, 4]), (29, .iload_n 2, 1, []), (30, .if_icmp .ne 7, 3, [37]), (33, .iconst 1, 1, []),
  (34, .goto 4, 3, [38]), (37, .iconst 0, 1, []), (38, .ireturn, 1, [2])
  ]
def tb_20 : List MRow := [
  (0, .aload_n 0, 1, []), (1, .aload_n 0, 1, []), (2, .getfield 39, 3, [0, 11, 0, 407]), (5, .invokevirtual 72, 3, [1, 2, 2, 0, 571]), (8, .astore_n 1, 1, []), (9, .aload_n 0, 1, []), (10, .invokevirtual 146, 3, [5, 1, 2, 0, 637]), (13, .istore_n 2, 1, []),
  (14, .aload_n 0, 1, []), (15, .getfield 43, 3, [0, 0, 0, 390]), (18, .iload_n 2, 1, []), (19, .invokevirtual 195, 3, [87, 2, 2, 8, 719]), (22, .istore_n 3, 1, []), (23, .iload_n 3, 1, []), (24, .aload_n 0, 1, []), (25, .aload_n 0, 1, []),
  (26, .getfield 39, 3, [0, 11, 0, 407]), (29, .iload_n 2, 1, []), (30, .invokevirtual 198, 3, [11, 3, 2, 0, 720]), (33, .isub, 1, []), (34, .istore 4, 2, []), (36, .iconst 1, 1, []), (37, .istore 5, 2, []), (39, .iload 4, 2, []),
  (41, .ifCond .gt 26, 3, [67]), (44, .aload_n 1, 1, []), (45, .dup, 1, []), (46, .getfield 119, 3, [4, 5, 1, 6]), (49, .iconst 1, 1, []), (50, .iload_n 3, 1, []), (51, .iconst 4, 1, []), (52, .idiv, 1, []),
  (53, .iadd, 1, []), (54, .iadd, 1, []), (55, .putfield 119, 3, [4, 5, 1, 6]), (58, .aload_n 0, 1, []), (59, .aload_n 1, 1, []), (60, .iload_n 2, 1, []), (61, .invokevirtual 201, 3, [21, 3, 2, 0, 721]), (64, .goto 43, 3, [107]),
  (67, .aload_n 1, 1, []), (68, .getfield 205, 3, [4, 4, 1, 17]), (71, .ifCond .eq 33, 3, [104]), (74, .aload_n 0, 1, []), (75, .invokevirtual 208, 3, [22, 1, 2, 0, 725]), (78, .ifCond .eq 26, 3, [104]), (81, .iload 4, 2, []), (83, .iconst 2, 1, []),
  (84, .if_icmp .gt 7, 3, [91]), (87, .iconst 1, 1, []), (88, .goto 4, 3, [92]), (91, .iconst 0, 1, []), (92, .istore 5, 2, []), (94, .aload_n 0, 1, []), (95, .aload_n 1, 1, []), (96, .iload 5, 2, []),
  (98, .invokevirtual 211, 3, [23, 3, 2, 0, 729]), (101, .goto 6, 3, [107]), (104, .iconst 0, 1, []), (105, .istore 5, 2, []), (107, .aload_n 0, 1, []), (108, .aload_n 1, 1, []), (109, .iload_n 2, 1, []), (110, .iload 5, 2, []),
  (112, .invokevirtual 215, 3, [24, 4, 2, 0, 733]), (115, .aload_n 0, 1, []), (116, .aload_n 0, 1, []), (117, .getfield 56, 3, [0, 10, 0, 406]), (120, .iconst 1, 1, []), (121, .iadd, 1, []), (122, .aload_n 0, 1, []), (123, .getfield 43, 3, [0, 0, 0, 390]),
  (126, .getfield 219, 3, [8, 12, 1, 18]), (129, .aload_n 0, 1, []), (130, .getfield 50, 3, [0, 8, 0, 403]), (133, .invokestatic 108, 3, [123, 2, 1, 0, 4]), (136, .if_icmp .ge 12, 3, [148]), (139, .aload_n 0, 1, []), (140, .getfield 56, 3, [0, 10, 0, 406]), (143, .iconst 1, 1, []),
  (144, .iadd, 1, []), (145, .goto 4, 3, [149]), (148, .iconst 0, 1, []), (149, .putfield 56, 3, [0, 10, 0, 406]), (152, .return_, 1, [])
  ]
def tb_21 : List MRow := [
  (0, .iconst 0, 1, []), (1, .istore_n 3, 1, []), (2, .iload_n 3, 1, []), (3, .aload_n 0, 1, []), (4, .getfield 43, 3, [0, 0, 0, 390]), (7, .getfield 122, 3, [8, 5, 1, 7]), (10, .iload_n 2, 1, []), (11, .invokestatic 108, 3, [123, 2, 1, 0, 4]),
  (14, .if_icmp .ge 40, 3, [54]), (17, .aload_n 0, 1, []), (18, .getfield 43, 3, [0, 0, 0, 390]), (21, .iload_n 2, 1, []), (22, .iload_n 3, 1, []), (23, .invokevirtual 125, 3, [88, 3, 2, 8, 633]), (26, .istore 4, 2, []), (28, .aload_n 1, 1, []),
  (29, .getfield 132, 3, [4, 1, 1, 9]), (32, .iload 4, 2, []), (34, .aload_n 1, 1, []), (35, .getfield 132, 3, [4, 1, 1, 9]), (38, .iload 4, 2, []), (40, .invokestatic 108, 3, [123, 2, 1, 0, 4]), (43, .iconst 1, 1, []), (44, .iadd, 1, []),
  (45, .invokestatic 168, 3, [124, 3, 1, 0, 14]), (48, .iinc 3 1, 3, []), (51, .goto (-49), 3, [2]), (54, .return_, 1, [])
  ]
def tb_22 : List MRow := [
  (0, .iconst 0, 1, []), (1, .istore_n 1, 1, []), (2, .iload_n 1, 1, []), (3, .aload_n 0, 1, []), (4, .getfield 43, 3, [0, 0, 0, 390]), (7, .iconst 5, 1, []), (8, .invokevirtual 84, 3, [85, 2, 2, 8, 570]), (11, .if_icmp .ge 33, 3, [44]),
  (14, .aload_n 0, 1, []), (15, .iload_n 1, 1, []), (16, .bipush 17, 2, []), (18, .invokevirtual 178, 3, [19, 3, 2, 0, 666]), (21, .ifCond .eq 17, 3, [38]), (24, .aload_n 0, 1, []), (25, .getfield 12, 3, [0, 1, 0, 392]), (28, .aload_n 0, 1, []),
  (29, .iload_n 1, 1, []), (30, .invokevirtual 185, 3, [48, 3, 2, 3, 674]), (33, .ifCond .eq 5, 3, [38]), (36, .iconst 1, 1, []), (37, .ireturn, 1, [2]), (38, .iinc 1 1, 3, []), (41, .goto (-39), 3, [2]), (44, .iconst 0, 1, []),
  (45, .ireturn, 1, [2])
  ]
def tb_23 : List MRow := [
  (0, .iload_n 2, 1, []), (1, .ifCond .eq 21, 3, [22]), (4, .aload_n 1, 1, []), (5, .dup, 1, []), (6, .getfield 119, 3, [4, 5, 1, 6]), (9, .iconst 1, 1, []), (10, .iadd, 1, []), (11, .putfield 119, 3, [4, 5, 1, 6]),
  (14, .aload_n 0, 1, []), (15, .iconst 4, 1, []), (16, .invokevirtual 164, 3, [16, 2, 2, 0, 706]), (19, .goto 13, 3, [32]), (22, .aload_n 1, 1, []), (23, .iconst 0, 1, []), (24, .putfield 205, 3, [4, 4, 1, 17]), (27, .aload_n 0, 1, []),
  (28, .iconst 5, 1, []), (29, .invokevirtual 164, 3, [16, 2, 2, 0, 706]), (32, .return_, 1, [])
  ]
def tb_24 : List MRow := [
  (0, .aload_n 0, 1, []), (1, .getfield 33, 3, [0, 5, 0, 396]), (4, .iload_n 2, 1, []), (5, .aload_n 0, 1, []), (6, .getfield 33, 3, [0, 5, 0, 396]), (9, .iload_n 2, 1, []), (10, .invokestatic 108, 3, [123, 2, 1, 0, 4]), (13, .iconst 1, 1, []),
  (14, .iadd, 1, []), (15, .invokestatic 168, 3, [124, 3, 1, 0, 14]), (18, .iload_n 3, 1, []), (19, .ifCond .eq 42, 3, [61]), (22, .aload_n 0, 1, []), (23, .getfield 36, 3, [0, 6, 0, 398]), (26, .iload_n 2, 1, []), (27, .aload_n 0, 1, []),
  (28, .getfield 36, 3, [0, 6, 0, 398]), (31, .iload_n 2, 1, []), (32, .invokestatic 108, 3, [123, 2, 1, 0, 4]), (35, .iconst 1, 1, []), (36, .iadd, 1, []), (37, .invokestatic 168, 3, [124, 3, 1, 0, 14]), (40, .aload_n 1, 1, []), (41, .dup, 1, []),
  (42, .getfield 222, 3, [4, 9, 1, 19]), (45, .iconst 1, 1, []), (46, .iadd, 1, []), (47, .putfield 222, 3, [4, 9, 1, 19]), (50, .aload_n 0, 1, []), (51, .iconst 1, 1, []), (52, .putfield 62, 3, [0, 13, 0, 411]), (55, .aload_n 0, 1, []),
  (56, .iconst 0, 1, []), (57, .invokevirtual 164, 3, [16, 2, 2, 0, 706]), (60, .return_, 1, []), (61, .aload_n 0, 1, []), (62, .iconst 1, 1, []), (63, .invokevirtual 164, 3, [16, 2, 2, 0, 706]), (66, .aload_n 1, 1, []), (67, .dup, 1, []),
  (68, .getfield 225, 3, [4, 10, 1, 20]), (71, .iconst 1, 1, []), (72, .iadd, 1, []), (73, .putfield 225, 3, [4, 10, 1, 20]), (76, .aload_n 1, 1, []), (77, .dup, 1, []), (78, .getfield 228, 3, [4, 6, 1, 21]), (81, .iconst 1, 1, []),
  (82, .iadd, 1, []), (83, .putfield 228, 3, [4, 6, 1, 21]), (86, .aload_n 1, 1, []), (87, .getfield 228, 3, [4, 6, 1, 21]), (90, .iconst 2, 1, []), (91, .if_icmp .lt 13, 3, [104]), (94, .aload_n 1, 1, []), (95, .iconst 0, 1, []),
  (96, .putfield 112, 3, [4, 2, 1, 5]), (99, .aload_n 1, 1, []), (100, .iconst 1, 1, []), (101, .putfield 231, 3, [4, 3, 1, 22]), (104, .return_, 1, [])
  ]
def tb_25 : List MRow := [
  (0, .aload_n 0, 1, []), (1, .dup, 1, []), (2, .getfield 47, 3, [0, 7, 0, 401]), (5, .iconst 1, 1, []), (6, .iadd, 1, []), (7, .putfield 47, 3, [0, 7, 0, 401]), (10, .aload_n 0, 1, []), (11, .iconst 0, 1, []),
  (12, .putfield 59, 3, [0, 12, 0, 410]), (15, .aload_n 0, 1, []), (16, .aload_n 0, 1, []), (17, .aload_n 0, 1, []), (18, .getfield 39, 3, [0, 11, 0, 407]), (21, .iconst 1, 1, []), (22, .iadd, 1, []), (23, .invokevirtual 90, 3, [7, 2, 2, 0, 741]),
  (26, .putfield 39, 3, [0, 11, 0, 407]), (29, .aload_n 0, 1, []), (30, .getfield 39, 3, [0, 11, 0, 407]), (33, .ifCond .ge 7, 3, [40]), (36, .aload_n 0, 1, []), (37, .invokevirtual 234, 3, [26, 1, 2, 0, 745]), (40, .return_, 1, [])
  ]
def tb_26 : List MRow := [
  (0, .iconst 0, 1, []), (1, .istore_n 1, 1, []), (2, .iload_n 1, 1, []), (3, .bipush 6, 2, []), (5, .if_icmp .ge 44, 3, [49]), (8, .aload_n 0, 1, []), (9, .iload_n 1, 1, []), (10, .invokevirtual 72, 3, [1, 2, 2, 0, 571]),
  (13, .astore_n 2, 1, []), (14, .aload_n 2, 1, []), (15, .getfield 231, 3, [4, 3, 1, 22]), (18, .ifCond .eq 20, 3, [38]), (21, .aload_n 0, 1, []), (22, .getfield 62, 3, [0, 13, 0, 411]), (25, .ifCond .ne 13, 3, [38]), (28, .aload_n 2, 1, []),
  (29, .iconst 1, 1, []), (30, .putfield 112, 3, [4, 2, 1, 5]), (33, .aload_n 2, 1, []), (34, .iconst 1, 1, []), (35, .putfield 228, 3, [4, 6, 1, 21]), (38, .aload_n 2, 1, []), (39, .iconst 0, 1, []), (40, .putfield 231, 3, [4, 3, 1, 22]),
  (43, .iinc 1 1, 3, []), (46, .goto (-44), 3, [2]), (49, .aload_n 0, 1, []), (50, .iconst 0, 1, []), (51, .putfield 62, 3, [0, 13, 0, 411]), (54, .aload_n 0, 1, []), (55, .dup, 1, []), (56, .getfield 53, 3, [0, 9, 0, 405]),
  (59, .iconst 1, 1, []), (60, .iadd, 1, []), (61, .putfield 53, 3, [0, 9, 0, 405]), (64, .aload_n 0, 1, []), (65, .invokevirtual 80, 3, [6, 1, 2, 0, 566]), (68, .iconst 2, 1, []), (69, .if_icmp .lt 7, 3, [76]), (72, .iconst 1, 1, []),
  (73, .goto 4, 3, [77]), (76, .iconst 0, 1, []), (77, .istore_n 1, 1, []), (78, .iload_n 1, 1, []), (79, .ifCond .eq 29, 3, [108]), (82, .aload_n 0, 1, []), (83, .getfield 53, 3, [0, 9, 0, 405]), (86, .aload_n 0, 1, []),
  (87, .getfield 43, 3, [0, 0, 0, 390]), (90, .getfield 237, 3, [8, 11, 1, 23]), (93, .aload_n 0, 1, []), (94, .getfield 50, 3, [0, 8, 0, 403]), (97, .invokestatic 108, 3, [123, 2, 1, 0, 4]), (100, .if_icmp .lt 8, 3, [108]), (103, .aload_n 0, 1, []), (104, .invokevirtual 240, 3, [27, 1, 2, 0, 749]),
  (107, .istore_n 1, 1, []), (108, .aload_n 0, 1, []), (109, .iload_n 1, 1, []), (110, .ifCond .eq 11, 3, [121]), (113, .aload_n 0, 1, []), (114, .iconst 0, 1, []), (115, .invokevirtual 90, 3, [7, 2, 2, 0, 741]), (118, .goto 4, 3, [122]),
  (121, .iconst (-1), 1, []), (122, .putfield 39, 3, [0, 11, 0, 407]), (125, .return_, 1, [])
  ]
def tb_27 : List MRow := [
  (0, .aload_n 0, 1, []), (1, .aload_n 0, 1, []), (2, .getfield 43, 3, [0, 0, 0, 390]), (5, .getfield 243, 3, [8, 10, 1, 24]), (8, .aload_n 0, 1, []), (9, .getfield 50, 3, [0, 8, 0, 403]), (12, .invokestatic 108, 3, [123, 2, 1, 0, 4]), (15, .invokevirtual 246, 3, [28, 2, 2, 0, 753]),
  (18, .iconst 0, 1, []), (19, .istore_n 1, 1, []), (20, .iload_n 1, 1, []), (21, .bipush 6, 2, []), (23, .if_icmp .ge 18, 3, [41]), (26, .aload_n 0, 1, []), (27, .iload_n 1, 1, []), (28, .invokevirtual 72, 3, [1, 2, 2, 0, 571]),
  (31, .iconst 0, 1, []), (32, .putfield 228, 3, [4, 6, 1, 21]), (35, .iinc 1 1, 3, []), (38, .goto (-18), 3, [20]), (41, .aload_n 0, 1, []), (42, .invokevirtual 80, 3, [6, 1, 2, 0, 566]), (45, .iconst 2, 1, []), (46, .if_icmp .lt 20, 3, [66]),
  (49, .aload_n 0, 1, []), (50, .getfield 50, 3, [0, 8, 0, 403]), (53, .iconst 1, 1, []), (54, .iadd, 1, []), (55, .aload_n 0, 1, []), (56, .getfield 43, 3, [0, 0, 0, 390]), (59, .iconst 4, 1, []), (60, .invokevirtual 84, 3, [85, 2, 2, 8, 570]),
  (63, .if_icmp .lt 5, 3, [68]), (66, .iconst 0, 1, []), (67, .ireturn, 1, [2]), (68, .aload_n 0, 1, []), (69, .dup, 1, []), (70, .getfield 50, 3, [0, 8, 0, 403]), (73, .iconst 1, 1, []), (74, .iadd, 1, []),
  (75, .putfield 50, 3, [0, 8, 0, 403]), (78, .aload_n 0, 1, []), (79, .iconst 0, 1, []), (80, .putfield 53, 3, [0, 9, 0, 405]), (83, .aload_n 0, 1, []), (84, .iconst 0, 1, []), (85, .putfield 56, 3, [0, 10, 0, 406]), (88, .iconst 1, 1, []),
  (89, .ireturn, 1, [2])
  ]
def tb_28 : List MRow := [
  (0, .iconst 0, 1, []), (1, .istore_n 2, 1, []), (2, .iconst 0, 1, []), (3, .istore_n 3, 1, []), (4, .iload_n 3, 1, []), (5, .bipush 6, 2, []), (7, .if_icmp .ge 43, 3, [50]), (10, .aload_n 0, 1, []),
  (11, .iload_n 3, 1, []), (12, .invokevirtual 72, 3, [1, 2, 2, 0, 571]), (15, .astore 4, 2, []), (17, .iload_n 2, 1, []), (18, .ifCond .ne 20, 3, [38]), (21, .aload 4, 2, []), (23, .getfield 112, 3, [4, 2, 1, 5]), (26, .ifCond .eq 16, 3, [42]),
  (29, .aload 4, 2, []), (31, .getfield 119, 3, [4, 5, 1, 6]), (34, .iload_n 1, 1, []), (35, .if_icmp .lt 7, 3, [42]), (38, .iconst 1, 1, []), (39, .goto 4, 3, [43]), (42, .iconst 0, 1, []), (43, .istore_n 2, 1, []),
  (44, .iinc 3 1, 3, []), (47, .goto (-43), 3, [4]), (50, .iconst 0, 1, []), (51, .istore_n 3, 1, []), (52, .iload_n 3, 1, []), (53, .bipush 6, 2, []), (55, .if_icmp .ge 47, 3, [102]), (58, .iload_n 2, 1, []),
  (59, .ifCond .eq 43, 3, [102]), (62, .aload_n 0, 1, []), (63, .iload_n 3, 1, []), (64, .invokevirtual 72, 3, [1, 2, 2, 0, 571]), (67, .astore 4, 2, []), (69, .aload 4, 2, []), (71, .aload 4, 2, []), (73, .getfield 112, 3, [4, 2, 1, 5]),
  (76, .ifCond .eq 16, 3, [92]), (79, .aload 4, 2, []), (81, .getfield 119, 3, [4, 5, 1, 6]), (84, .iload_n 1, 1, []), (85, .if_icmp .lt 7, 3, [92]), (88, .iconst 1, 1, []), (89, .goto 4, 3, [93]), (92, .iconst 0, 1, []),
  (93, .putfield 112, 3, [4, 2, 1, 5]), (96, .iinc 3 1, 3, []), (99, .goto (-47), 3, [52]), (102, .return_, 1, [])
  ]
def tb_29 : List MRow := [
  (0, .aload_n 0, 1, []), (1, .invokespecial 3, 3, [1002, 158]), (4, .aload_n 0, 1, []), (5, .sipush 400, 3, []), (8, .newarray .int, 2, [50]), (10, .putfield 9, 3, [1, 0, 0, 159]), (13, .aload_n 0, 1, []), (14, .sipush 400, 3, []),
  (17, .newarray .int, 2, [50]), (19, .putfield 15, 3, [1, 1, 0, 161]), (22, .return_, 1, [])
  ]
def tb_30 : List MRow := [
  (0, .aload_n 0, 1, []), (1, .getfield 9, 3, [1, 0, 0, 159]), (4, .aload_n 0, 1, []), (5, .getfield 18, 3, [1, 2, 0, 163]), (8, .iload_n 1, 1, []), (9, .invokestatic 22, 3, [124, 3, 1, 0, 25]), (12, .aload_n 0, 1, []), (13, .getfield 15, 3, [1, 1, 0, 161]),
  (16, .aload_n 0, 1, []), (17, .getfield 18, 3, [1, 2, 0, 163]), (20, .iload_n 2, 1, []), (21, .invokestatic 22, 3, [124, 3, 1, 0, 25]), (24, .aload_n 0, 1, []), (25, .aload_n 0, 1, []), (26, .getfield 18, 3, [1, 2, 0, 163]), (29, .iconst 1, 1, []),
  (30, .iadd, 1, []), (31, .sipush 400, 3, []), (34, .invokestatic 26, 3, [182, 2, 0, 0, 1205]), (37, .putfield 18, 3, [1, 2, 0, 163]), (40, .return_, 1, [])
  ]
def tb_31 : List MRow := [
  (0, .iconst 0, 1, []), (1, .istore_n 2, 1, []), (2, .iload_n 2, 1, []), (3, .aload_n 0, 1, []), (4, .getfield 18, 3, [1, 2, 0, 163]), (7, .if_icmp .ge 32, 3, [39]), (10, .aload_n 0, 1, []), (11, .getfield 15, 3, [1, 1, 0, 161]),
  (14, .iload_n 2, 1, []), (15, .aload_n 1, 1, []), (16, .getfield 32, 3, [7, 5, 1, 26]), (19, .aload_n 0, 1, []), (20, .getfield 15, 3, [1, 1, 0, 161]), (23, .iload_n 2, 1, []), (24, .invokestatic 37, 3, [123, 2, 1, 0, 27]), (27, .invokestatic 37, 3, [123, 2, 1, 0, 27]),
  (30, .invokestatic 22, 3, [124, 3, 1, 0, 25]), (33, .iinc 2 1, 3, []), (36, .goto (-34), 3, [2]), (39, .return_, 1, [])
  ]
def tb_32 : List MRow := [
  (0, .aload_n 1, 1, []), (1, .getfield 9, 3, [1, 0, 0, 159]), (4, .aload_n 0, 1, []), (5, .getfield 9, 3, [1, 0, 0, 159]), (8, .invokestatic 41, 3, [125, 2, 1, 0, 28]), (11, .aload_n 1, 1, []), (12, .getfield 15, 3, [1, 1, 0, 161]), (15, .aload_n 0, 1, []),
  (16, .getfield 15, 3, [1, 1, 0, 161]), (19, .invokestatic 41, 3, [125, 2, 1, 0, 28]), (22, .aload_n 0, 1, []), (23, .aload_n 1, 1, []), (24, .getfield 18, 3, [1, 2, 0, 163]), (27, .putfield 18, 3, [1, 2, 0, 163]), (30, .return_, 1, [])
  ]
def tb_33 : List MRow := [
  (0, .aload_n 0, 1, []), (1, .invokespecial 3, 3, [1002, 268]), (4, .aload_n 0, 1, []), (5, .aload_n 1, 1, []), (6, .putfield 9, 3, [2, 0, 0, 269]), (9, .aload_n 0, 1, []), (10, .aload_n 2, 1, []), (11, .putfield 15, 3, [2, 1, 0, 270]),
  (14, .return_, 1, [])
  ]
def tb_34 : List MRow := [
  (0, .aload_n 0, 1, []), (1, .iconst 0, 1, []), (2, .putfield 19, 3, [2, 2, 0, 271]), (5, .aload_n 0, 1, []), (6, .aload_n 0, 1, []), (7, .getfield 9, 3, [2, 0, 0, 269]), (10, .getfield 23, 3, [7, 1, 1, 29]), (13, .aload_n 0, 1, []),
  (14, .getfield 19, 3, [2, 2, 0, 271]), (17, .invokestatic 29, 3, [123, 2, 1, 0, 30]), (20, .putfield 33, 3, [2, 3, 0, 272]), (23, .aload_n 0, 1, []), (24, .getfield 15, 3, [2, 1, 0, 270]), (27, .iconst 0, 1, []), (28, .putfield 36, 3, [1, 2, 1, 31]), (31, .iconst 0, 1, []),
  (32, .istore_n 1, 1, []), (33, .iload_n 1, 1, []), (34, .sipush 400, 3, []), (37, .if_icmp .gt 41, 3, [78]), (40, .aload_n 0, 1, []), (41, .getfield 33, 3, [2, 3, 0, 272]), (44, .sipush 260, 3, []), (47, .if_icmp .eq 31, 3, [78]),
  (50, .aload_n 0, 1, []), (51, .invokevirtual 41, 3, [36, 1, 2, 2, 1171]), (54, .ifCond .eq 13, 3, [67]), (57, .aload_n 0, 1, []), (58, .bipush 59, 2, []), (60, .iconst 0, 1, []), (61, .invokevirtual 45, 3, [35, 3, 2, 2, 1175]), (64, .ifCond .ne 8, 3, [72]),
  (67, .aload_n 0, 1, []), (68, .getfield 19, 3, [2, 2, 0, 271]), (71, .ireturn, 1, [0]), (72, .iinc 1 1, 3, []), (75, .goto (-42), 3, [33]), (78, .aload_n 0, 1, []), (79, .getfield 33, 3, [2, 3, 0, 272]), (82, .sipush 260, 3, []),
  (85, .if_icmp .ne 7, 3, [92]), (88, .iconst (-1), 1, []), (89, .goto 7, 3, [96]), (92, .aload_n 0, 1, []), (93, .getfield 19, 3, [2, 2, 0, 271]), (96, .ireturn, 1, [0])
  ]
def tb_35 : List MRow := [
  (0, .aload_n 0, 1, []), (1, .getfield 33, 3, [2, 3, 0, 272]), (4, .iload_n 1, 1, []), (5, .if_icmp .eq 5, 3, [10]), (8, .iconst 0, 1, []), (9, .ireturn, 1, [2]), (10, .aload_n 0, 1, []), (11, .getfield 9, 3, [2, 0, 0, 269]),
  (14, .getfield 49, 3, [7, 4, 1, 32]), (17, .aload_n 0, 1, []), (18, .getfield 19, 3, [2, 2, 0, 271]), (21, .iload_n 2, 1, []), (22, .invokestatic 52, 3, [124, 3, 1, 0, 33]), (25, .aload_n 0, 1, []), (26, .dup, 1, []), (27, .getfield 19, 3, [2, 2, 0, 271]),
  (30, .iconst 1, 1, []), (31, .iadd, 1, []), (32, .putfield 19, 3, [2, 2, 0, 271]), (35, .aload_n 0, 1, []), (36, .aload_n 0, 1, []), (37, .getfield 9, 3, [2, 0, 0, 269]), (40, .getfield 23, 3, [7, 1, 1, 29]), (43, .aload_n 0, 1, []),
  (44, .getfield 19, 3, [2, 2, 0, 271]), (47, .invokestatic 29, 3, [123, 2, 1, 0, 30]), (50, .putfield 33, 3, [2, 3, 0, 272]), (53, .iconst 1, 1, []), (54, .ireturn, 1, [2])
  ]
def tb_36 : List MRow := [
  (0, .aload_n 0, 1, []), (1, .getfield 33, 3, [2, 3, 0, 272]), (4, .istore_n 1, 1, []), (5, .iload_n 1, 1, []), (6, .tableswitch 488 0 17 #[86, 488, 133, 488, 488, 488, 222, 488, 268, 488, 488, 324, 488, 488, 488, 414, 414, 414], 86, [494, 92, 494, 139, 494, 494, 494, 228, 494, 274, 494, 494, 330, 494, 494, 494, 420, 420, 420]), (92, .aload_n 0, 1, []), (93, .iconst 0, 1, []), (94, .iconst 0, 1, []),
  (95, .invokevirtual 45, 3, [35, 3, 2, 2, 1175]), (98, .ifCond .eq 39, 3, [137]), (101, .aload_n 0, 1, []), (102, .sipush 258, 3, []), (105, .iconst 1, 1, []), (106, .invokevirtual 45, 3, [35, 3, 2, 2, 1175]), (109, .ifCond .eq 28, 3, [137]), (112, .aload_n 0, 1, []),
  (113, .iconst 1, 1, []), (114, .iconst 0, 1, []), (115, .invokevirtual 45, 3, [35, 3, 2, 2, 1175]), (118, .ifCond .eq 19, 3, [137]), (121, .aload_n 0, 1, []), (122, .sipush 259, 3, []), (125, .bipush 14, 2, []), (127, .invokevirtual 45, 3, [35, 3, 2, 2, 1175]),
  (130, .ifCond .eq 7, 3, [137]), (133, .iconst 1, 1, []), (134, .goto 4, 3, [138]), (137, .iconst 0, 1, []), (138, .ireturn, 1, [2]), (139, .aload_n 0, 1, []), (140, .iconst 2, 1, []), (141, .iconst 0, 1, []),
  (142, .invokevirtual 45, 3, [35, 3, 2, 2, 1175]), (145, .ifCond .eq 81, 3, [226]), (148, .aload_n 0, 1, []), (149, .sipush 258, 3, []), (152, .iconst 2, 1, []), (153, .invokevirtual 45, 3, [35, 3, 2, 2, 1175]), (156, .ifCond .eq 70, 3, [226]), (159, .aload_n 0, 1, []),
  (160, .iconst 3, 1, []), (161, .iconst 0, 1, []), (162, .invokevirtual 45, 3, [35, 3, 2, 2, 1175]), (165, .ifCond .eq 61, 3, [226]), (168, .aload_n 0, 1, []), (169, .sipush 258, 3, []), (172, .bipush 7, 2, []), (174, .invokevirtual 45, 3, [35, 3, 2, 2, 1175]),
  (177, .ifCond .eq 49, 3, [226]), (180, .aload_n 0, 1, []), (181, .iconst 4, 1, []), (182, .iconst 0, 1, []), (183, .invokevirtual 45, 3, [35, 3, 2, 2, 1175]), (186, .ifCond .eq 40, 3, [226]), (189, .aload_n 0, 1, []), (190, .sipush 259, 3, []),
  (193, .bipush 15, 2, []), (195, .invokevirtual 45, 3, [35, 3, 2, 2, 1175]), (198, .ifCond .eq 28, 3, [226]), (201, .aload_n 0, 1, []), (202, .iconst 5, 1, []), (203, .iconst 0, 1, []), (204, .invokevirtual 45, 3, [35, 3, 2, 2, 1175]), (207, .ifCond .eq 19, 3, [226]),
  (210, .aload_n 0, 1, []), (211, .sipush 259, 3, []), (214, .bipush 16, 2, []), (216, .invokevirtual 45, 3, [35, 3, 2, 2, 1175]), (219, .ifCond .eq 7, 3, [226]), (222, .iconst 1, 1, []), (223, .goto 4, 3, [227]), (226, .iconst 0, 1, []),
  (227, .ireturn, 1, [2]), (228, .aload_n 0, 1, []), (229, .bipush 6, 2, []), (231, .iconst 0, 1, []), (232, .invokevirtual 45, 3, [35, 3, 2, 2, 1175]), (235, .ifCond .eq 37, 3, [272]), (238, .aload_n 0, 1, []), (239, .sipush 258, 3, []),
  (242, .iconst 3, 1, []), (243, .invokevirtual 45, 3, [35, 3, 2, 2, 1175]), (246, .ifCond .eq 26, 3, [272]), (249, .aload_n 0, 1, []), (250, .bipush 7, 2, []), (252, .iconst 0, 1, []), (253, .invokevirtual 45, 3, [35, 3, 2, 2, 1175]), (256, .ifCond .eq 16, 3, [272]),
  (259, .aload_n 0, 1, []), (260, .bipush 9, 2, []), (262, .invokevirtual 56, 3, [37, 2, 2, 2, 1180]), (265, .ifCond .eq 7, 3, [272]), (268, .iconst 1, 1, []), (269, .goto 4, 3, [273]), (272, .iconst 0, 1, []), (273, .ireturn, 1, [2]),
  (274, .aload_n 0, 1, []), (275, .bipush 8, 2, []), (277, .iconst 0, 1, []), (278, .invokevirtual 45, 3, [35, 3, 2, 2, 1175]), (281, .ifCond .eq 47, 3, [328]), (284, .aload_n 0, 1, []), (285, .sipush 258, 3, []), (288, .iconst 4, 1, []),
  (289, .invokevirtual 45, 3, [35, 3, 2, 2, 1175]), (292, .ifCond .eq 36, 3, [328]), (295, .aload_n 0, 1, []), (296, .bipush 9, 2, []), (298, .iconst 0, 1, []), (299, .invokevirtual 45, 3, [35, 3, 2, 2, 1175]), (302, .ifCond .eq 26, 3, [328]), (305, .aload_n 0, 1, []),
  (306, .sipush 259, 3, []), (309, .bipush 17, 2, []), (311, .invokevirtual 45, 3, [35, 3, 2, 2, 1175]), (314, .ifCond .eq 14, 3, [328]), (317, .aload_n 0, 1, []), (318, .invokevirtual 60, 3, [38, 1, 2, 2, 1184]), (321, .ifCond .eq 7, 3, [328]), (324, .iconst 1, 1, []),
  (325, .goto 4, 3, [329]), (328, .iconst 0, 1, []), (329, .ireturn, 1, [2]), (330, .aload_n 0, 1, []), (331, .bipush 11, 2, []), (333, .iconst 0, 1, []), (334, .invokevirtual 45, 3, [35, 3, 2, 2, 1175]), (337, .ifCond .eq 81, 3, [418]),
  (340, .aload_n 0, 1, []), (341, .sipush 258, 3, []), (344, .iconst 5, 1, []), (345, .invokevirtual 45, 3, [35, 3, 2, 2, 1175]), (348, .ifCond .eq 70, 3, [418]), (351, .aload_n 0, 1, []), (352, .bipush 12, 2, []), (354, .iconst 0, 1, []),
  (355, .invokevirtual 45, 3, [35, 3, 2, 2, 1175]), (358, .ifCond .eq 60, 3, [418]), (361, .aload_n 0, 1, []), (362, .sipush 259, 3, []), (365, .bipush 19, 2, []), (367, .invokevirtual 45, 3, [35, 3, 2, 2, 1175]), (370, .ifCond .eq 48, 3, [418]), (373, .aload_n 0, 1, []),
  (374, .bipush 13, 2, []), (376, .iconst 0, 1, []), (377, .invokevirtual 45, 3, [35, 3, 2, 2, 1175]), (380, .ifCond .eq 38, 3, [418]), (383, .aload_n 0, 1, []), (384, .sipush 259, 3, []), (387, .bipush 20, 2, []), (389, .invokevirtual 45, 3, [35, 3, 2, 2, 1175]),
  (392, .ifCond .eq 26, 3, [418]), (395, .aload_n 0, 1, []), (396, .bipush 14, 2, []), (398, .iconst 0, 1, []), (399, .invokevirtual 45, 3, [35, 3, 2, 2, 1175]), (402, .ifCond .eq 16, 3, [418]), (405, .aload_n 0, 1, []), (406, .bipush 10, 2, []),
  (408, .invokevirtual 56, 3, [37, 2, 2, 2, 1180]), (411, .ifCond .eq 7, 3, [418]), (414, .iconst 1, 1, []), (415, .goto 4, 3, [419]), (418, .iconst 0, 1, []), (419, .ireturn, 1, [2]), (420, .aload_n 0, 1, []), (421, .getfield 9, 3, [2, 0, 0, 269]),
  (424, .getfield 63, 3, [7, 5, 1, 34]), (427, .aload_n 0, 1, []), (428, .getfield 19, 3, [2, 2, 0, 271]), (431, .aload_n 0, 1, []), (432, .getfield 15, 3, [2, 1, 0, 270]), (435, .getfield 36, 3, [1, 2, 1, 31]), (438, .invokestatic 52, 3, [124, 3, 1, 0, 33]), (441, .aload_n 0, 1, []),
  (442, .iload_n 1, 1, []), (443, .bipush 6, 2, []), (445, .invokevirtual 45, 3, [35, 3, 2, 2, 1175]), (448, .ifCond .eq 44, 3, [492]), (451, .aload_n 0, 1, []), (452, .sipush 258, 3, []), (455, .bipush 11, 2, []), (457, .invokevirtual 45, 3, [35, 3, 2, 2, 1175]),
  (460, .ifCond .eq 32, 3, [492]), (463, .aload_n 0, 1, []), (464, .bipush 18, 2, []), (466, .iconst 0, 1, []), (467, .invokevirtual 45, 3, [35, 3, 2, 2, 1175]), (470, .ifCond .eq 22, 3, [492]), (473, .aload_n 0, 1, []), (474, .iconst 0, 1, []),
  (475, .invokevirtual 66, 3, [40, 2, 2, 2, 1188]), (478, .ifCond .eq 14, 3, [492]), (481, .aload_n 0, 1, []), (482, .invokevirtual 69, 3, [39, 1, 2, 2, 1222]), (485, .ifCond .eq 7, 3, [492]), (488, .iconst 1, 1, []), (489, .goto 4, 3, [493]), (492, .iconst 0, 1, []),
  (493, .ireturn, 1, [2]), (494, .iconst 0, 1, []), (495, .ireturn, 1, [2])
  ]
def tb_37 : List MRow := [
  (0, .aload_n 0, 1, []), (1, .sipush 258, 3, []), (4, .iload_n 1, 1, []), (5, .invokevirtual 45, 3, [35, 3, 2, 2, 1175]), (8, .istore_n 2, 1, []), (9, .iconst 0, 1, []), (10, .istore_n 3, 1, []), (11, .iload_n 3, 1, []),
  (12, .sipush 400, 3, []), (15, .if_icmp .ge 28, 3, [43]), (18, .aload_n 0, 1, []), (19, .getfield 33, 3, [2, 3, 0, 272]), (22, .sipush 258, 3, []), (25, .if_icmp .ne 18, 3, [43]), (28, .aload_n 0, 1, []), (29, .sipush 258, 3, []),
  (32, .iload_n 1, 1, []), (33, .invokevirtual 45, 3, [35, 3, 2, 2, 1175]), (36, .pop, 1, []), (37, .iinc 3 1, 3, []), (40, .goto (-29), 3, [11]), (43, .iload_n 2, 1, []), (44, .ireturn, 1, [2])
  ]
def tb_38 : List MRow := [
  (0, .iconst 0, 1, []), (1, .istore_n 1, 1, []), (2, .iload_n 1, 1, []), (3, .sipush 400, 3, []), (6, .if_icmp .ge 45, 3, [51]), (9, .aload_n 0, 1, []), (10, .bipush 10, 2, []), (12, .iconst 0, 1, []),
  (13, .invokevirtual 45, 3, [35, 3, 2, 2, 1175]), (16, .ifCond .eq 35, 3, [51]), (19, .aload_n 0, 1, []), (20, .sipush 258, 3, []), (23, .bipush 8, 2, []), (25, .invokevirtual 45, 3, [35, 3, 2, 2, 1175]), (28, .ifCond .eq 15, 3, [43]), (31, .aload_n 0, 1, []),
  (32, .sipush 259, 3, []), (35, .bipush 18, 2, []), (37, .invokevirtual 45, 3, [35, 3, 2, 2, 1175]), (40, .ifCond .ne 5, 3, [45]), (43, .iconst 0, 1, []), (44, .ireturn, 1, [2]), (45, .iinc 1 1, 3, []), (48, .goto (-46), 3, [2]),
  (51, .iconst 1, 1, []), (52, .ireturn, 1, [2])
  ]
def tb_39 : List MRow := [
  (0, .aload_n 0, 1, []), (1, .getfield 15, 3, [2, 1, 0, 270]), (4, .bipush 59, 2, []), (6, .aload_n 0, 1, []), (7, .getfield 19, 3, [2, 2, 0, 271]), (10, .invokevirtual 72, 3, [30, 3, 2, 1, 1200]), (13, .iconst 1, 1, []), (14, .ireturn, 1, [2])
  ]
def tb_40 : List MRow := [
  (0, .aload_n 0, 1, []), (1, .iload_n 1, 1, []), (2, .invokevirtual 76, 3, [41, 2, 2, 2, 1192]), (5, .ifCond .ne 5, 3, [10]), (8, .iconst 0, 1, []), (9, .ireturn, 1, [2]), (10, .iconst 0, 1, []), (11, .istore_n 2, 1, []),
  (12, .iload_n 2, 1, []), (13, .sipush 400, 3, []), (16, .if_icmp .ge 42, 3, [58]), (19, .aload_n 0, 1, []), (20, .bipush 28, 2, []), (22, .iconst 0, 1, []), (23, .invokevirtual 45, 3, [35, 3, 2, 2, 1175]), (26, .ifCond .eq 32, 3, [58]),
  (29, .aload_n 0, 1, []), (30, .iload_n 1, 1, []), (31, .invokevirtual 76, 3, [41, 2, 2, 2, 1192]), (34, .ifCond .ne 5, 3, [39]), (37, .iconst 0, 1, []), (38, .ireturn, 1, [2]), (39, .aload_n 0, 1, []), (40, .getfield 15, 3, [2, 1, 0, 270]),
  (43, .bipush 28, 2, []), (45, .aload_n 0, 1, []), (46, .getfield 19, 3, [2, 2, 0, 271]), (49, .invokevirtual 72, 3, [30, 3, 2, 1, 1200]), (52, .iinc 2 1, 3, []), (55, .goto (-43), 3, [12]), (58, .iconst 1, 1, []), (59, .ireturn, 1, [2])
  ]
def tb_41 : List MRow := [
  (0, .aload_n 0, 1, []), (1, .iload_n 1, 1, []), (2, .invokevirtual 79, 3, [42, 2, 2, 2, 1196]), (5, .ifCond .ne 5, 3, [10]), (8, .iconst 0, 1, []), (9, .ireturn, 1, [2]), (10, .iconst 0, 1, []), (11, .istore_n 2, 1, []),
  (12, .iload_n 2, 1, []), (13, .sipush 400, 3, []), (16, .if_icmp .ge 42, 3, [58]), (19, .aload_n 0, 1, []), (20, .bipush 27, 2, []), (22, .iconst 0, 1, []), (23, .invokevirtual 45, 3, [35, 3, 2, 2, 1175]), (26, .ifCond .eq 32, 3, [58]),
  (29, .aload_n 0, 1, []), (30, .iload_n 1, 1, []), (31, .invokevirtual 79, 3, [42, 2, 2, 2, 1196]), (34, .ifCond .ne 5, 3, [39]), (37, .iconst 0, 1, []), (38, .ireturn, 1, [2]), (39, .aload_n 0, 1, []), (40, .getfield 15, 3, [2, 1, 0, 270]),
  (43, .bipush 27, 2, []), (45, .aload_n 0, 1, []), (46, .getfield 19, 3, [2, 2, 0, 271]), (49, .invokevirtual 72, 3, [30, 3, 2, 1, 1200]), (52, .iinc 2 1, 3, []), (55, .goto (-43), 3, [12]), (58, .iconst 1, 1, []), (59, .ireturn, 1, [2])
  ]
def tb_42 : List MRow := [
  (0, .aload_n 0, 1, []), (1, .getfield 33, 3, [2, 3, 0, 272]), (4, .istore_n 2, 1, []), (5, .iload_n 2, 1, []), (6, .lookupswitch 168 #[(24, 127), (25, 127), (26, 42), (91, 85)], 42, [174, 133, 133, 48, 91]), (48, .iload_n 1, 1, []), (49, .bipush 8, 2, []), (51, .if_icmp .ge 23, 3, [74]),
  (54, .aload_n 0, 1, []), (55, .bipush 26, 2, []), (57, .iconst 0, 1, []), (58, .invokevirtual 45, 3, [35, 3, 2, 2, 1175]), (61, .ifCond .eq 13, 3, [74]), (64, .aload_n 0, 1, []), (65, .iload_n 1, 1, []), (66, .iconst 1, 1, []),
  (67, .iadd, 1, []), (68, .invokevirtual 79, 3, [42, 2, 2, 2, 1196]), (71, .ifCond .ne 5, 3, [76]), (74, .iconst 0, 1, []), (75, .ireturn, 1, [2]), (76, .aload_n 0, 1, []), (77, .getfield 15, 3, [2, 1, 0, 270]), (80, .bipush 26, 2, []),
  (82, .aload_n 0, 1, []), (83, .getfield 19, 3, [2, 2, 0, 271]), (86, .invokevirtual 72, 3, [30, 3, 2, 1, 1200]), (89, .iconst 1, 1, []), (90, .ireturn, 1, [2]), (91, .iload_n 1, 1, []), (92, .bipush 8, 2, []), (94, .if_icmp .ge 37, 3, [131]),
  (97, .aload_n 0, 1, []), (98, .bipush 91, 2, []), (100, .iconst 0, 1, []), (101, .invokevirtual 45, 3, [35, 3, 2, 2, 1175]), (104, .ifCond .eq 27, 3, [131]), (107, .aload_n 0, 1, []), (108, .iload_n 1, 1, []), (109, .iconst 1, 1, []),
  (110, .iadd, 1, []), (111, .invokevirtual 66, 3, [40, 2, 2, 2, 1188]), (114, .ifCond .eq 17, 3, [131]), (117, .aload_n 0, 1, []), (118, .bipush 93, 2, []), (120, .iconst 0, 1, []), (121, .invokevirtual 45, 3, [35, 3, 2, 2, 1175]), (124, .ifCond .eq 7, 3, [131]),
  (127, .iconst 1, 1, []), (128, .goto 4, 3, [132]), (131, .iconst 0, 1, []), (132, .ireturn, 1, [2]), (133, .aload_n 0, 1, []), (134, .getfield 15, 3, [2, 1, 0, 270]), (137, .iload_n 2, 1, []), (138, .aload_n 0, 1, []),
  (139, .getfield 19, 3, [2, 2, 0, 271]), (142, .iconst 1, 1, []), (143, .iadd, 1, []), (144, .invokevirtual 72, 3, [30, 3, 2, 1, 1200]), (147, .aload_n 0, 1, []), (148, .iload_n 2, 1, []), (149, .iconst 0, 1, []), (150, .invokevirtual 45, 3, [35, 3, 2, 2, 1175]),
  (153, .ifCond .eq 19, 3, [172]), (156, .aload_n 0, 1, []), (157, .sipush 258, 3, []), (160, .bipush 12, 2, []), (162, .invokevirtual 45, 3, [35, 3, 2, 2, 1175]), (165, .ifCond .eq 7, 3, [172]), (168, .iconst 1, 1, []), (169, .goto 4, 3, [173]),
  (172, .iconst 0, 1, []), (173, .ireturn, 1, [2]), (174, .aload_n 0, 1, []), (175, .iload_n 1, 1, []), (176, .invokevirtual 82, 3, [43, 2, 2, 2, 1206]), (179, .ireturn, 1, [2])
  ]
def tb_43 : List MRow := [
  (0, .aload_n 0, 1, []), (1, .iload_n 1, 1, []), (2, .invokevirtual 85, 3, [44, 2, 2, 2, 1210]), (5, .ifCond .ne 5, 3, [10]), (8, .iconst 0, 1, []), (9, .ireturn, 1, [2]), (10, .aload_n 0, 1, []), (11, .getfield 33, 3, [2, 3, 0, 272]),
  (14, .istore_n 2, 1, []), (15, .iload_n 2, 1, []), (16, .bipush 60, 2, []), (18, .if_icmp .eq 29, 3, [47]), (21, .iload_n 2, 1, []), (22, .bipush 62, 2, []), (24, .if_icmp .eq 23, 3, [47]), (27, .iload_n 2, 1, []),
  (28, .bipush 61, 2, []), (30, .if_icmp .eq 17, 3, [47]), (33, .iload_n 2, 1, []), (34, .sipush 256, 3, []), (37, .if_icmp .eq 10, 3, [47]), (40, .iload_n 2, 1, []), (41, .sipush 257, 3, []), (44, .if_icmp .ne 7, 3, [51]),
  (47, .iconst 1, 1, []), (48, .goto 4, 3, [52]), (51, .iconst 0, 1, []), (52, .istore_n 3, 1, []), (53, .iload_n 3, 1, []), (54, .ifCond .eq 20, 3, [74]), (57, .aload_n 0, 1, []), (58, .iload_n 2, 1, []),
  (59, .iconst 0, 1, []), (60, .invokevirtual 45, 3, [35, 3, 2, 2, 1175]), (63, .ifCond .eq 11, 3, [74]), (66, .aload_n 0, 1, []), (67, .iload_n 1, 1, []), (68, .invokevirtual 85, 3, [44, 2, 2, 2, 1210]), (71, .ifCond .ne 5, 3, [76]), (74, .iconst 0, 1, []),
  (75, .ireturn, 1, [2]), (76, .aload_n 0, 1, []), (77, .getfield 15, 3, [2, 1, 0, 270]), (80, .iload_n 2, 1, []), (81, .aload_n 0, 1, []), (82, .getfield 19, 3, [2, 2, 0, 271]), (85, .invokevirtual 72, 3, [30, 3, 2, 1, 1200]), (88, .iconst 1, 1, []),
  (89, .ireturn, 1, [2])
  ]
def tb_44 : List MRow := [
  (0, .aload_n 0, 1, []), (1, .iload_n 1, 1, []), (2, .invokevirtual 88, 3, [45, 2, 2, 2, 1214]), (5, .ifCond .ne 5, 3, [10]), (8, .iconst 0, 1, []), (9, .ireturn, 1, [2]), (10, .iconst 0, 1, []), (11, .istore_n 2, 1, []),
  (12, .iload_n 2, 1, []), (13, .sipush 400, 3, []), (16, .if_icmp .ge 63, 3, [79]), (19, .aload_n 0, 1, []), (20, .getfield 33, 3, [2, 3, 0, 272]), (23, .bipush 43, 2, []), (25, .if_icmp .eq 12, 3, [37]), (28, .aload_n 0, 1, []),
  (29, .getfield 33, 3, [2, 3, 0, 272]), (32, .bipush 45, 2, []), (34, .if_icmp .ne 45, 3, [79]), (37, .aload_n 0, 1, []), (38, .getfield 33, 3, [2, 3, 0, 272]), (41, .istore_n 3, 1, []), (42, .aload_n 0, 1, []), (43, .iload_n 3, 1, []),
  (44, .iconst 0, 1, []), (45, .invokevirtual 45, 3, [35, 3, 2, 2, 1175]), (48, .ifCond .eq 11, 3, [59]), (51, .aload_n 0, 1, []), (52, .iload_n 1, 1, []), (53, .invokevirtual 88, 3, [45, 2, 2, 2, 1214]), (56, .ifCond .ne 5, 3, [61]), (59, .iconst 0, 1, []),
  (60, .ireturn, 1, [2]), (61, .aload_n 0, 1, []), (62, .getfield 15, 3, [2, 1, 0, 270]), (65, .iload_n 3, 1, []), (66, .aload_n 0, 1, []), (67, .getfield 19, 3, [2, 2, 0, 271]), (70, .invokevirtual 72, 3, [30, 3, 2, 1, 1200]), (73, .iinc 2 1, 3, []),
  (76, .goto (-64), 3, [12]), (79, .iconst 1, 1, []), (80, .ireturn, 1, [2])
  ]
def tb_45 : List MRow := [
  (0, .aload_n 0, 1, []), (1, .iload_n 1, 1, []), (2, .invokevirtual 91, 3, [46, 2, 2, 2, 1218]), (5, .ifCond .ne 5, 3, [10]), (8, .iconst 0, 1, []), (9, .ireturn, 1, [2]), (10, .iconst 0, 1, []), (11, .istore_n 2, 1, []),
  (12, .iload_n 2, 1, []), (13, .sipush 400, 3, []), (16, .if_icmp .ge 63, 3, [79]), (19, .aload_n 0, 1, []), (20, .getfield 33, 3, [2, 3, 0, 272]), (23, .bipush 42, 2, []), (25, .if_icmp .eq 12, 3, [37]), (28, .aload_n 0, 1, []),
  (29, .getfield 33, 3, [2, 3, 0, 272]), (32, .bipush 47, 2, []), (34, .if_icmp .ne 45, 3, [79]), (37, .aload_n 0, 1, []), (38, .getfield 33, 3, [2, 3, 0, 272]), (41, .istore_n 3, 1, []), (42, .aload_n 0, 1, []), (43, .iload_n 3, 1, []),
  (44, .iconst 0, 1, []), (45, .invokevirtual 45, 3, [35, 3, 2, 2, 1175]), (48, .ifCond .eq 11, 3, [59]), (51, .aload_n 0, 1, []), (52, .iload_n 1, 1, []), (53, .invokevirtual 91, 3, [46, 2, 2, 2, 1218]), (56, .ifCond .ne 5, 3, [61]), (59, .iconst 0, 1, []),
  (60, .ireturn, 1, [2]), (61, .aload_n 0, 1, []), (62, .getfield 15, 3, [2, 1, 0, 270]), (65, .iload_n 3, 1, []), (66, .aload_n 0, 1, []), (67, .getfield 19, 3, [2, 2, 0, 271]), (70, .invokevirtual 72, 3, [30, 3, 2, 1, 1200]), (73, .iinc 2 1, 3, []),
  (76, .goto (-64), 3, [12]), (79, .iconst 1, 1, []), (80, .ireturn, 1, [2])
  ]
def tb_46 : List MRow := [
  (0, .aload_n 0, 1, []), (1, .getfield 33, 3, [2, 3, 0, 272]), (4, .istore_n 2, 1, []), (5, .iload_n 2, 1, []), (6, .lookupswitch 370 #[(5, 166), (9, 125), (19, 106), (20, 106), (21, 125), (22, 125), (23, 125), (29, 293), (30, 293), (40, 251), (45, 207), (259, 106)], 106, [376, 172, 131, 112, 112, 131, 131, 131, 299, 299, 257, 213, 112]), (112, .aload_n 0, 1, []), (113, .getfield 15, 3, [2, 1, 0, 270]), (116, .iload_n 2, 1, []),
  (117, .aload_n 0, 1, []), (118, .getfield 19, 3, [2, 2, 0, 271]), (121, .invokevirtual 72, 3, [30, 3, 2, 1, 1200]), (124, .aload_n 0, 1, []), (125, .iload_n 2, 1, []), (126, .iconst 0, 1, []), (127, .invokevirtual 45, 3, [35, 3, 2, 2, 1175]), (130, .ireturn, 1, [2]),
  (131, .aload_n 0, 1, []), (132, .getfield 15, 3, [2, 1, 0, 270]), (135, .iload_n 2, 1, []), (136, .aload_n 0, 1, []), (137, .getfield 19, 3, [2, 2, 0, 271]), (140, .iconst 1, 1, []), (141, .iadd, 1, []), (142, .invokevirtual 72, 3, [30, 3, 2, 1, 1200]),
  (145, .aload_n 0, 1, []), (146, .iload_n 2, 1, []), (147, .iconst 0, 1, []), (148, .invokevirtual 45, 3, [35, 3, 2, 2, 1175]), (151, .ifCond .eq 19, 3, [170]), (154, .aload_n 0, 1, []), (155, .sipush 258, 3, []), (158, .bipush 12, 2, []),
  (160, .invokevirtual 45, 3, [35, 3, 2, 2, 1175]), (163, .ifCond .eq 7, 3, [170]), (166, .iconst 1, 1, []), (167, .goto 4, 3, [171]), (170, .iconst 0, 1, []), (171, .ireturn, 1, [2]), (172, .aload_n 0, 1, []), (173, .getfield 15, 3, [2, 1, 0, 270]),
  (176, .iload_n 2, 1, []), (177, .aload_n 0, 1, []), (178, .getfield 19, 3, [2, 2, 0, 271]), (181, .iconst 1, 1, []), (182, .iadd, 1, []), (183, .invokevirtual 72, 3, [30, 3, 2, 1, 1200]), (186, .aload_n 0, 1, []), (187, .iload_n 2, 1, []),
  (188, .iconst 0, 1, []), (189, .invokevirtual 45, 3, [35, 3, 2, 2, 1175]), (192, .ifCond .eq 19, 3, [211]), (195, .aload_n 0, 1, []), (196, .sipush 258, 3, []), (199, .bipush 13, 2, []), (201, .invokevirtual 45, 3, [35, 3, 2, 2, 1175]), (204, .ifCond .eq 7, 3, [211]),
  (207, .iconst 1, 1, []), (208, .goto 4, 3, [212]), (211, .iconst 0, 1, []), (212, .ireturn, 1, [2]), (213, .iload_n 1, 1, []), (214, .bipush 8, 2, []), (216, .if_icmp .ge 23, 3, [239]), (219, .aload_n 0, 1, []),
  (220, .bipush 45, 2, []), (222, .iconst 0, 1, []), (223, .invokevirtual 45, 3, [35, 3, 2, 2, 1175]), (226, .ifCond .eq 13, 3, [239]), (229, .aload_n 0, 1, []), (230, .iload_n 1, 1, []), (231, .iconst 1, 1, []), (232, .iadd, 1, []),
  (233, .invokevirtual 91, 3, [46, 2, 2, 2, 1218]), (236, .ifCond .ne 5, 3, [241]), (239, .iconst 0, 1, []), (240, .ireturn, 1, [2]), (241, .aload_n 0, 1, []), (242, .getfield 15, 3, [2, 1, 0, 270]), (245, .sipush 262, 3, []), (248, .aload_n 0, 1, []),
  (249, .getfield 19, 3, [2, 2, 0, 271]), (252, .invokevirtual 72, 3, [30, 3, 2, 1, 1200]), (255, .iconst 1, 1, []), (256, .ireturn, 1, [2]), (257, .iload_n 1, 1, []), (258, .bipush 8, 2, []), (260, .if_icmp .ge 37, 3, [297]), (263, .aload_n 0, 1, []),
  (264, .bipush 40, 2, []), (266, .iconst 0, 1, []), (267, .invokevirtual 45, 3, [35, 3, 2, 2, 1175]), (270, .ifCond .eq 27, 3, [297]), (273, .aload_n 0, 1, []), (274, .iload_n 1, 1, []), (275, .iconst 1, 1, []), (276, .iadd, 1, []),
  (277, .invokevirtual 85, 3, [44, 2, 2, 2, 1210]), (280, .ifCond .eq 17, 3, [297]), (283, .aload_n 0, 1, []), (284, .bipush 41, 2, []), (286, .iconst 0, 1, []), (287, .invokevirtual 45, 3, [35, 3, 2, 2, 1175]), (290, .ifCond .eq 7, 3, [297]), (293, .iconst 1, 1, []),
  (294, .goto 4, 3, [298]), (297, .iconst 0, 1, []), (298, .ireturn, 1, [2]), (299, .aload_n 0, 1, []), (300, .iload_n 2, 1, []), (301, .iconst 0, 1, []), (302, .invokevirtual 45, 3, [35, 3, 2, 2, 1175]), (305, .ifCond .eq 49, 3, [354]),
  (308, .iload_n 1, 1, []), (309, .bipush 8, 2, []), (311, .if_icmp .ge 43, 3, [354]), (314, .aload_n 0, 1, []), (315, .bipush 40, 2, []), (317, .iconst 0, 1, []), (318, .invokevirtual 45, 3, [35, 3, 2, 2, 1175]), (321, .ifCond .eq 33, 3, [354]),
  (324, .aload_n 0, 1, []), (325, .iload_n 1, 1, []), (326, .iconst 1, 1, []), (327, .iadd, 1, []), (328, .invokevirtual 85, 3, [44, 2, 2, 2, 1210]), (331, .ifCond .eq 23, 3, [354]), (334, .aload_n 0, 1, []), (335, .bipush 44, 2, []),
  (337, .iconst 0, 1, []), (338, .invokevirtual 45, 3, [35, 3, 2, 2, 1175]), (341, .ifCond .eq 13, 3, [354]), (344, .aload_n 0, 1, []), (345, .iload_n 1, 1, []), (346, .iconst 1, 1, []), (347, .iadd, 1, []), (348, .invokevirtual 85, 3, [44, 2, 2, 2, 1210]),
  (351, .ifCond .ne 5, 3, [356]), (354, .iconst 0, 1, []), (355, .ireturn, 1, [2]), (356, .aload_n 0, 1, []), (357, .getfield 15, 3, [2, 1, 0, 270]), (360, .iload_n 2, 1, []), (361, .aload_n 0, 1, []), (362, .getfield 19, 3, [2, 2, 0, 271]),
  (365, .invokevirtual 72, 3, [30, 3, 2, 1, 1200]), (368, .aload_n 0, 1, []), (369, .bipush 41, 2, []), (371, .iconst 0, 1, []), (372, .invokevirtual 45, 3, [35, 3, 2, 2, 1175]), (375, .ireturn, 1, [2]), (376, .iconst 0, 1, []), (377, .ireturn, 1, [2])
  ]
def tb_47 : List MRow := [
  (0, .aload_n 0, 1, []), (1, .invokespecial 3, 3, [1002, 316]), (4, .aload_n 0, 1, []), (5, .bipush 64, 2, []), (7, .newarray .int, 2, [50]), (9, .putfield 9, 3, [3, 0, 0, 317]), (12, .return_, 1, [])
  ]
def tb_48 : List MRow := [
  (0, .aload_n 1, 1, []), (1, .getfield 15, 3, [0, 0, 1, 35]), (4, .astore_n 3, 1, []), (5, .aload_n 1, 1, []), (6, .invokevirtual 21, 3, [5, 1, 2, 0, 678]), (9, .istore 4, 2, []), (11, .aload_n 0, 1, []), (12, .iconst 0, 1, []),
  (13, .putfield 25, 3, [3, 1, 0, 318]), (16, .aload_n 3, 1, []), (17, .getfield 29, 3, [8, 16, 1, 36]), (20, .iload_n 2, 1, []), (21, .invokestatic 34, 3, [123, 2, 1, 0, 37]), (24, .istore 5, 2, []), (26, .iload 5, 2, []), (28, .aload_n 3, 1, []),
  (29, .getfield 38, 3, [8, 17, 1, 38]), (32, .getfield 42, 3, [1, 2, 1, 39]), (35, .if_icmp .ge 382, 3, [417]), (38, .aload_n 3, 1, []), (39, .getfield 38, 3, [8, 17, 1, 38]), (42, .getfield 45, 3, [1, 0, 1, 40]), (45, .iload 5, 2, []), (47, .invokestatic 34, 3, [123, 2, 1, 0, 37]),
  (50, .istore 6, 2, []), (52, .aload_n 3, 1, []), (53, .getfield 38, 3, [8, 17, 1, 38]), (56, .getfield 48, 3, [1, 1, 1, 41]), (59, .iload 5, 2, []), (61, .invokestatic 34, 3, [123, 2, 1, 0, 37]), (64, .istore 7, 2, []), (66, .iload 6, 2, []),
  (68, .lookupswitch 322 #[(5, 226), (9, 179), (19, 125), (20, 136), (21, 147), (22, 163), (23, 195), (24, 239), (25, 263), (26, 284), (59, 309), (259, 116), (262, 297)], 116, [390, 294, 247, 193, 204, 215, 231, 263, 307, 331, 352, 377, 184, 365]), (184, .aload_n 0, 1, []), (185, .iload 7, 2, []), (187, .invokevirtual 51, 3, [49, 2, 2, 3, 680]), (190, .goto 221, 3, [411]), (193, .aload_n 0, 1, []), (194, .aload_n 1, 1, []), (195, .getfield 55, 3, [0, 7, 1, 42]),
  (198, .invokevirtual 51, 3, [49, 2, 2, 3, 680]), (201, .goto 210, 3, [411]), (204, .aload_n 0, 1, []), (205, .aload_n 1, 1, []), (206, .invokevirtual 58, 3, [6, 1, 2, 0, 687]), (209, .invokevirtual 51, 3, [49, 2, 2, 3, 680]), (212, .goto 199, 3, [411]), (215, .aload_n 0, 1, []),
  (216, .aload_n 1, 1, []), (217, .iload 7, 2, []), (219, .invokevirtual 61, 3, [1, 2, 2, 0, 688]), (222, .getfield 65, 3, [4, 5, 1, 43]), (225, .invokevirtual 51, 3, [49, 2, 2, 3, 680]), (228, .goto 183, 3, [411]), (231, .aload_n 0, 1, []), (232, .aload_n 1, 1, []),
  (233, .iload 7, 2, []), (235, .invokevirtual 61, 3, [1, 2, 2, 0, 688]), (238, .getfield 70, 3, [4, 6, 1, 44]), (241, .invokevirtual 51, 3, [49, 2, 2, 3, 680]), (244, .goto 167, 3, [411]), (247, .aload_n 0, 1, []), (248, .aload_n 1, 1, []), (249, .iload 7, 2, []),
  (251, .invokevirtual 61, 3, [1, 2, 2, 0, 688]), (254, .getfield 73, 3, [4, 7, 1, 45]), (257, .invokevirtual 51, 3, [49, 2, 2, 3, 680]), (260, .goto 151, 3, [411]), (263, .aload_n 0, 1, []), (264, .iload 4, 2, []), (266, .ifCond .ge 7, 3, [273]), (269, .iconst 0, 1, []),
  (270, .goto 18, 3, [288]), (273, .aload_n 3, 1, []), (274, .iload 4, 2, []), (276, .invokevirtual 76, 3, [87, 2, 2, 8, 689]), (279, .aload_n 1, 1, []), (280, .iload 7, 2, []), (282, .iload 4, 2, []), (284, .invokevirtual 80, 3, [11, 3, 2, 0, 690]),
  (287, .isub, 1, []), (288, .invokevirtual 51, 3, [49, 2, 2, 3, 680]), (291, .goto 120, 3, [411]), (294, .aload_n 0, 1, []), (295, .aload_n 3, 1, []), (296, .iload 7, 2, []), (298, .invokevirtual 76, 3, [87, 2, 2, 8, 689]), (301, .invokevirtual 51, 3, [49, 2, 2, 3, 680]),
  (304, .goto 107, 3, [411]), (307, .aload_n 0, 1, []), (308, .aload_n 1, 1, []), (309, .iload 7, 2, []), (311, .invokevirtual 61, 3, [1, 2, 2, 0, 688]), (314, .getfield 84, 3, [4, 2, 1, 46]), (317, .ifCond .eq 7, 3, [324]), (320, .iconst 1, 1, []),
  (321, .goto 4, 3, [325]), (324, .iconst 0, 1, []), (325, .invokevirtual 51, 3, [49, 2, 2, 3, 680]), (328, .goto 83, 3, [411]), (331, .aload_n 0, 1, []), (332, .aload_n 1, 1, []), (333, .getfield 88, 3, [0, 11, 1, 47]), (336, .iload 7, 2, []),
  (338, .if_icmp .ne 7, 3, [345]), (341, .iconst 1, 1, []), (342, .goto 4, 3, [346]), (345, .iconst 0, 1, []), (346, .invokevirtual 51, 3, [49, 2, 2, 3, 680]), (349, .goto 62, 3, [411]), (352, .aload_n 0, 1, []), (353, .iconst 1, 1, []),
  (354, .aload_n 0, 1, []), (355, .invokevirtual 91, 3, [50, 1, 2, 3, 691]), (358, .isub, 1, []), (359, .invokevirtual 51, 3, [49, 2, 2, 3, 680]), (362, .goto 49, 3, [411]), (365, .aload_n 0, 1, []), (366, .aload_n 0, 1, []), (367, .invokevirtual 91, 3, [50, 1, 2, 3, 691]),
  (370, .ineg, 1, []), (371, .invokevirtual 51, 3, [49, 2, 2, 3, 680]), (374, .goto 37, 3, [411]), (377, .aload_n 0, 1, []), (378, .invokevirtual 91, 3, [50, 1, 2, 3, 691]), (381, .ifCond .eq 7, 3, [388]), (384, .iconst 1, 1, []), (385, .goto 4, 3, [389]),
  (388, .iconst 0, 1, []), (389, .ireturn, 1, [2]), (390, .aload_n 0, 1, []), (391, .invokevirtual 91, 3, [50, 1, 2, 3, 691]), (394, .istore 8, 2, []), (396, .aload_n 0, 1, []), (397, .iload 6, 2, []), (399, .aload_n 0, 1, []),
  (400, .invokevirtual 91, 3, [50, 1, 2, 3, 691]), (403, .iload 8, 2, []), (405, .invokestatic 94, 3, [51, 3, 0, 0, 695]), (408, .invokevirtual 51, 3, [49, 2, 2, 3, 680]), (411, .iinc 5 1, 3, []), (414, .goto (-388), 3, [26]), (417, .iconst 0, 1, []), (418, .ireturn, 1, [2])
  ]
def tb_49 : List MRow := [
  (0, .aload_n 0, 1, []), (1, .getfield 9, 3, [3, 0, 0, 317]), (4, .aload_n 0, 1, []), (5, .getfield 25, 3, [3, 1, 0, 318]), (8, .iload_n 1, 1, []), (9, .invokestatic 98, 3, [124, 3, 1, 0, 48]), (12, .aload_n 0, 1, []), (13, .dup, 1, []),
  (14, .getfield 25, 3, [3, 1, 0, 318]), (17, .iconst 1, 1, []), (18, .iadd, 1, []), (19, .putfield 25, 3, [3, 1, 0, 318]), (22, .return_, 1, [])
  ]
def tb_50 : List MRow := [
  (0, .aload_n 0, 1, []), (1, .dup, 1, []), (2, .getfield 25, 3, [3, 1, 0, 318]), (5, .iconst 1, 1, []), (6, .isub, 1, []), (7, .putfield 25, 3, [3, 1, 0, 318]), (10, .aload_n 0, 1, []), (11, .getfield 9, 3, [3, 0, 0, 317]),
  (14, .aload_n 0, 1, []), (15, .getfield 25, 3, [3, 1, 0, 318]), (18, .invokestatic 34, 3, [123, 2, 1, 0, 37]), (21, .ireturn, 1, [0])
  ]
def tb_51 : List MRow := [
  (0, .iload_n 0, 1, []), (1, .lookupswitch 202 #[(27, 198), (29, 131), (30, 137), (42, 115), (43, 107), (45, 111), (47, 119), (60, 143), (61, 165), (62, 154), (256, 176), (257, 187)], 107, [203, 199, 132, 138, 116, 108, 112, 120, 144, 166, 155, 177, 188]), (108, .iload_n 1, 1, []), (109, .iload_n 2, 1, []), (110, .iadd, 1, []), (111, .ireturn, 1, [0]), (112, .iload_n 1, 1, []), (113, .iload_n 2, 1, []),
  (114, .isub, 1, []), (115, .ireturn, 1, [0]), (116, .iload_n 1, 1, []), (117, .iload_n 2, 1, []), (118, .imul, 1, []), (119, .ireturn, 1, [0]), (120, .iload_n 2, 1, []), (121, .ifCond .ne 7, 3, [128]),
  (124, .iconst 0, 1, []), (125, .goto 6, 3, [131]), (128, .iload_n 1, 1, []), (129, .iload_n 2, 1, []), (130, .idiv, 1, []), (131, .ireturn, 1, [0]), (132, .iload_n 1, 1, []), (133, .iload_n 2, 1, []),
  (134, .invokestatic 102, 3, [182, 2, 0, 0, 698]), (137, .ireturn, 1, [0]), (138, .iload_n 1, 1, []), (139, .iload_n 2, 1, []), (140, .invokestatic 107, 3, [181, 2, 0, 0, 699]), (143, .ireturn, 1, [0]), (144, .iload_n 1, 1, []), (145, .iload_n 2, 1, []),
  (146, .if_icmp .ge 7, 3, [153]), (149, .iconst 1, 1, []), (150, .goto 4, 3, [154]), (153, .iconst 0, 1, []), (154, .ireturn, 1, [0]), (155, .iload_n 1, 1, []), (156, .iload_n 2, 1, []), (157, .if_icmp .le 7, 3, [164]),
  (160, .iconst 1, 1, []), (161, .goto 4, 3, [165]), (164, .iconst 0, 1, []), (165, .ireturn, 1, [0]), (166, .iload_n 1, 1, []), (167, .iload_n 2, 1, []), (168, .if_icmp .ne 7, 3, [175]), (171, .iconst 1, 1, []),
  (172, .goto 4, 3, [176]), (175, .iconst 0, 1, []), (176, .ireturn, 1, [0]), (177, .iload_n 1, 1, []), (178, .iload_n 2, 1, []), (179, .if_icmp .gt 7, 3, [186]), (182, .iconst 1, 1, []), (183, .goto 4, 3, [187]),
  (186, .iconst 0, 1, []), (187, .ireturn, 1, [0]), (188, .iload_n 1, 1, []), (189, .iload_n 2, 1, []), (190, .if_icmp .lt 7, 3, [197]), (193, .iconst 1, 1, []), (194, .goto 4, 3, [198]), (197, .iconst 0, 1, []),
  (198, .ireturn, 1, [0]), (199, .iload_n 1, 1, []), (200, .iload_n 2, 1, []), (201, .iand, 1, []), (202, .ireturn, 1, [0]), (203, .iload_n 1, 1, []), (204, .iload_n 2, 1, []), (205, .ior, 1, []),
  (206, .ireturn, 1, [0])
  ]
def tb_52 : List MRow := [
  (0, .aload_n 0, 1, []), (1, .invokespecial 3, 3, [1002, 330]), (4, .aload_n 0, 1, []), (5, .iconst 5, 1, []), (6, .newarray .int, 2, [50]), (8, .putfield 9, 3, [4, 0, 0, 331]), (11, .aload_n 0, 1, []), (12, .bipush 10, 2, []),
  (14, .newarray .int, 2, [50]), (16, .putfield 15, 3, [4, 1, 0, 334]), (19, .return_, 1, [])
  ]
def tb_53 : List MRow := [
  (0, .aload_n 0, 1, []), (1, .aload_n 1, 1, []), (2, .iconst 3, 1, []), (3, .iload_n 2, 1, []), (4, .invokevirtual 18, 3, [86, 3, 2, 8, 1310]), (7, .putfield 24, 3, [4, 2, 0, 337]), (10, .aload_n 0, 1, []), (11, .iconst 0, 1, []),
  (12, .putfield 28, 3, [4, 3, 0, 341]), (15, .aload_n 0, 1, []), (16, .iconst 1, 1, []), (17, .putfield 31, 3, [4, 4, 0, 343]), (20, .aload_n 0, 1, []), (21, .iconst 0, 1, []), (22, .putfield 34, 3, [4, 5, 0, 346]), (25, .aload_n 0, 1, []),
  (26, .iconst 0, 1, []), (27, .putfield 38, 3, [4, 6, 0, 350]), (30, .aload_n 0, 1, []), (31, .aload_n 1, 1, []), (32, .getfield 41, 3, [8, 8, 1, 49]), (35, .iload_n 2, 1, []), (36, .invokestatic 44, 3, [123, 2, 1, 0, 50]), (39, .putfield 48, 3, [4, 7, 0, 354]),
  (42, .aload_n 0, 1, []), (43, .iconst 0, 1, []), (44, .putfield 50, 3, [4, 8, 0, 358]), (47, .aload_n 0, 1, []), (48, .iconst 0, 1, []), (49, .putfield 53, 3, [4, 9, 0, 361]), (52, .aload_n 0, 1, []), (53, .iconst 0, 1, []),
  (54, .putfield 56, 3, [4, 10, 0, 364]), (57, .aload_n 0, 1, []), (58, .getfield 15, 3, [4, 1, 0, 334]), (61, .iconst 0, 1, []), (62, .invokestatic 59, 3, [187, 2, 0, 0, 1312]), (65, .iconst 0, 1, []), (66, .istore_n 3, 1, []), (67, .iload_n 3, 1, []),
  (68, .iconst 5, 1, []), (69, .if_icmp .ge 29, 3, [98]), (72, .aload_n 0, 1, []), (73, .getfield 9, 3, [4, 0, 0, 331]), (76, .iload_n 3, 1, []), (77, .aload_n 1, 1, []), (78, .getfield 65, 3, [8, 9, 1, 51]), (81, .iload_n 2, 1, []),
  (82, .iconst 5, 1, []), (83, .imul, 1, []), (84, .iload_n 3, 1, []), (85, .iadd, 1, []), (86, .invokestatic 44, 3, [123, 2, 1, 0, 50]), (89, .invokestatic 66, 3, [124, 3, 1, 0, 52]), (92, .iinc 3 1, 3, []), (95, .goto (-28), 3, [67]),
  (98, .return_, 1, [])
  ]
def tb_54 : List MRow := [
  (0, .aload_n 0, 1, []), (1, .aload_n 1, 1, []), (2, .getfield 24, 3, [4, 2, 0, 337]), (5, .putfield 24, 3, [4, 2, 0, 337]), (8, .aload_n 0, 1, []), (9, .aload_n 1, 1, []), (10, .getfield 28, 3, [4, 3, 0, 341]), (13, .putfield 28, 3, [4, 3, 0, 341]),
  (16, .aload_n 0, 1, []), (17, .aload_n 1, 1, []), (18, .getfield 31, 3, [4, 4, 0, 343]), (21, .putfield 31, 3, [4, 4, 0, 343]), (24, .aload_n 0, 1, []), (25, .aload_n 1, 1, []), (26, .getfield 34, 3, [4, 5, 0, 346]), (29, .putfield 34, 3, [4, 5, 0, 346]),
  (32, .aload_n 0, 1, []), (33, .aload_n 1, 1, []), (34, .getfield 38, 3, [4, 6, 0, 350]), (37, .putfield 38, 3, [4, 6, 0, 350]), (40, .aload_n 0, 1, []), (41, .aload_n 1, 1, []), (42, .getfield 48, 3, [4, 7, 0, 354]), (45, .putfield 48, 3, [4, 7, 0, 354]),
  (48, .aload_n 0, 1, []), (49, .aload_n 1, 1, []), (50, .getfield 50, 3, [4, 8, 0, 358]), (53, .putfield 50, 3, [4, 8, 0, 358]), (56, .aload_n 0, 1, []), (57, .aload_n 1, 1, []), (58, .getfield 53, 3, [4, 9, 0, 361]), (61, .putfield 53, 3, [4, 9, 0, 361]),
  (64, .aload_n 0, 1, []), (65, .aload_n 1, 1, []), (66, .getfield 56, 3, [4, 10, 0, 364]), (69, .putfield 56, 3, [4, 10, 0, 364]), (72, .aload_n 1, 1, []), (73, .getfield 9, 3, [4, 0, 0, 331]), (76, .aload_n 0, 1, []), (77, .getfield 9, 3, [4, 0, 0, 331]),
  (80, .invokestatic 70, 3, [125, 2, 1, 0, 53]), (83, .aload_n 1, 1, []), (84, .getfield 15, 3, [4, 1, 0, 334]), (87, .aload_n 0, 1, []), (88, .getfield 15, 3, [4, 1, 0, 334]), (91, .invokestatic 70, 3, [125, 2, 1, 0, 53]), (94, .return_, 1, [])
  ]
def tb_55 : List MRow := [
  (0, .aload_n 0, 1, []), (1, .invokespecial 3, 3, [1002, 100]), (4, .aload_n 0, 1, []), (5, .sipush 2000, 3, []), (8, .newarray .int, 2, [50]), (10, .putfield 9, 3, [5, 0, 0, 101]), (13, .return_, 1, [])
  ]
def tb_56 : List MRow := [
  (0, .bipush 24, 2, []), (2, .istore_n 2, 1, []), (3, .iload_n 2, 1, []), (4, .ifCond .lt 37, 3, [41]), (7, .aload_n 0, 1, []), (8, .getfield 9, 3, [5, 0, 0, 101]), (11, .aload_n 0, 1, []), (12, .getfield 15, 3, [5, 1, 0, 103]),
  (15, .iload_n 1, 1, []), (16, .iload_n 2, 1, []), (17, .ishr, 1, []), (18, .sipush 255, 3, []), (21, .iand, 1, []), (22, .invokestatic 19, 3, [124, 3, 1, 0, 54]), (25, .aload_n 0, 1, []), (26, .dup, 1, []),
  (27, .getfield 15, 3, [5, 1, 0, 103]), (30, .iconst 1, 1, []), (31, .iadd, 1, []), (32, .putfield 15, 3, [5, 1, 0, 103]), (35, .iinc 2 (-8), 3, []), (38, .goto (-35), 3, [3]), (41, .return_, 1, [])
  ]
def tb_57 : List MRow := [
  (0, .iload_n 1, 1, []), (1, .ifCond .lt 29, 3, [30]), (4, .iload_n 1, 1, []), (5, .aload_n 0, 1, []), (6, .getfield 15, 3, [5, 1, 0, 103]), (9, .if_icmp .ge 21, 3, [30]), (12, .iload_n 1, 1, []), (13, .aload_n 0, 1, []),
  (14, .getfield 9, 3, [5, 0, 0, 101]), (17, .arraylength, 1, []), (18, .if_icmp .ge 12, 3, [30]), (21, .aload_n 0, 1, []), (22, .getfield 9, 3, [5, 0, 0, 101]), (25, .iload_n 1, 1, []), (26, .iaload, 1, []), (27, .goto 4, 3, [31]),
  (30, .iconst (-1), 1, []), (31, .ireturn, 1, [0])
  ]
def tb_58 : List MRow := [
  (0, .aload_n 0, 1, []), (1, .iload_n 1, 1, []), (2, .invokevirtual 23, 3, [57, 2, 2, 5, 1031]), (5, .istore_n 2, 1, []), (6, .iload_n 2, 1, []), (7, .bipush 97, 2, []), (9, .if_icmp .lt 13, 3, [22]), (12, .iload_n 2, 1, []),
  (13, .bipush 122, 2, []), (15, .if_icmp .gt 7, 3, [22]), (18, .iconst 1, 1, []), (19, .goto 4, 3, [23]), (22, .iconst 0, 1, []), (23, .ireturn, 1, [2])
  ]
def tb_59 : List MRow := [
  (0, .aload_n 0, 1, []), (1, .iload_n 1, 1, []), (2, .invokevirtual 23, 3, [57, 2, 2, 5, 1031]), (5, .istore_n 2, 1, []), (6, .iload_n 2, 1, []), (7, .bipush 48, 2, []), (9, .if_icmp .lt 13, 3, [22]), (12, .iload_n 2, 1, []),
  (13, .bipush 57, 2, []), (15, .if_icmp .gt 7, 3, [22]), (18, .iconst 1, 1, []), (19, .goto 4, 3, [23]), (22, .iconst 0, 1, []), (23, .ireturn, 1, [2])
  ]
def tb_60 : List MRow := [
  (0, .aload_n 0, 1, []), (1, .iload_n 1, 1, []), (2, .invokevirtual 23, 3, [57, 2, 2, 5, 1031]), (5, .istore_n 2, 1, []), (6, .iload_n 2, 1, []), (7, .bipush 32, 2, []), (9, .if_icmp .eq 9, 3, [18]), (12, .iload_n 2, 1, []),
  (13, .bipush 10, 2, []), (15, .if_icmp .ne 7, 3, [22]), (18, .iconst 1, 1, []), (19, .goto 4, 3, [23]), (22, .iconst 0, 1, []), (23, .ireturn, 1, [2])
  ]
def tb_61 : List MRow := [
  (0, .aload_n 0, 1, []), (1, .invokespecial 3, 3, [1002, 287]), (4, .aload_n 0, 1, []), (5, .bipush 72, 2, []), (7, .newarray .int, 2, [50]), (9, .putfield 9, 3, [6, 2, 0, 290]), (12, .aload_n 0, 1, []), (13, .aload_n 1, 1, []),
  (14, .putfield 15, 3, [6, 0, 0, 288]), (17, .aload_n 0, 1, []), (18, .aload_n 2, 1, []), (19, .putfield 19, 3, [6, 1, 0, 289]), (22, .return_, 1, [])
  ]
def tb_62 : List MRow := [
  (0, .aload_n 0, 1, []), (1, .getfield 19, 3, [6, 1, 0, 289]), (4, .invokevirtual 23, 3, [92, 1, 2, 8, 1230]), (7, .iconst 0, 1, []), (8, .istore_n 1, 1, []), (9, .iload_n 1, 1, []), (10, .aload_n 0, 1, []), (11, .getfield 15, 3, [6, 0, 0, 288]),
  (14, .getfield 28, 3, [7, 6, 1, 55]), (17, .if_icmp .ge 26, 3, [43]), (20, .aload_n 0, 1, []), (21, .iload_n 1, 1, []), (22, .invokevirtual 34, 3, [63, 2, 2, 6, 1237]), (25, .istore_n 2, 1, []), (26, .iload_n 2, 1, []), (27, .ifCond .eq 10, 3, [37]),
  (30, .aload_n 0, 1, []), (31, .iload_n 1, 1, []), (32, .putfield 38, 3, [6, 4, 0, 292]), (35, .iload_n 2, 1, []), (36, .ireturn, 1, [0]), (37, .iinc 1 1, 3, []), (40, .goto (-31), 3, [9]), (43, .aload_n 0, 1, []),
  (44, .getfield 19, 3, [6, 1, 0, 289]), (47, .aload_n 0, 1, []), (48, .getfield 15, 3, [6, 0, 0, 288]), (51, .invokevirtual 41, 3, [93, 2, 2, 8, 1280]), (54, .iconst 0, 1, []), (55, .ireturn, 1, [0])
  ]
def tb_63 : List MRow := [
  (0, .aload_n 0, 1, []), (1, .getfield 15, 3, [6, 0, 0, 288]), (4, .getfield 45, 3, [7, 4, 1, 56]), (7, .iload_n 1, 1, []), (8, .invokestatic 48, 3, [123, 2, 1, 0, 57]), (11, .istore_n 2, 1, []), (12, .iload_n 2, 1, []), (13, .bipush 14, 2, []),
  (15, .if_icmp .lt 10, 3, [25]), (18, .aload_n 0, 1, []), (19, .iload_n 1, 1, []), (20, .iload_n 2, 1, []), (21, .invokevirtual 52, 3, [64, 3, 2, 6, 1242]), (24, .ireturn, 1, [0]), (25, .iload_n 2, 1, []), (26, .tableswitch 261 1 13 #[66, 74, 83, 92, 101, 109, 115, 134, 157, 184, 212, 231, 246], 66, [287, 92, 100, 109, 118, 127, 135, 141, 160, 183, 210, 238, 257, 272]),
  (92, .aload_n 0, 1, []), (93, .iconst 0, 1, []), (94, .iconst 5, 1, []), (95, .iload_n 1, 1, []), (96, .invokevirtual 56, 3, [67, 4, 2, 6, 1255]), (99, .ireturn, 1, [0]), (100, .aload_n 0, 1, []), (101, .iconst 1, 1, []),
  (102, .bipush 10, 2, []), (104, .iload_n 1, 1, []), (105, .invokevirtual 56, 3, [67, 4, 2, 6, 1255]), (108, .ireturn, 1, [0]), (109, .aload_n 0, 1, []), (110, .iconst 2, 1, []), (111, .bipush 12, 2, []), (113, .iload_n 1, 1, []),
  (114, .invokevirtual 56, 3, [67, 4, 2, 6, 1255]), (117, .ireturn, 1, [0]), (118, .aload_n 0, 1, []), (119, .iconst 3, 1, []), (120, .bipush 6, 2, []), (122, .iload_n 1, 1, []), (123, .invokevirtual 56, 3, [67, 4, 2, 6, 1255]), (126, .ireturn, 1, [0]),
  (127, .aload_n 0, 1, []), (128, .iconst 4, 1, []), (129, .iconst 5, 1, []), (130, .iload_n 1, 1, []), (131, .invokevirtual 56, 3, [67, 4, 2, 6, 1255]), (134, .ireturn, 1, [0]), (135, .aload_n 0, 1, []), (136, .iload_n 1, 1, []),
  (137, .invokevirtual 60, 3, [68, 2, 2, 6, 1268]), (140, .ireturn, 1, [0]), (141, .aload_n 0, 1, []), (142, .iconst 0, 1, []), (143, .iload_n 1, 1, []), (144, .aload_n 0, 1, []), (145, .getfield 19, 3, [6, 1, 0, 289]), (148, .getfield 63, 3, [8, 2, 1, 58]),
  (151, .aload_n 0, 1, []), (152, .iconst 1, 1, []), (153, .invokevirtual 66, 3, [65, 2, 2, 6, 1246]), (156, .invokevirtual 69, 3, [69, 5, 2, 6, 1272]), (159, .ireturn, 1, [0]), (160, .aload_n 0, 1, []), (161, .aload_n 0, 1, []), (162, .iconst 0, 1, []),
  (163, .iload_n 1, 1, []), (164, .invokevirtual 73, 3, [66, 3, 2, 6, 1259]), (167, .putfield 76, 3, [6, 3, 0, 291]), (170, .aload_n 0, 1, []), (171, .getfield 76, 3, [6, 3, 0, 291]), (174, .ifCond .ge 7, 3, [181]), (177, .iconst 3, 1, []), (178, .goto 4, 3, [182]),
  (181, .iconst 0, 1, []), (182, .ireturn, 1, [0]), (183, .aload_n 0, 1, []), (184, .iconst 1, 1, []), (185, .iload_n 1, 1, []), (186, .aload_n 0, 1, []), (187, .getfield 19, 3, [6, 1, 0, 289]), (190, .getfield 79, 3, [8, 6, 1, 59]),
  (193, .aload_n 0, 1, []), (194, .getfield 19, 3, [6, 1, 0, 289]), (197, .getfield 82, 3, [8, 5, 1, 60]), (200, .aload_n 0, 1, []), (201, .iconst 2, 1, []), (202, .invokevirtual 66, 3, [65, 2, 2, 6, 1246]), (205, .iconst 4, 1, []), (206, .invokevirtual 85, 3, [70, 7, 2, 6, 1276]),
  (209, .ireturn, 1, [0]), (210, .aload_n 0, 1, []), (211, .iconst 2, 1, []), (212, .iload_n 1, 1, []), (213, .aload_n 0, 1, []), (214, .getfield 19, 3, [6, 1, 0, 289]), (217, .getfield 89, 3, [8, 13, 1, 61]), (220, .aload_n 0, 1, []),
  (221, .getfield 19, 3, [6, 1, 0, 289]), (224, .getfield 92, 3, [8, 12, 1, 62]), (227, .aload_n 0, 1, []), (228, .iconst 4, 1, []), (229, .invokevirtual 66, 3, [65, 2, 2, 6, 1246]), (232, .bipush 8, 2, []), (234, .invokevirtual 85, 3, [70, 7, 2, 6, 1276]), (237, .ireturn, 1, [0]),
  (238, .aload_n 0, 1, []), (239, .iconst 3, 1, []), (240, .iload_n 1, 1, []), (241, .aload_n 0, 1, []), (242, .getfield 19, 3, [6, 1, 0, 289]), (245, .getfield 95, 3, [8, 15, 1, 63]), (248, .aload_n 0, 1, []), (249, .iconst 5, 1, []),
  (250, .invokevirtual 66, 3, [65, 2, 2, 6, 1246]), (253, .invokevirtual 69, 3, [69, 5, 2, 6, 1272]), (256, .ireturn, 1, [0]), (257, .aload_n 0, 1, []), (258, .iconst 3, 1, []), (259, .iload_n 1, 1, []), (260, .aload_n 0, 1, []), (261, .getfield 15, 3, [6, 0, 0, 288]),
  (264, .getfield 98, 3, [7, 5, 1, 64]), (267, .iload_n 1, 1, []), (268, .invokevirtual 69, 3, [69, 5, 2, 6, 1272]), (271, .ireturn, 1, [0]), (272, .aload_n 0, 1, []), (273, .iconst 2, 1, []), (274, .iload_n 1, 1, []), (275, .aload_n 0, 1, []),
  (276, .getfield 15, 3, [6, 0, 0, 288]), (279, .getfield 98, 3, [7, 5, 1, 64]), (282, .iload_n 1, 1, []), (283, .invokevirtual 69, 3, [69, 5, 2, 6, 1272]), (286, .ireturn, 1, [0]), (287, .iconst 0, 1, []), (288, .ireturn, 1, [0])
  ]
def tb_64 : List MRow := [
  (0, .iload_n 2, 1, []), (1, .tableswitch 196 14 20 #[43, 64, 85, 106, 126, 154, 175], 43, [197, 44, 65, 86, 107, 127, 155, 176]), (44, .aload_n 0, 1, []), (45, .iload_n 1, 1, []), (46, .iconst 0, 1, []), (47, .bipush 9, 2, []), (49, .aload_n 0, 1, []), (50, .getfield 19, 3, [6, 1, 0, 289]),
  (53, .getfield 101, 3, [8, 1, 1, 65]), (56, .aload_n 0, 1, []), (57, .iconst 0, 1, []), (58, .invokevirtual 66, 3, [65, 2, 2, 6, 1246]), (61, .invokevirtual 104, 3, [71, 6, 2, 6, 1250]), (64, .ireturn, 1, [0]), (65, .aload_n 0, 1, []), (66, .iload_n 1, 1, []),
  (67, .iconst 1, 1, []), (68, .bipush 9, 2, []), (70, .aload_n 0, 1, []), (71, .getfield 19, 3, [6, 1, 0, 289]), (74, .getfield 108, 3, [8, 3, 1, 66]), (77, .aload_n 0, 1, []), (78, .iconst 1, 1, []), (79, .invokevirtual 66, 3, [65, 2, 2, 6, 1246]),
  (82, .invokevirtual 104, 3, [71, 6, 2, 6, 1250]), (85, .ireturn, 1, [0]), (86, .aload_n 0, 1, []), (87, .iload_n 1, 1, []), (88, .iconst 0, 1, []), (89, .bipush 9, 2, []), (91, .aload_n 0, 1, []), (92, .getfield 19, 3, [6, 1, 0, 289]),
  (95, .getfield 111, 3, [8, 4, 1, 67]), (98, .aload_n 0, 1, []), (99, .iconst 1, 1, []), (100, .invokevirtual 66, 3, [65, 2, 2, 6, 1246]), (103, .invokevirtual 104, 3, [71, 6, 2, 6, 1250]), (106, .ireturn, 1, [0]), (107, .aload_n 0, 1, []), (108, .iload_n 1, 1, []),
  (109, .iconst 0, 1, []), (110, .iconst 3, 1, []), (111, .aload_n 0, 1, []), (112, .getfield 19, 3, [6, 1, 0, 289]), (115, .getfield 114, 3, [8, 8, 1, 68]), (118, .aload_n 0, 1, []), (119, .iconst 3, 1, []), (120, .invokevirtual 66, 3, [65, 2, 2, 6, 1246]),
  (123, .invokevirtual 104, 3, [71, 6, 2, 6, 1250]), (126, .ireturn, 1, [0]), (127, .aload_n 0, 1, []), (128, .iload_n 1, 1, []), (129, .iconst 0, 1, []), (130, .bipush 20, 2, []), (132, .aload_n 0, 1, []), (133, .getfield 19, 3, [6, 1, 0, 289]),
  (136, .getfield 117, 3, [8, 9, 1, 69]), (139, .aload_n 0, 1, []), (140, .iconst 3, 1, []), (141, .invokevirtual 66, 3, [65, 2, 2, 6, 1246]), (144, .iconst 5, 1, []), (145, .imul, 1, []), (146, .aload_n 0, 1, []), (147, .getfield 76, 3, [6, 3, 0, 291]),
  (150, .iadd, 1, []), (151, .invokevirtual 104, 3, [71, 6, 2, 6, 1250]), (154, .ireturn, 1, [0]), (155, .aload_n 0, 1, []), (156, .iload_n 1, 1, []), (157, .iconst 0, 1, []), (158, .bipush 99, 2, []), (160, .aload_n 0, 1, []),
  (161, .getfield 19, 3, [6, 1, 0, 289]), (164, .getfield 120, 3, [8, 10, 1, 70]), (167, .aload_n 0, 1, []), (168, .iconst 4, 1, []), (169, .invokevirtual 66, 3, [65, 2, 2, 6, 1246]), (172, .invokevirtual 104, 3, [71, 6, 2, 6, 1250]), (175, .ireturn, 1, [0]), (176, .aload_n 0, 1, []),
  (177, .iload_n 1, 1, []), (178, .iconst 1, 1, []), (179, .bipush 9, 2, []), (181, .aload_n 0, 1, []), (182, .getfield 19, 3, [6, 1, 0, 289]), (185, .getfield 123, 3, [8, 11, 1, 71]), (188, .aload_n 0, 1, []), (189, .iconst 4, 1, []),
  (190, .invokevirtual 66, 3, [65, 2, 2, 6, 1246]), (193, .invokevirtual 104, 3, [71, 6, 2, 6, 1250]), (196, .ireturn, 1, [0]), (197, .iconst 0, 1, []), (198, .ireturn, 1, [0])
  ]
def tb_65 : List MRow := [
  (0, .aload_n 0, 1, []), (1, .getfield 19, 3, [6, 1, 0, 289]), (4, .getfield 126, 3, [8, 0, 1, 72]), (7, .iload_n 1, 1, []), (8, .invokestatic 48, 3, [123, 2, 1, 0, 57]), (11, .iconst 1, 1, []), (12, .isub, 1, []), (13, .ireturn, 1, [0])
  ]
def tb_66 : List MRow := [
  (0, .iconst 0, 1, []), (1, .istore_n 3, 1, []), (2, .iload_n 3, 1, []), (3, .aload_n 0, 1, []), (4, .getfield 19, 3, [6, 1, 0, 289]), (7, .getfield 126, 3, [8, 0, 1, 72]), (10, .iload_n 1, 1, []), (11, .invokestatic 48, 3, [123, 2, 1, 0, 57]),
  (14, .if_icmp .ge 35, 3, [49]), (17, .aload_n 0, 1, []), (18, .getfield 15, 3, [6, 0, 0, 288]), (21, .iload_n 2, 1, []), (22, .aload_n 0, 1, []), (23, .getfield 9, 3, [6, 2, 0, 290]), (26, .iload_n 1, 1, []), (27, .bipush 12, 2, []),
  (29, .imul, 1, []), (30, .iload_n 3, 1, []), (31, .iadd, 1, []), (32, .invokestatic 48, 3, [123, 2, 1, 0, 57]), (35, .invokevirtual 129, 3, [83, 3, 2, 7, 1263]), (38, .ifCond .eq 5, 3, [43]), (41, .iload_n 3, 1, []), (42, .ireturn, 1, [0]),
  (43, .iinc 3 1, 3, []), (46, .goto (-44), 3, [2]), (49, .iconst (-1), 1, []), (50, .ireturn, 1, [0])
  ]
def tb_67 : List MRow := [
  (0, .aload_n 0, 1, []), (1, .iload_n 1, 1, []), (2, .iload_n 3, 1, []), (3, .invokevirtual 73, 3, [66, 3, 2, 6, 1259]), (6, .ifCond .lt 5, 3, [11]), (9, .iconst 2, 1, []), (10, .ireturn, 1, [0]), (11, .aload_n 0, 1, []),
  (12, .getfield 19, 3, [6, 1, 0, 289]), (15, .getfield 126, 3, [8, 0, 1, 72]), (18, .iload_n 1, 1, []), (19, .invokestatic 48, 3, [123, 2, 1, 0, 57]), (22, .istore 4, 2, []), (24, .iload 4, 2, []), (26, .iload_n 2, 1, []), (27, .if_icmp .lt 5, 3, [32]),
  (30, .iconst 4, 1, []), (31, .ireturn, 1, [0]), (32, .aload_n 0, 1, []), (33, .getfield 9, 3, [6, 2, 0, 290]), (36, .iload_n 1, 1, []), (37, .bipush 12, 2, []), (39, .imul, 1, []), (40, .iload 4, 2, []),
  (42, .iadd, 1, []), (43, .iload_n 3, 1, []), (44, .invokestatic 133, 3, [124, 3, 1, 0, 73]), (47, .aload_n 0, 1, []), (48, .getfield 19, 3, [6, 1, 0, 289]), (51, .getfield 126, 3, [8, 0, 1, 72]), (54, .iload_n 1, 1, []), (55, .iload 4, 2, []),
  (57, .iconst 1, 1, []), (58, .iadd, 1, []), (59, .invokestatic 133, 3, [124, 3, 1, 0, 73]), (62, .iconst 0, 1, []), (63, .ireturn, 1, [0])
  ]
def tb_68 : List MRow := [
  (0, .aload_n 0, 1, []), (1, .getfield 19, 3, [6, 1, 0, 289]), (4, .getfield 126, 3, [8, 0, 1, 72]), (7, .iconst 5, 1, []), (8, .invokestatic 48, 3, [123, 2, 1, 0, 57]), (11, .istore_n 2, 1, []), (12, .iload_n 2, 1, []), (13, .bipush 20, 2, []),
  (15, .if_icmp .lt 5, 3, [20]), (18, .iconst 4, 1, []), (19, .ireturn, 1, [0]), (20, .aload_n 0, 1, []), (21, .getfield 19, 3, [6, 1, 0, 289]), (24, .getfield 137, 3, [8, 14, 1, 74]), (27, .iload_n 2, 1, []), (28, .aload_n 0, 1, []),
  (29, .getfield 15, 3, [6, 0, 0, 288]), (32, .getfield 140, 3, [7, 1, 1, 75]), (35, .iload_n 1, 1, []), (36, .invokestatic 48, 3, [123, 2, 1, 0, 57]), (39, .invokestatic 133, 3, [124, 3, 1, 0, 73]), (42, .aload_n 0, 1, []), (43, .getfield 19, 3, [6, 1, 0, 289]), (46, .getfield 143, 3, [8, 16, 1, 76]),
  (49, .iload_n 2, 1, []), (50, .aload_n 0, 1, []), (51, .getfield 15, 3, [6, 0, 0, 288]), (54, .getfield 98, 3, [7, 5, 1, 64]), (57, .iload_n 1, 1, []), (58, .invokestatic 48, 3, [123, 2, 1, 0, 57]), (61, .invokestatic 133, 3, [124, 3, 1, 0, 73]), (64, .aload_n 0, 1, []),
  (65, .getfield 19, 3, [6, 1, 0, 289]), (68, .getfield 126, 3, [8, 0, 1, 72]), (71, .iconst 5, 1, []), (72, .iload_n 2, 1, []), (73, .iconst 1, 1, []), (74, .iadd, 1, []), (75, .invokestatic 133, 3, [124, 3, 1, 0, 73]), (78, .iconst 0, 1, []),
  (79, .ireturn, 1, [0])
  ]
def tb_69 : List MRow := [
  (0, .aload_n 0, 1, []), (1, .iload_n 1, 1, []), (2, .iload_n 2, 1, []), (3, .invokevirtual 73, 3, [66, 3, 2, 6, 1259]), (6, .istore 5, 2, []), (8, .iload 5, 2, []), (10, .ifCond .ge 5, 3, [15]), (13, .iconst 3, 1, []),
  (14, .ireturn, 1, [0]), (15, .aload_n 3, 1, []), (16, .iload 4, 2, []), (18, .iload 5, 2, []), (20, .invokestatic 133, 3, [124, 3, 1, 0, 73]), (23, .iconst 0, 1, []), (24, .ireturn, 1, [0])
  ]
def tb_70 : List MRow := [
  (0, .aload 4, 2, []), (2, .iload 5, 2, []), (4, .invokestatic 48, 3, [123, 2, 1, 0, 57]), (7, .istore 7, 2, []), (9, .aload_n 0, 1, []), (10, .iload_n 1, 1, []), (11, .iload_n 2, 1, []), (12, .invokevirtual 73, 3, [66, 3, 2, 6, 1259]),
  (15, .istore 8, 2, []), (17, .iload 8, 2, []), (19, .ifCond .ge 5, 3, [24]), (22, .iconst 3, 1, []), (23, .ireturn, 1, [0]), (24, .iload 7, 2, []), (26, .iload 6, 2, []), (28, .if_icmp .lt 5, 3, [33]),
  (31, .iconst 4, 1, []), (32, .ireturn, 1, [0]), (33, .aload_n 3, 1, []), (34, .iload 5, 2, []), (36, .iload 6, 2, []), (38, .imul, 1, []), (39, .iload 7, 2, []), (41, .iadd, 1, []),
  (42, .iload 8, 2, []), (44, .invokestatic 133, 3, [124, 3, 1, 0, 73]), (47, .aload 4, 2, []), (49, .iload 5, 2, []), (51, .iload 7, 2, []), (53, .iconst 1, 1, []), (54, .iadd, 1, []), (55, .invokestatic 133, 3, [124, 3, 1, 0, 73]),
  (58, .iconst 0, 1, []), (59, .ireturn, 1, [0])
  ]
def tb_71 : List MRow := [
  (0, .aload_n 0, 1, []), (1, .getfield 15, 3, [6, 0, 0, 288]), (4, .getfield 98, 3, [7, 5, 1, 64]), (7, .iload_n 1, 1, []), (8, .invokestatic 48, 3, [123, 2, 1, 0, 57]), (11, .istore 6, 2, []), (13, .iload 6, 2, []), (15, .iload_n 2, 1, []),
  (16, .if_icmp .lt 9, 3, [25]), (19, .iload 6, 2, []), (21, .iload_n 3, 1, []), (22, .if_icmp .le 5, 3, [27]), (25, .iconst 5, 1, []), (26, .ireturn, 1, [0]), (27, .aload 4, 2, []), (29, .iload 5, 2, []),
  (31, .iload 6, 2, []), (33, .invokestatic 133, 3, [124, 3, 1, 0, 73]), (36, .iconst 0, 1, []), (37, .ireturn, 1, [0])
  ]
def tb_72 : List MRow := [
  (0, .aload_n 0, 1, []), (1, .invokespecial 3, 3, [1002, 115]), (4, .aload_n 0, 1, []), (5, .sipush 401, 3, []), (8, .newarray .int, 2, [50]), (10, .putfield 9, 3, [7, 1, 0, 117]), (13, .aload_n 0, 1, []), (14, .sipush 401, 3, []),
  (17, .newarray .int, 2, [50]), (19, .putfield 15, 3, [7, 2, 0, 120]), (22, .aload_n 0, 1, []), (23, .sipush 401, 3, []), (26, .newarray .int, 2, [50]), (28, .putfield 18, 3, [7, 3, 0, 122]), (31, .aload_n 0, 1, []), (32, .sipush 401, 3, []),
  (35, .newarray .int, 2, [50]), (37, .putfield 21, 3, [7, 4, 0, 123]), (40, .aload_n 0, 1, []), (41, .sipush 401, 3, []), (44, .newarray .int, 2, [50]), (46, .putfield 24, 3, [7, 5, 0, 126]), (49, .aload_n 0, 1, []), (50, .aload_n 1, 1, []),
  (51, .putfield 27, 3, [7, 0, 0, 116]), (54, .return_, 1, [])
  ]
def tb_73 : List MRow := [
  (0, .iconst 0, 1, []), (1, .istore_n 1, 1, []), (2, .sipush 258, 3, []), (5, .istore_n 2, 1, []), (6, .aload_n 0, 1, []), (7, .iconst 0, 1, []), (8, .putfield 31, 3, [7, 6, 0, 130]), (11, .iconst 0, 1, []),
  (12, .istore_n 3, 1, []), (13, .iload_n 3, 1, []), (14, .sipush 400, 3, []), (17, .if_icmp .gt 137, 3, [154]), (20, .iload_n 2, 1, []), (21, .sipush 260, 3, []), (24, .if_icmp .eq 130, 3, [154]), (27, .iload_n 2, 1, []),
  (28, .sipush 261, 3, []), (31, .if_icmp .eq 123, 3, [154]), (34, .aload_n 0, 1, []), (35, .iload_n 1, 1, []), (36, .invokevirtual 35, 3, [74, 2, 2, 7, 1023]), (39, .istore_n 1, 1, []), (40, .aload_n 0, 1, []), (41, .iload_n 1, 1, []),
  (42, .invokevirtual 39, 3, [75, 2, 2, 7, 1035]), (45, .istore 4, 2, []), (47, .aload_n 0, 1, []), (48, .iload_n 1, 1, []), (49, .iload 4, 2, []), (51, .invokevirtual 42, 3, [78, 3, 2, 7, 1056]), (54, .istore_n 2, 1, []), (55, .iload_n 3, 1, []),
  (56, .sipush 400, 3, []), (59, .if_icmp .ne 14, 3, [73]), (62, .iload_n 2, 1, []), (63, .sipush 260, 3, []), (66, .if_icmp .eq 7, 3, [73]), (69, .sipush 261, 3, []), (72, .istore_n 2, 1, []), (73, .aload_n 0, 1, []),
  (74, .getfield 9, 3, [7, 1, 0, 117]), (77, .iload_n 3, 1, []), (78, .iload_n 2, 1, []), (79, .invokestatic 46, 3, [124, 3, 1, 0, 77]), (82, .aload_n 0, 1, []), (83, .getfield 15, 3, [7, 2, 0, 120]), (86, .iload_n 3, 1, []), (87, .iload_n 1, 1, []),
  (88, .invokestatic 46, 3, [124, 3, 1, 0, 77]), (91, .aload_n 0, 1, []), (92, .getfield 18, 3, [7, 3, 0, 122]), (95, .iload_n 3, 1, []), (96, .iload 4, 2, []), (98, .invokestatic 46, 3, [124, 3, 1, 0, 77]), (101, .aload_n 0, 1, []), (102, .getfield 21, 3, [7, 4, 0, 123]),
  (105, .iload_n 3, 1, []), (106, .iconst 0, 1, []), (107, .invokestatic 46, 3, [124, 3, 1, 0, 77]), (110, .aload_n 0, 1, []), (111, .getfield 24, 3, [7, 5, 0, 126]), (114, .iload_n 3, 1, []), (115, .iload_n 2, 1, []), (116, .sipush 259, 3, []),
  (119, .if_icmp .ne 13, 3, [132]), (122, .aload_n 0, 1, []), (123, .iload_n 1, 1, []), (124, .iload 4, 2, []), (126, .invokevirtual 50, 3, [82, 3, 2, 7, 1162]), (129, .goto 4, 3, [133]), (132, .iconst 0, 1, []), (133, .invokestatic 46, 3, [124, 3, 1, 0, 77]),
  (136, .iload_n 1, 1, []), (137, .iload 4, 2, []), (139, .iadd, 1, []), (140, .istore_n 1, 1, []), (141, .aload_n 0, 1, []), (142, .iload_n 3, 1, []), (143, .iconst 1, 1, []), (144, .iadd, 1, []),
  (145, .putfield 31, 3, [7, 6, 0, 130]), (148, .iinc 3 1, 3, []), (151, .goto (-138), 3, [13]), (154, .return_, 1, [])
  ]
def tb_74 : List MRow := [
  (0, .iload_n 1, 1, []), (1, .istore_n 2, 1, []), (2, .iconst 0, 1, []), (3, .istore_n 3, 1, []), (4, .iload_n 3, 1, []), (5, .sipush 2000, 3, []), (8, .if_icmp .ge 23, 3, [31]), (11, .aload_n 0, 1, []),
  (12, .getfield 27, 3, [7, 0, 0, 116]), (15, .iload_n 2, 1, []), (16, .invokevirtual 53, 3, [60, 2, 2, 5, 1027]), (19, .ifCond .eq 12, 3, [31]), (22, .iinc 2 1, 3, []), (25, .iinc 3 1, 3, []), (28, .goto (-24), 3, [4]), (31, .iload_n 2, 1, []),
  (32, .ireturn, 1, [0])
  ]
def tb_75 : List MRow := [
  (0, .aload_n 0, 1, []), (1, .getfield 27, 3, [7, 0, 0, 116]), (4, .iload_n 1, 1, []), (5, .invokevirtual 59, 3, [58, 2, 2, 5, 1039]), (8, .istore_n 2, 1, []), (9, .iload_n 2, 1, []), (10, .ifCond .ne 28, 3, [38]), (13, .aload_n 0, 1, []),
  (14, .getfield 27, 3, [7, 0, 0, 116]), (17, .iload_n 1, 1, []), (18, .invokevirtual 62, 3, [59, 2, 2, 5, 1043]), (21, .ifCond .ne 17, 3, [38]), (24, .aload_n 0, 1, []), (25, .iload_n 1, 1, []), (26, .invokevirtual 65, 3, [77, 2, 2, 7, 1047]), (29, .ifCond .eq 7, 3, [36]),
  (32, .iconst 2, 1, []), (33, .goto 4, 3, [37]), (36, .iconst 1, 1, []), (37, .ireturn, 1, [0]), (38, .iconst 1, 1, []), (39, .istore_n 3, 1, []), (40, .iconst 0, 1, []), (41, .istore 4, 2, []),
  (43, .iload 4, 2, []), (45, .sipush 2000, 3, []), (48, .if_icmp .ge 23, 3, [71]), (51, .aload_n 0, 1, []), (52, .iload_n 2, 1, []), (53, .iload_n 1, 1, []), (54, .iload_n 3, 1, []), (55, .iadd, 1, []),
  (56, .invokevirtual 68, 3, [76, 3, 2, 7, 1052]), (59, .ifCond .eq 12, 3, [71]), (62, .iinc 3 1, 3, []), (65, .iinc 4 1, 3, []), (68, .goto (-25), 3, [43]), (71, .iload_n 3, 1, []), (72, .ireturn, 1, [0])
  ]
def tb_76 : List MRow := [
  (0, .aload_n 0, 1, []), (1, .getfield 27, 3, [7, 0, 0, 116]), (4, .iload_n 2, 1, []), (5, .invokevirtual 62, 3, [59, 2, 2, 5, 1043]), (8, .ifCond .ne 18, 3, [26]), (11, .iload_n 1, 1, []), (12, .ifCond .eq 18, 3, [30]), (15, .aload_n 0, 1, []),
  (16, .getfield 27, 3, [7, 0, 0, 116]), (19, .iload_n 2, 1, []), (20, .invokevirtual 59, 3, [58, 2, 2, 5, 1039]), (23, .ifCond .eq 7, 3, [30]), (26, .iconst 1, 1, []), (27, .goto 4, 3, [31]), (30, .iconst 0, 1, []), (31, .ireturn, 1, [2])
  ]
def tb_77 : List MRow := [
  (0, .aload_n 0, 1, []), (1, .getfield 27, 3, [7, 0, 0, 116]), (4, .iload_n 1, 1, []), (5, .invokevirtual 72, 3, [57, 2, 2, 5, 1051]), (8, .istore_n 2, 1, []), (9, .iload_n 2, 1, []), (10, .bipush 60, 2, []), (12, .if_icmp .eq 9, 3, [21]),
  (15, .iload_n 2, 1, []), (16, .bipush 62, 2, []), (18, .if_icmp .ne 22, 3, [40]), (21, .aload_n 0, 1, []), (22, .getfield 27, 3, [7, 0, 0, 116]), (25, .iload_n 1, 1, []), (26, .iconst 1, 1, []), (27, .iadd, 1, []),
  (28, .invokevirtual 72, 3, [57, 2, 2, 5, 1051]), (31, .bipush 61, 2, []), (33, .if_icmp .ne 7, 3, [40]), (36, .iconst 1, 1, []), (37, .goto 4, 3, [41]), (40, .iconst 0, 1, []), (41, .ireturn, 1, [2])
  ]
def tb_78 : List MRow := [
  (0, .aload_n 0, 1, []), (1, .getfield 27, 3, [7, 0, 0, 116]), (4, .iload_n 1, 1, []), (5, .invokevirtual 72, 3, [57, 2, 2, 5, 1051]), (8, .istore_n 3, 1, []), (9, .iload_n 3, 1, []), (10, .ifCond .ge 7, 3, [17]), (13, .sipush 260, 3, []),
  (16, .ireturn, 1, [0]), (17, .aload_n 0, 1, []), (18, .getfield 27, 3, [7, 0, 0, 116]), (21, .iload_n 1, 1, []), (22, .invokevirtual 59, 3, [58, 2, 2, 5, 1039]), (25, .ifCond .eq 22, 3, [47]), (28, .iload_n 2, 1, []), (29, .bipush 10, 2, []),
  (31, .if_icmp .le 9, 3, [40]), (34, .sipush 261, 3, []), (37, .goto 9, 3, [46]), (40, .aload_n 0, 1, []), (41, .iload_n 1, 1, []), (42, .iload_n 2, 1, []), (43, .invokevirtual 75, 3, [79, 3, 2, 7, 1060]), (46, .ireturn, 1, [0]),
  (47, .aload_n 0, 1, []), (48, .getfield 27, 3, [7, 0, 0, 116]), (51, .iload_n 1, 1, []), (52, .invokevirtual 62, 3, [59, 2, 2, 5, 1043]), (55, .ifCond .eq 19, 3, [74]), (58, .iload_n 2, 1, []), (59, .bipush 6, 2, []), (61, .if_icmp .le 9, 3, [70]),
  (64, .sipush 261, 3, []), (67, .goto 6, 3, [73]), (70, .sipush 259, 3, []), (73, .ireturn, 1, [0]), (74, .iload_n 2, 1, []), (75, .iconst 2, 1, []), (76, .if_icmp .ne 19, 3, [95]), (79, .iload_n 3, 1, []),
  (80, .bipush 60, 2, []), (82, .if_icmp .ne 9, 3, [91]), (85, .sipush 256, 3, []), (88, .goto 6, 3, [94]), (91, .sipush 257, 3, []), (94, .ireturn, 1, [0]), (95, .ldc 78, 2, [1, 4]), (97, .iload_n 3, 1, []),
  (98, .i2c, 1, []), (99, .invokevirtual 80, 3, [151, 2, 2, 11, 1106]), (102, .ifCond .lt 7, 3, [109]), (105, .iload_n 3, 1, []), (106, .goto 6, 3, [112]), (109, .sipush 261, 3, []), (112, .ireturn, 1, [0])
  ]
def tb_79 : List MRow := [
  (0, .iconst 0, 1, []), (1, .istore_n 3, 1, []), (2, .iload_n 3, 1, []), (3, .bipush 31, 2, []), (5, .if_icmp .ge 24, 3, [29]), (8, .aload_n 0, 1, []), (9, .iload_n 3, 1, []), (10, .invokestatic 85, 3, [81, 1, 0, 0, 1064]),
  (13, .iload_n 1, 1, []), (14, .iload_n 2, 1, []), (15, .invokevirtual 89, 3, [80, 4, 2, 7, 1099]), (18, .ifCond .eq 5, 3, [23]), (21, .iload_n 3, 1, []), (22, .ireturn, 1, [0]), (23, .iinc 3 1, 3, []), (26, .goto (-24), 3, [2]),
  (29, .sipush 258, 3, []), (32, .ireturn, 1, [0])
  ]
def tb_80 : List MRow := [
  (0, .aload_n 1, 1, []), (1, .invokevirtual 93, 3, [149, 1, 2, 11, 1103]), (4, .iload_n 3, 1, []), (5, .if_icmp .eq 5, 3, [10]), (8, .iconst 0, 1, []), (9, .ireturn, 1, [2]), (10, .iconst 0, 1, []), (11, .istore 4, 2, []),
  (13, .iload 4, 2, []), (15, .aload_n 1, 1, []), (16, .invokevirtual 93, 3, [149, 1, 2, 11, 1103]), (19, .if_icmp .ge 31, 3, [50]), (22, .aload_n 1, 1, []), (23, .iload 4, 2, []), (25, .invokevirtual 97, 3, [150, 2, 2, 11, 1104]), (28, .aload_n 0, 1, []),
  (29, .getfield 27, 3, [7, 0, 0, 116]), (32, .iload_n 2, 1, []), (33, .iload 4, 2, []), (35, .iadd, 1, []), (36, .invokevirtual 72, 3, [57, 2, 2, 5, 1051]), (39, .if_icmp .eq 5, 3, [44]), (42, .iconst 0, 1, []), (43, .ireturn, 1, [2]),
  (44, .iinc 4 1, 3, []), (47, .goto (-34), 3, [13]), (50, .iconst 1, 1, []), (51, .ireturn, 1, [2])
  ]
def tb_81 : List MRow := [
  (0, .iload_n 0, 1, []), (1, .tableswitch 232 0 30 #[139, 142, 145, 148, 151, 154, 157, 160, 163, 166, 169, 172, 175, 178, 181, 184, 187, 190, 193, 196, 199, 202, 205, 208, 211, 214, 217, 220, 223, 226, 229], 139, [233, 140, 143, 146, 149, 152, 155, 158, 161, 164, 167, 170, 173, 176, 179, 182, 185, 188, 191, 194, 197, 200, 203, 206, 209, 212, 215, 218, 221, 224, 227, 230]), (140, .ldc 101, 2, [1, 6]), (142, .areturn, 1, []), (143, .ldc 103, 2, [1, 8]), (145, .areturn, 1, []), (146, .ldc 105, 2, [1, 10]), (148, .areturn, 1, []),
  (149, .ldc 107, 2, [1, 12]), (151, .areturn, 1, []), (152, .ldc 109, 2, [1, 14]), (154, .areturn, 1, []), (155, .ldc 111, 2, [1, 16]), (157, .areturn, 1, []), (158, .ldc 113, 2, [1, 18]), (160, .areturn, 1, []),
  (161, .ldc 115, 2, [1, 20]), (163, .areturn, 1, []), (164, .ldc 117, 2, [1, 22]), (166, .areturn, 1, []), (167, .ldc 119, 2, [1, 24]), (169, .areturn, 1, []), (170, .ldc 121, 2, [1, 26]), (172, .areturn, 1, []),
  (173, .ldc 123, 2, [1, 28]), (175, .areturn, 1, []), (176, .ldc 125, 2, [1, 30]), (178, .areturn, 1, []), (179, .ldc 127, 2, [1, 32]), (181, .areturn, 1, []), (182, .ldc 129, 2, [1, 34]), (184, .areturn, 1, []),
  (185, .ldc 131, 2, [1, 36]), (187, .areturn, 1, []), (188, .ldc 133, 2, [1, 38]), (190, .areturn, 1, []), (191, .ldc 135, 2, [1, 40]), (193, .areturn, 1, []), (194, .ldc 137, 2, [1, 42]), (196, .areturn, 1, []),
  (197, .ldc 139, 2, [1, 44]), (199, .areturn, 1, []), (200, .ldc 141, 2, [1, 46]), (202, .areturn, 1, []), (203, .ldc 143, 2, [1, 48]), (205, .areturn, 1, []), (206, .ldc 145, 2, [1, 50]), (208, .areturn, 1, []),
  (209, .ldc 147, 2, [1, 52]), (211, .areturn, 1, []), (212, .ldc 149, 2, [1, 54]), (214, .areturn, 1, []), (215, .ldc 151, 2, [1, 56]), (217, .areturn, 1, []), (218, .ldc 153, 2, [1, 58]), (220, .areturn, 1, []),
  (221, .ldc 155, 2, [1, 60]), (223, .areturn, 1, []), (224, .ldc 157, 2, [1, 62]), (226, .areturn, 1, []), (227, .ldc 159, 2, [1, 64]), (229, .areturn, 1, []), (230, .ldc 161, 2, [1, 66]), (232, .areturn, 1, []),
  (233, .ldc 163, 2, [1, 68]), (235, .areturn, 1, [])
  ]
def tb_82 : List MRow := [
  (0, .iconst 0, 1, []), (1, .istore_n 3, 1, []), (2, .iconst 0, 1, []), (3, .istore 4, 2, []), (5, .iload 4, 2, []), (7, .iload_n 2, 1, []), (8, .if_icmp .ge 29, 3, [37]), (11, .iload_n 3, 1, []),
  (12, .bipush 10, 2, []), (14, .imul, 1, []), (15, .aload_n 0, 1, []), (16, .getfield 27, 3, [7, 0, 0, 116]), (19, .iload_n 1, 1, []), (20, .iload 4, 2, []), (22, .iadd, 1, []), (23, .invokevirtual 72, 3, [57, 2, 2, 5, 1051]),
  (26, .bipush 48, 2, []), (28, .isub, 1, []), (29, .iadd, 1, []), (30, .istore_n 3, 1, []), (31, .iinc 4 1, 3, []), (34, .goto (-29), 3, [5]), (37, .iload_n 3, 1, []), (38, .ireturn, 1, [0])
  ]
def tb_83 : List MRow := [
  (0, .aload_n 0, 1, []), (1, .getfield 18, 3, [7, 3, 0, 122]), (4, .iload_n 1, 1, []), (5, .invokestatic 165, 3, [123, 2, 1, 0, 78]), (8, .istore_n 3, 1, []), (9, .iload_n 3, 1, []), (10, .aload_n 0, 1, []), (11, .getfield 18, 3, [7, 3, 0, 122]),
  (14, .iload_n 2, 1, []), (15, .invokestatic 165, 3, [123, 2, 1, 0, 78]), (18, .if_icmp .eq 5, 3, [23]), (21, .iconst 0, 1, []), (22, .ireturn, 1, [2]), (23, .aload_n 0, 1, []), (24, .getfield 15, 3, [7, 2, 0, 120]), (27, .iload_n 1, 1, []),
  (28, .invokestatic 165, 3, [123, 2, 1, 0, 78]), (31, .istore 4, 2, []), (33, .aload_n 0, 1, []), (34, .getfield 15, 3, [7, 2, 0, 120]), (37, .iload_n 2, 1, []), (38, .invokestatic 165, 3, [123, 2, 1, 0, 78]), (41, .istore 5, 2, []), (43, .iconst 0, 1, []),
  (44, .istore 6, 2, []), (46, .iload 6, 2, []), (48, .iload_n 3, 1, []), (49, .if_icmp .ge 38, 3, [87]), (52, .aload_n 0, 1, []), (53, .getfield 27, 3, [7, 0, 0, 116]), (56, .iload 4, 2, []), (58, .iload 6, 2, []),
  (60, .iadd, 1, []), (61, .invokevirtual 72, 3, [57, 2, 2, 5, 1051]), (64, .aload_n 0, 1, []), (65, .getfield 27, 3, [7, 0, 0, 116]), (68, .iload 5, 2, []), (70, .iload 6, 2, []), (72, .iadd, 1, []), (73, .invokevirtual 72, 3, [57, 2, 2, 5, 1051]),
  (76, .if_icmp .eq 5, 3, [81]), (79, .iconst 0, 1, []), (80, .ireturn, 1, [2]), (81, .iinc 6 1, 3, []), (84, .goto (-38), 3, [46]), (87, .iconst 1, 1, []), (88, .ireturn, 1, [2])
  ]
def tb_84 : List MRow := [
  (0, .aload_n 0, 1, []), (1, .invokespecial 3, 3, [1002, 152]), (4, .aload_n 0, 1, []), (5, .bipush 6, 2, []), (7, .newarray .int, 2, [50]), (9, .putfield 9, 3, [8, 0, 0, 173]), (12, .aload_n 0, 1, []), (13, .iconst 5, 1, []),
  (14, .newarray .int, 2, [50]), (16, .putfield 15, 3, [8, 1, 0, 175]), (19, .aload_n 0, 1, []), (20, .bipush 10, 2, []), (22, .newarray .int, 2, [50]), (24, .putfield 18, 3, [8, 2, 0, 179]), (27, .aload_n 0, 1, []), (28, .bipush 10, 2, []),
  (30, .newarray .int, 2, [50]), (32, .putfield 21, 3, [8, 3, 0, 183]), (35, .aload_n 0, 1, []), (36, .bipush 10, 2, []), (38, .newarray .int, 2, [50]), (40, .putfield 24, 3, [8, 4, 0, 186]), (43, .aload_n 0, 1, []), (44, .bipush 12, 2, []),
  (46, .newarray .int, 2, [50]), (48, .putfield 27, 3, [8, 5, 0, 189]), (51, .aload_n 0, 1, []), (52, .bipush 48, 2, []), (54, .newarray .int, 2, [50]), (56, .putfield 30, 3, [8, 6, 0, 193]), (59, .aload_n 0, 1, []), (60, .bipush 12, 2, []),
  (62, .newarray .int, 2, [50]), (64, .putfield 33, 3, [8, 7, 0, 195]), (67, .aload_n 0, 1, []), (68, .bipush 6, 2, []), (70, .newarray .int, 2, [50]), (72, .putfield 36, 3, [8, 8, 0, 196]), (75, .aload_n 0, 1, []), (76, .bipush 30, 2, []),
  (78, .newarray .int, 2, [50]), (80, .putfield 39, 3, [8, 9, 0, 199]), (83, .aload_n 0, 1, []), (84, .iconst 5, 1, []), (85, .newarray .int, 2, [50]), (87, .putfield 42, 3, [8, 10, 0, 202]), (90, .aload_n 0, 1, []), (91, .iconst 5, 1, []),
  (92, .newarray .int, 2, [50]), (94, .putfield 45, 3, [8, 11, 0, 205]), (97, .aload_n 0, 1, []), (98, .iconst 5, 1, []), (99, .newarray .int, 2, [50]), (101, .putfield 48, 3, [8, 12, 0, 208]), (104, .aload_n 0, 1, []), (105, .bipush 40, 2, []),
  (107, .newarray .int, 2, [50]), (109, .putfield 51, 3, [8, 13, 0, 211]), (112, .aload_n 0, 1, []), (113, .bipush 20, 2, []), (115, .newarray .int, 2, [50]), (117, .putfield 54, 3, [8, 14, 0, 214]), (120, .aload_n 0, 1, []), (121, .bipush 20, 2, []),
  (123, .newarray .int, 2, [50]), (125, .putfield 57, 3, [8, 15, 0, 217]), (128, .aload_n 0, 1, []), (129, .bipush 20, 2, []), (131, .newarray .int, 2, [50]), (133, .putfield 60, 3, [8, 16, 0, 220]), (136, .aload_n 0, 1, []), (137, .new 63, 3, [1, 153]),
  (140, .dup, 1, []), (141, .invokespecial 65, 3, [29, 1, 6, 0, 79]), (144, .putfield 66, 3, [8, 17, 0, 224]), (147, .return_, 1, [])
  ]
def tb_85 : List MRow := [
  (0, .aload_n 0, 1, []), (1, .getfield 9, 3, [8, 0, 0, 173]), (4, .iload_n 1, 1, []), (5, .invokestatic 70, 3, [123, 2, 1, 0, 80]), (8, .ireturn, 1, [0])
  ]
def tb_86 : List MRow := [
  (0, .iload_n 2, 1, []), (1, .ifCond .lt 19, 3, [20]), (4, .iload_n 2, 1, []), (5, .aload_n 0, 1, []), (6, .getfield 9, 3, [8, 0, 0, 173]), (9, .iload_n 1, 1, []), (10, .invokestatic 70, 3, [123, 2, 1, 0, 80]), (13, .if_icmp .ge 7, 3, [20]),
  (16, .iconst 1, 1, []), (17, .goto 4, 3, [21]), (20, .iconst 0, 1, []), (21, .ireturn, 1, [2])
  ]
def tb_87 : List MRow := [
  (0, .aload_n 0, 1, []), (1, .getfield 33, 3, [8, 7, 0, 195]), (4, .iload_n 1, 1, []), (5, .invokestatic 70, 3, [123, 2, 1, 0, 80]), (8, .ireturn, 1, [0])
  ]
def tb_88 : List MRow := [
  (0, .aload_n 0, 1, []), (1, .getfield 30, 3, [8, 6, 0, 193]), (4, .iload_n 1, 1, []), (5, .iconst 4, 1, []), (6, .imul, 1, []), (7, .iload_n 2, 1, []), (8, .iadd, 1, []), (9, .invokestatic 70, 3, [123, 2, 1, 0, 80]),
  (12, .ireturn, 1, [0])
  ]
def tb_89 : List MRow := [
  (0, .iconst 0, 1, []), (1, .istore_n 2, 1, []), (2, .iconst 0, 1, []), (3, .istore_n 3, 1, []), (4, .iload_n 3, 1, []), (5, .aload_n 0, 1, []), (6, .getfield 27, 3, [8, 5, 0, 189]), (9, .iload_n 1, 1, []),
  (10, .invokestatic 70, 3, [123, 2, 1, 0, 80]), (13, .if_icmp .ge 25, 3, [38]), (16, .iload_n 2, 1, []), (17, .aload_n 0, 1, []), (18, .getfield 21, 3, [8, 3, 0, 183]), (21, .aload_n 0, 1, []), (22, .iload_n 1, 1, []), (23, .iload_n 3, 1, []),
  (24, .invokevirtual 74, 3, [88, 3, 2, 8, 593]), (27, .invokestatic 70, 3, [123, 2, 1, 0, 80]), (30, .iadd, 1, []), (31, .istore_n 2, 1, []), (32, .iinc 3 1, 3, []), (35, .goto (-31), 3, [4]), (38, .iload_n 2, 1, []), (39, .ireturn, 1, [0])
  ]
def tb_90 : List MRow := [
  (0, .iconst 0, 1, []), (1, .istore_n 2, 1, []), (2, .iconst 0, 1, []), (3, .istore_n 3, 1, []), (4, .iload_n 3, 1, []), (5, .aload_n 0, 1, []), (6, .getfield 9, 3, [8, 0, 0, 173]), (9, .iconst 2, 1, []),
  (10, .invokestatic 70, 3, [123, 2, 1, 0, 80]), (13, .if_icmp .ge 21, 3, [34]), (16, .aload_n 0, 1, []), (17, .iload_n 1, 1, []), (18, .iload_n 3, 1, []), (19, .invokevirtual 78, 3, [91, 3, 2, 8, 810]), (22, .ifCond .eq 6, 3, [28]), (25, .iinc 2 1, 3, []),
  (28, .iinc 3 1, 3, []), (31, .goto (-27), 3, [4]), (34, .iload_n 2, 1, []), (35, .ireturn, 1, [0])
  ]
def tb_91 : List MRow := [
  (0, .iconst 0, 1, []), (1, .istore_n 3, 1, []), (2, .iload_n 3, 1, []), (3, .aload_n 0, 1, []), (4, .getfield 27, 3, [8, 5, 0, 189]), (7, .iload_n 2, 1, []), (8, .invokestatic 70, 3, [123, 2, 1, 0, 80]), (11, .if_icmp .ge 21, 3, [32]),
  (14, .aload_n 0, 1, []), (15, .iload_n 2, 1, []), (16, .iload_n 3, 1, []), (17, .invokevirtual 74, 3, [88, 3, 2, 8, 593]), (20, .iload_n 1, 1, []), (21, .if_icmp .ne 5, 3, [26]), (24, .iconst 1, 1, []), (25, .ireturn, 1, [2]),
  (26, .iinc 3 1, 3, []), (29, .goto (-27), 3, [2]), (32, .iconst 0, 1, []), (33, .ireturn, 1, [2])
  ]
def tb_92 : List MRow := [
  (0, .aload_n 0, 1, []), (1, .getfield 9, 3, [8, 0, 0, 173]), (4, .iconst 0, 1, []), (5, .invokestatic 82, 3, [187, 2, 0, 0, 1234]), (8, .aload_n 0, 1, []), (9, .getfield 27, 3, [8, 5, 0, 189]), (12, .iconst 0, 1, []), (13, .invokestatic 82, 3, [187, 2, 0, 0, 1234]),
  (16, .aload_n 0, 1, []), (17, .getfield 48, 3, [8, 12, 0, 208]), (20, .iconst 0, 1, []), (21, .invokestatic 82, 3, [187, 2, 0, 0, 1234]), (24, .aload_n 0, 1, []), (25, .getfield 39, 3, [8, 9, 0, 199]), (28, .iconst 0, 1, []), (29, .invokestatic 82, 3, [187, 2, 0, 0, 1234]),
  (32, .return_, 1, [])
  ]
def tb_93 : List MRow := [
  (0, .aload_n 0, 1, []), (1, .getfield 66, 3, [8, 17, 0, 224]), (4, .aload_n 1, 1, []), (5, .invokevirtual 88, 3, [31, 2, 2, 1, 1284]), (8, .iconst 0, 1, []), (9, .istore_n 2, 1, []), (10, .iload_n 2, 1, []), (11, .aload_n 0, 1, []),
  (12, .getfield 9, 3, [8, 0, 0, 173]), (15, .iconst 2, 1, []), (16, .invokestatic 70, 3, [123, 2, 1, 0, 80]), (19, .if_icmp .ge 65, 3, [84]), (22, .aload_n 0, 1, []), (23, .iload_n 2, 1, []), (24, .invokevirtual 92, 3, [89, 2, 2, 8, 1289]), (27, .iconst 4, 1, []),
  (28, .idiv, 1, []), (29, .istore_n 3, 1, []), (30, .iconst 0, 1, []), (31, .istore 4, 2, []), (33, .iload 4, 2, []), (35, .aload_n 0, 1, []), (36, .getfield 27, 3, [8, 5, 0, 189]), (39, .iload_n 2, 1, []),
  (40, .invokestatic 70, 3, [123, 2, 1, 0, 80]), (43, .if_icmp .ge 26, 3, [69]), (46, .iload_n 3, 1, []), (47, .aload_n 0, 1, []), (48, .getfield 24, 3, [8, 4, 0, 186]), (51, .aload_n 0, 1, []), (52, .iload_n 2, 1, []), (53, .iload 4, 2, []),
  (55, .invokevirtual 74, 3, [88, 3, 2, 8, 593]), (58, .invokestatic 70, 3, [123, 2, 1, 0, 80]), (61, .iadd, 1, []), (62, .istore_n 3, 1, []), (63, .iinc 4 1, 3, []), (66, .goto (-33), 3, [33]), (69, .aload_n 0, 1, []), (70, .getfield 33, 3, [8, 7, 0, 195]),
  (73, .iload_n 2, 1, []), (74, .iload_n 3, 1, []), (75, .invokestatic 96, 3, [124, 3, 1, 0, 81]), (78, .iinc 2 1, 3, []), (81, .goto (-71), 3, [10]), (84, .return_, 1, [])
  ]
def tb_94 : List MRow := [
  (0, .aload_n 1, 1, []), (1, .getfield 9, 3, [8, 0, 0, 173]), (4, .aload_n 0, 1, []), (5, .getfield 9, 3, [8, 0, 0, 173]), (8, .invokestatic 100, 3, [125, 2, 1, 0, 82]), (11, .aload_n 1, 1, []), (12, .getfield 15, 3, [8, 1, 0, 175]), (15, .aload_n 0, 1, []),
  (16, .getfield 15, 3, [8, 1, 0, 175]), (19, .invokestatic 100, 3, [125, 2, 1, 0, 82]), (22, .aload_n 1, 1, []), (23, .getfield 18, 3, [8, 2, 0, 179]), (26, .aload_n 0, 1, []), (27, .getfield 18, 3, [8, 2, 0, 179]), (30, .invokestatic 100, 3, [125, 2, 1, 0, 82]), (33, .aload_n 1, 1, []),
  (34, .getfield 21, 3, [8, 3, 0, 183]), (37, .aload_n 0, 1, []), (38, .getfield 21, 3, [8, 3, 0, 183]), (41, .invokestatic 100, 3, [125, 2, 1, 0, 82]), (44, .aload_n 1, 1, []), (45, .getfield 24, 3, [8, 4, 0, 186]), (48, .aload_n 0, 1, []), (49, .getfield 24, 3, [8, 4, 0, 186]),
  (52, .invokestatic 100, 3, [125, 2, 1, 0, 82]), (55, .aload_n 1, 1, []), (56, .getfield 27, 3, [8, 5, 0, 189]), (59, .aload_n 0, 1, []), (60, .getfield 27, 3, [8, 5, 0, 189]), (63, .invokestatic 100, 3, [125, 2, 1, 0, 82]), (66, .aload_n 1, 1, []), (67, .getfield 30, 3, [8, 6, 0, 193]),
  (70, .aload_n 0, 1, []), (71, .getfield 30, 3, [8, 6, 0, 193]), (74, .invokestatic 100, 3, [125, 2, 1, 0, 82]), (77, .aload_n 1, 1, []), (78, .getfield 33, 3, [8, 7, 0, 195]), (81, .aload_n 0, 1, []), (82, .getfield 33, 3, [8, 7, 0, 195]), (85, .invokestatic 100, 3, [125, 2, 1, 0, 82]),
  (88, .aload_n 1, 1, []), (89, .getfield 36, 3, [8, 8, 0, 196]), (92, .aload_n 0, 1, []), (93, .getfield 36, 3, [8, 8, 0, 196]), (96, .invokestatic 100, 3, [125, 2, 1, 0, 82]), (99, .aload_n 1, 1, []), (100, .getfield 39, 3, [8, 9, 0, 199]), (103, .aload_n 0, 1, []),
  (104, .getfield 39, 3, [8, 9, 0, 199]), (107, .invokestatic 100, 3, [125, 2, 1, 0, 82]), (110, .aload_n 1, 1, []), (111, .getfield 42, 3, [8, 10, 0, 202]), (114, .aload_n 0, 1, []), (115, .getfield 42, 3, [8, 10, 0, 202]), (118, .invokestatic 100, 3, [125, 2, 1, 0, 82]), (121, .aload_n 1, 1, []),
  (122, .getfield 45, 3, [8, 11, 0, 205]), (125, .aload_n 0, 1, []), (126, .getfield 45, 3, [8, 11, 0, 205]), (129, .invokestatic 100, 3, [125, 2, 1, 0, 82]), (132, .aload_n 1, 1, []), (133, .getfield 48, 3, [8, 12, 0, 208]), (136, .aload_n 0, 1, []), (137, .getfield 48, 3, [8, 12, 0, 208]),
  (140, .invokestatic 100, 3, [125, 2, 1, 0, 82]), (143, .aload_n 1, 1, []), (144, .getfield 51, 3, [8, 13, 0, 211]), (147, .aload_n 0, 1, []), (148, .getfield 51, 3, [8, 13, 0, 211]), (151, .invokestatic 100, 3, [125, 2, 1, 0, 82]), (154, .aload_n 1, 1, []), (155, .getfield 54, 3, [8, 14, 0, 214]),
  (158, .aload_n 0, 1, []), (159, .getfield 54, 3, [8, 14, 0, 214]), (162, .invokestatic 100, 3, [125, 2, 1, 0, 82]), (165, .aload_n 1, 1, []), (166, .getfield 57, 3, [8, 15, 0, 217]), (169, .aload_n 0, 1, []), (170, .getfield 57, 3, [8, 15, 0, 217]), (173, .invokestatic 100, 3, [125, 2, 1, 0, 82]),
  (176, .aload_n 1, 1, []), (177, .getfield 60, 3, [8, 16, 0, 220]), (180, .aload_n 0, 1, []), (181, .getfield 60, 3, [8, 16, 0, 220]), (184, .invokestatic 100, 3, [125, 2, 1, 0, 82]), (187, .aload_n 0, 1, []), (188, .getfield 66, 3, [8, 17, 0, 224]), (191, .aload_n 1, 1, []),
  (192, .getfield 66, 3, [8, 17, 0, 224]), (195, .invokevirtual 104, 3, [32, 2, 2, 1, 1296]), (198, .return_, 1, [])
  ]
def tb_95 : List MRow := [
  (0, .aload_n 0, 1, []), (1, .invokespecial 1, 3, [1002, 92]), (4, .aload_n 0, 1, []), (5, .new 7, 3, [5, 95]), (8, .dup, 1, []), (9, .invokespecial 9, 3, [55, 1, 6, 0, 83]), (12, .putfield 10, 3, [9, 0, 0, 441]), (15, .aload_n 0, 1, []),
  (16, .new 16, 3, [7, 110]), (19, .dup, 1, []), (20, .aload_n 0, 1, []), (21, .getfield 10, 3, [9, 0, 0, 441]), (24, .invokespecial 18, 3, [72, 2, 5, 0, 112]), (27, .putfield 21, 3, [9, 1, 0, 442]), (30, .aload_n 0, 1, []), (31, .new 25, 3, [8, 147]),
  (34, .dup, 1, []), (35, .invokespecial 27, 3, [84, 1, 6, 0, 84]), (38, .putfield 28, 3, [9, 2, 0, 443]), (41, .aload_n 0, 1, []), (42, .new 25, 3, [8, 147]), (45, .dup, 1, []), (46, .invokespecial 27, 3, [84, 1, 6, 0, 84]), (49, .putfield 32, 3, [9, 3, 0, 444]),
  (52, .aload_n 0, 1, []), (53, .new 35, 3, [2, 263]), (56, .dup, 1, []), (57, .aload_n 0, 1, []), (58, .getfield 21, 3, [9, 1, 0, 442]), (61, .aload_n 0, 1, []), (62, .getfield 32, 3, [9, 3, 0, 444]), (65, .getfield 37, 3, [8, 17, 1, 85]),
  (68, .invokespecial 41, 3, [33, 3, 5, 0, 265]), (71, .putfield 44, 3, [9, 4, 0, 445]), (74, .aload_n 0, 1, []), (75, .new 48, 3, [6, 282]), (78, .dup, 1, []), (79, .aload_n 0, 1, []), (80, .getfield 21, 3, [9, 1, 0, 442]), (83, .aload_n 0, 1, []),
  (84, .getfield 32, 3, [9, 3, 0, 444]), (87, .invokespecial 50, 3, [61, 3, 5, 0, 284]), (90, .putfield 53, 3, [9, 5, 0, 446]), (93, .aload_n 0, 1, []), (94, .new 57, 3, [0, 305]), (97, .dup, 1, []), (98, .aload_n 0, 1, []), (99, .getfield 28, 3, [9, 2, 0, 443]),
  (102, .invokespecial 59, 3, [0, 2, 5, 0, 307]), (105, .putfield 62, 3, [9, 6, 0, 447]), (108, .aload_n 0, 1, []), (109, .new 57, 3, [0, 305]), (112, .dup, 1, []), (113, .aload_n 0, 1, []), (114, .getfield 28, 3, [9, 2, 0, 443]), (117, .invokespecial 59, 3, [0, 2, 5, 0, 307]),
  (120, .putfield 66, 3, [9, 7, 0, 448]), (123, .aload_n 0, 1, []), (124, .iconst (-1), 1, []), (125, .putfield 69, 3, [9, 8, 0, 449]), (128, .return_, 1, [])
  ]
def tb_96 : List MRow := [
  (0, .aload_n 0, 1, []), (1, .getfield 10, 3, [9, 0, 0, 441]), (4, .getfield 73, 3, [5, 1, 1, 86]), (7, .sipush 1980, 3, []), (10, .if_icmp .le 13, 3, [23]), (23, .aload_n 0, 1, []), (24, .getfield 10, 3, [9, 0, 0, 441]), (27, .iload_n 1, 1, []),
  (28, .invokevirtual 83, 3, [56, 2, 2, 5, 1005]), (31, .aload_n 0, 1, []), (32, .getfield 10, 3, [9, 0, 0, 441]), (35, .iload_n 2, 1, []), (36, .invokevirtual 83, 3, [56, 2, 2, 5, 1005]), (39, .aload_n 0, 1, []), (40, .getfield 10, 3, [9, 0, 0, 441]), (43, .iload_n 3, 1, []),
  (44, .invokevirtual 83, 3, [56, 2, 2, 5, 1005]), (47, .aload_n 0, 1, []), (48, .getfield 10, 3, [9, 0, 0, 441]), (51, .iload 4, 2, []), (53, .invokevirtual 83, 3, [56, 2, 2, 5, 1005]), (56, .aload_n 0, 1, []), (57, .getfield 10, 3, [9, 0, 0, 441]), (60, .iload 5, 2, []),
  (62, .invokevirtual 83, 3, [56, 2, 2, 5, 1005]), (65, .aload_n 0, 1, []), (66, .getfield 10, 3, [9, 0, 0, 441]), (69, .getfield 73, 3, [5, 1, 1, 86]), (72, .ireturn, 1, [0])
  ]
def tb_97 : List MRow := [
  (0, .iload_n 1, 1, []), (1, .ifCond .lt 14, 3, [15]), (4, .iload_n 1, 1, []), (5, .aload_n 0, 1, []), (6, .getfield 10, 3, [9, 0, 0, 441]), (9, .getfield 73, 3, [5, 1, 1, 86]), (12, .if_icmp .le 13, 3, [25]), (25, .aload_n 0, 1, []),
  (26, .getfield 10, 3, [9, 0, 0, 441]), (29, .iload_n 1, 1, []), (30, .putfield 73, 3, [5, 1, 1, 86]), (33, .iload_n 1, 1, []), (34, .ireturn, 1, [0])
  ]
def tb_98 : List MRow := [
  (0, .aload_n 0, 1, []), (1, .getfield 21, 3, [9, 1, 0, 442]), (4, .invokevirtual 92, 3, [73, 1, 2, 7, 1019]), (7, .iconst 1, 1, []), (8, .istore_n 1, 1, []), (9, .aload_n 0, 1, []), (10, .getfield 44, 3, [9, 4, 0, 445]), (13, .invokevirtual 95, 3, [34, 1, 2, 2, 1166]),
  (16, .istore_n 2, 1, []), (17, .iload_n 2, 1, []), (18, .ifCond .ge 19, 3, [37]), (21, .aload_n 0, 1, []), (22, .getfield 53, 3, [9, 5, 0, 446]), (25, .invokevirtual 99, 3, [62, 1, 2, 6, 1226]), (28, .istore_n 1, 1, []), (29, .aload_n 0, 1, []),
  (30, .getfield 53, 3, [9, 5, 0, 446]), (33, .getfield 100, 3, [6, 4, 1, 87]), (36, .istore_n 2, 1, []), (37, .aload_n 0, 1, []), (38, .iload_n 1, 1, []), (39, .ifCond .ne 7, 3, [46]), (42, .iconst (-1), 1, []), (43, .goto 14, 3, [57]),
  (46, .aload_n 0, 1, []), (47, .getfield 21, 3, [9, 1, 0, 442]), (50, .getfield 103, 3, [7, 2, 1, 88]), (53, .iload_n 2, 1, []), (54, .invokestatic 107, 3, [123, 2, 0, 0, 588]), (57, .putfield 69, 3, [9, 8, 0, 449]), (60, .aload_n 0, 1, []), (61, .getfield 10, 3, [9, 0, 0, 441]),
  (64, .iconst 0, 1, []), (65, .putfield 73, 3, [5, 1, 1, 86]), (68, .iload_n 1, 1, []), (69, .ifCond .ne 21, 3, [90]), (72, .aload_n 0, 1, []), (73, .getfield 28, 3, [9, 2, 0, 443]), (76, .aload_n 0, 1, []), (77, .getfield 32, 3, [9, 3, 0, 444]),
  (80, .invokevirtual 111, 3, [94, 2, 2, 8, 1291]), (83, .aload_n 0, 1, []), (84, .getfield 62, 3, [9, 6, 0, 447]), (87, .invokevirtual 114, 3, [2, 1, 2, 0, 1301]), (90, .iload_n 1, 1, []), (91, .ireturn, 1, [0])
  ]
def tb_99 : List MRow := [
  (0, .iload_n 1, 1, []), (1, .ifCond .lt 9, 3, [10]), (4, .iload_n 1, 1, []), (5, .bipush 17, 2, []), (7, .if_icmp .le 13, 3, [20]), (20, .aload_n 0, 1, []), (21, .iload_n 1, 1, []), (22, .invokevirtual 122, 3, [119, 2, 2, 9, 541]),
  (25, .ireturn, 1, [0])
  ]
def tb_100 : List MRow := [
  (0, .aload_n 0, 1, []), (1, .getfield 28, 3, [9, 2, 0, 443]), (4, .iconst 1, 1, []), (5, .iload_n 1, 1, []), (6, .invokevirtual 126, 3, [86, 3, 2, 8, 579]), (9, .ifCond .eq 12, 3, [21]), (12, .iload_n 2, 1, []), (13, .ifCond .lt 8, 3, [21]),
  (16, .iload_n 2, 1, []), (17, .iconst 4, 1, []), (18, .if_icmp .le 13, 3, [31]), (31, .aload_n 0, 1, []), (32, .iload_n 1, 1, []), (33, .iload_n 2, 1, []), (34, .invokevirtual 132, 3, [120, 3, 2, 9, 802]), (37, .ireturn, 1, [0])
  ]
def tb_101 : List MRow := [
  (0, .aload_n 0, 1, []), (1, .getfield 28, 3, [9, 2, 0, 443]), (4, .iconst 2, 1, []), (5, .iload_n 1, 1, []), (6, .invokevirtual 126, 3, [86, 3, 2, 8, 579]), (9, .ifCond .eq 12, 3, [21]), (12, .iload_n 2, 1, []), (13, .ifCond .lt 8, 3, [21]),
  (16, .iload_n 2, 1, []), (17, .iconst 4, 1, []), (18, .if_icmp .le 13, 3, [31]), (31, .aload_n 0, 1, []), (32, .iload_n 1, 1, []), (33, .iload_n 2, 1, []), (34, .invokevirtual 138, 3, [121, 3, 2, 9, 584]), (37, .ireturn, 1, [0])
  ]
def tb_102 : List MRow := [
  (0, .aload_n 0, 1, []), (1, .getfield 28, 3, [9, 2, 0, 443]), (4, .iconst 2, 1, []), (5, .iload_n 1, 1, []), (6, .invokevirtual 126, 3, [86, 3, 2, 8, 579]), (9, .ifCond .eq 22, 3, [31]), (12, .iload_n 2, 1, []), (13, .ifCond .lt 18, 3, [31]),
  (16, .iload_n 2, 1, []), (17, .aload_n 0, 1, []), (18, .getfield 28, 3, [9, 2, 0, 443]), (21, .getfield 141, 3, [8, 5, 1, 89]), (24, .iload_n 1, 1, []), (25, .invokestatic 107, 3, [123, 2, 0, 0, 588]), (28, .if_icmp .lt 13, 3, [41]), (41, .aload_n 0, 1, []),
  (42, .getfield 28, 3, [9, 2, 0, 443]), (45, .iload_n 1, 1, []), (46, .iload_n 2, 1, []), (47, .invokevirtual 146, 3, [88, 3, 2, 8, 912]), (50, .ireturn, 1, [0])
  ]
def tb_103 : List MRow := [
  (0, .aload_n 0, 1, []), (1, .getfield 28, 3, [9, 2, 0, 443]), (4, .iconst 3, 1, []), (5, .iload_n 1, 1, []), (6, .invokevirtual 126, 3, [86, 3, 2, 8, 579]), (9, .ifCond .eq 13, 3, [22]), (12, .iload_n 2, 1, []), (13, .ifCond .lt 9, 3, [22]),
  (16, .iload_n 2, 1, []), (17, .bipush 8, 2, []), (19, .if_icmp .le 13, 3, [32]), (32, .aload_n 0, 1, []), (33, .iload_n 1, 1, []), (34, .iload_n 2, 1, []), (35, .invokevirtual 151, 3, [122, 3, 2, 9, 606]), (38, .ireturn, 1, [0])
  ]
def tb_104 : List MRow := [
  (0, .aload_n 0, 1, []), (1, .getfield 28, 3, [9, 2, 0, 443]), (4, .iconst 3, 1, []), (5, .iload_n 1, 1, []), (6, .invokevirtual 126, 3, [86, 3, 2, 8, 579]), (9, .ifCond .eq 15, 3, [24]), (12, .aload_n 0, 1, []), (13, .getfield 28, 3, [9, 2, 0, 443]),
  (16, .iconst 0, 1, []), (17, .iload_n 2, 1, []), (18, .invokevirtual 126, 3, [86, 3, 2, 8, 579]), (21, .ifCond .ne 13, 3, [34]), (34, .aload_n 0, 1, []), (35, .getfield 62, 3, [9, 6, 0, 447]), (38, .iload_n 1, 1, []), (39, .invokevirtual 156, 3, [1, 2, 2, 0, 610]),
  (42, .getfield 160, 3, [4, 0, 1, 90]), (45, .iload_n 2, 1, []), (46, .invokestatic 107, 3, [123, 2, 0, 0, 588]), (49, .ireturn, 1, [0])
  ]
def tb_105 : List MRow := [
  (0, .aload_n 0, 1, []), (1, .getfield 28, 3, [9, 2, 0, 443]), (4, .iconst 3, 1, []), (5, .iload_n 1, 1, []), (6, .invokevirtual 126, 3, [86, 3, 2, 8, 579]), (9, .ifCond .eq 15, 3, [24]), (12, .aload_n 0, 1, []), (13, .getfield 28, 3, [9, 2, 0, 443]),
  (16, .iconst 1, 1, []), (17, .iload_n 2, 1, []), (18, .invokevirtual 126, 3, [86, 3, 2, 8, 579]), (21, .ifCond .ne 13, 3, [34]), (34, .aload_n 0, 1, []), (35, .getfield 62, 3, [9, 6, 0, 447]), (38, .iload_n 1, 1, []), (39, .invokevirtual 156, 3, [1, 2, 2, 0, 610]),
  (42, .getfield 167, 3, [4, 1, 1, 91]), (45, .iload_n 2, 1, []), (46, .invokestatic 107, 3, [123, 2, 0, 0, 588]), (49, .ireturn, 1, [0])
  ]
def tb_106 : List MRow := [
  (0, .aload_n 0, 1, []), (1, .getfield 28, 3, [9, 2, 0, 443]), (4, .iconst 3, 1, []), (5, .iload_n 1, 1, []), (6, .invokevirtual 126, 3, [86, 3, 2, 8, 579]), (9, .ifCond .eq 15, 3, [24]), (12, .aload_n 0, 1, []), (13, .getfield 28, 3, [9, 2, 0, 443]),
  (16, .iconst 2, 1, []), (17, .iload_n 2, 1, []), (18, .invokevirtual 126, 3, [86, 3, 2, 8, 579]), (21, .ifCond .ne 13, 3, [34]), (34, .aload_n 0, 1, []), (35, .getfield 62, 3, [9, 6, 0, 447]), (38, .iload_n 1, 1, []), (39, .iload_n 2, 1, []),
  (40, .invokevirtual 172, 3, [11, 3, 2, 0, 629]), (43, .ireturn, 1, [0])
  ]
def tb_107 : List MRow := [
  (0, .aload_n 0, 1, []), (1, .getfield 62, 3, [9, 6, 0, 447]), (4, .iconst 1, 1, []), (5, .invokevirtual 175, 3, [12, 2, 2, 0, 791]), (8, .ifCond .ne 13, 3, [21]), (11, .new 76, 3, [101, 989]), (21, .aload_n 0, 1, []), (22, .getfield 62, 3, [9, 6, 0, 447]),
  (25, .invokevirtual 181, 3, [14, 1, 2, 0, 1657]), (28, .aload_n 0, 1, []), (29, .getfield 62, 3, [9, 6, 0, 447]), (32, .aload_n 0, 1, []), (33, .getfield 62, 3, [9, 6, 0, 447]), (36, .getfield 184, 3, [0, 11, 1, 92]), (39, .invokevirtual 156, 3, [1, 2, 2, 0, 610]), (42, .getfield 187, 3, [4, 5, 1, 93]),
  (45, .ireturn, 1, [0])
  ]
def tb_108 : List MRow := [
  (0, .aload_n 0, 1, []), (1, .getfield 62, 3, [9, 6, 0, 447]), (4, .iconst 2, 1, []), (5, .invokevirtual 175, 3, [12, 2, 2, 0, 791]), (8, .ifCond .ne 13, 3, [21]), (11, .new 76, 3, [101, 989]), (21, .aload_n 0, 1, []), (22, .getfield 62, 3, [9, 6, 0, 447]),
  (25, .invokevirtual 192, 3, [15, 1, 2, 0, 1665]), (28, .aload_n 0, 1, []), (29, .getfield 62, 3, [9, 6, 0, 447]), (32, .invokevirtual 195, 3, [25, 1, 2, 0, 1666]), (35, .aload_n 0, 1, []), (36, .getfield 62, 3, [9, 6, 0, 447]), (39, .getfield 184, 3, [0, 11, 1, 92]), (42, .ireturn, 1, [0])
  ]
def tb_109 : List MRow := [
  (0, .aload_n 0, 1, []), (1, .getfield 28, 3, [9, 2, 0, 443]), (4, .iconst 3, 1, []), (5, .iload_n 1, 1, []), (6, .invokevirtual 126, 3, [86, 3, 2, 8, 579]), (9, .ifCond .eq 15, 3, [24]), (12, .aload_n 0, 1, []), (13, .getfield 28, 3, [9, 2, 0, 443]),
  (16, .iconst 0, 1, []), (17, .iload_n 2, 1, []), (18, .invokevirtual 126, 3, [86, 3, 2, 8, 579]), (21, .ifCond .ne 13, 3, [34]), (34, .iload_n 3, 1, []), (35, .iconst 1, 1, []), (36, .if_icmp .lt 9, 3, [45]), (39, .iload_n 3, 1, []),
  (40, .bipush 9, 2, []), (42, .if_icmp .le 13, 3, [55]), (55, .aload_n 0, 1, []), (56, .getfield 62, 3, [9, 6, 0, 447]), (59, .iload_n 1, 1, []), (60, .invokevirtual 156, 3, [1, 2, 2, 0, 610]), (63, .getfield 160, 3, [4, 0, 1, 90]), (66, .astore 4, 2, []),
  (68, .aload 4, 2, []), (70, .iload_n 2, 1, []), (71, .bipush 20, 2, []), (73, .aload 4, 2, []), (75, .iload_n 2, 1, []), (76, .invokestatic 107, 3, [123, 2, 0, 0, 588]), (79, .iload_n 3, 1, []), (80, .iadd, 1, []),
  (81, .invokestatic 200, 3, [182, 2, 0, 0, 769]), (84, .invokestatic 205, 3, [124, 3, 0, 0, 1673]), (87, .aload 4, 2, []), (89, .iload_n 2, 1, []), (90, .invokestatic 107, 3, [123, 2, 0, 0, 588]), (93, .ireturn, 1, [0])
  ]
def tb_110 : List MRow := [
  (0, .aload_n 0, 1, []), (1, .getfield 28, 3, [9, 2, 0, 443]), (4, .iconst 3, 1, []), (5, .iload_n 1, 1, []), (6, .invokevirtual 126, 3, [86, 3, 2, 8, 579]), (9, .ifCond .ne 13, 3, [22]), (22, .iload_n 2, 1, []), (23, .iconst 1, 1, []),
  (24, .if_icmp .lt 9, 3, [33]), (27, .iload_n 2, 1, []), (28, .bipush 20, 2, []), (30, .if_icmp .le 13, 3, [43]), (43, .aload_n 0, 1, []), (44, .getfield 62, 3, [9, 6, 0, 447]), (47, .iload_n 1, 1, []), (48, .invokevirtual 156, 3, [1, 2, 2, 0, 610]),
  (51, .astore_n 3, 1, []), (52, .aload_n 3, 1, []), (53, .dup, 1, []), (54, .getfield 187, 3, [4, 5, 1, 93]), (57, .iload_n 2, 1, []), (58, .iadd, 1, []), (59, .putfield 187, 3, [4, 5, 1, 93]), (62, .aload_n 3, 1, []),
  (63, .getfield 187, 3, [4, 5, 1, 93]), (66, .ireturn, 1, [0])
  ]
def tb_111 : List MRow := [
  (0, .iload_n 1, 1, []), (1, .iconst 1, 1, []), (2, .if_icmp .lt 9, 3, [11]), (5, .iload_n 1, 1, []), (6, .bipush 60, 2, []), (8, .if_icmp .le 13, 3, [21]), (21, .aload_n 0, 1, []), (22, .getfield 62, 3, [9, 6, 0, 447]),
  (25, .iload_n 1, 1, []), (26, .invokevirtual 215, 3, [17, 2, 2, 0, 658]), (29, .ireturn, 1, [0])
  ]
def tb_112 : List MRow := [
  (0, .iload_n 1, 1, []), (1, .iconst 1, 1, []), (2, .if_icmp .lt 9, 3, [11]), (5, .iload_n 1, 1, []), (6, .bipush 60, 2, []), (8, .if_icmp .le 13, 3, [21]), (21, .iload_n 2, 1, []), (22, .bipush 10, 2, []),
  (24, .if_icmp .lt 9, 3, [33]), (27, .iload_n 2, 1, []), (28, .bipush 16, 2, []), (30, .if_icmp .le 13, 3, [43]), (43, .aload_n 0, 1, []), (44, .getfield 66, 3, [9, 7, 0, 448]), (47, .aload_n 0, 1, []), (48, .getfield 62, 3, [9, 6, 0, 447]),
  (51, .invokevirtual 220, 3, [3, 2, 2, 0, 762]), (54, .aload_n 0, 1, []), (55, .getfield 66, 3, [9, 7, 0, 448]), (58, .iload_n 1, 1, []), (59, .invokevirtual 215, 3, [17, 2, 2, 0, 658]), (62, .pop, 1, []), (63, .aload_n 0, 1, []), (64, .getfield 66, 3, [9, 7, 0, 448]),
  (67, .iload_n 2, 1, []), (68, .invokevirtual 223, 3, [8, 2, 2, 0, 562]), (71, .ireturn, 1, [0])
  ]
def tb_113 : List MRow := [
  (0, .aload_n 0, 1, []), (1, .getfield 28, 3, [9, 2, 0, 443]), (4, .iconst 3, 1, []), (5, .iload_n 1, 1, []), (6, .invokevirtual 126, 3, [86, 3, 2, 8, 579]), (9, .ifCond .ne 13, 3, [22]), (22, .aload_n 0, 1, []), (23, .getfield 66, 3, [9, 7, 0, 448]),
  (26, .aload_n 0, 1, []), (27, .getfield 62, 3, [9, 6, 0, 447]), (30, .invokevirtual 220, 3, [3, 2, 2, 0, 762]), (33, .iconst 0, 1, []), (34, .istore_n 2, 1, []), (35, .iload_n 2, 1, []), (36, .sipush 10000, 3, []), (39, .if_icmp .ge 42, 3, [81]),
  (42, .aload_n 0, 1, []), (43, .getfield 66, 3, [9, 7, 0, 448]), (46, .iload_n 1, 1, []), (47, .invokevirtual 156, 3, [1, 2, 2, 0, 610]), (50, .getfield 226, 3, [4, 2, 1, 94]), (53, .ifCond .eq 28, 3, [81]), (56, .aload_n 0, 1, []), (57, .getfield 66, 3, [9, 7, 0, 448]),
  (60, .invokevirtual 230, 3, [4, 1, 2, 0, 545]), (63, .ifCond .ne 18, 3, [81]), (66, .aload_n 0, 1, []), (67, .getfield 66, 3, [9, 7, 0, 448]), (70, .iconst 1, 1, []), (71, .invokevirtual 215, 3, [17, 2, 2, 0, 658]), (74, .pop, 1, []), (75, .iinc 2 1, 3, []),
  (78, .goto (-43), 3, [35]), (81, .aload_n 0, 1, []), (82, .getfield 66, 3, [9, 7, 0, 448]), (85, .iload_n 1, 1, []), (86, .invokevirtual 156, 3, [1, 2, 2, 0, 610]), (89, .getfield 226, 3, [4, 2, 1, 94]), (92, .ifCond .eq 7, 3, [99]), (95, .iconst (-1), 1, []),
  (96, .goto 4, 3, [100]), (99, .iload_n 2, 1, []), (100, .ireturn, 1, [0])
  ]
def tb_114 : List MRow := [
  (0, .aload_n 0, 1, []), (1, .getfield 66, 3, [9, 7, 0, 448]), (4, .aload_n 0, 1, []), (5, .getfield 62, 3, [9, 6, 0, 447]), (8, .invokevirtual 220, 3, [3, 2, 2, 0, 762]), (11, .aload_n 0, 1, []), (12, .getfield 66, 3, [9, 7, 0, 448]), (15, .sipush 10000, 3, []),
  (18, .invokevirtual 215, 3, [17, 2, 2, 0, 658]), (21, .pop, 1, []), (22, .iconst 0, 1, []), (23, .istore_n 1, 1, []), (24, .iload_n 1, 1, []), (25, .aload_n 0, 1, []), (26, .getfield 28, 3, [9, 2, 0, 443]), (29, .iconst 3, 1, []),
  (30, .invokevirtual 234, 3, [85, 2, 2, 8, 557]), (33, .if_icmp .ge 22, 3, [55]), (36, .aload_n 0, 1, []), (37, .getfield 66, 3, [9, 7, 0, 448]), (40, .iload_n 1, 1, []), (41, .invokevirtual 235, 3, [9, 2, 2, 0, 611]), (44, .ifCond .ne 5, 3, [49]), (47, .iload_n 1, 1, []),
  (48, .ireturn, 1, [0]), (49, .iinc 1 1, 3, []), (52, .goto (-28), 3, [24]), (55, .iconst (-1), 1, []), (56, .ireturn, 1, [0])
  ]
def tb_115 : List MRow := [
  (0, .aload_n 0, 1, []), (1, .getfield 62, 3, [9, 6, 0, 447]), (4, .invokevirtual 230, 3, [4, 1, 2, 0, 545]), (7, .ifCond .eq 5, 3, [12]), (10, .iconst (-1), 1, []), (11, .ireturn, 1, [0]), (12, .iconst 0, 1, []), (13, .istore_n 1, 1, []),
  (14, .bipush 6, 2, []), (16, .istore_n 2, 1, []), (17, .iconst 0, 1, []), (18, .istore_n 3, 1, []), (19, .iload_n 3, 1, []), (20, .iconst 2, 1, []), (21, .if_icmp .gt 77, 3, [98]), (24, .aload_n 0, 1, []),
  (25, .getfield 62, 3, [9, 6, 0, 447]), (28, .iload_n 3, 1, []), (29, .invokevirtual 175, 3, [12, 2, 2, 0, 791]), (32, .ifCond .eq 60, 3, [92]), (35, .aload_n 0, 1, []), (36, .getfield 66, 3, [9, 7, 0, 448]), (39, .aload_n 0, 1, []), (40, .getfield 62, 3, [9, 6, 0, 447]),
  (43, .invokevirtual 220, 3, [3, 2, 2, 0, 762]), (46, .aload_n 0, 1, []), (47, .getfield 66, 3, [9, 7, 0, 448]), (50, .iload_n 3, 1, []), (51, .invokevirtual 238, 3, [13, 2, 2, 0, 792]), (54, .aload_n 0, 1, []), (55, .getfield 66, 3, [9, 7, 0, 448]), (58, .sipush 10000, 3, []),
  (61, .invokevirtual 215, 3, [17, 2, 2, 0, 658]), (64, .pop, 1, []), (65, .aload_n 0, 1, []), (66, .getfield 66, 3, [9, 7, 0, 448]), (69, .aload_n 0, 1, []), (70, .getfield 62, 3, [9, 6, 0, 447]), (73, .getfield 184, 3, [0, 11, 1, 92]), (76, .invokevirtual 235, 3, [9, 2, 2, 0, 611]),
  (79, .istore 4, 2, []), (81, .iload 4, 2, []), (83, .iload_n 2, 1, []), (84, .if_icmp .ge 8, 3, [92]), (87, .iload_n 3, 1, []), (88, .istore_n 1, 1, []), (89, .iload 4, 2, []), (91, .istore_n 2, 1, []),
  (92, .iinc 3 1, 3, []), (95, .goto (-76), 3, [19]), (98, .iload_n 1, 1, []), (99, .ireturn, 1, [0])
  ]
def tb_116 : List MRow := [
  (0, .aload_n 0, 1, []), (1, .getfield 28, 3, [9, 2, 0, 443]), (4, .iconst 3, 1, []), (5, .invokevirtual 234, 3, [85, 2, 2, 8, 557]), (8, .istore_n 1, 1, []), (9, .iconst 0, 1, []), (10, .istore_n 2, 1, []), (11, .iconst 0, 1, []),
  (12, .istore_n 3, 1, []), (13, .iload_n 3, 1, []), (14, .iload_n 1, 1, []), (15, .if_icmp .ge 23, 3, [38]), (18, .iload_n 2, 1, []), (19, .aload_n 0, 1, []), (20, .getfield 62, 3, [9, 6, 0, 447]), (23, .iload_n 3, 1, []),
  (24, .invokevirtual 156, 3, [1, 2, 2, 0, 610]), (27, .getfield 187, 3, [4, 5, 1, 93]), (30, .iadd, 1, []), (31, .istore_n 2, 1, []), (32, .iinc 3 1, 3, []), (35, .goto (-22), 3, [13]), (38, .iload_n 1, 1, []), (39, .ifCond .ne 7, 3, [46]),
  (42, .dconst 0, 1, []), (43, .goto 8, 3, [51]), (46, .iload_n 2, 1, []), (47, .i2d, 1, []), (48, .iload_n 1, 1, []), (49, .i2d, 1, []), (50, .ddiv, 1, []), (51, .dreturn, 1, [])
  ]
def tb_117 : List MRow := [
  (0, .ldc2_w 241, 3, [919, 800]), (3, .lstore_n 1, 1, []), (4, .iconst 0, 1, []), (5, .istore_n 3, 1, []), (6, .iload_n 3, 1, []), (7, .bipush 17, 2, []), (9, .if_icmp .gt 22, 3, [31]), (12, .lload_n 1, 1, []),
  (13, .ldc2_w 243, 3, [31, 801]), (16, .lmul, 1, []), (17, .aload_n 0, 1, []), (18, .iload_n 3, 1, []), (19, .invokevirtual 122, 3, [119, 2, 2, 9, 541]), (22, .i2l, 1, []), (23, .ladd, 1, []), (24, .lstore_n 1, 1, []),
  (25, .iinc 3 1, 3, []), (28, .goto (-22), 3, [6]), (31, .iconst 0, 1, []), (32, .istore_n 3, 1, []), (33, .iload_n 3, 1, []), (34, .aload_n 0, 1, []), (35, .getfield 28, 3, [9, 2, 0, 443]), (38, .iconst 1, 1, []),
  (39, .invokevirtual 234, 3, [85, 2, 2, 8, 557]), (42, .if_icmp .ge 39, 3, [81]), (45, .iconst 0, 1, []), (46, .istore 4, 2, []), (48, .iload 4, 2, []), (50, .iconst 4, 1, []), (51, .if_icmp .gt 24, 3, [75]), (54, .lload_n 1, 1, []),
  (55, .ldc2_w 243, 3, [31, 801]), (58, .lmul, 1, []), (59, .aload_n 0, 1, []), (60, .iload_n 3, 1, []), (61, .iload 4, 2, []), (63, .invokevirtual 132, 3, [120, 3, 2, 9, 802]), (66, .i2l, 1, []), (67, .ladd, 1, []),
  (68, .lstore_n 1, 1, []), (69, .iinc 4 1, 3, []), (72, .goto (-24), 3, [48]), (75, .iinc 3 1, 3, []), (78, .goto (-45), 3, [33]), (81, .iconst 0, 1, []), (82, .istore_n 3, 1, []), (83, .iload_n 3, 1, []),
  (84, .aload_n 0, 1, []), (85, .getfield 28, 3, [9, 2, 0, 443]), (88, .iconst 2, 1, []), (89, .invokevirtual 234, 3, [85, 2, 2, 8, 557]), (92, .if_icmp .ge 39, 3, [131]), (95, .iconst 0, 1, []), (96, .istore 4, 2, []), (98, .iload 4, 2, []),
  (100, .iconst 4, 1, []), (101, .if_icmp .gt 24, 3, [125]), (104, .lload_n 1, 1, []), (105, .ldc2_w 243, 3, [31, 801]), (108, .lmul, 1, []), (109, .aload_n 0, 1, []), (110, .iload_n 3, 1, []), (111, .iload 4, 2, []),
  (113, .invokevirtual 138, 3, [121, 3, 2, 9, 584]), (116, .i2l, 1, []), (117, .ladd, 1, []), (118, .lstore_n 1, 1, []), (119, .iinc 4 1, 3, []), (122, .goto (-24), 3, [98]), (125, .iinc 3 1, 3, []), (128, .goto (-45), 3, [83]),
  (131, .iconst 0, 1, []), (132, .istore_n 3, 1, []), (133, .iload_n 3, 1, []), (134, .aload_n 0, 1, []), (135, .getfield 28, 3, [9, 2, 0, 443]), (138, .iconst 3, 1, []), (139, .invokevirtual 234, 3, [85, 2, 2, 8, 557]), (142, .if_icmp .ge 16, 3, [158]),
  (145, .aload_n 0, 1, []), (146, .lload_n 1, 1, []), (147, .iload_n 3, 1, []), (148, .invokevirtual 245, 3, [118, 3, 2, 9, 814]), (151, .lstore_n 1, 1, []), (152, .iinc 3 1, 3, []), (155, .goto (-22), 3, [133]), (158, .lload_n 1, 1, []),
  (159, .lreturn, 1, [])
  ]
def tb_118 : List MRow := [
  (0, .lload_n 1, 1, []), (1, .lstore 4, 2, []), (3, .iconst 0, 1, []), (4, .istore 6, 2, []), (6, .iload 6, 2, []), (8, .bipush 8, 2, []), (10, .if_icmp .gt 26, 3, [36]), (13, .lload 4, 2, []),
  (15, .ldc2_w 243, 3, [31, 801]), (18, .lmul, 1, []), (19, .aload_n 0, 1, []), (20, .iload_n 3, 1, []), (21, .iload 6, 2, []), (23, .invokevirtual 151, 3, [122, 3, 2, 9, 606]), (26, .i2l, 1, []), (27, .ladd, 1, []),
  (28, .lstore 4, 2, []), (30, .iinc 6 1, 3, []), (33, .goto (-27), 3, [6]), (36, .iconst 0, 1, []), (37, .istore 6, 2, []), (39, .iload 6, 2, []), (41, .aload_n 0, 1, []), (42, .getfield 28, 3, [9, 2, 0, 443]),
  (45, .iconst 0, 1, []), (46, .invokevirtual 234, 3, [85, 2, 2, 8, 557]), (49, .if_icmp .ge 35, 3, [84]), (52, .lload 4, 2, []), (54, .ldc2_w 243, 3, [31, 801]), (57, .lmul, 1, []), (58, .aload_n 0, 1, []), (59, .getfield 62, 3, [9, 6, 0, 447]),
  (62, .iload_n 3, 1, []), (63, .invokevirtual 156, 3, [1, 2, 2, 0, 610]), (66, .getfield 160, 3, [4, 0, 1, 90]), (69, .iload 6, 2, []), (71, .invokestatic 107, 3, [123, 2, 0, 0, 588]), (74, .i2l, 1, []), (75, .ladd, 1, []), (76, .lstore 4, 2, []),
  (78, .iinc 6 1, 3, []), (81, .goto (-42), 3, [39]), (84, .iconst 0, 1, []), (85, .istore 6, 2, []), (87, .iload 6, 2, []), (89, .aload_n 0, 1, []), (90, .getfield 28, 3, [9, 2, 0, 443]), (93, .iconst 1, 1, []),
  (94, .invokevirtual 234, 3, [85, 2, 2, 8, 557]), (97, .if_icmp .ge 35, 3, [132]), (100, .lload 4, 2, []), (102, .ldc2_w 243, 3, [31, 801]), (105, .lmul, 1, []), (106, .aload_n 0, 1, []), (107, .getfield 62, 3, [9, 6, 0, 447]), (110, .iload_n 3, 1, []),
  (111, .invokevirtual 156, 3, [1, 2, 2, 0, 610]), (114, .getfield 167, 3, [4, 1, 1, 91]), (117, .iload 6, 2, []), (119, .invokestatic 107, 3, [123, 2, 0, 0, 588]), (122, .i2l, 1, []), (123, .ladd, 1, []), (124, .lstore 4, 2, []), (126, .iinc 6 1, 3, []),
  (129, .goto (-42), 3, [87]), (132, .lload 4, 2, []), (134, .lreturn, 1, [])
  ]
def tb_119 : List MRow := [
  (0, .iload_n 1, 1, []), (1, .lookupswitch 105 #[(0, 51), (7, 59), (8, 81), (9, 89), (17, 97)], 51, [106, 52, 60, 82, 90, 98]), (52, .aload_n 0, 1, []), (53, .getfield 62, 3, [9, 6, 0, 447]), (56, .getfield 249, 3, [0, 7, 1, 95]), (59, .ireturn, 1, [0]), (60, .aload_n 0, 1, []), (61, .getfield 62, 3, [9, 6, 0, 447]),
  (64, .invokevirtual 230, 3, [4, 1, 2, 0, 545]), (67, .ifCond .eq 7, 3, [74]), (70, .iconst (-1), 1, []), (71, .goto 10, 3, [81]), (74, .aload_n 0, 1, []), (75, .getfield 62, 3, [9, 6, 0, 447]), (78, .getfield 252, 3, [0, 8, 1, 96]), (81, .ireturn, 1, [0]),
  (82, .aload_n 0, 1, []), (83, .getfield 62, 3, [9, 6, 0, 447]), (86, .getfield 184, 3, [0, 11, 1, 92]), (89, .ireturn, 1, [0]), (90, .aload_n 0, 1, []), (91, .getfield 62, 3, [9, 6, 0, 447]), (94, .invokevirtual 255, 3, [5, 1, 2, 0, 549]), (97, .ireturn, 1, [0]),
  (98, .aload_n 0, 1, []), (99, .getfield 10, 3, [9, 0, 0, 441]), (102, .getfield 73, 3, [5, 1, 1, 86]), (105, .ireturn, 1, [0]), (106, .iload_n 1, 1, []), (107, .bipush 6, 2, []), (109, .if_icmp .gt 16, 3, [125]), (112, .aload_n 0, 1, []),
  (113, .getfield 28, 3, [9, 2, 0, 443]), (116, .iload_n 1, 1, []), (117, .iconst 1, 1, []), (118, .isub, 1, []), (119, .invokevirtual 234, 3, [85, 2, 2, 8, 557]), (122, .goto 11, 3, [133]), (125, .aload_n 0, 1, []), (126, .getfield 62, 3, [9, 6, 0, 447]),
  (129, .iload_n 1, 1, []), (130, .invokevirtual 223, 3, [8, 2, 2, 0, 562]), (133, .ireturn, 1, [0])
  ]
def tb_120 : List MRow := [
  (0, .iload_n 2, 1, []), (1, .tableswitch 89 0 3 #[31, 43, 55, 67], 31, [90, 32, 44, 56, 68]), (32, .aload_n 0, 1, []), (33, .getfield 28, 3, [9, 2, 0, 443]), (36, .getfield 258, 3, [8, 2, 1, 97]), (39, .iload_n 1, 1, []), (40, .invokestatic 107, 3, [123, 2, 0, 0, 588]), (43, .ireturn, 1, [0]),
  (44, .aload_n 0, 1, []), (45, .getfield 28, 3, [9, 2, 0, 443]), (48, .getfield 261, 3, [8, 3, 1, 98]), (51, .iload_n 1, 1, []), (52, .invokestatic 107, 3, [123, 2, 0, 0, 588]), (55, .ireturn, 1, [0]), (56, .aload_n 0, 1, []), (57, .getfield 28, 3, [9, 2, 0, 443]),
  (60, .getfield 264, 3, [8, 4, 1, 99]), (63, .iload_n 1, 1, []), (64, .invokestatic 107, 3, [123, 2, 0, 0, 588]), (67, .ireturn, 1, [0]), (68, .aload_n 0, 1, []), (69, .getfield 28, 3, [9, 2, 0, 443]), (72, .getfield 267, 3, [8, 1, 1, 100]), (75, .aload_n 0, 1, []),
  (76, .getfield 28, 3, [9, 2, 0, 443]), (79, .getfield 258, 3, [8, 2, 1, 97]), (82, .iload_n 1, 1, []), (83, .invokestatic 107, 3, [123, 2, 0, 0, 588]), (86, .invokestatic 107, 3, [123, 2, 0, 0, 588]), (89, .ireturn, 1, [0]), (90, .aload_n 0, 1, []), (91, .getfield 28, 3, [9, 2, 0, 443]),
  (94, .iload_n 1, 1, []), (95, .invokevirtual 270, 3, [90, 2, 2, 8, 806]), (98, .ireturn, 1, [0])
  ]
def tb_121 : List MRow := [
  (0, .iload_n 2, 1, []), (1, .tableswitch 73 0 3 #[31, 43, 52, 61], 31, [74, 32, 44, 53, 62]), (32, .aload_n 0, 1, []), (33, .getfield 28, 3, [9, 2, 0, 443]), (36, .getfield 141, 3, [8, 5, 1, 89]), (39, .iload_n 1, 1, []), (40, .invokestatic 107, 3, [123, 2, 0, 0, 588]), (43, .ireturn, 1, [0]),
  (44, .aload_n 0, 1, []), (45, .getfield 28, 3, [9, 2, 0, 443]), (48, .iload_n 1, 1, []), (49, .invokevirtual 273, 3, [89, 2, 2, 8, 589]), (52, .ireturn, 1, [0]), (53, .aload_n 0, 1, []), (54, .getfield 28, 3, [9, 2, 0, 443]), (57, .iload_n 1, 1, []),
  (58, .invokevirtual 276, 3, [87, 2, 2, 8, 597]), (61, .ireturn, 1, [0]), (62, .aload_n 0, 1, []), (63, .getfield 62, 3, [9, 6, 0, 447]), (66, .getfield 279, 3, [0, 5, 1, 101]), (69, .iload_n 1, 1, []), (70, .invokestatic 107, 3, [123, 2, 0, 0, 588]), (73, .ireturn, 1, [0]),
  (74, .aload_n 0, 1, []), (75, .getfield 62, 3, [9, 6, 0, 447]), (78, .getfield 282, 3, [0, 6, 1, 102]), (81, .iload_n 1, 1, []), (82, .invokestatic 107, 3, [123, 2, 0, 0, 588]), (85, .ireturn, 1, [0])
  ]
def tb_122 : List MRow := [
  (0, .aload_n 0, 1, []), (1, .getfield 62, 3, [9, 6, 0, 447]), (4, .iload_n 1, 1, []), (5, .invokevirtual 156, 3, [1, 2, 2, 0, 610]), (8, .astore_n 3, 1, []), (9, .iload_n 2, 1, []), (10, .tableswitch 102 0 7 #[46, 59, 64, 69, 74, 87, 92, 97], 46, [112, 56, 69, 74, 79, 84, 97, 102, 107]), (56, .aload_n 3, 1, []),
  (57, .getfield 226, 3, [4, 2, 1, 94]), (60, .ifCond .eq 7, 3, [67]), (63, .iconst 1, 1, []), (64, .goto 4, 3, [68]), (67, .iconst 0, 1, []), (68, .ireturn, 1, [0]), (69, .aload_n 3, 1, []), (70, .getfield 187, 3, [4, 5, 1, 93]),
  (73, .ireturn, 1, [0]), (74, .aload_n 3, 1, []), (75, .getfield 285, 3, [4, 6, 1, 103]), (78, .ireturn, 1, [0]), (79, .aload_n 3, 1, []), (80, .getfield 288, 3, [4, 7, 1, 104]), (83, .ireturn, 1, [0]), (84, .aload_n 3, 1, []),
  (85, .getfield 291, 3, [4, 4, 1, 105]), (88, .ifCond .eq 7, 3, [95]), (91, .iconst 1, 1, []), (92, .goto 4, 3, [96]), (95, .iconst 0, 1, []), (96, .ireturn, 1, [0]), (97, .aload_n 3, 1, []), (98, .getfield 294, 3, [4, 8, 1, 106]),
  (101, .ireturn, 1, [0]), (102, .aload_n 3, 1, []), (103, .getfield 297, 3, [4, 9, 1, 107]), (106, .ireturn, 1, [0]), (107, .aload_n 3, 1, []), (108, .getfield 300, 3, [4, 10, 1, 108]), (111, .ireturn, 1, [0]), (112, .aload_n 0, 1, []),
  (113, .getfield 62, 3, [9, 6, 0, 447]), (116, .iload_n 1, 1, []), (117, .invokevirtual 235, 3, [9, 2, 2, 0, 611]), (120, .ireturn, 1, [0])
  ]
def tb_123 : List MRow := [
  (0, .iload_n 1, 1, []), (1, .ifCond .lt 15, 3, [16]), (4, .iload_n 1, 1, []), (5, .aload_n 0, 1, []), (6, .arraylength, 1, []), (7, .if_icmp .ge 9, 3, [16]), (10, .aload_n 0, 1, []), (11, .iload_n 1, 1, []),
  (12, .iaload, 1, []), (13, .goto 4, 3, [17]), (16, .iconst 0, 1, []), (17, .ireturn, 1, [0])
  ]
def tb_124 : List MRow := [
  (0, .iload_n 1, 1, []), (1, .ifCond .lt 13, 3, [14]), (4, .iload_n 1, 1, []), (5, .aload_n 0, 1, []), (6, .arraylength, 1, []), (7, .if_icmp .ge 7, 3, [14]), (10, .aload_n 0, 1, []), (11, .iload_n 1, 1, []),
  (12, .iload_n 2, 1, []), (13, .iastore, 1, []), (14, .return_, 1, [])
  ]
def tb_125 : List MRow := [
  (0, .aload_n 0, 1, []), (1, .iconst 0, 1, []), (2, .aload_n 1, 1, []), (3, .iconst 0, 1, []), (4, .aload_n 0, 1, []), (5, .arraylength, 1, []), (6, .aload_n 1, 1, []), (7, .arraylength, 1, []),
  (8, .invokestatic 200, 3, [182, 2, 0, 0, 769]), (11, .invokestatic 303, 3, [1000, 770]), (14, .return_, 1, [])
  ]
def tb_126 : List MRow := [
  (0, .aload_n 0, 1, []), (1, .invokespecial 1, 3, [1002, 1321]), (4, .aload_n 0, 1, []), (5, .iconst (-1), 1, []), (6, .putfield 7, 3, [10, 1, 0, 1325]), (9, .aload_n 0, 1, []), (10, .bipush 6, 2, []), (12, .newarray .int, 2, [50]),
  (14, .putfield 13, 3, [10, 7, 0, 1333]), (17, .aload_n 0, 1, []), (18, .iconst 0, 1, []), (19, .newarray .int, 2, [50]), (21, .putfield 17, 3, [10, 8, 0, 1334]), (24, .aload_n 0, 1, []), (25, .iconst 0, 1, []), (26, .anewarray 20, 3, [52, 1322]),
  (29, .putfield 21, 3, [10, 9, 0, 1336]), (32, .aload_n 0, 1, []), (33, .iconst 0, 1, []), (34, .anewarray 20, 3, [52, 1322]), (37, .putfield 25, 3, [10, 10, 0, 1338]), (40, .aload_n 0, 1, []), (41, .iconst 0, 1, []), (42, .anewarray 20, 3, [52, 1322]),
  (45, .putfield 28, 3, [10, 11, 0, 1340]), (48, .aload_n 0, 1, []), (49, .iconst 0, 1, []), (50, .anewarray 20, 3, [52, 1322]), (53, .putfield 31, 3, [10, 12, 0, 1342]), (56, .aload_n 0, 1, []), (57, .iconst 0, 1, []), (58, .anewarray 20, 3, [52, 1322]),
  (61, .putfield 34, 3, [10, 13, 0, 1344]), (64, .aload_n 0, 1, []), (65, .iconst 0, 1, []), (66, .anewarray 20, 3, [52, 1322]), (69, .putfield 37, 3, [10, 14, 0, 1346]), (72, .aload_n 0, 1, []), (73, .iconst 0, 1, []), (74, .anewarray 20, 3, [52, 1322]),
  (77, .putfield 40, 3, [10, 15, 0, 1348]), (80, .aload_n 0, 1, []), (81, .iconst 0, 1, []), (82, .anewarray 20, 3, [52, 1322]), (85, .putfield 43, 3, [10, 16, 0, 1350]), (88, .aload_n 0, 1, []), (89, .iconst 0, 1, []), (90, .anewarray 20, 3, [52, 1322]),
  (93, .putfield 46, 3, [10, 17, 0, 1352]), (96, .return_, 1, [])
  ]
def tb_127 : List MRow := [
  (0, .iconst 0, 1, []), (1, .istore_n 2, 1, []), (2, .aload_n 0, 1, []), (3, .getfield 25, 3, [10, 10, 0, 1338]), (6, .iload_n 1, 1, []), (7, .aaload, 1, []), (8, .astore_n 3, 1, []), (9, .aload_n 3, 1, []),
  (10, .arraylength, 1, []), (11, .istore 4, 2, []), (13, .iconst 0, 1, []), (14, .istore 5, 2, []), (16, .iload 5, 2, []), (18, .iload 4, 2, []), (20, .if_icmp .ge 27, 3, [47]), (23, .aload_n 3, 1, []),
  (24, .iload 5, 2, []), (26, .iaload, 1, []), (27, .istore 6, 2, []), (29, .iload_n 2, 1, []), (30, .aload_n 0, 1, []), (31, .getfield 21, 3, [10, 9, 0, 1336]), (34, .iload 6, 2, []), (36, .aaload, 1, []),
  (37, .iconst 1, 1, []), (38, .iaload, 1, []), (39, .iadd, 1, []), (40, .istore_n 2, 1, []), (41, .iinc 5 1, 3, []), (44, .goto (-28), 3, [16]), (47, .iload_n 2, 1, []), (48, .ireturn, 1, [0])
  ]
def tb_128 : List MRow := [
  (0, .aload_n 0, 1, []), (1, .iload_n 1, 1, []), (2, .invokevirtual 79, 3, [127, 2, 2, 10, 847]), (5, .iconst 2, 1, []), (6, .ishr, 1, []), (7, .istore_n 2, 1, []), (8, .aload_n 0, 1, []), (9, .getfield 25, 3, [10, 10, 0, 1338]),
  (12, .iload_n 1, 1, []), (13, .aaload, 1, []), (14, .astore_n 3, 1, []), (15, .aload_n 3, 1, []), (16, .arraylength, 1, []), (17, .istore 4, 2, []), (19, .iconst 0, 1, []), (20, .istore 5, 2, []),
  (22, .iload 5, 2, []), (24, .iload 4, 2, []), (26, .if_icmp .ge 27, 3, [53]), (29, .aload_n 3, 1, []), (30, .iload 5, 2, []), (32, .iaload, 1, []), (33, .istore 6, 2, []), (35, .iload_n 2, 1, []),
  (36, .aload_n 0, 1, []), (37, .getfield 21, 3, [10, 9, 0, 1336]), (40, .iload 6, 2, []), (42, .aaload, 1, []), (43, .iconst 2, 1, []), (44, .iaload, 1, []), (45, .iadd, 1, []), (46, .istore_n 2, 1, []),
  (47, .iinc 5 1, 3, []), (50, .goto (-28), 3, [22]), (53, .iload_n 2, 1, []), (54, .ireturn, 1, [0])
  ]
def tb_129 : List MRow := [
  (0, .aload_n 0, 1, []), (1, .getfield 7, 3, [10, 1, 0, 1325]), (4, .ifCond .ge 7, 3, [11]), (7, .iconst (-1), 1, []), (8, .goto 28, 3, [36]), (11, .aload_n 0, 1, []), (12, .getfield 43, 3, [10, 16, 0, 1350]), (15, .aload_n 0, 1, []),
  (16, .getfield 7, 3, [10, 1, 0, 1325]), (19, .aaload, 1, []), (20, .aload_n 0, 1, []), (21, .getfield 62, 3, [10, 3, 0, 1328]), (24, .aload_n 0, 1, []), (25, .getfield 43, 3, [10, 16, 0, 1350]), (28, .aload_n 0, 1, []), (29, .getfield 7, 3, [10, 1, 0, 1325]),
  (32, .aaload, 1, []), (33, .arraylength, 1, []), (34, .irem, 1, []), (35, .iaload, 1, []), (36, .ireturn, 1, [0])
  ]
def tb_130 : List MRow := [
  (0, .sipush 999, 3, []), (3, .istore_n 3, 1, []), (4, .aload_n 0, 1, []), (5, .getfield 25, 3, [10, 10, 0, 1338]), (8, .iload_n 2, 1, []), (9, .aaload, 1, []), (10, .astore 4, 2, []), (12, .aload 4, 2, []),
  (14, .arraylength, 1, []), (15, .istore 5, 2, []), (17, .iconst 0, 1, []), (18, .istore 6, 2, []), (20, .iload 6, 2, []), (22, .iload 5, 2, []), (24, .if_icmp .ge 89, 3, [113]), (27, .aload 4, 2, []),
  (29, .iload 6, 2, []), (31, .iaload, 1, []), (32, .istore 7, 2, []), (34, .aload_n 0, 1, []), (35, .getfield 34, 3, [10, 13, 0, 1344]), (38, .iload_n 1, 1, []), (39, .aaload, 1, []), (40, .aload_n 0, 1, []),
  (41, .getfield 21, 3, [10, 9, 0, 1336]), (44, .iload 7, 2, []), (46, .aaload, 1, []), (47, .iconst 0, 1, []), (48, .iaload, 1, []), (49, .iaload, 1, []), (50, .aload_n 0, 1, []), (51, .getfield 17, 3, [10, 8, 0, 1334]),
  (54, .aload_n 0, 1, []), (55, .getfield 21, 3, [10, 9, 0, 1336]), (58, .iload 7, 2, []), (60, .aaload, 1, []), (61, .iconst 0, 1, []), (62, .iaload, 1, []), (63, .iaload, 1, []), (64, .iadd, 1, []),
  (65, .istore 8, 2, []), (67, .iload 8, 2, []), (69, .aload_n 0, 1, []), (70, .getfield 37, 3, [10, 14, 0, 1346]), (73, .iload_n 1, 1, []), (74, .aaload, 1, []), (75, .iload 7, 2, []), (77, .iaload, 1, []),
  (78, .iconst 5, 1, []), (79, .if_icmp .le 7, 3, [86]), (82, .iconst 5, 1, []), (83, .goto 12, 3, [95]), (86, .aload_n 0, 1, []), (87, .getfield 37, 3, [10, 14, 0, 1346]), (90, .iload_n 1, 1, []), (91, .aaload, 1, []),
  (92, .iload 7, 2, []), (94, .iaload, 1, []), (95, .iadd, 1, []), (96, .istore 8, 2, []), (98, .iload 8, 2, []), (100, .iload_n 3, 1, []), (101, .if_icmp .ge 6, 3, [107]), (104, .iload 8, 2, []),
  (106, .istore_n 3, 1, []), (107, .iinc 6 1, 3, []), (110, .goto (-90), 3, [20]), (113, .aload_n 0, 1, []), (114, .getfield 7, 3, [10, 1, 0, 1325]), (117, .ifCond .lt 30, 3, [147]), (120, .aload_n 0, 1, []), (121, .getfield 65, 3, [10, 4, 0, 1330]),
  (124, .iload_n 1, 1, []), (125, .if_icmp .ne 22, 3, [147]), (128, .aload_n 0, 1, []), (129, .invokevirtual 83, 3, [129, 1, 2, 10, 839]), (132, .iload_n 2, 1, []), (133, .if_icmp .ne 14, 3, [147]), (136, .iload_n 3, 1, []), (137, .iconst 3, 1, []),
  (138, .aload_n 0, 1, []), (139, .getfield 68, 3, [10, 5, 0, 1331]), (142, .imul, 1, []), (143, .iadd, 1, []), (144, .goto 4, 3, [148]), (147, .iload_n 3, 1, []), (148, .ireturn, 1, [0])
  ]
def tb_131 : List MRow := [
  (0, .aload_n 0, 1, []), (1, .getfield 7, 3, [10, 1, 0, 1325]), (4, .ifCond .ge 7, 3, [11]), (7, .iconst 0, 1, []), (8, .goto 21, 3, [29]), (11, .aload_n 0, 1, []), (12, .aload_n 0, 1, []), (13, .invokevirtual 83, 3, [129, 1, 2, 10, 839]),
  (16, .invokevirtual 87, 3, [128, 2, 2, 10, 843]), (19, .aload_n 0, 1, []), (20, .iload_n 1, 1, []), (21, .aload_n 0, 1, []), (22, .invokevirtual 83, 3, [129, 1, 2, 10, 839]), (25, .invokevirtual 90, 3, [130, 3, 2, 10, 851]), (28, .isub, 1, []), (29, .ireturn, 1, [0])
  ]
def tb_132 : List MRow := [
  (0, .iconst 0, 1, []), (1, .istore_n 1, 1, []), (2, .aload_n 0, 1, []), (3, .getfield 31, 3, [10, 12, 0, 1342]), (6, .astore_n 2, 1, []), (7, .aload_n 2, 1, []), (8, .arraylength, 1, []), (9, .istore_n 3, 1, []),
  (10, .iconst 0, 1, []), (11, .istore 4, 2, []), (13, .iload 4, 2, []), (15, .iload_n 3, 1, []), (16, .if_icmp .ge 22, 3, [38]), (19, .aload_n 2, 1, []), (20, .iload 4, 2, []), (22, .aaload, 1, []),
  (23, .astore 5, 2, []), (25, .iload_n 1, 1, []), (26, .aload 5, 2, []), (28, .iconst 0, 1, []), (29, .iaload, 1, []), (30, .iadd, 1, []), (31, .istore_n 1, 1, []), (32, .iinc 4 1, 3, []),
  (35, .goto (-22), 3, [13]), (38, .iload_n 1, 1, []), (39, .ireturn, 1, [0])
  ]
def tb_133 : List MRow := [
  (0, .iconst 0, 1, []), (1, .istore_n 2, 1, []), (2, .iconst 0, 1, []), (3, .istore_n 3, 1, []), (4, .iload_n 3, 1, []), (5, .aload_n 0, 1, []), (6, .getfield 31, 3, [10, 12, 0, 1342]), (9, .arraylength, 1, []),
  (10, .if_icmp .ge 93, 3, [103]), (13, .iload_n 3, 1, []), (14, .iload_n 1, 1, []), (15, .if_icmp .ne 6, 3, [21]), (18, .goto 79, 3, [97]), (21, .sipush 1000, 3, []), (24, .aload_n 0, 1, []), (25, .getfield 31, 3, [10, 12, 0, 1342]),
  (28, .iload_n 3, 1, []), (29, .aaload, 1, []), (30, .iconst 0, 1, []), (31, .iaload, 1, []), (32, .aload_n 0, 1, []), (33, .getfield 31, 3, [10, 12, 0, 1342]), (36, .iload_n 1, 1, []), (37, .aaload, 1, []),
  (38, .iconst 0, 1, []), (39, .iaload, 1, []), (40, .isub, 1, []), (41, .imul, 1, []), (42, .sipush 900, 3, []), (45, .sipush (-900), 3, []), (48, .aload_n 0, 1, []), (49, .getfield 31, 3, [10, 12, 0, 1342]),
  (52, .iload_n 3, 1, []), (53, .aaload, 1, []), (54, .iconst 1, 1, []), (55, .iaload, 1, []), (56, .aload_n 0, 1, []), (57, .getfield 31, 3, [10, 12, 0, 1342]), (60, .iload_n 1, 1, []), (61, .aaload, 1, []),
  (62, .iconst 1, 1, []), (63, .iaload, 1, []), (64, .isub, 1, []), (65, .invokestatic 94, 3, [181, 2, 0, 0, 918]), (68, .invokestatic 99, 3, [182, 2, 0, 0, 859]), (71, .iadd, 1, []), (72, .istore 4, 2, []), (74, .iload_n 2, 1, []),
  (75, .iload 4, 2, []), (77, .ifCond .gt 13, 3, [90]), (80, .iload 4, 2, []), (82, .ifCond .ne 12, 3, [94]), (85, .iload_n 3, 1, []), (86, .iload_n 1, 1, []), (87, .if_icmp .ge 7, 3, [94]), (90, .iconst 1, 1, []),
  (91, .goto 4, 3, [95]), (94, .iconst 0, 1, []), (95, .iadd, 1, []), (96, .istore_n 2, 1, []), (97, .iinc 3 1, 3, []), (100, .goto (-96), 3, [4]), (103, .iload_n 2, 1, []), (104, .ireturn, 1, [0])
  ]
def tb_134 : List MRow := [
  (0, .aload_n 1, 1, []), (1, .iconst 3, 1, []), (2, .iaload, 1, []), (3, .istore_n 2, 1, []), (4, .aload_n 1, 1, []), (5, .iconst 4, 1, []), (6, .iaload, 1, []), (7, .istore_n 3, 1, []),
  (8, .aload_n 1, 1, []), (9, .iconst 2, 1, []), (10, .iaload, 1, []), (11, .tableswitch 206 0 7 #[45, 60, 78, 96, 110, 135, 167, 204], 45, [217, 56, 71, 89, 107, 121, 146, 178, 215]), (56, .aload_n 0, 1, []), (57, .iload_n 3, 1, []), (58, .invokevirtual 102, 3, [131, 2, 2, 10, 835]), (61, .iload_n 2, 1, []),
  (62, .if_icmp .le 7, 3, [69]), (65, .iconst 1, 1, []), (66, .goto 4, 3, [70]), (69, .iconst 0, 1, []), (70, .ireturn, 1, [2]), (71, .aload_n 0, 1, []), (72, .getfield 31, 3, [10, 12, 0, 1342]), (75, .iload_n 3, 1, []),
  (76, .aaload, 1, []), (77, .iconst 1, 1, []), (78, .iaload, 1, []), (79, .iload_n 2, 1, []), (80, .if_icmp .lt 7, 3, [87]), (83, .iconst 1, 1, []), (84, .goto 4, 3, [88]), (87, .iconst 0, 1, []),
  (88, .ireturn, 1, [2]), (89, .aload_n 0, 1, []), (90, .getfield 31, 3, [10, 12, 0, 1342]), (93, .iload_n 3, 1, []), (94, .aaload, 1, []), (95, .iconst 2, 1, []), (96, .iaload, 1, []), (97, .iconst 1, 1, []),
  (98, .if_icmp .ne 7, 3, [105]), (101, .iconst 1, 1, []), (102, .goto 4, 3, [106]), (105, .iconst 0, 1, []), (106, .ireturn, 1, [2]), (107, .aload_n 0, 1, []), (108, .getfield 56, 3, [10, 0, 0, 1324]), (111, .iload_n 2, 1, []),
  (112, .if_icmp .le 7, 3, [119]), (115, .iconst 1, 1, []), (116, .goto 4, 3, [120]), (119, .iconst 0, 1, []), (120, .ireturn, 1, [2]), (121, .aload_n 0, 1, []), (122, .invokevirtual 105, 3, [132, 1, 2, 10, 855]), (125, .iload_n 2, 1, []),
  (126, .if_icmp .gt 18, 3, [144]), (129, .aload_n 0, 1, []), (130, .getfield 31, 3, [10, 12, 0, 1342]), (133, .iload_n 3, 1, []), (134, .aaload, 1, []), (135, .iconst 3, 1, []), (136, .iaload, 1, []), (137, .ifCond .le 7, 3, [144]),
  (140, .iconst 1, 1, []), (141, .goto 4, 3, [145]), (144, .iconst 0, 1, []), (145, .ireturn, 1, [2]), (146, .aload_n 0, 1, []), (147, .getfield 7, 3, [10, 1, 0, 1325]), (150, .ifCond .lt 22, 3, [172]), (153, .aload_n 0, 1, []),
  (154, .getfield 65, 3, [10, 4, 0, 1330]), (157, .iload_n 3, 1, []), (158, .if_icmp .ne 14, 3, [172]), (161, .aload_n 0, 1, []), (162, .aload_n 1, 1, []), (163, .iconst 5, 1, []), (164, .iaload, 1, []), (165, .invokevirtual 87, 3, [128, 2, 2, 10, 843]),
  (168, .iload_n 2, 1, []), (169, .if_icmp .le 7, 3, [176]), (172, .iconst 1, 1, []), (173, .goto 4, 3, [177]), (176, .iconst 0, 1, []), (177, .ireturn, 1, [2]), (178, .aload_n 0, 1, []), (179, .getfield 31, 3, [10, 12, 0, 1342]),
  (182, .iload_n 3, 1, []), (183, .aaload, 1, []), (184, .iconst 0, 1, []), (185, .iaload, 1, []), (186, .iconst 1, 1, []), (187, .if_icmp .ne 26, 3, [213]), (190, .aload_n 0, 1, []), (191, .iload_n 3, 1, []),
  (192, .invokevirtual 102, 3, [131, 2, 2, 10, 835]), (195, .aload_n 0, 1, []), (196, .aload_n 1, 1, []), (197, .iconst 5, 1, []), (198, .iaload, 1, []), (199, .invokevirtual 87, 3, [128, 2, 2, 10, 843]), (202, .iconst 2, 1, []), (203, .idiv, 1, []),
  (204, .isub, 1, []), (205, .iload_n 2, 1, []), (206, .if_icmp .ge 7, 3, [213]), (209, .iconst 1, 1, []), (210, .goto 4, 3, [214]), (213, .iconst 0, 1, []), (214, .ireturn, 1, [2]), (215, .iconst 1, 1, []),
  (216, .ireturn, 1, [2]), (217, .aload_n 0, 1, []), (218, .getfield 31, 3, [10, 12, 0, 1342]), (221, .iload_n 3, 1, []), (222, .aaload, 1, []), (223, .iconst 1, 1, []), (224, .iaload, 1, []), (225, .iload_n 2, 1, []),
  (226, .invokestatic 99, 3, [182, 2, 0, 0, 859]), (229, .iconst 2, 1, []), (230, .imul, 1, []), (231, .aload_n 0, 1, []), (232, .getfield 56, 3, [10, 0, 0, 1324]), (235, .iconst 3, 1, []), (236, .idiv, 1, []), (237, .if_icmp .le 7, 3, [244]),
  (240, .iconst 1, 1, []), (241, .goto 4, 3, [245]), (244, .iconst 0, 1, []), (245, .ireturn, 1, [2])
  ]
def tb_135 : List MRow := [
  (0, .aload_n 0, 1, []), (1, .getfield 7, 3, [10, 1, 0, 1325]), (4, .ifCond .lt 29, 3, [33]), (7, .aload_n 0, 1, []), (8, .getfield 68, 3, [10, 5, 0, 1331]), (11, .iconst 2, 1, []), (12, .if_icmp .ge 21, 3, [33]), (15, .aload_n 0, 1, []),
  (16, .getfield 31, 3, [10, 12, 0, 1342]), (19, .aload_n 0, 1, []), (20, .getfield 65, 3, [10, 4, 0, 1330]), (23, .aaload, 1, []), (24, .iconst 1, 1, []), (25, .iaload, 1, []), (26, .ifCond .le 7, 3, [33]), (29, .iconst 1, 1, []),
  (30, .goto 4, 3, [34]), (33, .iconst 0, 1, []), (34, .ireturn, 1, [2])
  ]
def tb_136 : List MRow := [
  (0, .aload_n 0, 1, []), (1, .getfield 31, 3, [10, 12, 0, 1342]), (4, .aload_n 0, 1, []), (5, .getfield 65, 3, [10, 4, 0, 1330]), (8, .aaload, 1, []), (9, .iconst 1, 1, []), (10, .dup2, 1, []), (11, .iaload, 1, []),
  (12, .iconst 1, 1, []), (13, .isub, 1, []), (14, .iastore, 1, []), (15, .aload_n 0, 1, []), (16, .getfield 31, 3, [10, 12, 0, 1342]), (19, .aload_n 0, 1, []), (20, .getfield 65, 3, [10, 4, 0, 1330]), (23, .aaload, 1, []),
  (24, .iconst 5, 1, []), (25, .dup2, 1, []), (26, .iaload, 1, []), (27, .iconst 1, 1, []), (28, .iadd, 1, []), (29, .iastore, 1, []), (30, .aload_n 0, 1, []), (31, .dup, 1, []),
  (32, .getfield 68, 3, [10, 5, 0, 1331]), (35, .iconst 1, 1, []), (36, .iadd, 1, []), (37, .putfield 68, 3, [10, 5, 0, 1331]), (40, .aload_n 0, 1, []), (41, .getfield 13, 3, [10, 7, 0, 1333]), (44, .iconst 2, 1, []), (45, .dup2, 1, []),
  (46, .iaload, 1, []), (47, .iconst 1, 1, []), (48, .iadd, 1, []), (49, .iastore, 1, []), (50, .return_, 1, [])
  ]
def tb_137 : List MRow := [
  (0, .aload_n 0, 1, []), (1, .getfield 7, 3, [10, 1, 0, 1325]), (4, .ifCond .lt 21, 3, [25]), (7, .aload_n 0, 1, []), (8, .getfield 31, 3, [10, 12, 0, 1342]), (11, .aload_n 0, 1, []), (12, .getfield 65, 3, [10, 4, 0, 1330]), (15, .aaload, 1, []),
  (16, .iconst 3, 1, []), (17, .iaload, 1, []), (18, .ifCond .le 7, 3, [25]), (21, .iconst 1, 1, []), (22, .goto 4, 3, [26]), (25, .iconst 0, 1, []), (26, .ireturn, 1, [2])
  ]
def tb_138 : List MRow := [
  (0, .aload_n 0, 1, []), (1, .getfield 31, 3, [10, 12, 0, 1342]), (4, .aload_n 0, 1, []), (5, .getfield 65, 3, [10, 4, 0, 1330]), (8, .aaload, 1, []), (9, .iconst 3, 1, []), (10, .dup2, 1, []), (11, .iaload, 1, []),
  (12, .iconst 1, 1, []), (13, .isub, 1, []), (14, .iastore, 1, []), (15, .aload_n 0, 1, []), (16, .getfield 13, 3, [10, 7, 0, 1333]), (19, .iconst 3, 1, []), (20, .dup2, 1, []), (21, .iaload, 1, []),
  (22, .iconst 1, 1, []), (23, .iadd, 1, []), (24, .iastore, 1, []), (25, .aload_n 0, 1, []), (26, .invokevirtual 108, 3, [142, 1, 2, 10, 876]), (29, .return_, 1, [])
  ]
def tb_139 : List MRow := [
  (0, .aload_n 0, 1, []), (1, .getfield 46, 3, [10, 17, 0, 1352]), (4, .astore_n 1, 1, []), (5, .aload_n 1, 1, []), (6, .arraylength, 1, []), (7, .istore_n 2, 1, []), (8, .iconst 0, 1, []), (9, .istore_n 3, 1, []),
  (10, .iload_n 3, 1, []), (11, .iload_n 2, 1, []), (12, .if_icmp .ge 80, 3, [92]), (15, .aload_n 1, 1, []), (16, .iload_n 3, 1, []), (17, .aaload, 1, []), (18, .astore 4, 2, []), (20, .aload 4, 2, []),
  (22, .iconst 1, 1, []), (23, .iaload, 1, []), (24, .aload_n 0, 1, []), (25, .getfield 65, 3, [10, 4, 0, 1330]), (28, .if_icmp .ne 58, 3, [86]), (31, .aload 4, 2, []), (33, .iconst 0, 1, []), (34, .iaload, 1, []),
  (35, .iconst 2, 1, []), (36, .if_icmp .eq 50, 3, [86]), (39, .aload_n 0, 1, []), (40, .aload 4, 2, []), (42, .invokevirtual 111, 3, [134, 2, 2, 10, 831]), (45, .ifCond .ne 6, 3, [51]), (48, .goto 38, 3, [86]), (51, .aload 4, 2, []),
  (53, .iconst 0, 1, []), (54, .iaload, 1, []), (55, .ifCond .ne 14, 3, [69]), (58, .aload_n 0, 1, []), (59, .invokevirtual 115, 3, [135, 1, 2, 10, 860]), (62, .ifCond .eq 7, 3, [69]), (65, .aload_n 0, 1, []), (66, .invokevirtual 119, 3, [136, 1, 2, 10, 864]),
  (69, .aload 4, 2, []), (71, .iconst 0, 1, []), (72, .iaload, 1, []), (73, .iconst 1, 1, []), (74, .if_icmp .ne 12, 3, [86]), (77, .aload_n 0, 1, []), (78, .invokevirtual 122, 3, [137, 1, 2, 10, 868]), (81, .ifCond .eq 5, 3, [86]),
  (84, .iconst 1, 1, []), (85, .ireturn, 1, [2]), (86, .iinc 3 1, 3, []), (89, .goto (-79), 3, [10]), (92, .iconst 0, 1, []), (93, .ireturn, 1, [2])
  ]
def tb_140 : List MRow := [
  (0, .aload_n 0, 1, []), (1, .getfield 46, 3, [10, 17, 0, 1352]), (4, .astore_n 2, 1, []), (5, .aload_n 2, 1, []), (6, .arraylength, 1, []), (7, .istore_n 3, 1, []), (8, .iconst 0, 1, []), (9, .istore 4, 2, []),
  (11, .iload 4, 2, []), (13, .iload_n 3, 1, []), (14, .if_icmp .ge 81, 3, [95]), (17, .aload_n 2, 1, []), (18, .iload 4, 2, []), (20, .aaload, 1, []), (21, .astore 5, 2, []), (23, .aload 5, 2, []),
  (25, .iconst 1, 1, []), (26, .iaload, 1, []), (27, .aload_n 0, 1, []), (28, .getfield 65, 3, [10, 4, 0, 1330]), (31, .if_icmp .ne 58, 3, [89]), (34, .aload 5, 2, []), (36, .iconst 0, 1, []), (37, .iaload, 1, []),
  (38, .iconst 2, 1, []), (39, .if_icmp .ne 50, 3, [89]), (42, .aload_n 0, 1, []), (43, .getfield 31, 3, [10, 12, 0, 1342]), (46, .aload_n 0, 1, []), (47, .getfield 65, 3, [10, 4, 0, 1330]), (50, .aaload, 1, []), (51, .iconst 4, 1, []),
  (52, .iaload, 1, []), (53, .ifCond .eq 36, 3, [89]), (56, .aload_n 0, 1, []), (57, .aload 5, 2, []), (59, .invokevirtual 111, 3, [134, 2, 2, 10, 831]), (62, .ifCond .ne 6, 3, [68]), (65, .goto 24, 3, [89]), (68, .iload_n 1, 1, []),
  (69, .iconst 3, 1, []), (70, .if_icmp .ge 5, 3, [75]), (73, .iconst 1, 1, []), (74, .ireturn, 1, [0]), (75, .aload_n 0, 1, []), (76, .getfield 31, 3, [10, 12, 0, 1342]), (79, .aload_n 0, 1, []), (80, .getfield 65, 3, [10, 4, 0, 1330]),
  (83, .aaload, 1, []), (84, .iconst 4, 1, []), (85, .iconst 0, 1, []), (86, .iastore, 1, []), (87, .iconst (-1), 1, []), (88, .ireturn, 1, [0]), (89, .iinc 4 1, 3, []), (92, .goto (-81), 3, [11]),
  (95, .iconst 0, 1, []), (96, .ireturn, 1, [0])
  ]
def tb_141 : List MRow := [
  (0, .aload_n 0, 1, []), (1, .invokevirtual 83, 3, [129, 1, 2, 10, 839]), (4, .istore_n 1, 1, []), (5, .aload_n 0, 1, []), (6, .aload_n 0, 1, []), (7, .getfield 65, 3, [10, 4, 0, 1330]), (10, .invokevirtual 102, 3, [131, 2, 2, 10, 835]), (13, .istore_n 2, 1, []),
  (14, .aload_n 0, 1, []), (15, .getfield 31, 3, [10, 12, 0, 1342]), (18, .aload_n 0, 1, []), (19, .getfield 65, 3, [10, 4, 0, 1330]), (22, .aaload, 1, []), (23, .astore_n 3, 1, []), (24, .aload_n 0, 1, []), (25, .getfield 28, 3, [10, 11, 0, 1340]),
  (28, .iload_n 1, 1, []), (29, .aaload, 1, []), (30, .iconst 0, 1, []), (31, .dup2, 1, []), (32, .iaload, 1, []), (33, .iconst 1, 1, []), (34, .iadd, 1, []), (35, .iastore, 1, []),
  (36, .iload_n 2, 1, []), (37, .ifCond .le 11, 3, [48]), (40, .aload_n 0, 1, []), (41, .iload_n 2, 1, []), (42, .invokevirtual 125, 3, [140, 2, 2, 10, 888]), (45, .goto 4, 3, [49]), (48, .iconst 0, 1, []), (49, .istore 4, 2, []),
  (51, .aload_n 0, 1, []), (52, .getfield 13, 3, [10, 7, 0, 1333]), (55, .iconst 4, 1, []), (56, .dup2, 1, []), (57, .iaload, 1, []), (58, .iload 4, 2, []), (60, .ifCond .le 7, 3, [67]), (63, .iconst 1, 1, []),
  (64, .goto 4, 3, [68]), (67, .iconst 0, 1, []), (68, .iadd, 1, []), (69, .iastore, 1, []), (70, .aload_n 0, 1, []), (71, .getfield 13, 3, [10, 7, 0, 1333]), (74, .iconst 5, 1, []), (75, .dup2, 1, []),
  (76, .iaload, 1, []), (77, .iload 4, 2, []), (79, .ifCond .ge 7, 3, [86]), (82, .iconst 1, 1, []), (83, .goto 4, 3, [87]), (86, .iconst 0, 1, []), (87, .iadd, 1, []), (88, .iastore, 1, []),
  (89, .aload_n 0, 1, []), (90, .dup, 1, []), (91, .getfield 62, 3, [10, 3, 0, 1328]), (94, .iconst 1, 1, []), (95, .iadd, 1, []), (96, .putfield 62, 3, [10, 3, 0, 1328]), (99, .iload_n 2, 1, []), (100, .ifCond .le 8, 3, [108]),
  (103, .iload 4, 2, []), (105, .ifCond .le 118, 3, [223]), (108, .aload_n 3, 1, []), (109, .iconst 1, 1, []), (110, .dup2, 1, []), (111, .iaload, 1, []), (112, .iload_n 2, 1, []), (113, .ifCond .gt 15, 3, [128]),
  (116, .iconst 1, 1, []), (117, .aload_n 0, 1, []), (118, .iload_n 1, 1, []), (119, .invokevirtual 87, 3, [128, 2, 2, 10, 843]), (122, .iconst 4, 1, []), (123, .idiv, 1, []), (124, .iadd, 1, []), (125, .goto 4, 3, [129]),
  (128, .iconst 1, 1, []), (129, .iadd, 1, []), (130, .iastore, 1, []), (131, .iload_n 2, 1, []), (132, .ifCond .gt 55, 3, [187]), (135, .aload_n 0, 1, []), (136, .getfield 25, 3, [10, 10, 0, 1338]), (139, .iload_n 1, 1, []),
  (140, .aaload, 1, []), (141, .astore 5, 2, []), (143, .aload 5, 2, []), (145, .arraylength, 1, []), (146, .istore 6, 2, []), (148, .iconst 0, 1, []), (149, .istore 7, 2, []), (151, .iload 7, 2, []),
  (153, .iload 6, 2, []), (155, .if_icmp .ge 32, 3, [187]), (158, .aload 5, 2, []), (160, .iload 7, 2, []), (162, .iaload, 1, []), (163, .istore 8, 2, []), (165, .aload_n 0, 1, []), (166, .getfield 37, 3, [10, 14, 0, 1346]),
  (169, .aload_n 0, 1, []), (170, .getfield 65, 3, [10, 4, 0, 1330]), (173, .aaload, 1, []), (174, .iload 8, 2, []), (176, .dup2, 1, []), (177, .iaload, 1, []), (178, .iconst 1, 1, []), (179, .iadd, 1, []),
  (180, .iastore, 1, []), (181, .iinc 7 1, 3, []), (184, .goto (-33), 3, [151]), (187, .aload_n 3, 1, []), (188, .bipush 6, 2, []), (190, .dup2, 1, []), (191, .iaload, 1, []), (192, .iconst 1, 1, []),
  (193, .iadd, 1, []), (194, .iastore, 1, []), (195, .aload_n 0, 1, []), (196, .getfield 28, 3, [10, 11, 0, 1340]), (199, .iload_n 1, 1, []), (200, .aaload, 1, []), (201, .iconst 1, 1, []), (202, .dup2, 1, []),
  (203, .iaload, 1, []), (204, .iconst 1, 1, []), (205, .iadd, 1, []), (206, .iastore, 1, []), (207, .aload_n 0, 1, []), (208, .getfield 13, 3, [10, 7, 0, 1333]), (211, .iconst 0, 1, []), (212, .dup2, 1, []),
  (213, .iaload, 1, []), (214, .iconst 1, 1, []), (215, .iadd, 1, []), (216, .iastore, 1, []), (217, .aload_n 0, 1, []), (218, .iconst 1, 1, []), (219, .putfield 71, 3, [10, 6, 0, 1332]), (222, .return_, 1, []),
  (223, .aload_n 3, 1, []), (224, .iconst 2, 1, []), (225, .dup2, 1, []), (226, .iaload, 1, []), (227, .iconst 1, 1, []), (228, .iadd, 1, []), (229, .iastore, 1, []), (230, .aload_n 3, 1, []),
  (231, .bipush 7, 2, []), (233, .dup2, 1, []), (234, .iaload, 1, []), (235, .iconst 1, 1, []), (236, .iadd, 1, []), (237, .iastore, 1, []), (238, .aload_n 0, 1, []), (239, .getfield 13, 3, [10, 7, 0, 1333]),
  (242, .iconst 1, 1, []), (243, .dup2, 1, []), (244, .iaload, 1, []), (245, .iconst 1, 1, []), (246, .iadd, 1, []), (247, .iastore, 1, []), (248, .aload_n 3, 1, []), (249, .iconst 2, 1, []),
  (250, .iaload, 1, []), (251, .iconst 1, 1, []), (252, .if_icmp .le 12, 3, [264]), (255, .aload_n 3, 1, []), (256, .iconst 0, 1, []), (257, .iconst 0, 1, []), (258, .iastore, 1, []), (259, .aload_n 3, 1, []),
  (260, .bipush 8, 2, []), (262, .iconst 1, 1, []), (263, .iastore, 1, []), (264, .return_, 1, [])
  ]
def tb_142 : List MRow := [
  (0, .aload_n 0, 1, []), (1, .dup, 1, []), (2, .getfield 56, 3, [10, 0, 0, 1324]), (5, .iconst 1, 1, []), (6, .iadd, 1, []), (7, .putfield 56, 3, [10, 0, 0, 1324]), (10, .aload_n 0, 1, []), (11, .iconst 0, 1, []),
  (12, .putfield 68, 3, [10, 5, 0, 1331]), (15, .aload_n 0, 1, []), (16, .getfield 65, 3, [10, 4, 0, 1330]), (19, .iconst 1, 1, []), (20, .iadd, 1, []), (21, .istore_n 1, 1, []), (22, .iload_n 1, 1, []), (23, .aload_n 0, 1, []),
  (24, .getfield 31, 3, [10, 12, 0, 1342]), (27, .arraylength, 1, []), (28, .if_icmp .ge 29, 3, [57]), (31, .aload_n 0, 1, []), (32, .getfield 31, 3, [10, 12, 0, 1342]), (35, .iload_n 1, 1, []), (36, .aaload, 1, []), (37, .iconst 0, 1, []),
  (38, .iaload, 1, []), (39, .ifCond .ne 6, 3, [45]), (42, .goto 9, 3, [51]), (45, .aload_n 0, 1, []), (46, .iload_n 1, 1, []), (47, .putfield 65, 3, [10, 4, 0, 1330]), (50, .return_, 1, []), (51, .iinc 1 1, 3, []),
  (54, .goto (-32), 3, [22]), (57, .aload_n 0, 1, []), (58, .invokevirtual 128, 3, [143, 1, 2, 10, 880]), (61, .return_, 1, [])
  ]
def tb_143 : List MRow := [
  (0, .aload_n 0, 1, []), (1, .getfield 31, 3, [10, 12, 0, 1342]), (4, .astore_n 1, 1, []), (5, .aload_n 1, 1, []), (6, .arraylength, 1, []), (7, .istore_n 2, 1, []), (8, .iconst 0, 1, []), (9, .istore_n 3, 1, []),
  (10, .iload_n 3, 1, []), (11, .iload_n 2, 1, []), (12, .if_icmp .ge 46, 3, [58]), (15, .aload_n 1, 1, []), (16, .iload_n 3, 1, []), (17, .aaload, 1, []), (18, .astore 4, 2, []), (20, .aload 4, 2, []),
  (22, .bipush 8, 2, []), (24, .iaload, 1, []), (25, .iconst 1, 1, []), (26, .if_icmp .ne 20, 3, [46]), (29, .aload_n 0, 1, []), (30, .getfield 71, 3, [10, 6, 0, 1332]), (33, .ifCond .ne 13, 3, [46]), (36, .aload 4, 2, []),
  (38, .iconst 0, 1, []), (39, .iconst 1, 1, []), (40, .iastore, 1, []), (41, .aload 4, 2, []), (43, .iconst 2, 1, []), (44, .iconst 1, 1, []), (45, .iastore, 1, []), (46, .aload 4, 2, []),
  (48, .bipush 8, 2, []), (50, .iconst 0, 1, []), (51, .iastore, 1, []), (52, .iinc 3 1, 3, []), (55, .goto (-45), 3, [10]), (58, .aload_n 0, 1, []), (59, .iconst 0, 1, []), (60, .putfield 71, 3, [10, 6, 0, 1332]),
  (63, .aload_n 0, 1, []), (64, .dup, 1, []), (65, .getfield 59, 3, [10, 2, 0, 1327]), (68, .iconst 1, 1, []), (69, .iadd, 1, []), (70, .putfield 59, 3, [10, 2, 0, 1327]), (73, .aload_n 0, 1, []), (74, .invokevirtual 105, 3, [132, 1, 2, 10, 855]),
  (77, .iconst 2, 1, []), (78, .if_icmp .ge 7, 3, [85]), (81, .iconst 1, 1, []), (82, .goto 4, 3, [86]), (85, .iconst 0, 1, []), (86, .istore_n 1, 1, []), (87, .iload_n 1, 1, []), (88, .ifCond .ne 199, 3, [287]),
  (91, .aload_n 0, 1, []), (92, .getfield 59, 3, [10, 2, 0, 1327]), (95, .aload_n 0, 1, []), (96, .getfield 40, 3, [10, 15, 0, 1348]), (99, .aload_n 0, 1, []), (100, .getfield 7, 3, [10, 1, 0, 1325]), (103, .aaload, 1, []), (104, .iconst 1, 1, []),
  (105, .iaload, 1, []), (106, .if_icmp .ne 181, 3, [287]), (109, .iconst 0, 1, []), (110, .istore_n 2, 1, []), (111, .aload_n 0, 1, []), (112, .getfield 31, 3, [10, 12, 0, 1342]), (115, .astore_n 3, 1, []), (116, .aload_n 3, 1, []),
  (117, .arraylength, 1, []), (118, .istore 4, 2, []), (120, .iconst 0, 1, []), (121, .istore 5, 2, []), (123, .iload 5, 2, []), (125, .iload 4, 2, []), (127, .if_icmp .ge 49, 3, [176]), (130, .aload_n 3, 1, []),
  (131, .iload 5, 2, []), (133, .aaload, 1, []), (134, .astore 6, 2, []), (136, .iload_n 2, 1, []), (137, .aload 6, 2, []), (139, .iconst 0, 1, []), (140, .iaload, 1, []), (141, .iconst 1, 1, []),
  (142, .if_icmp .ne 25, 3, [167]), (145, .aload 6, 2, []), (147, .iconst 1, 1, []), (148, .iaload, 1, []), (149, .aload_n 0, 1, []), (150, .getfield 40, 3, [10, 15, 0, 1348]), (153, .aload_n 0, 1, []), (154, .getfield 7, 3, [10, 1, 0, 1325]),
  (157, .aaload, 1, []), (158, .iconst 0, 1, []), (159, .iaload, 1, []), (160, .if_icmp .lt 7, 3, [167]), (163, .iconst 1, 1, []), (164, .goto 4, 3, [168]), (167, .iconst 0, 1, []), (168, .iadd, 1, []),
  (169, .istore_n 2, 1, []), (170, .iinc 5 1, 3, []), (173, .goto (-50), 3, [123]), (176, .aload_n 0, 1, []), (177, .getfield 31, 3, [10, 12, 0, 1342]), (180, .astore_n 3, 1, []), (181, .aload_n 3, 1, []), (182, .arraylength, 1, []),
  (183, .istore 4, 2, []), (185, .iconst 0, 1, []), (186, .istore 5, 2, []), (188, .iload 5, 2, []), (190, .iload 4, 2, []), (192, .if_icmp .ge 47, 3, [239]), (195, .aload_n 3, 1, []), (196, .iload 5, 2, []),
  (198, .aaload, 1, []), (199, .astore 6, 2, []), (201, .iload_n 2, 1, []), (202, .ifCond .le 26, 3, [228]), (205, .aload 6, 2, []), (207, .iconst 1, 1, []), (208, .iaload, 1, []), (209, .aload_n 0, 1, []),
  (210, .getfield 40, 3, [10, 15, 0, 1348]), (213, .aload_n 0, 1, []), (214, .getfield 7, 3, [10, 1, 0, 1325]), (217, .aaload, 1, []), (218, .iconst 0, 1, []), (219, .iaload, 1, []), (220, .if_icmp .ge 8, 3, [228]), (223, .aload 6, 2, []),
  (225, .iconst 0, 1, []), (226, .iconst 0, 1, []), (227, .iastore, 1, []), (228, .aload 6, 2, []), (230, .iconst 2, 1, []), (231, .iconst 0, 1, []), (232, .iastore, 1, []), (233, .iinc 5 1, 3, []),
  (236, .goto (-48), 3, [188]), (239, .aload_n 0, 1, []), (240, .invokevirtual 105, 3, [132, 1, 2, 10, 855]), (243, .iconst 2, 1, []), (244, .if_icmp .lt 17, 3, [261]), (247, .aload_n 0, 1, []), (248, .getfield 7, 3, [10, 1, 0, 1325]), (251, .aload_n 0, 1, []),
  (252, .getfield 40, 3, [10, 15, 0, 1348]), (255, .arraylength, 1, []), (256, .iconst 1, 1, []), (257, .isub, 1, []), (258, .if_icmp .ne 7, 3, [265]), (261, .iconst 1, 1, []), (262, .goto 4, 3, [266]), (265, .iconst 0, 1, []),
  (266, .istore_n 1, 1, []), (267, .aload_n 0, 1, []), (268, .dup, 1, []), (269, .getfield 7, 3, [10, 1, 0, 1325]), (272, .iconst 1, 1, []), (273, .iadd, 1, []), (274, .putfield 7, 3, [10, 1, 0, 1325]), (277, .aload_n 0, 1, []),
  (278, .iconst 0, 1, []), (279, .putfield 59, 3, [10, 2, 0, 1327]), (282, .aload_n 0, 1, []), (283, .iconst 0, 1, []), (284, .putfield 62, 3, [10, 3, 0, 1328]), (287, .iload_n 1, 1, []), (288, .ifCond .eq 8, 3, [296]), (291, .aload_n 0, 1, []),
  (292, .iconst (-1), 1, []), (293, .putfield 7, 3, [10, 1, 0, 1325]), (296, .aload_n 0, 1, []), (297, .iconst 0, 1, []), (298, .putfield 65, 3, [10, 4, 0, 1330]), (301, .aload_n 0, 1, []), (302, .getfield 65, 3, [10, 4, 0, 1330]), (305, .iconst 1, 1, []),
  (306, .iadd, 1, []), (307, .aload_n 0, 1, []), (308, .getfield 31, 3, [10, 12, 0, 1342]), (311, .arraylength, 1, []), (312, .if_icmp .ge 30, 3, [342]), (315, .aload_n 0, 1, []), (316, .getfield 31, 3, [10, 12, 0, 1342]), (319, .aload_n 0, 1, []),
  (320, .getfield 65, 3, [10, 4, 0, 1330]), (323, .aaload, 1, []), (324, .iconst 0, 1, []), (325, .iaload, 1, []), (326, .ifCond .ne 16, 3, [342]), (329, .aload_n 0, 1, []), (330, .dup, 1, []), (331, .getfield 65, 3, [10, 4, 0, 1330]),
  (334, .iconst 1, 1, []), (335, .iadd, 1, []), (336, .putfield 65, 3, [10, 4, 0, 1330]), (339, .goto (-38), 3, [301]), (342, .return_, 1, [])
  ]
def tb_144 : List MRow := [
  (0, .aload_n 0, 1, []), (1, .invokevirtual 131, 3, [139, 1, 2, 10, 826]), (4, .ifCond .eq 10, 3, [14]), (7, .aload_n 0, 1, []), (8, .invokevirtual 134, 3, [138, 1, 2, 10, 872]), (11, .goto 11, 3, [22]), (14, .aload_n 0, 1, []), (15, .invokevirtual 137, 3, [141, 1, 2, 10, 884]),
  (18, .aload_n 0, 1, []), (19, .invokevirtual 108, 3, [142, 1, 2, 10, 876]), (22, .return_, 1, [])
  ]
def tb_145 : List MRow := [
  (0, .iconst 0, 1, []), (1, .istore_n 2, 1, []), (2, .iload_n 2, 1, []), (3, .iload_n 1, 1, []), (4, .if_icmp .ge 20, 3, [24]), (7, .aload_n 0, 1, []), (8, .getfield 7, 3, [10, 1, 0, 1325]), (11, .ifCond .lt 13, 3, [24]),
  (14, .aload_n 0, 1, []), (15, .invokevirtual 140, 3, [144, 1, 2, 10, 822]), (18, .iinc 2 1, 3, []), (21, .goto (-19), 3, [2]), (24, .iload_n 2, 1, []), (25, .ireturn, 1, [0])
  ]
def tb_146 : List MRow := [
  (0, .bipush 18, 2, []), (2, .newarray .int, 2, [50]), (4, .dup, 1, []), (5, .iconst 0, 1, []), (6, .aload_n 0, 1, []), (7, .getfield 56, 3, [10, 0, 0, 1324]), (10, .iastore, 1, []), (11, .dup, 1, []),
  (12, .iconst 1, 1, []), (13, .iload_n 2, 1, []), (14, .iastore, 1, []), (15, .dup, 1, []), (16, .iconst 2, 1, []), (17, .aload_n 0, 1, []), (18, .getfield 21, 3, [10, 9, 0, 1336]), (21, .arraylength, 1, []),
  (22, .iastore, 1, []), (23, .dup, 1, []), (24, .iconst 3, 1, []), (25, .aload_n 0, 1, []), (26, .getfield 25, 3, [10, 10, 0, 1338]), (29, .arraylength, 1, []), (30, .iastore, 1, []), (31, .dup, 1, []),
  (32, .iconst 4, 1, []), (33, .aload_n 0, 1, []), (34, .getfield 31, 3, [10, 12, 0, 1342]), (37, .arraylength, 1, []), (38, .iastore, 1, []), (39, .dup, 1, []), (40, .iconst 5, 1, []), (41, .aload_n 0, 1, []),
  (42, .getfield 40, 3, [10, 15, 0, 1348]), (45, .arraylength, 1, []), (46, .iastore, 1, []), (47, .dup, 1, []), (48, .bipush 6, 2, []), (50, .aload_n 0, 1, []), (51, .getfield 46, 3, [10, 17, 0, 1352]), (54, .arraylength, 1, []),
  (55, .iastore, 1, []), (56, .dup, 1, []), (57, .bipush 7, 2, []), (59, .aload_n 0, 1, []), (60, .getfield 7, 3, [10, 1, 0, 1325]), (63, .iastore, 1, []), (64, .dup, 1, []), (65, .bipush 8, 2, []),
  (67, .aload_n 0, 1, []), (68, .getfield 7, 3, [10, 1, 0, 1325]), (71, .ifCond .ge 7, 3, [78]), (74, .iconst (-1), 1, []), (75, .goto 7, 3, [82]), (78, .aload_n 0, 1, []), (79, .getfield 65, 3, [10, 4, 0, 1330]), (82, .iastore, 1, []),
  (83, .dup, 1, []), (84, .bipush 9, 2, []), (86, .aload_n 0, 1, []), (87, .invokevirtual 83, 3, [129, 1, 2, 10, 839]), (90, .iastore, 1, []), (91, .dup, 1, []), (92, .bipush 10, 2, []), (94, .aload_n 0, 1, []),
  (95, .invokevirtual 105, 3, [132, 1, 2, 10, 855]), (98, .iastore, 1, []), (99, .dup, 1, []), (100, .bipush 11, 2, []), (102, .aload_n 0, 1, []), (103, .getfield 13, 3, [10, 7, 0, 1333]), (106, .iconst 0, 1, []), (107, .iaload, 1, []),
  (108, .iastore, 1, []), (109, .dup, 1, []), (110, .bipush 12, 2, []), (112, .aload_n 0, 1, []), (113, .getfield 13, 3, [10, 7, 0, 1333]), (116, .iconst 1, 1, []), (117, .iaload, 1, []), (118, .iastore, 1, []),
  (119, .dup, 1, []), (120, .bipush 13, 2, []), (122, .aload_n 0, 1, []), (123, .getfield 13, 3, [10, 7, 0, 1333]), (126, .iconst 2, 1, []), (127, .iaload, 1, []), (128, .iastore, 1, []), (129, .dup, 1, []),
  (130, .bipush 14, 2, []), (132, .aload_n 0, 1, []), (133, .getfield 13, 3, [10, 7, 0, 1333]), (136, .iconst 3, 1, []), (137, .iaload, 1, []), (138, .iastore, 1, []), (139, .dup, 1, []), (140, .bipush 15, 2, []),
  (142, .aload_n 0, 1, []), (143, .getfield 13, 3, [10, 7, 0, 1333]), (146, .iconst 4, 1, []), (147, .iaload, 1, []), (148, .iastore, 1, []), (149, .dup, 1, []), (150, .bipush 16, 2, []), (152, .aload_n 0, 1, []),
  (153, .getfield 13, 3, [10, 7, 0, 1333]), (156, .iconst 5, 1, []), (157, .iaload, 1, []), (158, .iastore, 1, []), (159, .dup, 1, []), (160, .bipush 17, 2, []), (162, .iconst 0, 1, []), (163, .iastore, 1, []),
  (164, .astore_n 3, 1, []), (165, .aload_n 3, 1, []), (166, .iload_n 1, 1, []), (167, .iaload, 1, []), (168, .ireturn, 1, [0])
  ]
def tb_147 : List MRow := [
  (0, .iconst 0, 1, []), (1, .istore_n 2, 1, []), (2, .iload_n 2, 1, []), (3, .bipush 18, 2, []), (5, .if_icmp .ge 29, 3, [34]), (8, .aload_n 1, 1, []), (9, .iload_n 2, 1, []), (10, .invokevirtual 143, 3, [99, 2, 2, 9, 896]),
  (13, .aload_n 0, 1, []), (14, .iload_n 2, 1, []), (15, .aload_n 0, 1, []), (16, .getfield 17, 3, [10, 8, 0, 1334]), (19, .arraylength, 1, []), (20, .invokevirtual 148, 3, [146, 3, 2, 10, 897]), (23, .if_icmp .eq 5, 3, [28]), (26, .iconst 0, 1, []),
  (27, .ireturn, 1, [2]), (28, .iinc 2 1, 3, []), (31, .goto (-29), 3, [2]), (34, .iconst 0, 1, []), (35, .istore_n 2, 1, []), (36, .iload_n 2, 1, []), (37, .aload_n 0, 1, []), (38, .getfield 21, 3, [10, 9, 0, 1336]),
  (41, .arraylength, 1, []), (42, .if_icmp .ge 199, 3, [241]), (45, .iconst 0, 1, []), (46, .istore_n 3, 1, []), (47, .aload_n 0, 1, []), (48, .getfield 25, 3, [10, 10, 0, 1338]), (51, .astore 4, 2, []), (53, .aload 4, 2, []),
  (55, .arraylength, 1, []), (56, .istore 5, 2, []), (58, .iconst 0, 1, []), (59, .istore 6, 2, []), (61, .iload 6, 2, []), (63, .iload 5, 2, []), (65, .if_icmp .ge 80, 3, [145]), (68, .aload 4, 2, []),
  (70, .iload 6, 2, []), (72, .aaload, 1, []), (73, .astore 7, 2, []), (75, .iconst 0, 1, []), (76, .istore 8, 2, []), (78, .aload 7, 2, []), (80, .astore 9, 2, []), (82, .aload 9, 2, []),
  (84, .arraylength, 1, []), (85, .istore 10, 2, []), (87, .iconst 0, 1, []), (88, .istore 11, 2, []), (90, .iload 11, 2, []), (92, .iload 10, 2, []), (94, .if_icmp .ge 32, 3, [126]), (97, .aload 9, 2, []),
  (99, .iload 11, 2, []), (101, .iaload, 1, []), (102, .istore 12, 2, []), (104, .iload 8, 2, []), (106, .iload 12, 2, []), (108, .iload_n 2, 1, []), (109, .if_icmp .ne 7, 3, [116]), (112, .iconst 1, 1, []),
  (113, .goto 4, 3, [117]), (116, .iconst 0, 1, []), (117, .ior, 1, []), (118, .istore 8, 2, []), (120, .iinc 11 1, 3, []), (123, .goto (-33), 3, [90]), (126, .iload_n 3, 1, []), (127, .iload 8, 2, []),
  (129, .ifCond .eq 7, 3, [136]), (132, .iconst 1, 1, []), (133, .goto 4, 3, [137]), (136, .iconst 0, 1, []), (137, .iadd, 1, []), (138, .istore_n 3, 1, []), (139, .iinc 6 1, 3, []), (142, .goto (-81), 3, [61]),
  (145, .iconst 5, 1, []), (146, .newarray .int, 2, [50]), (148, .dup, 1, []), (149, .iconst 0, 1, []), (150, .aload_n 0, 1, []), (151, .getfield 21, 3, [10, 9, 0, 1336]), (154, .iload_n 2, 1, []), (155, .aaload, 1, []),
  (156, .iconst 0, 1, []), (157, .iaload, 1, []), (158, .iastore, 1, []), (159, .dup, 1, []), (160, .iconst 1, 1, []), (161, .aload_n 0, 1, []), (162, .getfield 21, 3, [10, 9, 0, 1336]), (165, .iload_n 2, 1, []),
  (166, .aaload, 1, []), (167, .iconst 1, 1, []), (168, .iaload, 1, []), (169, .iastore, 1, []), (170, .dup, 1, []), (171, .iconst 2, 1, []), (172, .aload_n 0, 1, []), (173, .getfield 21, 3, [10, 9, 0, 1336]),
  (176, .iload_n 2, 1, []), (177, .aaload, 1, []), (178, .iconst 2, 1, []), (179, .iaload, 1, []), (180, .iastore, 1, []), (181, .dup, 1, []), (182, .iconst 3, 1, []), (183, .aload_n 0, 1, []),
  (184, .getfield 17, 3, [10, 8, 0, 1334]), (187, .aload_n 0, 1, []), (188, .getfield 21, 3, [10, 9, 0, 1336]), (191, .iload_n 2, 1, []), (192, .aaload, 1, []), (193, .iconst 0, 1, []), (194, .iaload, 1, []), (195, .iaload, 1, []),
  (196, .iastore, 1, []), (197, .dup, 1, []), (198, .iconst 4, 1, []), (199, .iload_n 3, 1, []), (200, .iastore, 1, []), (201, .astore 4, 2, []), (203, .iconst 0, 1, []), (204, .istore 5, 2, []),
  (206, .iload 5, 2, []), (208, .iconst 5, 1, []), (209, .if_icmp .ge 26, 3, [235]), (212, .aload_n 1, 1, []), (213, .iload_n 2, 1, []), (214, .iload 5, 2, []), (216, .invokevirtual 151, 3, [100, 3, 2, 9, 901]), (219, .aload 4, 2, []),
  (221, .iload 5, 2, []), (223, .iaload, 1, []), (224, .if_icmp .eq 5, 3, [229]), (227, .iconst 0, 1, []), (228, .ireturn, 1, [2]), (229, .iinc 5 1, 3, []), (232, .goto (-26), 3, [206]), (235, .iinc 2 1, 3, []),
  (238, .goto (-202), 3, [36]), (241, .iconst 0, 1, []), (242, .istore_n 2, 1, []), (243, .iload_n 2, 1, []), (244, .aload_n 0, 1, []), (245, .getfield 25, 3, [10, 10, 0, 1338]), (248, .arraylength, 1, []), (249, .if_icmp .ge 134, 3, [383]),
  (252, .iconst 5, 1, []), (253, .newarray .int, 2, [50]), (255, .dup, 1, []), (256, .iconst 0, 1, []), (257, .aload_n 0, 1, []), (258, .getfield 25, 3, [10, 10, 0, 1338]), (261, .iload_n 2, 1, []), (262, .aaload, 1, []),
  (263, .arraylength, 1, []), (264, .iastore, 1, []), (265, .dup, 1, []), (266, .iconst 1, 1, []), (267, .aload_n 0, 1, []), (268, .iload_n 2, 1, []), (269, .invokevirtual 79, 3, [127, 2, 2, 10, 847]), (272, .iastore, 1, []),
  (273, .dup, 1, []), (274, .iconst 2, 1, []), (275, .aload_n 0, 1, []), (276, .iload_n 2, 1, []), (277, .invokevirtual 87, 3, [128, 2, 2, 10, 843]), (280, .iastore, 1, []), (281, .dup, 1, []), (282, .iconst 3, 1, []),
  (283, .aload_n 0, 1, []), (284, .getfield 28, 3, [10, 11, 0, 1340]), (287, .iload_n 2, 1, []), (288, .aaload, 1, []), (289, .iconst 0, 1, []), (290, .iaload, 1, []), (291, .iastore, 1, []), (292, .dup, 1, []),
  (293, .iconst 4, 1, []), (294, .aload_n 0, 1, []), (295, .getfield 28, 3, [10, 11, 0, 1340]), (298, .iload_n 2, 1, []), (299, .aaload, 1, []), (300, .iconst 1, 1, []), (301, .iaload, 1, []), (302, .iastore, 1, []),
  (303, .astore_n 3, 1, []), (304, .iconst 0, 1, []), (305, .istore 4, 2, []), (307, .iload 4, 2, []), (309, .iconst 5, 1, []), (310, .if_icmp .ge 25, 3, [335]), (313, .aload_n 1, 1, []), (314, .iload_n 2, 1, []),
  (315, .iload 4, 2, []), (317, .invokevirtual 154, 3, [101, 3, 2, 9, 906]), (320, .aload_n 3, 1, []), (321, .iload 4, 2, []), (323, .iaload, 1, []), (324, .if_icmp .eq 5, 3, [329]), (327, .iconst 0, 1, []), (328, .ireturn, 1, [2]),
  (329, .iinc 4 1, 3, []), (332, .goto (-25), 3, [307]), (335, .iconst 0, 1, []), (336, .istore 4, 2, []), (338, .iload 4, 2, []), (340, .aload_n 0, 1, []), (341, .getfield 25, 3, [10, 10, 0, 1338]), (344, .iload_n 2, 1, []),
  (345, .aaload, 1, []), (346, .arraylength, 1, []), (347, .if_icmp .ge 30, 3, [377]), (350, .aload_n 1, 1, []), (351, .iload_n 2, 1, []), (352, .iload 4, 2, []), (354, .invokevirtual 156, 3, [102, 3, 2, 9, 907]), (357, .aload_n 0, 1, []),
  (358, .getfield 25, 3, [10, 10, 0, 1338]), (361, .iload_n 2, 1, []), (362, .aaload, 1, []), (363, .iload 4, 2, []), (365, .iaload, 1, []), (366, .if_icmp .eq 5, 3, [371]), (369, .iconst 0, 1, []), (370, .ireturn, 1, [2]),
  (371, .iinc 4 1, 3, []), (374, .goto (-36), 3, [338]), (377, .iinc 2 1, 3, []), (380, .goto (-137), 3, [243]), (383, .iconst 0, 1, []), (384, .istore_n 2, 1, []), (385, .iconst 0, 1, []), (386, .istore_n 3, 1, []),
  (387, .iload_n 3, 1, []), (388, .aload_n 0, 1, []), (389, .getfield 31, 3, [10, 12, 0, 1342]), (392, .arraylength, 1, []), (393, .if_icmp .ge 192, 3, [585]), (396, .iconst 0, 1, []), (397, .istore 4, 2, []), (399, .iload 4, 2, []),
  (401, .bipush 8, 2, []), (403, .if_icmp .ge 30, 3, [433]), (406, .aload_n 1, 1, []), (407, .iload_n 3, 1, []), (408, .iload 4, 2, []), (410, .invokevirtual 159, 3, [103, 3, 2, 9, 913]), (413, .aload_n 0, 1, []), (414, .getfield 31, 3, [10, 12, 0, 1342]),
  (417, .iload_n 3, 1, []), (418, .aaload, 1, []), (419, .iload 4, 2, []), (421, .iaload, 1, []), (422, .if_icmp .eq 5, 3, [427]), (425, .iconst 0, 1, []), (426, .ireturn, 1, [2]), (427, .iinc 4 1, 3, []),
  (430, .goto (-31), 3, [399]), (433, .aload_n 1, 1, []), (434, .iload_n 3, 1, []), (435, .bipush 8, 2, []), (437, .invokevirtual 159, 3, [103, 3, 2, 9, 913]), (440, .aload_n 0, 1, []), (441, .iload_n 3, 1, []), (442, .invokevirtual 162, 3, [133, 2, 2, 10, 914]),
  (445, .if_icmp .eq 5, 3, [450]), (448, .iconst 0, 1, []), (449, .ireturn, 1, [2]), (450, .iconst 0, 1, []), (451, .istore 4, 2, []), (453, .iload 4, 2, []), (455, .aload_n 0, 1, []), (456, .getfield 17, 3, [10, 8, 0, 1334]),
  (459, .arraylength, 1, []), (460, .if_icmp .ge 30, 3, [490]), (463, .aload_n 1, 1, []), (464, .iload_n 3, 1, []), (465, .iload 4, 2, []), (467, .invokevirtual 165, 3, [104, 3, 2, 9, 919]), (470, .aload_n 0, 1, []), (471, .getfield 34, 3, [10, 13, 0, 1344]),
  (474, .iload_n 3, 1, []), (475, .aaload, 1, []), (476, .iload 4, 2, []), (478, .iaload, 1, []), (479, .if_icmp .eq 5, 3, [484]), (482, .iconst 0, 1, []), (483, .ireturn, 1, [2]), (484, .iinc 4 1, 3, []),
  (487, .goto (-34), 3, [453]), (490, .iconst 0, 1, []), (491, .istore 4, 2, []), (493, .iload 4, 2, []), (495, .aload_n 0, 1, []), (496, .getfield 21, 3, [10, 9, 0, 1336]), (499, .arraylength, 1, []), (500, .if_icmp .ge 30, 3, [530]),
  (503, .aload_n 1, 1, []), (504, .iload_n 3, 1, []), (505, .iload 4, 2, []), (507, .invokevirtual 167, 3, [105, 3, 2, 9, 924]), (510, .aload_n 0, 1, []), (511, .getfield 37, 3, [10, 14, 0, 1346]), (514, .iload_n 3, 1, []), (515, .aaload, 1, []),
  (516, .iload 4, 2, []), (518, .iaload, 1, []), (519, .if_icmp .eq 5, 3, [524]), (522, .iconst 0, 1, []), (523, .ireturn, 1, [2]), (524, .iinc 4 1, 3, []), (527, .goto (-34), 3, [493]), (530, .iconst 0, 1, []),
  (531, .istore 4, 2, []), (533, .iload 4, 2, []), (535, .aload_n 0, 1, []), (536, .getfield 25, 3, [10, 10, 0, 1338]), (539, .arraylength, 1, []), (540, .if_icmp .ge 28, 3, [568]), (543, .aload_n 1, 1, []), (544, .iload_n 3, 1, []),
  (545, .iload 4, 2, []), (547, .invokevirtual 169, 3, [106, 3, 2, 9, 925]), (550, .aload_n 0, 1, []), (551, .iload_n 3, 1, []), (552, .iload 4, 2, []), (554, .invokevirtual 90, 3, [130, 3, 2, 10, 851]), (557, .if_icmp .eq 5, 3, [562]), (560, .iconst 0, 1, []),
  (561, .ireturn, 1, [2]), (562, .iinc 4 1, 3, []), (565, .goto (-32), 3, [533]), (568, .iload_n 2, 1, []), (569, .aload_n 0, 1, []), (570, .getfield 31, 3, [10, 12, 0, 1342]), (573, .iload_n 3, 1, []), (574, .aaload, 1, []),
  (575, .iconst 1, 1, []), (576, .iaload, 1, []), (577, .iadd, 1, []), (578, .istore_n 2, 1, []), (579, .iinc 3 1, 3, []), (582, .goto (-195), 3, [387]), (585, .aload_n 1, 1, []), (586, .invokevirtual 170, 3, [116, 1, 2, 9, 926]),
  (589, .aload_n 0, 1, []), (590, .getfield 31, 3, [10, 12, 0, 1342]), (593, .arraylength, 1, []), (594, .ifCond .ne 7, 3, [601]), (597, .dconst 0, 1, []), (598, .goto 12, 3, [610]), (601, .iload_n 2, 1, []), (602, .i2d, 1, []),
  (603, .aload_n 0, 1, []), (604, .getfield 31, 3, [10, 12, 0, 1342]), (607, .arraylength, 1, []), (608, .i2d, 1, []), (609, .ddiv, 1, []), (610, .dcmp .l, 1, []), (611, .ifCond .ne 7, 3, [618]), (614, .iconst 1, 1, []),
  (615, .goto 4, 3, [619]), (618, .iconst 0, 1, []), (619, .ireturn, 1, [2])
  ]
def tb_148 : List MRow := [
  (0, .aload_n 0, 1, []), (1, .aload_n 1, 1, []), (2, .aconst_null, 1, []), (3, .invokespecial 489, 3, [154, 3, 5, 0, 1578]), (6, .return_, 1, [])
  ]
def tb_149 : List MRow := [
  (0, .aload_n 0, 1, []), (1, .getfield 9, 3, [11, 0, 0, 1615]), (4, .arraylength, 1, []), (5, .aload_n 0, 1, []), (6, .invokevirtual 335, 3, [155, 1, 2, 11, 941]), (9, .ishr, 1, []), (10, .ireturn, 1, [0])
  ]
def tb_150 : List MRow := [
  (0, .aload_n 0, 1, []), (1, .invokevirtual 492, 3, [156, 1, 2, 11, 951]), (4, .ifCond .eq 12, 3, [16]), (7, .aload_n 0, 1, []), (8, .getfield 9, 3, [11, 0, 0, 1615]), (11, .iload_n 1, 1, []), (12, .invokestatic 495, 3, [183, 2, 0, 0, 955]), (15, .ireturn, 1, [4]),
  (16, .aload_n 0, 1, []), (17, .getfield 9, 3, [11, 0, 0, 1615]), (20, .iload_n 1, 1, [])
  ]
def tb_151 : List MRow := [
  (0, .aload_n 0, 1, []), (1, .iload_n 1, 1, []), (2, .iconst 0, 1, []), (3, .invokevirtual 633, 3, [152, 3, 2, 11, 1110]), (6, .ireturn, 1, [0])
  ]
def tb_152 : List MRow := [
  (0, .aload_n 0, 1, []), (1, .invokevirtual 492, 3, [156, 1, 2, 11, 951]), (4, .ifCond .eq 19, 3, [23]), (7, .aload_n 0, 1, []), (8, .getfield 9, 3, [11, 0, 0, 1615]), (11, .iload_n 1, 1, []), (12, .iload_n 2, 1, []), (13, .aload_n 0, 1, []),
  (14, .invokevirtual 505, 3, [149, 1, 2, 11, 1114]), (17, .invokestatic 637, 3, [185, 4, 0, 0, 1115]), (20, .goto 16, 3, [36]), (23, .aload_n 0, 1, []), (24, .getfield 9, 3, [11, 0, 0, 1615]), (27, .iload_n 1, 1, []), (28, .iload_n 2, 1, []), (29, .aload_n 0, 1, []),
  (30, .invokevirtual 505, 3, [149, 1, 2, 11, 1114]), (36, .ireturn, 1, [0])
  ]
def tb_153 : List MRow := [
  (0, .aload_n 0, 1, []), (1, .invokevirtual 335, 3, [155, 1, 2, 11, 941]), (4, .iload_n 3, 1, []), (5, .if_icmp .ne 23, 3, [28]), (8, .aload_n 0, 1, []), (9, .getfield 9, 3, [11, 0, 0, 1615]), (12, .iconst 0, 1, []), (13, .aload_n 1, 1, []),
  (14, .iload_n 2, 1, []), (15, .iload_n 3, 1, []), (16, .ishl, 1, []), (17, .aload_n 0, 1, []), (18, .getfield 9, 3, [11, 0, 0, 1615]), (21, .arraylength, 1, []), (22, .invokestatic 212, 3, [1000, 1489]), (25, .goto 18, 3, [43]),
  (28, .aload_n 0, 1, []), (29, .getfield 9, 3, [11, 0, 0, 1615]), (32, .iconst 0, 1, []), (33, .aload_n 1, 1, []), (34, .iload_n 2, 1, []), (35, .aload_n 0, 1, []), (36, .getfield 9, 3, [11, 0, 0, 1615]), (39, .arraylength, 1, []),
  (43, .return_, 1, [])
  ]
def tb_154 : List MRow := [
  (0, .aload_n 0, 1, []), (1, .invokespecial 1, 3, [1002, 1581]), (4, .aload_n 1, 1, []), (5, .invokevirtual 552, 3, [175, 1, 4, 12, 1582]), (8, .astore_n 3, 1, []), (9, .aload_n 1, 1, []), (10, .invokevirtual 549, 3, [170, 1, 4, 12, 1587]), (13, .istore 4, 2, []),
  (15, .aload_n 1, 1, []), (16, .invokevirtual 1047, 3, [176, 1, 4, 12, 1595]), (19, .ifCond .eq 22, 3, [41]), (22, .aload_n 0, 1, []), (23, .iconst 0, 1, []), (24, .putfield 15, 3, [11, 1, 0, 1616]), (27, .aload_n 0, 1, []), (28, .aload_n 3, 1, []),
  (29, .iconst 0, 1, []), (30, .iload 4, 2, []), (32, .invokestatic 54, 3, [190, 3, 0, 0, 1596]), (35, .putfield 9, 3, [11, 0, 0, 1615]), (38, .goto 59, 3, [97]), (41, .getstatic 38, 3, [0, 945]), (44, .ifCond .eq 35, 3, [79]), (47, .aload_n 1, 1, []),
  (48, .getfield 1048, 3, [12, 2, 0, 1559]), (51, .ifCond .eq 28, 3, [79]), (54, .aload_n 0, 1, []), (55, .aload_n 3, 1, []), (56, .iconst 0, 1, []), (57, .iload 4, 2, []), (79, .aload_n 0, 1, []), (80, .iconst 1, 1, []),
  (81, .putfield 15, 3, [11, 1, 0, 1616]), (84, .aload_n 0, 1, []), (85, .aload_n 3, 1, []), (86, .iconst 0, 1, []), (87, .iload 4, 2, []), (89, .iconst 1, 1, []), (90, .ishl, 1, []), (91, .invokestatic 54, 3, [190, 3, 0, 0, 1596]),
  (94, .putfield 9, 3, [11, 0, 0, 1615]), (97, .return_, 1, [])
  ]
def tb_155 : List MRow := [
  (0, .getstatic 38, 3, [0, 945]), (3, .ifCond .eq 10, 3, [13]), (6, .aload_n 0, 1, []), (7, .getfield 15, 3, [11, 1, 0, 1616]), (10, .goto 4, 3, [14]), (13, .iconst 1, 1, []), (14, .ireturn, 1, [3])
  ]
def tb_156 : List MRow := [
  (0, .getstatic 38, 3, [0, 945]), (3, .ifCond .eq 14, 3, [17]), (6, .aload_n 0, 1, []), (7, .getfield 15, 3, [11, 1, 0, 1616]), (10, .ifCond .ne 7, 3, [17]), (13, .iconst 1, 1, []), (14, .goto 4, 3, [18]), (17, .iconst 0, 1, []),
  (18, .ireturn, 1, [2])
  ]
def tb_157 : List MRow := [
  (0, .iload_n 0, 1, []), (1, .iload_n 1, 1, []), (2, .getstatic 1053, 3, [1, 961]), (5, .invokestatic 1059, 3, [193, 3, 0, 0, 963]), (8, .pop, 1, []), (9, .return_, 1, [])
  ]
def tb_158 : List MRow := [
  (0, .aload_n 0, 1, []), (1, .bipush 16, 2, []), (3, .invokespecial 1, 3, [169, 2, 5, 0, 1553]), (6, .return_, 1, [])
  ]
def tb_159 : List MRow := [
  (0, .aload_n 0, 1, []), (1, .aload_n 1, 1, []), (2, .invokespecial 29, 3, [173, 2, 7, 12, 1400]), (5, .pop, 1, []), (6, .aload_n 0, 1, []), (7, .areturn, 1, [])
  ]
def tb_160 : List MRow := [
  (0, .aload_n 0, 1, []), (1, .iload_n 1, 1, []), (2, .invokespecial 53, 3, [174, 2, 7, 12, 1495]), (5, .pop, 1, []), (6, .aload_n 0, 1, []), (7, .areturn, 1, [])
  ]
def tb_161 : List MRow := [
  (0, .new 18, 3, [11, 1573]), (3, .dup, 1, []), (4, .aload_n 0, 1, []), (5, .invokespecial 137, 3, [148, 2, 5, 0, 1575]), (8, .areturn, 1, [])
  ]
def tb_162 : List MRow := [
  (0, .iload_n 0, 1, []), (1, .ldc 7, 2, [0, 2147483647, 1394]), (3, .iand, 1, []), (4, .iload_n 1, 1, []), (5, .irem, 1, []), (6, .ireturn, 1, [0])
  ]
def tb_163 : List MRow := [
  (0, .iload_n 1, 1, []), (1, .aload_n 0, 1, []), (2, .arraylength, 1, []), (3, .if_icmp .ge 9, 3, [12]), (6, .aload_n 0, 1, []), (7, .iload_n 1, 1, []), (8, .iaload, 1, []), (9, .goto 9, 3, [18]),
  (12, .ldc 8, 2, [0, 790386105, 933]), (14, .iload_n 1, 1, []), (15, .iconst 3, 1, []), (16, .iadd, 1, []), (17, .imul, 1, []), (18, .ireturn, 1, [0])
  ]
def tb_164 : List MRow := [
  (0, .iconst 5, 1, []), (1, .newarray .int, 2, [50]), (3, .astore_n 2, 1, []), (4, .iconst 0, 1, []), (5, .istore_n 3, 1, []), (6, .iload_n 3, 1, []), (7, .aload_n 1, 1, []), (8, .invokevirtual 9, 3, [149, 1, 2, 11, 937]),
  (11, .if_icmp .ge 108, 3, [119]), (14, .iconst 0, 1, []), (15, .istore 4, 2, []), (17, .iload 4, 2, []), (19, .iconst 5, 1, []), (20, .if_icmp .ge 73, 3, [93]), (23, .aload_n 2, 1, []), (24, .iload 4, 2, []),
  (26, .iconst 0, 1, []), (27, .iastore, 1, []), (28, .iload_n 3, 1, []), (29, .iconst 4, 1, []), (30, .iload 4, 2, []), (32, .imul, 1, []), (33, .iadd, 1, []), (34, .istore 5, 2, []),
  (36, .iload 5, 2, []), (38, .iload_n 3, 1, []), (39, .iconst 4, 1, []), (40, .iload 4, 2, []), (42, .imul, 1, []), (43, .iadd, 1, []), (44, .iconst 4, 1, []), (45, .iadd, 1, []),
  (46, .if_icmp .ge 41, 3, [87]), (49, .aload_n 2, 1, []), (50, .iload 4, 2, []), (52, .aload_n 2, 1, []), (53, .iload 4, 2, []), (55, .iaload, 1, []), (56, .bipush 8, 2, []), (58, .ishl, 1, []),
  (59, .iload 5, 2, []), (61, .aload_n 1, 1, []), (62, .invokevirtual 9, 3, [149, 1, 2, 11, 937]), (65, .if_icmp .ge 12, 3, [77]), (68, .aload_n 1, 1, []), (69, .iload 5, 2, []), (71, .invokevirtual 15, 3, [150, 2, 2, 11, 947]), (74, .goto 5, 3, [79]),
  (77, .bipush 32, 2, []), (79, .ior, 1, []), (80, .iastore, 1, []), (81, .iinc 5 1, 3, []), (84, .goto (-48), 3, [36]), (87, .iinc 4 1, 3, []), (90, .goto (-73), 3, [17]), (93, .aload_n 0, 1, []),
  (94, .aload_n 2, 1, []), (95, .iconst 0, 1, []), (96, .iaload, 1, []), (97, .aload_n 2, 1, []), (98, .iconst 1, 1, []), (99, .iaload, 1, []), (100, .aload_n 2, 1, []), (101, .iconst 2, 1, []),
  (102, .iaload, 1, []), (103, .aload_n 2, 1, []), (104, .iconst 3, 1, []), (105, .iaload, 1, []), (106, .aload_n 2, 1, []), (107, .iconst 4, 1, []), (108, .iaload, 1, []), (109, .invokevirtual 19, 3, [96, 6, 2, 9, 985]),
  (112, .pop, 1, []), (113, .iinc 3 20, 3, []), (116, .goto (-110), 3, [6]), (119, .aload_n 0, 1, []), (120, .aload_n 1, 1, []), (121, .invokevirtual 9, 3, [149, 1, 2, 11, 937]), (124, .invokevirtual 25, 3, [97, 2, 2, 9, 1010]), (127, .pop, 1, []),
  (128, .aload_n 0, 1, []), (129, .invokevirtual 29, 3, [98, 1, 2, 9, 1015]), (132, .ireturn, 1, [0])
  ]
def tb_165 : List MRow := [
  (0, .aload_n 0, 1, []), (1, .iconst 3, 1, []), (2, .iaload, 1, []), (3, .istore_n 1, 1, []), (4, .new 32, 3, [12, 1548]), (7, .dup, 1, []), (8, .invokespecial 34, 3, [158, 1, 5, 0, 1550]), (11, .ldc 35, 2, [1, 70]),
  (13, .invokevirtual 37, 3, [159, 2, 2, 12, 1396]), (16, .aload_n 0, 1, []), (17, .iconst 4, 1, []), (18, .iaload, 1, []), (19, .invokevirtual 41, 3, [160, 2, 2, 12, 1491]), (22, .invokevirtual 44, 3, [161, 1, 2, 12, 1569]), (25, .astore_n 2, 1, []), (26, .new 32, 3, [12, 1548]),
  (29, .dup, 1, []), (30, .invokespecial 34, 3, [158, 1, 5, 0, 1550]), (33, .ldc 48, 2, [1, 72]), (35, .invokevirtual 37, 3, [159, 2, 2, 12, 1396]), (38, .aload_n 0, 1, []), (39, .iconst 5, 1, []), (40, .iaload, 1, []), (41, .invokevirtual 41, 3, [160, 2, 2, 12, 1491]),
  (44, .invokevirtual 44, 3, [161, 1, 2, 12, 1569]), (47, .astore_n 3, 1, []), (48, .aload_n 0, 1, []), (49, .iconst 2, 1, []), (50, .iaload, 1, []), (51, .tableswitch 270 0 7 #[45, 74, 103, 128, 148, 182, 220, 267], 45, [321, 96, 125, 154, 179, 199, 233, 271, 318]), (96, .new 32, 3, [12, 1548]), (99, .dup, 1, []),
  (100, .invokespecial 34, 3, [158, 1, 5, 0, 1550]), (103, .ldc 50, 2, [1, 74]), (105, .invokevirtual 37, 3, [159, 2, 2, 12, 1396]), (108, .aload_n 2, 1, []), (109, .invokevirtual 37, 3, [159, 2, 2, 12, 1396]), (112, .ldc 52, 2, [1, 76]), (114, .invokevirtual 37, 3, [159, 2, 2, 12, 1396]), (117, .iload_n 1, 1, []),
  (118, .invokevirtual 41, 3, [160, 2, 2, 12, 1491]), (121, .invokevirtual 44, 3, [161, 1, 2, 12, 1569]), (124, .areturn, 1, []), (125, .new 32, 3, [12, 1548]), (128, .dup, 1, []), (129, .invokespecial 34, 3, [158, 1, 5, 0, 1550]), (132, .ldc 54, 2, [1, 78]), (134, .invokevirtual 37, 3, [159, 2, 2, 12, 1396]),
  (137, .aload_n 2, 1, []), (138, .invokevirtual 37, 3, [159, 2, 2, 12, 1396]), (141, .ldc 56, 2, [1, 80]), (143, .invokevirtual 37, 3, [159, 2, 2, 12, 1396]), (146, .iload_n 1, 1, []), (147, .invokevirtual 41, 3, [160, 2, 2, 12, 1491]), (150, .invokevirtual 44, 3, [161, 1, 2, 12, 1569]), (153, .areturn, 1, []),
  (154, .new 32, 3, [12, 1548]), (157, .dup, 1, []), (158, .invokespecial 34, 3, [158, 1, 5, 0, 1550]), (161, .ldc 58, 2, [1, 82]), (163, .invokevirtual 37, 3, [159, 2, 2, 12, 1396]), (166, .aload_n 2, 1, []), (167, .invokevirtual 37, 3, [159, 2, 2, 12, 1396]), (170, .ldc 60, 2, [1, 84]),
  (172, .invokevirtual 37, 3, [159, 2, 2, 12, 1396]), (175, .invokevirtual 44, 3, [161, 1, 2, 12, 1569]), (178, .areturn, 1, []), (179, .new 32, 3, [12, 1548]), (182, .dup, 1, []), (183, .invokespecial 34, 3, [158, 1, 5, 0, 1550]), (186, .ldc 62, 2, [1, 86]), (188, .invokevirtual 37, 3, [159, 2, 2, 12, 1396]),
  (191, .iload_n 1, 1, []), (192, .invokevirtual 41, 3, [160, 2, 2, 12, 1491]), (195, .invokevirtual 44, 3, [161, 1, 2, 12, 1569]), (198, .areturn, 1, []), (199, .new 32, 3, [12, 1548]), (202, .dup, 1, []), (203, .invokespecial 34, 3, [158, 1, 5, 0, 1550]), (206, .ldc 64, 2, [1, 88]),
  (208, .invokevirtual 37, 3, [159, 2, 2, 12, 1396]), (211, .iload_n 1, 1, []), (212, .invokevirtual 41, 3, [160, 2, 2, 12, 1491]), (215, .ldc 66, 2, [1, 90]), (217, .invokevirtual 37, 3, [159, 2, 2, 12, 1396]), (220, .aload_n 2, 1, []), (221, .invokevirtual 37, 3, [159, 2, 2, 12, 1396]), (224, .ldc 68, 2, [1, 92]),
  (226, .invokevirtual 37, 3, [159, 2, 2, 12, 1396]), (229, .invokevirtual 44, 3, [161, 1, 2, 12, 1569]), (232, .areturn, 1, []), (233, .new 32, 3, [12, 1548]), (236, .dup, 1, []), (237, .invokespecial 34, 3, [158, 1, 5, 0, 1550]), (240, .ldc 70, 2, [1, 94]), (242, .invokevirtual 37, 3, [159, 2, 2, 12, 1396]),
  (245, .aload_n 2, 1, []), (246, .invokevirtual 37, 3, [159, 2, 2, 12, 1396]), (249, .ldc 72, 2, [1, 96]), (251, .invokevirtual 37, 3, [159, 2, 2, 12, 1396]), (254, .aload_n 3, 1, []), (255, .invokevirtual 37, 3, [159, 2, 2, 12, 1396]), (258, .ldc 52, 2, [1, 76]), (260, .invokevirtual 37, 3, [159, 2, 2, 12, 1396]),
  (263, .iload_n 1, 1, []), (264, .invokevirtual 41, 3, [160, 2, 2, 12, 1491]), (267, .invokevirtual 44, 3, [161, 1, 2, 12, 1569]), (270, .areturn, 1, []), (271, .new 32, 3, [12, 1548]), (274, .dup, 1, []), (275, .invokespecial 34, 3, [158, 1, 5, 0, 1550]), (278, .ldc 74, 2, [1, 98]),
  (280, .invokevirtual 37, 3, [159, 2, 2, 12, 1396]), (283, .aload_n 2, 1, []), (284, .invokevirtual 37, 3, [159, 2, 2, 12, 1396]), (287, .ldc 76, 2, [1, 100]), (289, .invokevirtual 37, 3, [159, 2, 2, 12, 1396]), (292, .aload_n 2, 1, []), (293, .invokevirtual 37, 3, [159, 2, 2, 12, 1396]), (296, .ldc 78, 2, [1, 102]),
  (298, .invokevirtual 37, 3, [159, 2, 2, 12, 1396]), (301, .aload_n 3, 1, []), (302, .invokevirtual 37, 3, [159, 2, 2, 12, 1396]), (305, .ldc 80, 2, [1, 104]), (307, .invokevirtual 37, 3, [159, 2, 2, 12, 1396]), (310, .iload_n 1, 1, []), (311, .invokevirtual 41, 3, [160, 2, 2, 12, 1491]), (314, .invokevirtual 44, 3, [161, 1, 2, 12, 1569]),
  (317, .areturn, 1, []), (318, .ldc 82, 2, [1, 106]), (320, .areturn, 1, []), (321, .new 32, 3, [12, 1548]), (324, .dup, 1, []), (325, .invokespecial 34, 3, [158, 1, 5, 0, 1550]), (328, .ldc 84, 2, [1, 108]), (330, .invokevirtual 37, 3, [159, 2, 2, 12, 1396]),
  (333, .aload_n 2, 1, []), (334, .invokevirtual 37, 3, [159, 2, 2, 12, 1396]), (337, .ldc 86, 2, [1, 110]), (339, .invokevirtual 37, 3, [159, 2, 2, 12, 1396]), (342, .iload_n 1, 1, []), (343, .invokevirtual 41, 3, [160, 2, 2, 12, 1491]), (346, .ldc 88, 2, [1, 112]), (348, .invokevirtual 37, 3, [159, 2, 2, 12, 1396]),
  (351, .invokevirtual 44, 3, [161, 1, 2, 12, 1569]), (354, .areturn, 1, [])
  ]
def tb_166 : List MRow := [
  (0, .new 90, 3, [10, 1317]), (3, .dup, 1, []), (4, .invokespecial 92, 3, [126, 1, 6, 0, 109]), (7, .astore_n 2, 1, []), (8, .aload_n 2, 1, []), (9, .iconst 1, 1, []), (10, .aload_n 0, 1, []), (11, .iconst 0, 1, []),
  (12, .invokestatic 93, 3, [163, 2, 0, 0, 930]), (15, .iconst 3, 1, []), (16, .invokestatic 99, 3, [162, 2, 0, 0, 1391]), (19, .iadd, 1, []), (20, .newarray .int, 2, [50]), (22, .putfield 103, 3, [10, 8, 0, 1335]), (25, .iconst 0, 1, []), (26, .istore_n 3, 1, []),
  (27, .iload_n 3, 1, []), (28, .aload_n 2, 1, []), (29, .getfield 103, 3, [10, 8, 0, 1335]), (32, .arraylength, 1, []), (33, .if_icmp .ge 71, 3, [104]), (36, .aload_n 2, 1, []), (37, .getfield 103, 3, [10, 8, 0, 1335]), (40, .iload_n 3, 1, []),
  (41, .aload_n 0, 1, []), (42, .iconst 0, 1, []), (43, .invokestatic 93, 3, [163, 2, 0, 0, 930]), (46, .iconst 3, 1, []), (47, .iload_n 3, 1, []), (48, .imul, 1, []), (49, .iconst 2, 1, []), (50, .iadd, 1, []),
  (51, .ishr, 1, []), (52, .iconst 5, 1, []), (53, .invokestatic 99, 3, [162, 2, 0, 0, 1391]), (56, .iastore, 1, []), (57, .aload_n 1, 1, []), (58, .ldc 107, 2, [1, 114]), (60, .invokevirtual 37, 3, [159, 2, 2, 12, 1396]), (63, .iload_n 3, 1, []),
  (64, .invokevirtual 41, 3, [160, 2, 2, 12, 1491]), (67, .ldc 109, 2, [1, 116]), (69, .invokevirtual 37, 3, [159, 2, 2, 12, 1396]), (72, .aload_n 2, 1, []), (73, .getfield 103, 3, [10, 8, 0, 1335]), (76, .iload_n 3, 1, []), (77, .iaload, 1, []), (78, .invokevirtual 41, 3, [160, 2, 2, 12, 1491]),
  (81, .iload_n 3, 1, []), (82, .iconst 2, 1, []), (83, .irem, 1, []), (84, .ifCond .ne 8, 3, [92]), (87, .ldc 111, 2, [1, 118]), (89, .goto 5, 3, [94]), (92, .ldc 113, 2, [1, 120]), (94, .invokevirtual 37, 3, [159, 2, 2, 12, 1396]),
  (97, .pop, 1, []), (98, .iinc 3 1, 3, []), (101, .goto (-74), 3, [27]), (104, .aload_n 2, 1, []), (105, .iconst 2, 1, []), (106, .aload_n 0, 1, []), (107, .iconst 1, 1, []), (108, .invokestatic 93, 3, [163, 2, 0, 0, 930]),
  (111, .iconst 5, 1, []), (112, .invokestatic 99, 3, [162, 2, 0, 0, 1391]), (115, .iadd, 1, []), (116, .anewarray 115, 3, [52, 1519]), (119, .putfield 116, 3, [10, 9, 0, 1337]), (122, .iconst 0, 1, []), (123, .istore_n 3, 1, []), (124, .iload_n 3, 1, []),
  (125, .aload_n 2, 1, []), (126, .getfield 116, 3, [10, 9, 0, 1337]), (129, .arraylength, 1, []), (130, .if_icmp .ge 134, 3, [264]), (133, .aload_n 0, 1, []), (134, .iconst 1, 1, []), (135, .invokestatic 93, 3, [163, 2, 0, 0, 930]), (138, .iconst 2, 1, []),
  (139, .iconst 3, 1, []), (140, .iload_n 3, 1, []), (141, .imul, 1, []), (142, .iadd, 1, []), (143, .ishr, 1, []), (144, .istore 4, 2, []), (146, .aload_n 2, 1, []), (147, .getfield 116, 3, [10, 9, 0, 1337]),
  (150, .iload_n 3, 1, []), (151, .iconst 3, 1, []), (152, .newarray .int, 2, [50]), (154, .dup, 1, []), (155, .iconst 0, 1, []), (156, .iload 4, 2, []), (158, .aload_n 2, 1, []), (159, .getfield 103, 3, [10, 8, 0, 1335]),
  (162, .arraylength, 1, []), (163, .invokestatic 99, 3, [162, 2, 0, 0, 1391]), (166, .iastore, 1, []), (167, .dup, 1, []), (168, .iconst 1, 1, []), (169, .iconst 1, 1, []), (170, .iload 4, 2, []), (172, .iconst 2, 1, []),
  (173, .ishr, 1, []), (174, .bipush 9, 2, []), (176, .invokestatic 99, 3, [162, 2, 0, 0, 1391]), (179, .iadd, 1, []), (180, .iastore, 1, []), (181, .dup, 1, []), (182, .iconst 2, 1, []), (183, .iload 4, 2, []),
  (185, .iconst 1, 1, []), (186, .ishr, 1, []), (187, .bipush 8, 2, []), (189, .invokestatic 99, 3, [162, 2, 0, 0, 1391]), (192, .iastore, 1, []), (193, .aastore, 1, []), (194, .aload_n 1, 1, []), (195, .ldc 120, 2, [1, 122]),
  (197, .invokevirtual 37, 3, [159, 2, 2, 12, 1396]), (200, .iload_n 3, 1, []), (201, .invokevirtual 41, 3, [160, 2, 2, 12, 1491]), (204, .ldc 122, 2, [1, 124]), (206, .invokevirtual 37, 3, [159, 2, 2, 12, 1396]), (209, .aload_n 2, 1, []), (210, .getfield 116, 3, [10, 9, 0, 1337]), (213, .iload_n 3, 1, []),
  (214, .aaload, 1, []), (215, .iconst 0, 1, []), (216, .iaload, 1, []), (217, .invokevirtual 41, 3, [160, 2, 2, 12, 1491]), (220, .ldc 124, 2, [1, 126]), (222, .invokevirtual 37, 3, [159, 2, 2, 12, 1396]), (225, .aload_n 2, 1, []), (226, .getfield 116, 3, [10, 9, 0, 1337]),
  (229, .iload_n 3, 1, []), (230, .aaload, 1, []), (231, .iconst 1, 1, []), (232, .iaload, 1, []), (233, .invokevirtual 41, 3, [160, 2, 2, 12, 1491]), (236, .ldc 126, 2, [1, 128]), (238, .invokevirtual 37, 3, [159, 2, 2, 12, 1396]), (241, .aload_n 2, 1, []),
  (242, .getfield 116, 3, [10, 9, 0, 1337]), (245, .iload_n 3, 1, []), (246, .aaload, 1, []), (247, .iconst 2, 1, []), (248, .iaload, 1, []), (249, .invokevirtual 41, 3, [160, 2, 2, 12, 1491]), (252, .ldc 111, 2, [1, 118]), (254, .invokevirtual 37, 3, [159, 2, 2, 12, 1396]),
  (257, .pop, 1, []), (258, .iinc 3 1, 3, []), (261, .goto (-137), 3, [124]), (264, .aload_n 2, 1, []), (265, .iconst 2, 1, []), (266, .aload_n 0, 1, []), (267, .iconst 2, 1, []), (268, .invokestatic 93, 3, [163, 2, 0, 0, 930]),
  (271, .iconst 5, 1, []), (272, .invokestatic 99, 3, [162, 2, 0, 0, 1391]), (275, .iadd, 1, []), (276, .anewarray 115, 3, [52, 1519]), (279, .putfield 128, 3, [10, 10, 0, 1339]), (282, .aload_n 2, 1, []), (283, .aload_n 2, 1, []), (284, .getfield 128, 3, [10, 10, 0, 1339]),
  (287, .arraylength, 1, []), (288, .iconst 2, 1, []), (289, .multianewarray 131 2, 4, [1524]), (293, .putfield 132, 3, [10, 11, 0, 1341]), (296, .iconst 0, 1, []), (297, .istore_n 3, 1, []), (298, .iload_n 3, 1, []), (299, .aload_n 2, 1, []),
  (300, .getfield 128, 3, [10, 10, 0, 1339]), (303, .arraylength, 1, []), (304, .if_icmp .ge 137, 3, [441]), (307, .aload_n 0, 1, []), (308, .iconst 2, 1, []), (309, .invokestatic 93, 3, [163, 2, 0, 0, 930]), (312, .iconst 2, 1, []), (313, .iconst 3, 1, []),
  (314, .iload_n 3, 1, []), (315, .imul, 1, []), (316, .iadd, 1, []), (317, .ishr, 1, []), (318, .istore 4, 2, []), (320, .aload_n 2, 1, []), (321, .getfield 128, 3, [10, 10, 0, 1339]), (324, .iload_n 3, 1, []),
  (325, .iconst 1, 1, []), (326, .iload 4, 2, []), (328, .iconst 1, 1, []), (329, .iload 4, 2, []), (331, .iconst 3, 1, []), (332, .ishr, 1, []), (333, .iconst 4, 1, []), (334, .invokestatic 99, 3, [162, 2, 0, 0, 1391]),
  (337, .iadd, 1, []), (338, .invokestatic 99, 3, [162, 2, 0, 0, 1391]), (341, .iadd, 1, []), (342, .newarray .int, 2, [50]), (344, .aastore, 1, []), (345, .aload_n 1, 1, []), (346, .ldc 135, 2, [1, 130]), (348, .invokevirtual 37, 3, [159, 2, 2, 12, 1396]),
  (351, .iload_n 3, 1, []), (352, .invokevirtual 41, 3, [160, 2, 2, 12, 1491]), (355, .ldc 137, 2, [1, 132]), (357, .invokevirtual 37, 3, [159, 2, 2, 12, 1396]), (360, .pop, 1, []), (361, .iconst 0, 1, []), (362, .istore 5, 2, []), (364, .iload 5, 2, []),
  (366, .aload_n 2, 1, []), (367, .getfield 128, 3, [10, 10, 0, 1339]), (370, .iload_n 3, 1, []), (371, .aaload, 1, []), (372, .arraylength, 1, []), (373, .if_icmp .ge 55, 3, [428]), (376, .aload_n 2, 1, []), (377, .getfield 128, 3, [10, 10, 0, 1339]),
  (380, .iload_n 3, 1, []), (381, .aaload, 1, []), (382, .iload 5, 2, []), (384, .iload 4, 2, []), (386, .iload 5, 2, []), (388, .ishr, 1, []), (389, .iconst 2, 1, []), (390, .iload 5, 2, []),
  (392, .imul, 1, []), (393, .iadd, 1, []), (394, .aload_n 2, 1, []), (395, .getfield 116, 3, [10, 9, 0, 1337]), (398, .arraylength, 1, []), (399, .invokestatic 99, 3, [162, 2, 0, 0, 1391]), (402, .iastore, 1, []), (403, .aload_n 1, 1, []),
  (404, .ldc 139, 2, [1, 134]), (406, .invokevirtual 37, 3, [159, 2, 2, 12, 1396]), (409, .aload_n 2, 1, []), (410, .getfield 128, 3, [10, 10, 0, 1339]), (413, .iload_n 3, 1, []), (414, .aaload, 1, []), (415, .iload 5, 2, []), (417, .iaload, 1, []),
  (418, .invokevirtual 41, 3, [160, 2, 2, 12, 1491]), (421, .pop, 1, []), (422, .iinc 5 1, 3, []), (425, .goto (-61), 3, [364]), (428, .aload_n 1, 1, []), (429, .ldc 111, 2, [1, 118]), (431, .invokevirtual 37, 3, [159, 2, 2, 12, 1396]), (434, .pop, 1, []),
  (435, .iinc 3 1, 3, []), (438, .goto (-140), 3, [298]), (441, .iconst 2, 1, []), (442, .aload_n 0, 1, []), (443, .iconst 3, 1, []), (444, .invokestatic 93, 3, [163, 2, 0, 0, 930]), (447, .iconst 3, 1, []), (448, .invokestatic 99, 3, [162, 2, 0, 0, 1391]),
  (451, .iadd, 1, []), (452, .istore_n 3, 1, []), (453, .aload_n 2, 1, []), (454, .iload_n 3, 1, []), (455, .anewarray 115, 3, [52, 1519]), (458, .putfield 141, 3, [10, 12, 0, 1343]), (461, .aload_n 2, 1, []), (462, .iload_n 3, 1, []),
  (463, .aload_n 2, 1, []), (464, .getfield 103, 3, [10, 8, 0, 1335]), (467, .arraylength, 1, []), (468, .multianewarray 131 2, 4, [1524]), (472, .putfield 144, 3, [10, 13, 0, 1345]), (475, .aload_n 2, 1, []), (476, .iload_n 3, 1, []), (477, .aload_n 2, 1, []),
  (478, .getfield 116, 3, [10, 9, 0, 1337]), (481, .arraylength, 1, []), (482, .multianewarray 131 2, 4, [1524]), (486, .putfield 147, 3, [10, 14, 0, 1347]), (489, .iconst 0, 1, []), (490, .istore 4, 2, []), (492, .iload 4, 2, []), (494, .iload_n 3, 1, []),
  (495, .if_icmp .ge 206, 3, [701]), (498, .aload_n 0, 1, []), (499, .iconst 3, 1, []), (500, .invokestatic 93, 3, [163, 2, 0, 0, 930]), (503, .iconst 2, 1, []), (504, .iconst 4, 1, []), (505, .iload 4, 2, []), (507, .imul, 1, []),
  (508, .iadd, 1, []), (509, .ishr, 1, []), (510, .istore 5, 2, []), (512, .iload 5, 2, []), (514, .iconst 4, 1, []), (515, .invokestatic 99, 3, [162, 2, 0, 0, 1391]), (518, .istore 6, 2, []), (520, .aload_n 2, 1, []),
  (521, .getfield 141, 3, [10, 12, 0, 1343]), (524, .iload 4, 2, []), (526, .bipush 9, 2, []), (528, .newarray .int, 2, [50]), (530, .dup, 1, []), (531, .iconst 0, 1, []), (532, .iconst 1, 1, []), (533, .iastore, 1, []),
  (534, .dup, 1, []), (535, .iconst 1, 1, []), (536, .iconst 0, 1, []), (537, .iastore, 1, []), (538, .dup, 1, []), (539, .iconst 2, 1, []), (540, .iconst 0, 1, []), (541, .iastore, 1, []),
  (542, .dup, 1, []), (543, .iconst 3, 1, []), (544, .iload 6, 2, []), (546, .iastore, 1, []), (547, .dup, 1, []), (548, .iconst 4, 1, []), (549, .iconst 1, 1, []), (550, .iastore, 1, []),
  (551, .dup, 1, []), (552, .iconst 5, 1, []), (553, .iconst 0, 1, []), (554, .iastore, 1, []), (555, .dup, 1, []), (556, .bipush 6, 2, []), (558, .iconst 0, 1, []), (559, .iastore, 1, []),
  (560, .dup, 1, []), (561, .bipush 7, 2, []), (563, .iconst 0, 1, []), (564, .iastore, 1, []), (565, .dup, 1, []), (566, .bipush 8, 2, []), (568, .iconst 0, 1, []), (569, .iastore, 1, []),
  (570, .aastore, 1, []), (571, .aload_n 1, 1, []), (572, .ldc 150, 2, [1, 136]), (574, .invokevirtual 37, 3, [159, 2, 2, 12, 1396]), (577, .iload 4, 2, []), (579, .invokevirtual 41, 3, [160, 2, 2, 12, 1491]), (582, .ldc 152, 2, [1, 138]), (584, .invokevirtual 37, 3, [159, 2, 2, 12, 1396]),
  (587, .iload 6, 2, []), (589, .invokevirtual 41, 3, [160, 2, 2, 12, 1491]), (592, .pop, 1, []), (593, .iconst 0, 1, []), (594, .istore 7, 2, []), (596, .iload 7, 2, []), (598, .iconst 1, 1, []), (599, .iload 5, 2, []),
  (601, .iconst 3, 1, []), (602, .ishr, 1, []), (603, .iconst 4, 1, []), (604, .invokestatic 99, 3, [162, 2, 0, 0, 1391]), (607, .iadd, 1, []), (608, .if_icmp .ge 80, 3, [688]), (611, .iload 5, 2, []), (613, .iconst 2, 1, []),
  (614, .ishr, 1, []), (615, .iload 7, 2, []), (617, .iadd, 1, []), (618, .aload_n 2, 1, []), (619, .getfield 103, 3, [10, 8, 0, 1335]), (622, .arraylength, 1, []), (623, .invokestatic 99, 3, [162, 2, 0, 0, 1391]), (626, .istore 8, 2, []),
  (628, .aload_n 2, 1, []), (629, .getfield 144, 3, [10, 13, 0, 1345]), (632, .iload 4, 2, []), (634, .aaload, 1, []), (635, .iload 8, 2, []), (637, .iload 5, 2, []), (639, .iconst 4, 1, []), (640, .ishr, 1, []),
  (641, .iconst 5, 1, []), (642, .iload 7, 2, []), (644, .imul, 1, []), (645, .iadd, 1, []), (646, .bipush 15, 2, []), (648, .invokestatic 99, 3, [162, 2, 0, 0, 1391]), (651, .iastore, 1, []), (652, .aload_n 1, 1, []),
  (653, .ldc 154, 2, [1, 140]), (655, .invokevirtual 37, 3, [159, 2, 2, 12, 1396]), (658, .iload 8, 2, []), (660, .invokevirtual 41, 3, [160, 2, 2, 12, 1491]), (663, .ldc 156, 2, [1, 142]), (665, .invokevirtual 37, 3, [159, 2, 2, 12, 1396]), (668, .aload_n 2, 1, []), (669, .getfield 144, 3, [10, 13, 0, 1345]),
  (672, .iload 4, 2, []), (674, .aaload, 1, []), (675, .iload 8, 2, []), (677, .iaload, 1, []), (678, .invokevirtual 41, 3, [160, 2, 2, 12, 1491]), (681, .pop, 1, []), (682, .iinc 7 1, 3, []), (685, .goto (-89), 3, [596]),
  (688, .aload_n 1, 1, []), (689, .ldc 158, 2, [1, 144]), (691, .invokevirtual 37, 3, [159, 2, 2, 12, 1396]), (694, .pop, 1, []), (695, .iinc 4 1, 3, []), (698, .goto (-206), 3, [492]), (701, .aload_n 2, 1, []), (702, .iconst 1, 1, []),
  (703, .aload_n 0, 1, []), (704, .iconst 4, 1, []), (705, .invokestatic 93, 3, [163, 2, 0, 0, 930]), (708, .iconst 3, 1, []), (709, .invokestatic 99, 3, [162, 2, 0, 0, 1391]), (712, .iadd, 1, []), (713, .anewarray 115, 3, [52, 1519]), (716, .putfield 160, 3, [10, 15, 0, 1349]),
  (719, .aload_n 2, 1, []), (720, .aload_n 2, 1, []), (721, .getfield 160, 3, [10, 15, 0, 1349]), (724, .arraylength, 1, []), (725, .anewarray 115, 3, [52, 1519]), (728, .putfield 163, 3, [10, 16, 0, 1351]), (731, .iconst 0, 1, []), (732, .istore 4, 2, []),
  (734, .iload 4, 2, []), (736, .aload_n 2, 1, []), (737, .getfield 160, 3, [10, 15, 0, 1349]), (740, .arraylength, 1, []), (741, .if_icmp .ge 215, 3, [956]), (744, .aload_n 0, 1, []), (745, .iconst 4, 1, []), (746, .invokestatic 93, 3, [163, 2, 0, 0, 930]),
  (749, .iconst 2, 1, []), (750, .iconst 5, 1, []), (751, .iload 4, 2, []), (753, .imul, 1, []), (754, .iadd, 1, []), (755, .ishr, 1, []), (756, .istore 5, 2, []), (758, .aload_n 2, 1, []),
  (759, .getfield 160, 3, [10, 15, 0, 1349]), (762, .iload 4, 2, []), (764, .iconst 2, 1, []), (765, .newarray .int, 2, [50]), (767, .dup, 1, []), (768, .iconst 0, 1, []), (769, .iload 5, 2, []), (771, .iconst 4, 1, []),
  (772, .invokestatic 99, 3, [162, 2, 0, 0, 1391]), (775, .iload 4, 2, []), (777, .imul, 1, []), (778, .iconst 2, 1, []), (779, .imul, 1, []), (780, .iload 5, 2, []), (782, .iconst 3, 1, []), (783, .ishr, 1, []),
  (784, .iconst 3, 1, []), (785, .invokestatic 99, 3, [162, 2, 0, 0, 1391]), (788, .iadd, 1, []), (789, .iastore, 1, []), (790, .dup, 1, []), (791, .iconst 1, 1, []), (792, .iconst 1, 1, []), (793, .iload 5, 2, []),
  (795, .iconst 2, 1, []), (796, .ishr, 1, []), (797, .iconst 3, 1, []), (798, .invokestatic 99, 3, [162, 2, 0, 0, 1391]), (801, .iadd, 1, []), (802, .iastore, 1, []), (803, .aastore, 1, []), (804, .aload_n 2, 1, []),
  (805, .getfield 163, 3, [10, 16, 0, 1351]), (808, .iload 4, 2, []), (810, .iconst 1, 1, []), (811, .iload 5, 2, []), (813, .iconst 4, 1, []), (814, .ishr, 1, []), (815, .iconst 5, 1, []), (816, .invokestatic 99, 3, [162, 2, 0, 0, 1391]),
  (819, .iadd, 1, []), (820, .newarray .int, 2, [50]), (822, .aastore, 1, []), (823, .aload_n 1, 1, []), (824, .ldc 166, 2, [1, 146]), (826, .invokevirtual 37, 3, [159, 2, 2, 12, 1396]), (829, .iload 4, 2, []), (831, .invokevirtual 41, 3, [160, 2, 2, 12, 1491]),
  (834, .ldc 168, 2, [1, 148]), (836, .invokevirtual 37, 3, [159, 2, 2, 12, 1396]), (839, .aload_n 2, 1, []), (840, .getfield 160, 3, [10, 15, 0, 1349]), (843, .iload 4, 2, []), (845, .aaload, 1, []), (846, .iconst 0, 1, []), (847, .iaload, 1, []),
  (848, .invokevirtual 41, 3, [160, 2, 2, 12, 1491]), (851, .ldc 170, 2, [1, 150]), (853, .invokevirtual 37, 3, [159, 2, 2, 12, 1396]), (856, .aload_n 2, 1, []), (857, .getfield 160, 3, [10, 15, 0, 1349]), (860, .iload 4, 2, []), (862, .aaload, 1, []), (863, .iconst 1, 1, []),
  (864, .iaload, 1, []), (865, .invokevirtual 41, 3, [160, 2, 2, 12, 1491]), (868, .ldc 172, 2, [1, 152]), (870, .invokevirtual 37, 3, [159, 2, 2, 12, 1396]), (873, .pop, 1, []), (874, .iconst 0, 1, []), (875, .istore 6, 2, []), (877, .iload 6, 2, []),
  (879, .aload_n 2, 1, []), (880, .getfield 163, 3, [10, 16, 0, 1351]), (883, .iload 4, 2, []), (885, .aaload, 1, []), (886, .arraylength, 1, []), (887, .if_icmp .ge 56, 3, [943]), (890, .aload_n 2, 1, []), (891, .getfield 163, 3, [10, 16, 0, 1351]),
  (894, .iload 4, 2, []), (896, .aaload, 1, []), (897, .iload 6, 2, []), (899, .iload 5, 2, []), (901, .iconst 1, 1, []), (902, .ishr, 1, []), (903, .iconst 3, 1, []), (904, .iload 6, 2, []),
  (906, .imul, 1, []), (907, .iadd, 1, []), (908, .aload_n 2, 1, []), (909, .getfield 128, 3, [10, 10, 0, 1339]), (912, .arraylength, 1, []), (913, .invokestatic 99, 3, [162, 2, 0, 0, 1391]), (916, .iastore, 1, []), (917, .aload_n 1, 1, []),
  (918, .ldc 48, 2, [1, 72]), (920, .invokevirtual 37, 3, [159, 2, 2, 12, 1396]), (923, .aload_n 2, 1, []), (924, .getfield 163, 3, [10, 16, 0, 1351]), (927, .iload 4, 2, []), (929, .aaload, 1, []), (930, .iload 6, 2, []), (932, .iaload, 1, []),
  (933, .invokevirtual 41, 3, [160, 2, 2, 12, 1491]), (936, .pop, 1, []), (937, .iinc 6 1, 3, []), (940, .goto (-63), 3, [877]), (943, .aload_n 1, 1, []), (944, .ldc 111, 2, [1, 118]), (946, .invokevirtual 37, 3, [159, 2, 2, 12, 1396]), (949, .pop, 1, []),
  (950, .iinc 4 1, 3, []), (953, .goto (-219), 3, [734]), (956, .aload_n 2, 1, []), (957, .aload_n 0, 1, []), (958, .iconst 5, 1, []), (959, .invokestatic 93, 3, [163, 2, 0, 0, 930]), (962, .bipush 9, 2, []), (964, .invokestatic 99, 3, [162, 2, 0, 0, 1391]),
  (967, .anewarray 115, 3, [52, 1519]), (970, .putfield 174, 3, [10, 17, 0, 1353]), (973, .iconst 3, 1, []), (974, .anewarray 10, 3, [54, 1538]), (977, .dup, 1, []), (978, .iconst 0, 1, []), (979, .ldc 177, 2, [1, 154]), (981, .aastore, 1, []),
  (982, .dup, 1, []), (983, .iconst 1, 1, []), (984, .ldc 179, 2, [1, 156]), (986, .aastore, 1, []), (987, .dup, 1, []), (988, .iconst 2, 1, []), (989, .ldc 181, 2, [1, 158]), (991, .aastore, 1, []),
  (992, .astore 4, 2, []), (994, .iconst 0, 1, []), (995, .istore 5, 2, []), (997, .iload 5, 2, []), (999, .aload_n 2, 1, []), (1000, .getfield 174, 3, [10, 17, 0, 1353]), (1003, .arraylength, 1, []), (1004, .if_icmp .ge 179, 3, [1183]),
  (1007, .aload_n 0, 1, []), (1008, .bipush 6, 2, []), (1010, .iload 5, 2, []), (1012, .bipush 8, 2, []), (1014, .irem, 1, []), (1015, .iadd, 1, []), (1016, .invokestatic 93, 3, [163, 2, 0, 0, 930]), (1019, .iconst 2, 1, []),
  (1020, .iload 5, 2, []), (1022, .bipush 8, 2, []), (1024, .idiv, 1, []), (1025, .iadd, 1, []), (1026, .ishr, 1, []), (1027, .istore 6, 2, []), (1029, .bipush 6, 2, []), (1031, .newarray .int, 2, [50]),
  (1033, .dup, 1, []), (1034, .iconst 0, 1, []), (1035, .iload 6, 2, []), (1037, .iconst 3, 1, []), (1038, .invokestatic 99, 3, [162, 2, 0, 0, 1391]), (1041, .iastore, 1, []), (1042, .dup, 1, []), (1043, .iconst 1, 1, []),
  (1044, .iload 6, 2, []), (1046, .iconst 2, 1, []), (1047, .ishr, 1, []), (1048, .iload_n 3, 1, []), (1049, .invokestatic 99, 3, [162, 2, 0, 0, 1391]), (1052, .iastore, 1, []), (1053, .dup, 1, []), (1054, .iconst 2, 1, []),
  (1055, .iload 6, 2, []), (1057, .iconst 4, 1, []), (1058, .ishr, 1, []), (1059, .bipush 9, 2, []), (1061, .invokestatic 99, 3, [162, 2, 0, 0, 1391]), (1064, .iastore, 1, []), (1065, .dup, 1, []), (1066, .iconst 3, 1, []),
  (1067, .iload 6, 2, []), (1069, .iconst 3, 1, []), (1070, .ishr, 1, []), (1071, .bipush 7, 2, []), (1073, .invokestatic 99, 3, [162, 2, 0, 0, 1391]), (1076, .iastore, 1, []), (1077, .dup, 1, []), (1078, .iconst 4, 1, []),
  (1079, .iload 6, 2, []), (1081, .iconst 5, 1, []), (1082, .ishr, 1, []), (1083, .iload_n 3, 1, []), (1084, .invokestatic 99, 3, [162, 2, 0, 0, 1391]), (1087, .iastore, 1, []), (1088, .dup, 1, []), (1089, .iconst 5, 1, []),
  (1090, .iload 6, 2, []), (1092, .bipush 6, 2, []), (1094, .ishr, 1, []), (1095, .aload_n 2, 1, []), (1096, .getfield 128, 3, [10, 10, 0, 1339]), (1099, .arraylength, 1, []), (1100, .invokestatic 99, 3, [162, 2, 0, 0, 1391]), (1103, .iastore, 1, []),
  (1104, .astore 7, 2, []), (1106, .iload 6, 2, []), (1108, .bipush 8, 2, []), (1110, .ishr, 1, []), (1111, .iconst 2, 1, []), (1112, .invokestatic 99, 3, [162, 2, 0, 0, 1391]), (1115, .ifCond .ne 11, 3, [1126]), (1118, .aload 7, 2, []),
  (1120, .iconst 4, 1, []), (1121, .aload 7, 2, []), (1123, .iconst 1, 1, []), (1124, .iaload, 1, []), (1125, .iastore, 1, []), (1126, .aload_n 2, 1, []), (1127, .getfield 174, 3, [10, 17, 0, 1353]), (1130, .iload 5, 2, []),
  (1132, .aload 7, 2, []), (1134, .aastore, 1, []), (1135, .aload_n 1, 1, []), (1136, .aload 4, 2, []), (1138, .aload 7, 2, []), (1140, .iconst 0, 1, []), (1141, .iaload, 1, []), (1142, .aaload, 1, []),
  (1143, .invokevirtual 37, 3, [159, 2, 2, 12, 1396]), (1146, .ldc 35, 2, [1, 70]), (1148, .invokevirtual 37, 3, [159, 2, 2, 12, 1396]), (1151, .aload 7, 2, []), (1153, .iconst 1, 1, []), (1154, .iaload, 1, []), (1155, .invokevirtual 41, 3, [160, 2, 2, 12, 1491]), (1158, .ldc 183, 2, [1, 160]),
  (1160, .invokevirtual 37, 3, [159, 2, 2, 12, 1396]), (1163, .aload 7, 2, []), (1165, .invokestatic 185, 3, [165, 1, 0, 0, 1545]), (1168, .invokevirtual 37, 3, [159, 2, 2, 12, 1396]), (1171, .ldc 111, 2, [1, 118]), (1173, .invokevirtual 37, 3, [159, 2, 2, 12, 1396]), (1176, .pop, 1, []), (1177, .iinc 5 1, 3, []),
  (1180, .goto (-183), 3, [997]), (1183, .aload_n 2, 1, []), (1184, .iconst 0, 1, []), (1185, .putfield 189, 3, [10, 1, 0, 1326]), (1188, .aload_n 2, 1, []), (1189, .areturn, 1, [])
  ]
def tb_167 : List MRow := [
  (0, .iload_n 2, 1, []), (1, .iconst 3, 1, []), (2, .ishr, 1, []), (3, .aload_n 1, 1, []), (4, .getfield 141, 3, [10, 12, 0, 1343]), (7, .arraylength, 1, []), (8, .invokestatic 99, 3, [162, 2, 0, 0, 1391]), (11, .istore_n 3, 1, []),
  (12, .iload_n 2, 1, []), (13, .bipush 10, 2, []), (15, .invokestatic 99, 3, [162, 2, 0, 0, 1391]), (18, .tableswitch 298 0 3 #[30, 91, 156, 234], 30, [316, 48, 109, 174, 252]), (48, .aload_n 1, 1, []), (49, .invokevirtual 193, 3, [135, 1, 2, 10, 1650]), (52, .istore 4, 2, []), (54, .iload 4, 2, []),
  (56, .ifCond .eq 7, 3, [63]), (59, .aload_n 1, 1, []), (60, .invokevirtual 197, 3, [136, 1, 2, 10, 1651]), (63, .aload_n 0, 1, []), (64, .invokevirtual 199, 3, [107, 1, 2, 9, 1652]), (67, .istore 5, 2, []), (69, .iload 4, 2, []), (71, .ifCond .eq 23, 3, [94]),
  (74, .iload 5, 2, []), (76, .aload_n 1, 1, []), (77, .getfield 141, 3, [10, 12, 0, 1343]), (80, .aload_n 1, 1, []), (81, .getfield 201, 3, [10, 4, 0, 1329]), (84, .aaload, 1, []), (85, .iconst 1, 1, []), (86, .iaload, 1, []),
  (87, .if_icmp .ne 7, 3, [94]), (90, .iconst 1, 1, []), (91, .goto 4, 3, [95]), (94, .iconst 0, 1, []), (95, .ireturn, 1, [2]), (96, .astore 5, 2, []), (98, .iload 4, 2, []), (100, .ifCond .ne 7, 3, [107]),
  (103, .iconst 1, 1, []), (104, .goto 4, 3, [108]), (107, .iconst 0, 1, []), (108, .ireturn, 1, [2]), (109, .aload_n 1, 1, []), (110, .invokevirtual 206, 3, [137, 1, 2, 10, 1658]), (113, .istore 4, 2, []), (115, .iload 4, 2, []),
  (117, .ifCond .eq 7, 3, [124]), (120, .aload_n 1, 1, []), (121, .invokevirtual 209, 3, [138, 1, 2, 10, 1659]), (124, .aload_n 0, 1, []), (125, .invokevirtual 211, 3, [108, 1, 2, 9, 1660]), (128, .istore 5, 2, []), (130, .iload 4, 2, []), (132, .ifCond .eq 27, 3, [159]),
  (135, .iload 5, 2, []), (137, .aload_n 1, 1, []), (138, .getfield 189, 3, [10, 1, 0, 1326]), (141, .ifCond .ge 7, 3, [148]), (144, .iconst (-1), 1, []), (145, .goto 7, 3, [152]), (148, .aload_n 1, 1, []), (149, .getfield 201, 3, [10, 4, 0, 1329]),
  (152, .if_icmp .ne 7, 3, [159]), (155, .iconst 1, 1, []), (156, .goto 4, 3, [160]), (159, .iconst 0, 1, []), (160, .ireturn, 1, [2]), (161, .astore 5, 2, []), (163, .iload 4, 2, []), (165, .ifCond .ne 7, 3, [172]),
  (168, .iconst 1, 1, []), (169, .goto 4, 3, [173]), (172, .iconst 0, 1, []), (173, .ireturn, 1, [2]), (174, .iload_n 2, 1, []), (175, .iconst 5, 1, []), (176, .ishr, 1, []), (177, .aload_n 1, 1, []),
  (178, .getfield 103, 3, [10, 8, 0, 1335]), (181, .arraylength, 1, []), (182, .invokestatic 99, 3, [162, 2, 0, 0, 1391]), (185, .istore 4, 2, []), (187, .iconst 1, 1, []), (188, .iload_n 2, 1, []), (189, .iconst 4, 1, []), (190, .ishr, 1, []),
  (191, .bipush 9, 2, []), (193, .invokestatic 99, 3, [162, 2, 0, 0, 1391]), (196, .iadd, 1, []), (197, .istore 5, 2, []), (199, .aload_n 1, 1, []), (200, .getfield 144, 3, [10, 13, 0, 1345]), (203, .iload_n 3, 1, []), (204, .aaload, 1, []),
  (205, .iload 4, 2, []), (207, .bipush 20, 2, []), (209, .aload_n 1, 1, []), (210, .getfield 144, 3, [10, 13, 0, 1345]), (213, .iload_n 3, 1, []), (214, .aaload, 1, []), (215, .iload 4, 2, []), (217, .iaload, 1, []),
  (218, .iload 5, 2, []), (220, .iadd, 1, []), (221, .invokestatic 214, 3, [182, 2, 0, 0, 1667]), (224, .iastore, 1, []), (225, .aload_n 0, 1, []), (226, .iload_n 3, 1, []), (227, .iload 4, 2, []), (229, .iload 5, 2, []),
  (231, .invokevirtual 219, 3, [109, 4, 2, 9, 1668]), (234, .aload_n 1, 1, []), (235, .getfield 144, 3, [10, 13, 0, 1345]), (238, .iload_n 3, 1, []), (239, .aaload, 1, []), (240, .iload 4, 2, []), (242, .iaload, 1, []), (243, .if_icmp .ne 7, 3, [250]),
  (246, .iconst 1, 1, []), (247, .goto 4, 3, [251]), (250, .iconst 0, 1, []), (251, .ireturn, 1, [2]), (252, .iconst 1, 1, []), (253, .iload_n 2, 1, []), (254, .iconst 4, 1, []), (255, .ishr, 1, []),
  (256, .iload_n 2, 1, []), (257, .bipush 6, 2, []), (259, .ishr, 1, []), (260, .iconst 3, 1, []), (261, .invokestatic 99, 3, [162, 2, 0, 0, 1391]), (264, .ifCond .ne 8, 3, [272]), (267, .bipush 20, 2, []), (269, .goto 4, 3, [273]),
  (272, .iconst 3, 1, []), (273, .invokestatic 99, 3, [162, 2, 0, 0, 1391]), (276, .iadd, 1, []), (277, .istore 4, 2, []), (279, .aload_n 1, 1, []), (280, .getfield 141, 3, [10, 12, 0, 1343]), (283, .iload_n 3, 1, []), (284, .aaload, 1, []),
  (285, .iconst 1, 1, []), (286, .dup2, 1, []), (287, .iaload, 1, []), (288, .iload 4, 2, []), (290, .iadd, 1, []), (291, .iastore, 1, []), (292, .aload_n 0, 1, []), (293, .iload_n 3, 1, []),
  (294, .iload 4, 2, []), (296, .invokevirtual 223, 3, [110, 3, 2, 9, 1674]), (299, .aload_n 1, 1, []), (300, .getfield 141, 3, [10, 12, 0, 1343]), (303, .iload_n 3, 1, []), (304, .aaload, 1, []), (305, .iconst 1, 1, []), (306, .iaload, 1, []),
  (307, .if_icmp .ne 7, 3, [314]), (310, .iconst 1, 1, []), (311, .goto 4, 3, [315]), (314, .iconst 0, 1, []), (315, .ireturn, 1, [2]), (316, .iconst 1, 1, []), (317, .iload_n 2, 1, []), (318, .iconst 4, 1, []),
  (319, .ishr, 1, []), (320, .iload_n 2, 1, []), (321, .bipush 6, 2, []), (323, .ishr, 1, []), (324, .bipush 8, 2, []), (326, .invokestatic 99, 3, [162, 2, 0, 0, 1391]), (329, .ifCond .ne 8, 3, [337]), (332, .bipush 60, 2, []),
  (334, .goto 4, 3, [338]), (337, .iconst 3, 1, []), (338, .invokestatic 99, 3, [162, 2, 0, 0, 1391]), (341, .iadd, 1, []), (342, .istore 4, 2, []), (344, .aload_n 0, 1, []), (345, .iload 4, 2, []), (347, .invokevirtual 226, 3, [111, 2, 2, 9, 638]),
  (350, .aload_n 1, 1, []), (351, .iload 4, 2, []), (353, .invokevirtual 229, 3, [145, 2, 2, 10, 818]), (356, .if_icmp .ne 7, 3, [363]), (359, .iconst 1, 1, []), (360, .goto 4, 3, [364]), (363, .iconst 0, 1, []), (364, .ireturn, 1, [2])
  ]
def tb_168 : List MRow := [
  (0, .new 20, 3, [9, 87]), (3, .dup, 1, []), (4, .invokespecial 230, 3, [95, 1, 5, 0, 89]), (7, .astore_n 1, 1, []), (8, .new 32, 3, [12, 1548]), (11, .dup, 1, []), (12, .invokespecial 34, 3, [158, 1, 5, 0, 1550]), (15, .astore_n 2, 1, []),
  (16, .aload_n 0, 1, []), (17, .aload_n 2, 1, []), (18, .invokestatic 231, 3, [166, 2, 0, 0, 1314]), (21, .astore_n 3, 1, []), (22, .aload_n 1, 1, []), (23, .aload_n 2, 1, []), (24, .invokevirtual 44, 3, [161, 1, 2, 12, 1569]), (27, .invokestatic 235, 3, [164, 2, 0, 0, 934]),
  (30, .ifCond .eq 5, 3, [35]), (33, .iconst 0, 1, []), (34, .ireturn, 1, [2]), (35, .aload_n 1, 1, []), (36, .iconst 4, 1, []), (37, .invokevirtual 239, 3, [99, 2, 2, 9, 469]), (40, .istore 4, 2, []), (42, .aload_n 1, 1, []),
  (43, .iconst 3, 1, []), (44, .invokevirtual 239, 3, [99, 2, 2, 9, 469]), (47, .istore 5, 2, []), (49, .aload_n 1, 1, []), (50, .iconst 2, 1, []), (51, .invokevirtual 239, 3, [99, 2, 2, 9, 469]), (54, .istore 6, 2, []), (56, .iconst 0, 1, []),
  (57, .istore 7, 2, []), (59, .iload 7, 2, []), (61, .bipush 16, 2, []), (63, .if_icmp .ge 1147, 3, [1210]), (66, .aload_n 0, 1, []), (67, .iload 7, 2, []), (69, .invokestatic 93, 3, [163, 2, 0, 0, 930]), (72, .iconst 3, 1, []),
  (73, .ishr, 1, []), (74, .bipush 59, 2, []), (76, .iload 7, 2, []), (78, .imul, 1, []), (79, .iadd, 1, []), (80, .istore 8, 2, []), (82, .aload_n 1, 1, []), (83, .aload_n 3, 1, []),
  (84, .iload 8, 2, []), (86, .invokestatic 242, 3, [167, 3, 0, 0, 1646]), (89, .ifCond .ne 5, 3, [94]), (92, .iconst 0, 1, []), (93, .ireturn, 1, [2]), (94, .aload_n 1, 1, []), (95, .invokevirtual 246, 3, [117, 1, 2, 9, 796]), (98, .lstore 9, 2, []),
  (100, .aload_n 1, 1, []), (101, .bipush 7, 2, []), (103, .invokevirtual 239, 3, [99, 2, 2, 9, 469]), (106, .istore 11, 2, []), (108, .aload_n 1, 1, []), (109, .bipush 8, 2, []), (111, .invokevirtual 239, 3, [99, 2, 2, 9, 469]), (114, .istore 12, 2, []),
  (116, .aload_n 1, 1, []), (117, .bipush 9, 2, []), (119, .invokevirtual 239, 3, [99, 2, 2, 9, 469]), (122, .istore 13, 2, []), (124, .iconst 0, 1, []), (125, .istore 14, 2, []), (127, .iconst 0, 1, []), (128, .istore 15, 2, []),
  (130, .iconst 0, 1, []), (131, .istore 16, 2, []), (133, .iconst 0, 1, []), (134, .istore 17, 2, []), (136, .iconst 0, 1, []), (137, .istore 18, 2, []), (139, .iload 4, 2, []), (141, .newarray .int, 2, [50]),
  (143, .astore 19, 2, []), (145, .iload 4, 2, []), (147, .iload 5, 2, []), (149, .multianewarray 131 2, 4, [1524]), (153, .astore 20, 2, []), (155, .iconst 0, 1, []), (156, .istore 21, 2, []), (158, .iload 21, 2, []),
  (160, .iload 4, 2, []), (162, .if_icmp .ge 345, 3, [507]), (165, .aload_n 1, 1, []), (166, .iload 21, 2, []), (168, .iconst 0, 1, []), (169, .invokevirtual 250, 3, [103, 3, 2, 9, 601]), (172, .iconst 1, 1, []), (173, .if_icmp .ne 7, 3, [180]),
  (176, .iconst 1, 1, []), (177, .goto 4, 3, [181]), (180, .iconst 0, 1, []), (181, .istore 22, 2, []), (183, .iload 14, 2, []), (185, .iload 22, 2, []), (187, .ifCond .eq 7, 3, [194]), (190, .iconst 1, 1, []),
  (191, .goto 4, 3, [195]), (194, .iconst 0, 1, []), (195, .iadd, 1, []), (196, .istore 14, 2, []), (198, .iload 15, 2, []), (200, .aload_n 1, 1, []), (201, .iload 21, 2, []), (203, .bipush 6, 2, []),
  (205, .invokevirtual 250, 3, [103, 3, 2, 9, 601]), (208, .iadd, 1, []), (209, .istore 15, 2, []), (211, .iload 16, 2, []), (213, .aload_n 1, 1, []), (214, .iload 21, 2, []), (216, .bipush 7, 2, []), (218, .invokevirtual 250, 3, [103, 3, 2, 9, 601]),
  (221, .iadd, 1, []), (222, .istore 16, 2, []), (224, .iload 17, 2, []), (226, .aload_n 1, 1, []), (227, .iload 21, 2, []), (229, .iconst 5, 1, []), (230, .invokevirtual 250, 3, [103, 3, 2, 9, 601]), (233, .iadd, 1, []),
  (234, .istore 17, 2, []), (236, .iload 18, 2, []), (238, .iconst 1, 1, []), (239, .aload_n 1, 1, []), (240, .iload 21, 2, []), (242, .bipush 8, 2, []), (244, .invokevirtual 250, 3, [103, 3, 2, 9, 601]), (247, .ishl, 1, []),
  (248, .ior, 1, []), (249, .istore 18, 2, []), (251, .aload_n 1, 1, []), (252, .iload 21, 2, []), (254, .iconst 1, 1, []), (255, .invokevirtual 250, 3, [103, 3, 2, 9, 601]), (258, .ifCond .lt 61, 3, [319]), (261, .aload_n 1, 1, []),
  (262, .iload 21, 2, []), (264, .iconst 2, 1, []), (265, .invokevirtual 250, 3, [103, 3, 2, 9, 601]), (268, .ifCond .lt 51, 3, [319]), (271, .aload_n 1, 1, []), (272, .iload 21, 2, []), (274, .iconst 2, 1, []), (275, .invokevirtual 250, 3, [103, 3, 2, 9, 601]),
  (278, .iconst 2, 1, []), (279, .if_icmp .gt 40, 3, [319]), (282, .iload 22, 2, []), (284, .ifCond .eq 14, 3, [298]), (287, .aload_n 1, 1, []), (288, .iload 21, 2, []), (290, .iconst 2, 1, []), (291, .invokevirtual 250, 3, [103, 3, 2, 9, 601]),
  (294, .iconst 1, 1, []), (295, .if_icmp .gt 24, 3, [319]), (298, .aload_n 1, 1, []), (299, .iload 21, 2, []), (301, .iconst 3, 1, []), (302, .invokevirtual 250, 3, [103, 3, 2, 9, 601]), (305, .ifCond .lt 14, 3, [319]), (308, .aload_n 1, 1, []),
  (309, .iload 21, 2, []), (311, .iconst 3, 1, []), (312, .invokevirtual 250, 3, [103, 3, 2, 9, 601]), (315, .iconst 3, 1, []), (316, .if_icmp .le 5, 3, [321]), (319, .iconst 0, 1, []), (320, .ireturn, 1, [2]), (321, .iconst 0, 1, []),
  (322, .istore 23, 2, []), (324, .iload 23, 2, []), (326, .iload 4, 2, []), (328, .if_icmp .ge 109, 3, [437]), (331, .aload_n 1, 1, []), (332, .iload 21, 2, []), (334, .bipush 8, 2, []), (336, .invokevirtual 250, 3, [103, 3, 2, 9, 601]),
  (339, .aload_n 1, 1, []), (340, .iload 23, 2, []), (342, .bipush 8, 2, []), (344, .invokevirtual 250, 3, [103, 3, 2, 9, 601]), (347, .if_icmp .lt 6, 3, [353]), (350, .goto 81, 3, [431]), (353, .aload_n 1, 1, []), (354, .iload 23, 2, []),
  (356, .iconst 0, 1, []), (357, .invokevirtual 250, 3, [103, 3, 2, 9, 601]), (360, .iconst 1, 1, []), (361, .if_icmp .ne 7, 3, [368]), (364, .iconst 1, 1, []), (365, .goto 4, 3, [369]), (368, .iconst 0, 1, []), (369, .istore 24, 2, []),
  (371, .iload 24, 2, []), (373, .ifCond .eq 8, 3, [381]), (376, .iload 22, 2, []), (378, .ifCond .eq 51, 3, [429]), (381, .iload 22, 2, []), (383, .iload 24, 2, []), (385, .if_icmp .ne 46, 3, [431]), (388, .aload_n 1, 1, []),
  (389, .iload 21, 2, []), (391, .iconst 1, 1, []), (392, .invokevirtual 250, 3, [103, 3, 2, 9, 601]), (395, .aload_n 1, 1, []), (396, .iload 23, 2, []), (398, .iconst 1, 1, []), (399, .invokevirtual 250, 3, [103, 3, 2, 9, 601]), (402, .if_icmp .lt 27, 3, [429]),
  (405, .aload_n 1, 1, []), (406, .iload 21, 2, []), (408, .iconst 1, 1, []), (409, .invokevirtual 250, 3, [103, 3, 2, 9, 601]), (412, .aload_n 1, 1, []), (413, .iload 23, 2, []), (415, .iconst 1, 1, []), (416, .invokevirtual 250, 3, [103, 3, 2, 9, 601]),
  (419, .if_icmp .ne 12, 3, [431]), (422, .iload 21, 2, []), (424, .iload 23, 2, []), (426, .if_icmp .le 5, 3, [431]), (429, .iconst 0, 1, []), (430, .ireturn, 1, [2]), (431, .iinc 23 1, 3, []), (434, .goto (-110), 3, [324]),
  (437, .iconst 0, 1, []), (438, .istore 23, 2, []), (440, .iload 23, 2, []), (442, .iload 6, 2, []), (444, .if_icmp .ge 25, 3, [469]), (447, .aload 19, 2, []), (449, .iload 21, 2, []), (451, .dup2, 1, []),
  (452, .iaload, 1, []), (453, .aload_n 1, 1, []), (454, .iload 21, 2, []), (456, .iload 23, 2, []), (458, .invokevirtual 253, 3, [105, 3, 2, 9, 619]), (461, .iadd, 1, []), (462, .iastore, 1, []), (463, .iinc 23 1, 3, []),
  (466, .goto (-26), 3, [440]), (469, .iconst 0, 1, []), (470, .istore 23, 2, []), (472, .iload 23, 2, []), (474, .iload 5, 2, []), (476, .if_icmp .ge 25, 3, [501]), (479, .aload 20, 2, []), (481, .iload 21, 2, []),
  (483, .aaload, 1, []), (484, .iload 23, 2, []), (486, .aload_n 1, 1, []), (487, .iload 21, 2, []), (489, .iload 23, 2, []), (491, .invokevirtual 255, 3, [106, 3, 2, 9, 624]), (494, .iastore, 1, []), (495, .iinc 23 1, 3, []),
  (498, .goto (-26), 3, [472]), (501, .iinc 21 1, 3, []), (504, .goto (-346), 3, [158]), (507, .iconst 0, 1, []), (508, .istore 21, 2, []), (510, .iconst 0, 1, []), (511, .istore 22, 2, []), (513, .iconst 0, 1, []),
  (514, .istore 23, 2, []), (516, .iload 23, 2, []), (518, .iload 5, 2, []), (520, .if_icmp .ge 52, 3, [572]), (523, .iload 21, 2, []), (525, .aload_n 1, 1, []), (526, .iload 23, 2, []), (528, .iconst 3, 1, []),
  (529, .invokevirtual 258, 3, [101, 3, 2, 9, 575]), (532, .iadd, 1, []), (533, .istore 21, 2, []), (535, .iload 22, 2, []), (537, .aload_n 1, 1, []), (538, .iload 23, 2, []), (540, .iconst 4, 1, []), (541, .invokevirtual 258, 3, [101, 3, 2, 9, 575]),
  (544, .iadd, 1, []), (545, .istore 22, 2, []), (547, .aload_n 1, 1, []), (548, .iload 23, 2, []), (550, .iconst 4, 1, []), (551, .invokevirtual 258, 3, [101, 3, 2, 9, 575]), (554, .aload_n 1, 1, []), (555, .iload 23, 2, []),
  (557, .iconst 3, 1, []), (558, .invokevirtual 258, 3, [101, 3, 2, 9, 575]), (561, .if_icmp .le 5, 3, [566]), (564, .iconst 0, 1, []), (565, .ireturn, 1, [2]), (566, .iinc 23 1, 3, []), (569, .goto (-53), 3, [516]), (572, .iload 14, 2, []),
  (574, .aload_n 1, 1, []), (575, .bipush 10, 2, []), (577, .invokevirtual 239, 3, [99, 2, 2, 9, 469]), (580, .if_icmp .ne 103, 3, [683]), (583, .iload 15, 2, []), (585, .aload_n 1, 1, []), (586, .bipush 11, 2, []), (588, .invokevirtual 239, 3, [99, 2, 2, 9, 469]),
  (591, .if_icmp .ne 92, 3, [683]), (594, .iload 16, 2, []), (596, .aload_n 1, 1, []), (597, .bipush 12, 2, []), (599, .invokevirtual 239, 3, [99, 2, 2, 9, 469]), (602, .if_icmp .ne 81, 3, [683]), (605, .iload 17, 2, []), (607, .aload_n 1, 1, []),
  (608, .bipush 13, 2, []), (610, .invokevirtual 239, 3, [99, 2, 2, 9, 469]), (613, .if_icmp .ne 70, 3, [683]), (616, .iload 18, 2, []), (618, .iconst 1, 1, []), (619, .iload 4, 2, []), (621, .ishl, 1, []), (622, .iconst 1, 1, []),
  (623, .isub, 1, []), (624, .if_icmp .ne 59, 3, [683]), (627, .iload 21, 2, []), (629, .iload 15, 2, []), (631, .iload 16, 2, []), (633, .iadd, 1, []), (634, .if_icmp .ne 49, 3, [683]), (637, .iload 22, 2, []),
  (639, .iload 15, 2, []), (641, .if_icmp .ne 42, 3, [683]), (644, .aload_n 1, 1, []), (645, .iconst 0, 1, []), (646, .invokevirtual 239, 3, [99, 2, 2, 9, 469]), (649, .iload 21, 2, []), (651, .aload_n 1, 1, []), (652, .bipush 14, 2, []),
  (654, .invokevirtual 239, 3, [99, 2, 2, 9, 469]), (657, .iadd, 1, []), (658, .if_icmp .ne 25, 3, [683]), (661, .aload_n 1, 1, []), (662, .bipush 15, 2, []), (664, .invokevirtual 239, 3, [99, 2, 2, 9, 469]), (667, .iload 15, 2, []), (669, .if_icmp .gt 14, 3, [683]),
  (672, .aload_n 1, 1, []), (673, .bipush 16, 2, []), (675, .invokevirtual 239, 3, [99, 2, 2, 9, 469]), (678, .iload 4, 2, []), (680, .if_icmp .le 5, 3, [685]), (683, .iconst 0, 1, []), (684, .ireturn, 1, [2]), (685, .iload 11, 2, []),
  (687, .ifCond .ge 26, 3, [713]), (690, .iload 12, 2, []), (692, .iconst (-1), 1, []), (693, .if_icmp .ne 43, 3, [736]), (696, .iload 13, 2, []), (698, .iconst (-1), 1, []), (699, .if_icmp .ne 37, 3, [736]), (702, .aload_n 1, 1, []),
  (703, .invokevirtual 261, 3, [115, 1, 2, 9, 787]), (706, .iconst (-1), 1, []), (707, .if_icmp .eq 31, 3, [738]), (710, .goto 26, 3, [736]), (713, .aload_n 1, 1, []), (714, .iload 12, 2, []), (716, .iconst 0, 1, []), (717, .invokevirtual 250, 3, [103, 3, 2, 9, 601]),
  (720, .iconst 1, 1, []), (721, .if_icmp .ne 15, 3, [736]), (724, .iload 13, 2, []), (726, .ifCond .lt 10, 3, [736]), (729, .aload_n 1, 1, []), (730, .invokevirtual 261, 3, [115, 1, 2, 9, 787]), (733, .ifCond .ge 5, 3, [738]), (736, .iconst 0, 1, []),
  (737, .ireturn, 1, [2]), (738, .aload_n 1, 1, []), (739, .invokevirtual 264, 3, [114, 1, 2, 9, 783]), (742, .istore 23, 2, []), (744, .iload 4, 2, []), (746, .newarray .int, 2, [50]), (748, .astore 24, 2, []), (750, .iconst 0, 1, []),
  (751, .istore 25, 2, []), (753, .iload 25, 2, []), (755, .iload 4, 2, []), (757, .if_icmp .ge 53, 3, [810]), (760, .aload 24, 2, []), (762, .iload 25, 2, []), (764, .aload_n 1, 1, []), (765, .iload 25, 2, []),
  (767, .invokevirtual 267, 3, [113, 2, 2, 9, 778]), (770, .iastore, 1, []), (771, .aload 24, 2, []), (773, .iload 25, 2, []), (775, .iaload, 1, []), (776, .ifCond .ne 7, 3, [783]), (779, .iconst 1, 1, []), (780, .goto 4, 3, [784]),
  (783, .iconst 0, 1, []), (784, .aload_n 1, 1, []), (785, .iload 25, 2, []), (787, .iconst 0, 1, []), (788, .invokevirtual 250, 3, [103, 3, 2, 9, 601]), (791, .ifCond .ne 7, 3, [798]), (794, .iconst 1, 1, []), (795, .goto 4, 3, [799]),
  (798, .iconst 0, 1, []), (799, .if_icmp .eq 5, 3, [804]), (802, .iconst 0, 1, []), (803, .ireturn, 1, [2]), (804, .iinc 25 1, 3, []), (807, .goto (-54), 3, [753]), (810, .aload_n 1, 1, []), (811, .iconst 1, 1, []),
  (812, .bipush 11, 2, []), (814, .invokevirtual 270, 3, [112, 3, 2, 9, 757]), (817, .istore 25, 2, []), (819, .aload_n 1, 1, []), (820, .invokevirtual 246, 3, [117, 1, 2, 9, 796]), (823, .lload 9, 2, []), (825, .lcmp, 1, []), (826, .ifCond .eq 5, 3, [831]),
  (829, .iconst 0, 1, []), (830, .ireturn, 1, [2]), (831, .iload 11, 2, []), (833, .ifCond .ge 7, 3, [840]), (836, .iconst 0, 1, []), (837, .goto 10, 3, [847]), (840, .aload_n 1, 1, []), (841, .iload 12, 2, []),
  (843, .iconst 0, 1, []), (844, .invokevirtual 253, 3, [105, 3, 2, 9, 619]), (847, .istore 26, 2, []), (849, .aload_n 1, 1, []), (850, .iconst 1, 1, []), (851, .invokevirtual 226, 3, [111, 2, 2, 9, 638]), (854, .istore 27, 2, []), (856, .aload_n 3, 1, []),
  (857, .iconst 1, 1, []), (858, .invokevirtual 229, 3, [145, 2, 2, 10, 818]), (861, .iload 27, 2, []), (863, .if_icmp .ne 44, 3, [907]), (866, .iload 27, 2, []), (868, .iload 11, 2, []), (870, .ifCond .ge 7, 3, [877]), (873, .iconst 0, 1, []),
  (874, .goto 4, 3, [878]), (877, .iconst 1, 1, []), (878, .if_icmp .ne 29, 3, [907]), (881, .aload_n 1, 1, []), (882, .bipush 11, 2, []), (884, .invokevirtual 239, 3, [99, 2, 2, 9, 469]), (887, .iload 25, 2, []), (889, .if_icmp .ne 18, 3, [907]),
  (892, .iload 11, 2, []), (894, .ifCond .ge 15, 3, [909]), (897, .aload_n 1, 1, []), (898, .invokevirtual 246, 3, [117, 1, 2, 9, 796]), (901, .lload 9, 2, []), (903, .lcmp, 1, []), (904, .ifCond .eq 5, 3, [909]), (907, .iconst 0, 1, []),
  (908, .ireturn, 1, [2]), (909, .iconst 0, 1, []), (910, .istore 28, 2, []), (912, .iload 28, 2, []), (914, .iload 4, 2, []), (916, .if_icmp .ge 201, 3, [1117]), (919, .iconst 0, 1, []), (920, .istore 29, 2, []),
  (922, .iconst 0, 1, []), (923, .istore 30, 2, []), (925, .iload 30, 2, []), (927, .iload 6, 2, []), (929, .if_icmp .ge 22, 3, [951]), (932, .iload 29, 2, []), (934, .aload_n 1, 1, []), (935, .iload 28, 2, []),
  (937, .iload 30, 2, []), (939, .invokevirtual 253, 3, [105, 3, 2, 9, 619]), (942, .iadd, 1, []), (943, .istore 29, 2, []), (945, .iinc 30 1, 3, []), (948, .goto (-23), 3, [925]), (951, .iload 28, 2, []), (953, .iload 12, 2, []),
  (955, .if_icmp .ne 18, 3, [973]), (958, .iload 13, 2, []), (960, .ifCond .lt 13, 3, [973]), (963, .aload_n 1, 1, []), (964, .iload 13, 2, []), (966, .iconst 0, 1, []), (967, .invokevirtual 258, 3, [101, 3, 2, 9, 575]), (970, .goto 4, 3, [974]),
  (973, .iconst 0, 1, []), (974, .istore 30, 2, []), (976, .iload 29, 2, []), (978, .aload 19, 2, []), (980, .iload 28, 2, []), (982, .iaload, 1, []), (983, .if_icmp .eq 18, 3, [1001]), (986, .iload 29, 2, []),
  (988, .aload 19, 2, []), (990, .iload 28, 2, []), (992, .iaload, 1, []), (993, .iload 30, 2, []), (995, .iadd, 1, []), (996, .if_icmp .eq 5, 3, [1001]), (999, .iconst 0, 1, []), (1000, .ireturn, 1, [2]),
  (1001, .iload 27, 2, []), (1003, .iconst 1, 1, []), (1004, .if_icmp .ne 29, 3, [1033]), (1007, .aload 24, 2, []), (1009, .iload 28, 2, []), (1011, .iaload, 1, []), (1012, .ifCond .le 21, 3, [1033]), (1015, .aload_n 1, 1, []),
  (1016, .iload 28, 2, []), (1018, .invokevirtual 267, 3, [113, 2, 2, 9, 778]), (1021, .aload 24, 2, []), (1023, .iload 28, 2, []), (1025, .iaload, 1, []), (1026, .iconst 1, 1, []), (1027, .isub, 1, []), (1028, .if_icmp .eq 5, 3, [1033]),
  (1031, .iconst 0, 1, []), (1032, .ireturn, 1, [2]), (1033, .iload 27, 2, []), (1035, .iconst 1, 1, []), (1036, .if_icmp .ne 24, 3, [1060]), (1039, .aload 24, 2, []), (1041, .iload 28, 2, []), (1043, .iaload, 1, []),
  (1044, .iconst 1, 1, []), (1045, .if_icmp .ne 15, 3, [1060]), (1048, .aload_n 1, 1, []), (1049, .iload 28, 2, []), (1051, .iconst 0, 1, []), (1052, .invokevirtual 250, 3, [103, 3, 2, 9, 601]), (1055, .ifCond .eq 5, 3, [1060]), (1058, .iconst 0, 1, []),
  (1059, .ireturn, 1, [2]), (1060, .iconst 0, 1, []), (1061, .istore 31, 2, []), (1063, .iload 31, 2, []), (1065, .iload 5, 2, []), (1067, .if_icmp .ge 44, 3, [1111]), (1070, .aload_n 1, 1, []), (1071, .iload 28, 2, []),
  (1073, .iload 31, 2, []), (1075, .invokevirtual 255, 3, [106, 3, 2, 9, 624]), (1078, .aload 20, 2, []), (1080, .iload 28, 2, []), (1082, .aaload, 1, []), (1083, .iload 31, 2, []), (1085, .iaload, 1, []), (1086, .if_icmp .ge 19, 3, [1105]),
  (1089, .iload 28, 2, []), (1091, .iload 12, 2, []), (1093, .if_icmp .ne 10, 3, [1103]), (1096, .iload 31, 2, []), (1098, .iload 13, 2, []), (1100, .if_icmp .eq 5, 3, [1105]), (1103, .iconst 0, 1, []), (1104, .ireturn, 1, [2]),
  (1105, .iinc 31 1, 3, []), (1108, .goto (-45), 3, [1063]), (1111, .iinc 28 1, 3, []), (1114, .goto (-202), 3, [912]), (1117, .iload 12, 2, []), (1119, .ifCond .lt 17, 3, [1136]), (1122, .aload_n 1, 1, []), (1123, .iload 12, 2, []),
  (1125, .iconst 0, 1, []), (1126, .invokevirtual 253, 3, [105, 3, 2, 9, 619]), (1129, .iload 26, 2, []), (1131, .if_icmp .ge 5, 3, [1136]), (1134, .iconst 0, 1, []), (1135, .ireturn, 1, [2]), (1136, .aload_n 1, 1, []), (1137, .invokevirtual 264, 3, [114, 1, 2, 9, 783]),
  (1140, .iload 23, 2, []), (1142, .if_icmp .eq 5, 3, [1147]), (1145, .iconst 0, 1, []), (1146, .ireturn, 1, [2]), (1147, .iload 27, 2, []), (1149, .iconst 1, 1, []), (1150, .if_icmp .ne 54, 3, [1204]), (1153, .aload_n 1, 1, []),
  (1154, .bipush 7, 2, []), (1156, .invokevirtual 239, 3, [99, 2, 2, 9, 469]), (1159, .iload 11, 2, []), (1161, .if_icmp .le 43, 3, [1204]), (1164, .aload_n 1, 1, []), (1165, .bipush 10, 2, []), (1167, .invokevirtual 239, 3, [99, 2, 2, 9, 469]), (1170, .iconst 2, 1, []),
  (1171, .if_icmp .ge 5, 3, [1176]), (1174, .iconst 0, 1, []), (1175, .ireturn, 1, [2]), (1176, .iconst 0, 1, []), (1177, .istore 28, 2, []), (1179, .iload 28, 2, []), (1181, .iload 4, 2, []), (1183, .if_icmp .ge 21, 3, [1204]),
  (1186, .aload_n 1, 1, []), (1187, .iload 28, 2, []), (1189, .iconst 2, 1, []), (1190, .invokevirtual 250, 3, [103, 3, 2, 9, 601]), (1193, .ifCond .eq 5, 3, [1198]), (1196, .iconst 0, 1, []), (1197, .ireturn, 1, [2]), (1198, .iinc 28 1, 3, []),
  (1201, .goto (-22), 3, [1179]), (1204, .iinc 7 1, 3, []), (1207, .goto (-1148), 3, [59]), (1210, .aload_n 3, 1, []), (1211, .aload_n 1, 1, []), (1212, .invokevirtual 273, 3, [147, 2, 2, 10, 892]), (1215, .ireturn, 1, [2])
  ]
def tb_169 : List MRow := [
  (0, .aload_n 0, 1, []), (1, .invokespecial 3, 3, [1002, 1556]), (4, .getstatic 18, 3, [0, 1442]), (7, .ifCond .eq 18, 3, [25]), (10, .aload_n 0, 1, []), (11, .iload_n 1, 1, []), (12, .newarray .byte, 2, [51]), (14, .putfield 15, 3, [12, 0, 0, 1557]),
  (17, .aload_n 0, 1, []), (18, .iconst 0, 1, []), (19, .putfield 22, 3, [12, 1, 0, 1558]), (22, .goto 16, 3, [38]), (25, .aload_n 0, 1, []), (26, .iload_n 1, 1, []), (38, .return_, 1, [])
  ]
def tb_170 : List MRow := [
  (0, .aload_n 0, 1, []), (1, .getfield 79, 3, [12, 3, 0, 1560]), (4, .ireturn, 1, [0])
  ]
def tb_171 : List MRow := [
  (0, .aload_n 0, 1, []), (1, .getfield 15, 3, [12, 0, 0, 1557]), (4, .arraylength, 1, []), (5, .aload_n 0, 1, []), (6, .getfield 22, 3, [12, 1, 0, 1558]), (9, .ishr, 1, []), (10, .istore_n 2, 1, []), (11, .iload_n 1, 1, []),
  (12, .iload_n 2, 1, []), (13, .isub, 1, []), (14, .ifCond .le 24, 3, [38]), (17, .aload_n 0, 1, []), (18, .aload_n 0, 1, []), (19, .getfield 15, 3, [12, 0, 0, 1557]), (22, .aload_n 0, 1, []), (23, .iload_n 1, 1, []),
  (24, .invokevirtual 104, 3, [172, 2, 4, 12, 1412]), (27, .aload_n 0, 1, []), (28, .getfield 22, 3, [12, 1, 0, 1558]), (31, .ishl, 1, []), (32, .invokestatic 108, 3, [188, 2, 0, 0, 1425]), (35, .putfield 15, 3, [12, 0, 0, 1557]), (38, .return_, 1, [])
  ]
def tb_172 : List MRow := [
  (0, .aload_n 0, 1, []), (1, .getfield 15, 3, [12, 0, 0, 1557]), (4, .arraylength, 1, []), (5, .istore_n 2, 1, []), (6, .iload_n 1, 1, []), (7, .aload_n 0, 1, []), (8, .getfield 22, 3, [12, 1, 0, 1558]), (11, .ishl, 1, []),
  (12, .istore_n 3, 1, []), (13, .iload_n 3, 1, []), (14, .iload_n 2, 1, []), (15, .isub, 1, []), (16, .istore 4, 2, []), (18, .iload_n 2, 1, []), (19, .iload 4, 2, []), (21, .iload_n 2, 1, []),
  (22, .iconst 2, 1, []), (23, .aload_n 0, 1, []), (24, .getfield 22, 3, [12, 1, 0, 1558]), (27, .ishl, 1, []), (28, .iadd, 1, []), (29, .invokestatic 114, 3, [192, 3, 0, 0, 1416]), (32, .istore 5, 2, []), (34, .iload 5, 2, []),
  (36, .ldc 39, 2, [0, 2147483647, 1424]), (38, .if_icmp .ne 13, 3, [51]), (51, .iload 5, 2, []), (53, .aload_n 0, 1, []), (54, .getfield 22, 3, [12, 1, 0, 1558]), (57, .ishr, 1, []), (58, .ireturn, 1, [0])
  ]
def tb_173 : List MRow := [
  (0, .aload_n 1, 1, []), (1, .ifnonnull 8, 3, [9]), (4, .aload_n 0, 1, []), (9, .aload_n 1, 1, []), (10, .invokevirtual 32, 3, [149, 1, 2, 11, 1449]), (13, .istore_n 2, 1, []), (14, .aload_n 0, 1, []), (15, .aload_n 0, 1, []),
  (16, .getfield 79, 3, [12, 3, 0, 1560]), (19, .iload_n 2, 1, []), (20, .iadd, 1, []), (21, .invokevirtual 100, 3, [171, 2, 4, 12, 1408]), (24, .aload_n 0, 1, []), (25, .aload_n 0, 1, []), (26, .getfield 79, 3, [12, 3, 0, 1560]), (29, .aload_n 1, 1, []),
  (30, .invokevirtual 208, 3, [178, 3, 4, 12, 1450]), (33, .aload_n 0, 1, []), (34, .dup, 1, []), (35, .getfield 79, 3, [12, 3, 0, 1560]), (38, .iload_n 2, 1, []), (39, .iadd, 1, []), (40, .putfield 79, 3, [12, 3, 0, 1560]), (43, .aload_n 0, 1, []),
  (44, .areturn, 1, [])
  ]
def tb_174 : List MRow := [
  (0, .aload_n 0, 1, []), (1, .getfield 79, 3, [12, 3, 0, 1560]), (4, .istore_n 2, 1, []), (5, .iload_n 2, 1, []), (6, .iload_n 1, 1, []), (7, .invokestatic 245, 3, [180, 1, 0, 0, 1498]), (10, .iadd, 1, []), (11, .istore_n 3, 1, []),
  (12, .aload_n 0, 1, []), (13, .iload_n 3, 1, []), (14, .invokevirtual 100, 3, [171, 2, 4, 12, 1408]), (17, .aload_n 0, 1, []), (18, .invokevirtual 83, 3, [176, 1, 4, 12, 1437]), (21, .ifCond .eq 16, 3, [37]), (24, .iload_n 1, 1, []), (25, .iload_n 3, 1, []),
  (26, .aload_n 0, 1, []), (27, .getfield 15, 3, [12, 0, 0, 1557]), (30, .invokestatic 248, 3, [179, 3, 0, 0, 1501]), (33, .pop, 1, []), (34, .goto 14, 3, [48]), (37, .iload_n 1, 1, []), (38, .iload_n 2, 1, []), (39, .iload_n 3, 1, []),
  (40, .aload_n 0, 1, []), (41, .getfield 15, 3, [12, 0, 0, 1557]), (48, .aload_n 0, 1, []), (49, .iload_n 3, 1, []), (50, .putfield 79, 3, [12, 3, 0, 1560]), (53, .aload_n 0, 1, []), (54, .areturn, 1, [])
  ]
def tb_175 : List MRow := [
  (0, .aload_n 0, 1, []), (1, .getfield 15, 3, [12, 0, 0, 1557]), (4, .areturn, 1, [])
  ]
def tb_176 : List MRow := [
  (0, .getstatic 18, 3, [0, 1442]), (3, .ifCond .eq 14, 3, [17]), (6, .aload_n 0, 1, []), (7, .getfield 22, 3, [12, 1, 0, 1558]), (10, .ifCond .ne 7, 3, [17]), (13, .iconst 1, 1, []), (14, .goto 4, 3, [18]), (17, .iconst 0, 1, []),
  (18, .ireturn, 1, [2])
  ]
def tb_177 : List MRow := [
  (0, .getstatic 18, 3, [0, 1442]), (3, .ifCond .eq 18, 3, [21]), (6, .aload_n 0, 1, []), (7, .getfield 22, 3, [12, 1, 0, 1558]), (10, .aload_n 1, 1, []), (11, .invokevirtual 40, 3, [155, 1, 2, 11, 1458]), (14, .if_icmp .eq 7, 3, [21]), (17, .aload_n 0, 1, []),
  (21, .return_, 1, [])
  ]
def tb_178 : List MRow := [
  (0, .aload_n 0, 1, []), (1, .aload_n 2, 1, []), (2, .invokevirtual 397, 3, [177, 2, 4, 12, 1454]), (5, .aload_n 2, 1, []), (6, .aload_n 0, 1, []), (7, .getfield 15, 3, [12, 0, 0, 1557]), (10, .iload_n 1, 1, []), (11, .aload_n 0, 1, []),
  (12, .getfield 22, 3, [12, 1, 0, 1558]), (15, .invokevirtual 399, 3, [153, 4, 2, 11, 1485]), (18, .return_, 1, [])
  ]
def tb_179 : List MRow := [
  (0, .iload_n 1, 1, []), (1, .istore 5, 2, []), (3, .iload_n 0, 1, []), (4, .ifCond .ge 7, 3, [11]), (7, .iconst 1, 1, []), (8, .goto 4, 3, [12]), (11, .iconst 0, 1, []), (12, .istore 6, 2, []),
  (14, .iload 6, 2, []), (16, .ifCond .ne 6, 3, [22]), (19, .iload_n 0, 1, []), (20, .ineg, 1, []), (21, .istore_n 0, 1, []), (22, .iload_n 0, 1, []), (23, .bipush (-100), 2, []), (25, .if_icmp .gt 47, 3, [72]),
  (28, .iload_n 0, 1, []), (29, .bipush 100, 2, []), (31, .idiv, 1, []), (32, .istore_n 3, 1, []), (33, .iload_n 3, 1, []), (34, .bipush 100, 2, []), (36, .imul, 1, []), (37, .iload_n 0, 1, []),
  (38, .isub, 1, []), (39, .istore 4, 2, []), (41, .iload_n 3, 1, []), (42, .istore_n 0, 1, []), (43, .aload_n 2, 1, []), (44, .iinc 5 (-1), 3, []), (47, .iload 5, 2, []), (49, .getstatic 83, 3, [2, 1504]),
  (52, .iload 4, 2, []), (54, .baload, 1, []), (55, .bastore, 1, []), (56, .aload_n 2, 1, []), (57, .iinc 5 (-1), 3, []), (60, .iload 5, 2, []), (62, .getstatic 87, 3, [3, 1506]), (65, .iload 4, 2, []),
  (67, .baload, 1, []), (68, .bastore, 1, []), (69, .goto (-47), 3, [22]), (72, .aload_n 2, 1, []), (73, .iinc 5 (-1), 3, []), (76, .iload 5, 2, []), (78, .getstatic 83, 3, [2, 1504]), (81, .iload_n 0, 1, []),
  (82, .ineg, 1, []), (83, .baload, 1, []), (84, .bastore, 1, []), (85, .iload_n 0, 1, []), (86, .bipush (-9), 2, []), (88, .if_icmp .ge 16, 3, [104]), (91, .aload_n 2, 1, []), (92, .iinc 5 (-1), 3, []),
  (95, .iload 5, 2, []), (97, .getstatic 87, 3, [3, 1506]), (100, .iload_n 0, 1, []), (101, .ineg, 1, []), (102, .baload, 1, []), (103, .bastore, 1, []), (104, .iload 6, 2, []), (106, .ifCond .eq 12, 3, [118]),
  (109, .aload_n 2, 1, []), (110, .iinc 5 (-1), 3, []), (113, .iload 5, 2, []), (115, .bipush 45, 2, []), (117, .bastore, 1, []), (118, .iload 5, 2, []), (120, .ireturn, 1, [0])
  ]
def tb_180 : List MRow := [
  (0, .iconst 1, 1, []), (1, .istore_n 1, 1, []), (2, .iload_n 0, 1, []), (3, .ifCond .lt 8, 3, [11]), (6, .iconst 0, 1, []), (7, .istore_n 1, 1, []), (8, .iload_n 0, 1, []), (9, .ineg, 1, []),
  (10, .istore_n 0, 1, []), (11, .bipush (-10), 2, []), (13, .istore_n 2, 1, []), (14, .iconst 1, 1, []), (15, .istore_n 3, 1, []), (16, .iload_n 3, 1, []), (17, .bipush 10, 2, []), (19, .if_icmp .ge 23, 3, [42]),
  (22, .iload_n 0, 1, []), (23, .iload_n 2, 1, []), (24, .if_icmp .le 7, 3, [31]), (27, .iload_n 3, 1, []), (28, .iload_n 1, 1, []), (29, .iadd, 1, []), (30, .ireturn, 1, [0]), (31, .bipush 10, 2, []),
  (33, .iload_n 2, 1, []), (34, .imul, 1, []), (35, .istore_n 2, 1, []), (36, .iinc 3 1, 3, []), (39, .goto (-23), 3, [16]), (42, .bipush 10, 2, []), (44, .iload_n 1, 1, []), (45, .iadd, 1, []),
  (46, .ireturn, 1, [0])
  ]
def tb_181 : List MRow := [
  (0, .iload_n 0, 1, []), (1, .iload_n 1, 1, []), (2, .if_icmp .lt 7, 3, [9]), (5, .iload_n 0, 1, []), (6, .goto 4, 3, [10]), (9, .iload_n 1, 1, []), (10, .ireturn, 1, [0])
  ]
def tb_182 : List MRow := [
  (0, .iload_n 0, 1, []), (1, .iload_n 1, 1, []), (2, .if_icmp .gt 7, 3, [9]), (5, .iload_n 0, 1, []), (6, .goto 4, 3, [10]), (9, .iload_n 1, 1, []), (10, .ireturn, 1, [0])
  ]
def tb_183 : List MRow := [
  (0, .iload_n 1, 1, []), (1, .aload_n 0, 1, []), (2, .arraylength, 1, []), (3, .invokestatic 9, 3, [157, 2, 0, 0, 958]), (6, .aload_n 0, 1, []), (7, .iload_n 1, 1, []), (8, .baload, 1, []), (9, .sipush 255, 3, []),
  (12, .iand, 1, []), (13, .i2c, 1, []), (14, .ireturn, 1, [4])
  ]
def tb_184 : List MRow := [
  (0, .iload_n 0, 1, []), (1, .ifCond .lt 14, 3, [15]), (4, .iload_n 0, 1, []), (5, .sipush 255, 3, []), (8, .if_icmp .gt 7, 3, [15]), (11, .iconst 1, 1, []), (12, .goto 4, 3, [16]), (15, .iconst 0, 1, []),
  (16, .ireturn, 1, [2])
  ]
def tb_185 : List MRow := [
  (0, .iload_n 1, 1, []), (1, .invokestatic 88, 3, [184, 1, 0, 0, 1118]), (4, .ifCond .ne 5, 3, [9]), (7, .iconst (-1), 1, []), (8, .ireturn, 1, [0]), (9, .iload_n 2, 1, []), (10, .iconst 0, 1, []), (11, .invokestatic 92, 3, [181, 2, 0, 0, 1121]),
  (14, .istore_n 2, 1, []), (15, .iload_n 3, 1, []), (16, .aload_n 0, 1, []), (17, .arraylength, 1, []), (18, .invokestatic 38, 3, [182, 2, 0, 0, 1122]), (21, .istore_n 3, 1, []), (22, .iload_n 2, 1, []), (23, .iload_n 3, 1, []),
  (24, .if_icmp .lt 5, 3, [29]), (27, .iconst (-1), 1, []), (28, .ireturn, 1, [0]), (29, .aload_n 0, 1, []), (30, .iload_n 1, 1, []), (31, .iload_n 2, 1, []), (32, .iload_n 3, 1, []), (33, .invokestatic 95, 3, [186, 4, 0, 0, 1123]),
  (36, .ireturn, 1, [0])
  ]
def tb_186 : List MRow := [
  (0, .iload_n 1, 1, []), (1, .i2b, 1, []), (2, .istore 4, 2, []), (4, .iload_n 2, 1, []), (5, .istore 5, 2, []), (7, .iload 5, 2, []), (9, .iload_n 3, 1, []), (10, .if_icmp .ge 21, 3, [31]),
  (13, .aload_n 0, 1, []), (14, .iload 5, 2, []), (16, .baload, 1, []), (17, .iload 4, 2, []), (19, .if_icmp .ne 6, 3, [25]), (22, .iload 5, 2, []), (24, .ireturn, 1, [0]), (25, .iinc 5 1, 3, []),
  (28, .goto (-21), 3, [7]), (31, .iconst (-1), 1, []), (32, .ireturn, 1, [0])
  ]
def tb_187 : List MRow := [
  (0, .iconst 0, 1, []), (1, .istore_n 2, 1, []), (2, .aload_n 0, 1, []), (3, .arraylength, 1, []), (4, .istore_n 3, 1, []), (5, .iload_n 2, 1, []), (6, .iload_n 3, 1, []), (7, .if_icmp .ge 13, 3, [20]),
  (10, .aload_n 0, 1, []), (11, .iload_n 2, 1, []), (12, .iload_n 1, 1, []), (13, .iastore, 1, []), (14, .iinc 2 1, 3, []), (17, .goto (-12), 3, [5]), (20, .return_, 1, [])
  ]
def tb_188 : List MRow := [
  (0, .iload_n 1, 1, []), (1, .aload_n 0, 1, []), (2, .arraylength, 1, []), (3, .if_icmp .ne 11, 3, [14]), (6, .aload_n 0, 1, []), (7, .invokevirtual 310, 3, [1001, 1428]), (10, .checkcast 311, 3, [1434]), (13, .areturn, 1, []),
  (14, .iload_n 1, 1, []), (15, .newarray .byte, 2, [51]), (17, .astore_n 2, 1, []), (18, .aload_n 0, 1, []), (19, .iconst 0, 1, []), (20, .aload_n 2, 1, []), (21, .iconst 0, 1, []), (22, .aload_n 0, 1, []),
  (23, .arraylength, 1, []), (24, .iload_n 1, 1, []), (25, .invokestatic 304, 3, [182, 2, 0, 0, 1435]), (28, .invokestatic 150, 3, [1000, 1436]), (31, .aload_n 2, 1, []), (32, .areturn, 1, [])
  ]
def tb_189 : List MRow := [
  (0, .iload_n 1, 1, []), (1, .iload_n 0, 1, []), (2, .if_icmp .ge 35, 3, [37]), (37, .return_, 1, [])
  ]
def tb_190 : List MRow := [
  (0, .iload_n 1, 1, []), (1, .ifCond .ne 9, 3, [10]), (4, .iload_n 2, 1, []), (5, .aload_n 0, 1, []), (6, .arraylength, 1, []), (7, .if_icmp .eq 10, 3, [17]), (10, .aload_n 0, 1, []), (11, .iload_n 1, 1, []),
  (12, .iload_n 2, 1, []), (13, .invokestatic 339, 3, [191, 3, 0, 0, 1599]), (16, .areturn, 1, []), (17, .aload_n 0, 1, []), (18, .invokevirtual 310, 3, [1001, 1428]), (21, .checkcast 311, 3, [1434]), (24, .areturn, 1, [])
  ]
def tb_191 : List MRow := [
  (0, .iload_n 1, 1, []), (1, .iload_n 2, 1, []), (2, .invokestatic 343, 3, [189, 2, 0, 0, 1602]), (5, .iload_n 2, 1, []), (6, .iload_n 1, 1, []), (7, .isub, 1, []), (8, .istore_n 3, 1, []), (9, .iload_n 3, 1, []),
  (10, .newarray .byte, 2, [51]), (12, .astore 4, 2, []), (14, .aload_n 0, 1, []), (15, .iload_n 1, 1, []), (16, .aload 4, 2, []), (18, .iconst 0, 1, []), (19, .aload_n 0, 1, []), (20, .arraylength, 1, []),
  (21, .iload_n 1, 1, []), (22, .isub, 1, []), (23, .iload_n 3, 1, []), (24, .invokestatic 304, 3, [182, 2, 0, 0, 1435]), (27, .invokestatic 150, 3, [1000, 1436]), (30, .aload 4, 2, []), (32, .areturn, 1, [])
  ]
def tb_192 : List MRow := [
  (0, .iload_n 0, 1, []), (1, .iload_n 1, 1, []), (2, .iload_n 2, 1, []), (3, .invokestatic 194, 3, [181, 2, 0, 0, 1419]), (6, .iadd, 1, []), (7, .istore_n 3, 1, []), (8, .iconst 0, 1, []), (9, .iload_n 3, 1, []),
  (10, .if_icmp .ge 11, 3, [21]), (13, .iload_n 3, 1, []), (14, .ldc 200, 2, [0, 2147483639, 1420]), (16, .if_icmp .gt 5, 3, [21]), (19, .iload_n 3, 1, []), (20, .ireturn, 1, [0]), (21, .iload_n 0, 1, []), (22, .iload_n 1, 1, [])
  ]
def tb_193 : List MRow := [
  (0, .iload_n 0, 1, []), (1, .ifCond .lt 8, 3, [9]), (4, .iload_n 0, 1, []), (5, .iload_n 1, 1, []), (6, .if_icmp .lt 10, 3, [16]), (9, .aload_n 2, 1, []), (10, .iload_n 0, 1, []), (11, .iload_n 1, 1, []),
  (16, .iload_n 0, 1, []), (17, .ireturn, 1, [0])
  ]
def mtbs : List (List MRow) := [tb_0, tb_1, tb_2, tb_3, tb_4, tb_5, tb_6, tb_7, tb_8, tb_9, tb_10, tb_11, tb_12, tb_13, tb_14, tb_15, tb_16, tb_17, tb_18, tb_19, tb_20, tb_21, tb_22, tb_23, tb_24, tb_25, tb_26, tb_27, tb_28, tb_29, tb_30, tb_31, tb_32, tb_33, tb_34, tb_35, tb_36, tb_37, tb_38, tb_39, tb_40, tb_41, tb_42, tb_43, tb_44, tb_45, tb_46, tb_47, tb_48, tb_49, tb_50, tb_51, tb_52, tb_53, tb_54, tb_55, tb_56, tb_57, tb_58, tb_59, tb_60, tb_61, tb_62, tb_63, tb_64, tb_65, tb_66, tb_67, tb_68, tb_69, tb_70, tb_71, tb_72, tb_73, tb_74, tb_75, tb_76, tb_77, tb_78, tb_79, tb_80, tb_81, tb_82, tb_83, tb_84, tb_85, tb_86, tb_87, tb_88, tb_89, tb_90, tb_91, tb_92, tb_93, tb_94, tb_95, tb_96, tb_97, tb_98, tb_99, tb_100, tb_101, tb_102, tb_103, tb_104, tb_105, tb_106, tb_107, tb_108, tb_109, tb_110, tb_111, tb_112, tb_113, tb_114, tb_115, tb_116, tb_117, tb_118, tb_119, tb_120, tb_121, tb_122, tb_123, tb_124, tb_125, tb_126, tb_127, tb_128, tb_129, tb_130, tb_131, tb_132, tb_133, tb_134, tb_135, tb_136, tb_137, tb_138, tb_139, tb_140, tb_141, tb_142, tb_143, tb_144, tb_145, tb_146, tb_147, tb_148, tb_149, tb_150, tb_151, tb_152, tb_153, tb_154, tb_155, tb_156, tb_157, tb_158, tb_159, tb_160, tb_161, tb_162, tb_163, tb_164, tb_165, tb_166, tb_167, tb_168, tb_169, tb_170, tb_171, tb_172, tb_173, tb_174, tb_175, tb_176, tb_177, tb_178, tb_179, tb_180, tb_181, tb_182, tb_183, tb_184, tb_185, tb_186, tb_187, tb_188, tb_189, tb_190, tb_191, tb_192, tb_193]
def mInf : List (MethodName × ByteArray × Nat × Option FieldType) := [
  (yX0_init, cX0_init, 3, none),
  (yX0_spellerAt, cX0_spellerAt, 3, some (Jvm.ClassFile.FieldType.object "BeeTurnpike$Speller")),
  (yX0_begin, cX0_begin, 2, none),
  (yX0_copyFrom, cX0_copyFrom, 3, none),
  (yX0_isOver, cX0_isOver, 1, some (Jvm.ClassFile.FieldType.boolean)),
  (yX0_wordOnTurn, cX0_wordOnTurn, 1, some (Jvm.ClassFile.FieldType.int)),
  (yX0_left, cX0_left, 3, some (Jvm.ClassFile.FieldType.int)),
  (yX0_nextIn, cX0_nextIn, 3, some (Jvm.ClassFile.FieldType.int)),
  (yX0_tally, cX0_tally, 2, some (Jvm.ClassFile.FieldType.int)),
  (yX0_rank, cX0_rank, 4, some (Jvm.ClassFile.FieldType.int)),
  (yX0_isAhead, cX0_isAhead, 5, some (Jvm.ClassFile.FieldType.boolean)),
  (yX0_strength, cX0_strength, 10, some (Jvm.ClassFile.FieldType.int)),
  (yX0_can, cX0_can, 3, some (Jvm.ClassFile.FieldType.boolean)),
  (yX0_doByHand, cX0_doByHand, 2, none),
  (yX0_takeHint, cX0_takeHint, 2, none),
  (yX0_usePass, cX0_usePass, 1, none),
  (yX0_add, cX0_add, 2, none),
  (yX0_play, cX0_play, 3, some (Jvm.ClassFile.FieldType.int)),
  (yX0_passesOn, cX0_passesOn, 2, some (Jvm.ClassFile.FieldType.boolean)),
  (yX0_isOrder, cX0_isOrder, 3, some (Jvm.ClassFile.FieldType.boolean)),
  (yX0_spellWord, cX0_spellWord, 6, none),
  (yX0_hear, cX0_hear, 5, none),
  (yX0_wantsAppeal, cX0_wantsAppeal, 2, some (Jvm.ClassFile.FieldType.boolean)),
  (yX0_decideAppeal, cX0_decideAppeal, 3, none),
  (yX0_writeDown, cX0_writeDown, 4, none),
  (yX0_endTurn, cX0_endTurn, 1, none),
  (yX0_endLap, cX0_endLap, 3, none),
  (yX0_endRound, cX0_endRound, 2, some (Jvm.ClassFile.FieldType.boolean)),
  (yX0_takeToll, cX0_takeToll, 5, none),
  (yX1_init, cX1_init, 1, none),
  (yX1_add, cX1_add, 3, none),
  (yX1_settle, cX1_settle, 3, none),
  (yX1_copyFrom, cX1_copyFrom, 2, none),
  (yX2_init, cX2_init, 3, none),
  (yX2_read, cX2_read, 2, some (Jvm.ClassFile.FieldType.int)),
  (yX2_take, cX2_take, 3, some (Jvm.ClassFile.FieldType.boolean)),
  (yX2_readLine, cX2_readLine, 2, some (Jvm.ClassFile.FieldType.boolean)),
  (yX2_takeNames, cX2_takeNames, 4, some (Jvm.ClassFile.FieldType.boolean)),
  (yX2_takeKnowledge, cX2_takeKnowledge, 2, some (Jvm.ClassFile.FieldType.boolean)),
  (yX2_endTest, cX2_endTest, 1, some (Jvm.ClassFile.FieldType.boolean)),
  (yX2_readTest, cX2_readTest, 3, some (Jvm.ClassFile.FieldType.boolean)),
  (yX2_readBoth, cX2_readBoth, 3, some (Jvm.ClassFile.FieldType.boolean)),
  (yX2_readSingle, cX2_readSingle, 3, some (Jvm.ClassFile.FieldType.boolean)),
  (yX2_readComparison, cX2_readComparison, 4, some (Jvm.ClassFile.FieldType.boolean)),
  (yX2_readSum, cX2_readSum, 4, some (Jvm.ClassFile.FieldType.boolean)),
  (yX2_readProduct, cX2_readProduct, 4, some (Jvm.ClassFile.FieldType.boolean)),
  (yX2_readValue, cX2_readValue, 3, some (Jvm.ClassFile.FieldType.boolean)),
  (yX3_init, cX3_init, 1, none),
  (yX3_holds, cX3_holds, 9, some (Jvm.ClassFile.FieldType.boolean)),
  (yX3_push, cX3_push, 2, none),
  (yX3_pop, cX3_pop, 1, some (Jvm.ClassFile.FieldType.int)),
  (yX3_join, cX3_join, 3, some (Jvm.ClassFile.FieldType.int)),
  (yX4_init, cX4_init, 1, none),
  (yX4_begin, cX4_begin, 4, none),
  (yX4_copyFrom, cX4_copyFrom, 2, none),
  (yX5_init, cX5_init, 1, none),
  (yX5_append, cX5_append, 3, none),
  (yX5_byteAt, cX5_byteAt, 2, some (Jvm.ClassFile.FieldType.int)),
  (yX5_isLetter, cX5_isLetter, 3, some (Jvm.ClassFile.FieldType.boolean)),
  (yX5_isDigit, cX5_isDigit, 3, some (Jvm.ClassFile.FieldType.boolean)),
  (yX5_isBlank, cX5_isBlank, 3, some (Jvm.ClassFile.FieldType.boolean)),
  (yX6_init, cX6_init, 3, none),
  (yX6_read, cX6_read, 3, some (Jvm.ClassFile.FieldType.int)),
  (yX6_look, cX6_look, 3, some (Jvm.ClassFile.FieldType.int)),
  (yX6_lookAtNumber, cX6_lookAtNumber, 3, some (Jvm.ClassFile.FieldType.int)),
  (yX6_last, cX6_last, 2, some (Jvm.ClassFile.FieldType.int)),
  (yX6_find, cX6_find, 4, some (Jvm.ClassFile.FieldType.int)),
  (yX6_addNew, cX6_addNew, 5, some (Jvm.ClassFile.FieldType.int)),
  (yX6_addOrder, cX6_addOrder, 3, some (Jvm.ClassFile.FieldType.int)),
  (yX6_name, cX6_name, 6, some (Jvm.ClassFile.FieldType.int)),
  (yX6_addName, cX6_addName, 9, some (Jvm.ClassFile.FieldType.int)),
  (yX6_number, cX6_number, 7, some (Jvm.ClassFile.FieldType.int)),
  (yX7_init, cX7_init, 2, none),
  (yX7_split, cX7_split, 5, none),
  (yX7_behindBlanks, cX7_behindBlanks, 4, some (Jvm.ClassFile.FieldType.int)),
  (yX7_lengthAt, cX7_lengthAt, 5, some (Jvm.ClassFile.FieldType.int)),
  (yX7_goesOn, cX7_goesOn, 3, some (Jvm.ClassFile.FieldType.boolean)),
  (yX7_isWideSymbol, cX7_isWideSymbol, 3, some (Jvm.ClassFile.FieldType.boolean)),
  (yX7_kindAt, cX7_kindAt, 4, some (Jvm.ClassFile.FieldType.int)),
  (yX7_wordKindAt, cX7_wordKindAt, 4, some (Jvm.ClassFile.FieldType.int)),
  (yX7_isTextAt, cX7_isTextAt, 5, some (Jvm.ClassFile.FieldType.boolean)),
  (yX7_keywordText, cX7_keywordText, 1, some (Jvm.ClassFile.FieldType.object "java/lang/String")),
  (yX7_numberAt, cX7_numberAt, 5, some (Jvm.ClassFile.FieldType.int)),
  (yX7_sameText, cX7_sameText, 7, some (Jvm.ClassFile.FieldType.boolean)),
  (yX8_init, cX8_init, 1, none),
  (yX8_countOf, cX8_countOf, 2, some (Jvm.ClassFile.FieldType.int)),
  (yX8_has, cX8_has, 3, some (Jvm.ClassFile.FieldType.boolean)),
  (yX8_hardOf, cX8_hardOf, 2, some (Jvm.ClassFile.FieldType.int)),
  (yX8_partAt, cX8_partAt, 3, some (Jvm.ClassFile.FieldType.int)),
  (yX8_lettersOf, cX8_lettersOf, 4, some (Jvm.ClassFile.FieldType.int)),
  (yX8_wordsWith, cX8_wordsWith, 4, some (Jvm.ClassFile.FieldType.int)),
  (yX8_comesIn, cX8_comesIn, 4, some (Jvm.ClassFile.FieldType.boolean)),
  (yX8_clear, cX8_clear, 1, none),
  (yX8_settle, cX8_settle, 5, none),
  (yX8_copyFrom, cX8_copyFrom, 2, none),
  (yX9_init, cX9_init, 1, none),
  (yX9_feed, cX9_feed, 6, some (Jvm.ClassFile.FieldType.int)),
  (yX9_trim, cX9_trim, 2, some (Jvm.ClassFile.FieldType.int)),
  (yX9_teach, cX9_teach, 3, some (Jvm.ClassFile.FieldType.int)),
  (yX9_count, cX9_count, 2, some (Jvm.ClassFile.FieldType.int)),
  (yX9_root, cX9_root, 3, some (Jvm.ClassFile.FieldType.int)),
  (yX9_word, cX9_word, 3, some (Jvm.ClassFile.FieldType.int)),
  (yX9_part, cX9_part, 3, some (Jvm.ClassFile.FieldType.int)),
  (yX9_speller, cX9_speller, 3, some (Jvm.ClassFile.FieldType.int)),
  (yX9_knows, cX9_knows, 3, some (Jvm.ClassFile.FieldType.int)),
  (yX9_heard, cX9_heard, 3, some (Jvm.ClassFile.FieldType.int)),
  (yX9_strong, cX9_strong, 3, some (Jvm.ClassFile.FieldType.int)),
  (yX9_hint, cX9_hint, 1, some (Jvm.ClassFile.FieldType.int)),
  (yX9_skip, cX9_skip, 1, some (Jvm.ClassFile.FieldType.int)),
  (yX9_learn, cX9_learn, 5, some (Jvm.ClassFile.FieldType.int)),
  (yX9_award, cX9_award, 4, some (Jvm.ClassFile.FieldType.int)),
  (yX9_go, cX9_go, 2, some (Jvm.ClassFile.FieldType.int)),
  (yX9_foresee, cX9_foresee, 3, some (Jvm.ClassFile.FieldType.int)),
  (yX9_until, cX9_until, 3, some (Jvm.ClassFile.FieldType.int)),
  (yX9_winner, cX9_winner, 2, some (Jvm.ClassFile.FieldType.int)),
  (yX9_advise, cX9_advise, 5, some (Jvm.ClassFile.FieldType.int)),
  (yX9_mean, cX9_mean, 4, some (Jvm.ClassFile.FieldType.double)),
  (yX9_digest, cX9_digest, 5, some (Jvm.ClassFile.FieldType.long)),
  (yX9_digestOfSpeller, cX9_digestOfSpeller, 7, some (Jvm.ClassFile.FieldType.long)),
  (yX9_countOf, cX9_countOf, 2, some (Jvm.ClassFile.FieldType.int)),
  (yX9_rootFact, cX9_rootFact, 3, some (Jvm.ClassFile.FieldType.int)),
  (yX9_wordFact, cX9_wordFact, 3, some (Jvm.ClassFile.FieldType.int)),
  (yX9_spellerFact, cX9_spellerFact, 4, some (Jvm.ClassFile.FieldType.int)),
  (yX9_get, cX9_get, 2, some (Jvm.ClassFile.FieldType.int)),
  (yX9_put, cX9_put, 3, none),
  (yX9_copy, cX9_copy, 2, none),
  (yX10_init, cX10_init, 1, none),
  (yX10_letters, cX10_letters, 7, some (Jvm.ClassFile.FieldType.int)),
  (yX10_hard, cX10_hard, 7, some (Jvm.ClassFile.FieldType.int)),
  (yX10_word, cX10_word, 1, some (Jvm.ClassFile.FieldType.int)),
  (yX10_strong, cX10_strong, 9, some (Jvm.ClassFile.FieldType.int)),
  (yX10_gap, cX10_gap, 2, some (Jvm.ClassFile.FieldType.int)),
  (yX10_left, cX10_left, 6, some (Jvm.ClassFile.FieldType.int)),
  (yX10_rank, cX10_rank, 5, some (Jvm.ClassFile.FieldType.int)),
  (yX10_holds, cX10_holds, 4, some (Jvm.ClassFile.FieldType.boolean)),
  (yX10_canHint, cX10_canHint, 1, some (Jvm.ClassFile.FieldType.boolean)),
  (yX10_hint, cX10_hint, 1, none),
  (yX10_canPass, cX10_canPass, 1, some (Jvm.ClassFile.FieldType.boolean)),
  (yX10_pass, cX10_pass, 1, none),
  (yX10_isPassed, cX10_isPassed, 5, some (Jvm.ClassFile.FieldType.boolean)),
  (yX10_appeal, cX10_appeal, 6, some (Jvm.ClassFile.FieldType.int)),
  (yX10_spell, cX10_spell, 9, none),
  (yX10_next, cX10_next, 2, none),
  (yX10_endLap, cX10_endLap, 7, none),
  (yX10_turn, cX10_turn, 1, none),
  (yX10_go, cX10_go, 3, some (Jvm.ClassFile.FieldType.int)),
  (yX10_counted, cX10_counted, 4, some (Jvm.ClassFile.FieldType.int)),
  (yX10_isSame, cX10_isSame, 13, some (Jvm.ClassFile.FieldType.boolean)),
  (yJ0_init_81219, cJ0_init_81219, 2, none),
  (yJ0_length_8abf5, cJ0_length_8abf5, 1, some (Jvm.ClassFile.FieldType.int)),
  (yJ0_charAt_5068e, cJ0_charAt_5068e, 2, some (Jvm.ClassFile.FieldType.char)),
  (yJ0_indexOf_0f7a4, cJ0_indexOf_0f7a4, 2, some (Jvm.ClassFile.FieldType.int)),
  (yJ0_indexOf_7cf53, cJ0_indexOf_7cf53, 3, some (Jvm.ClassFile.FieldType.int)),
  (yJ0_getBytes_840e7, cJ0_getBytes_840e7, 4, none),
  (yJ0_init_db425, cJ0_init_db425, 5, none),
  (yJ0_coder_7d493, cJ0_coder_7d493, 1, some (Jvm.ClassFile.FieldType.byte)),
  (yJ0_isLatin1_aae02, cJ0_isLatin1_aae02, 1, some (Jvm.ClassFile.FieldType.boolean)),
  (yJ0_checkIndex_df160, cJ0_checkIndex_df160, 2, none),
  (yJ4_init_da8c8, cJ4_init_da8c8, 1, none),
  (yJ4_append_15ec4, cJ4_append_15ec4, 2, some (Jvm.ClassFile.FieldType.object "java/lang/StringBuilder")),
  (yJ4_append_bf812, cJ4_append_bf812, 2, some (Jvm.ClassFile.FieldType.object "java/lang/StringBuilder")),
  (yJ4_toString_0e30d, cJ4_toString_0e30d, 1, some (Jvm.ClassFile.FieldType.object "java/lang/String")),
  (yL_below, cL_below, 2, some (Jvm.ClassFile.FieldType.int)),
  (yL_cell, cL_cell, 2, some (Jvm.ClassFile.FieldType.int)),
  (yL_taught, cL_taught, 6, some (Jvm.ClassFile.FieldType.int)),
  (yL_test, cL_test, 4, some (Jvm.ClassFile.FieldType.object "java/lang/String")),
  (yL_list, cL_list, 9, some (Jvm.ClassFile.FieldType.object "BeeTurnpikeLaw$Sim")),
  (yL_act, cL_act, 6, some (Jvm.ClassFile.FieldType.boolean)),
  (yL_law, cL_law, 32, some .boolean),
  (yJ5_init_d00df, cJ5_init_d00df, 2, none),
  (yJ5_length_8abf5, cJ5_length_8abf5, 1, some (Jvm.ClassFile.FieldType.int)),
  (yJ5_ensureCapacityInternal_d00df, cJ5_ensureCapacityInternal_d00df, 3, none),
  (yJ5_newCapacity_0f7a4, cJ5_newCapacity_0f7a4, 6, some (Jvm.ClassFile.FieldType.int)),
  (yJ5_append_cf1ce, cJ5_append_cf1ce, 3, some (Jvm.ClassFile.FieldType.object "java/lang/AbstractStringBuilder")),
  (yJ5_append_c97b9, cJ5_append_c97b9, 4, some (Jvm.ClassFile.FieldType.object "java/lang/AbstractStringBuilder")),
  (yJ5_getValue_6d5f1, cJ5_getValue_6d5f1, 1, some (Jvm.ClassFile.FieldType.array Jvm.ClassFile.FieldType.byte)),
  (yJ5_isLatin1_aae02, cJ5_isLatin1_aae02, 1, some (Jvm.ClassFile.FieldType.boolean)),
  (yJ5_inflateIfNeededFor_a7421, cJ5_inflateIfNeededFor_a7421, 2, none),
  (yJ5_putStringAt_47b60, cJ5_putStringAt_47b60, 3, none),
  (yJ6_getChars_ba4f3, cJ6_getChars_ba4f3, 7, some (Jvm.ClassFile.FieldType.int)),
  (yJ6_stringSize_0f7a4, cJ6_stringSize_0f7a4, 4, some (Jvm.ClassFile.FieldType.int)),
  (yJ9_max_7cf53, cJ9_max_7cf53, 2, some (Jvm.ClassFile.FieldType.int)),
  (yJ9_min_7cf53, cJ9_min_7cf53, 2, some (Jvm.ClassFile.FieldType.int)),
  (yJ1_charAt_3b067, cJ1_charAt_3b067, 2, some (Jvm.ClassFile.FieldType.char)),
  (yJ1_canEncode_9a6ad, cJ1_canEncode_9a6ad, 1, some (Jvm.ClassFile.FieldType.boolean)),
  (yJ1_indexOf_4cfef, cJ1_indexOf_4cfef, 4, some (Jvm.ClassFile.FieldType.int)),
  (yJ1_indexOfChar_4cfef, cJ1_indexOfChar_4cfef, 6, some (Jvm.ClassFile.FieldType.int)),
  (yJ7_fill_53178, cJ7_fill_53178, 4, none),
  (yJ7_copyOf_9075b, cJ7_copyOf_9075b, 3, some (Jvm.ClassFile.FieldType.array Jvm.ClassFile.FieldType.byte)),
  (yJ7_checkLength_df160, cJ7_checkLength_df160, 2, none),
  (yJ7_copyOfRange_39247, cJ7_copyOfRange_39247, 3, some (Jvm.ClassFile.FieldType.array Jvm.ClassFile.FieldType.byte)),
  (yJ7_copyOfRangeByte_39247, cJ7_copyOfRangeByte_39247, 5, some (Jvm.ClassFile.FieldType.array Jvm.ClassFile.FieldType.byte)),
  (yJ8_newLength_cabcc, cJ8_newLength_cabcc, 4, some (Jvm.ClassFile.FieldType.int)),
  (yJ3_checkIndex_8e157, cJ3_checkIndex_8e157, 3, some (Jvm.ClassFile.FieldType.int))
  ]
/-- where the method's own code stands among the words -/
def mCw : List Nat := [309, 574, 1304, 765, 548, 552, 569, 744, 565, 614, 618, 632, 673, 795, 705, 714, 709, 661, 665, 669, 718, 724, 728, 732, 736, 740, 748, 752, 756, 157, 1203, 1287, 1299, 267, 1169, 1178, 1174, 1183, 1187, 1225, 1191, 1195, 1199, 1209, 1213, 1217, 1221, 315, 677, 683, 694, 697, 329, 1309, 776, 99, 1008, 1034, 1042, 1046, 1030, 286, 1229, 1240, 1245, 1249, 1262, 1258, 1271, 1275, 1279, 1253, 114, 1022, 1026, 1038, 1055, 1050, 1059, 1063, 1102, 1066, 1165, 1266, 151, 560, 582, 600, 596, 592, 809, 813, 1233, 1283, 1294, 91, 988, 1013, 1018, 472, 904, 578, 910, 604, 922, 622, 627, 1655, 1663, 1671, 1677, 641, 760, 781, 786, 790, 929, 799, 817, 544, 805, 587, 609, 556, 686, 768, 1320, 850, 846, 842, 854, 838, 858, 917, 834, 863, 867, 871, 875, 830, 891, 887, 879, 883, 825, 821, 900, 895, 1577, 940, 950, 1109, 1113, 1488, 1580, 944, 954, 960, 1552, 1399, 1494, 1572, 1393, 932, 936, 1547, 1316, 1648, 0, 1555, 1594, 1411, 1415, 1403, 1497, 1586, 1441, 1457, 1453, 1503, 1500, 701, 636, 957, 1120, 1117, 1125, 1236, 1427, 1604, 1598, 1601, 1418, 965]
/-- nest mates' links -/
def nwl : List Cond := [
  (Jvm.Cond.methodLinkNest "BeeTurnpike$Bee" (11 : Nat) ({ cls := "BeeTurnpike$Reckoner", name := "<init>", desc := "()V" } : Jvm.MethodName) "BeeTurnpike"),
  (Jvm.Cond.methodLinkNest "BeeTurnpike$Bee" (24 : Nat) ({ cls := "BeeTurnpike$Speller", name := "<init>", desc := "()V" } : Jvm.MethodName) "BeeTurnpike"),
  (Jvm.Cond.methodLinkNest "BeeTurnpike$Bee" (93 : Nat) ({ cls := "BeeTurnpike", name := "copy", desc := "([I[I)V" } : Jvm.MethodName) "BeeTurnpike"),
  (Jvm.Cond.fieldLinkNest "BeeTurnpike$Bee" (105 : Nat) "BeeTurnpike$Told" "roundWords" "[I" "BeeTurnpike"),
  (Jvm.Cond.methodLinkNest "BeeTurnpike$Bee" (108 : Nat) ({ cls := "BeeTurnpike", name := "get", desc := "([II)I" } : Jvm.MethodName) "BeeTurnpike"),
  (Jvm.Cond.fieldLinkNest "BeeTurnpike$Bee" (112 : Nat) "BeeTurnpike$Speller" "in" "Z" "BeeTurnpike"),
  (Jvm.Cond.fieldLinkNest "BeeTurnpike$Bee" (119 : Nat) "BeeTurnpike$Speller" "points" "I" "BeeTurnpike"),
  (Jvm.Cond.fieldLinkNest "BeeTurnpike$Bee" (122 : Nat) "BeeTurnpike$Told" "wordSize" "[I" "BeeTurnpike"),
  (Jvm.Cond.fieldLinkNest "BeeTurnpike$Bee" (129 : Nat) "BeeTurnpike$Told" "rootTongue" "[I" "BeeTurnpike"),
  (Jvm.Cond.fieldLinkNest "BeeTurnpike$Bee" (132 : Nat) "BeeTurnpike$Speller" "hearings" "[I" "BeeTurnpike"),
  (Jvm.Cond.fieldLinkNest "BeeTurnpike$Bee" (140 : Nat) "BeeTurnpike$Speller" "knowledge" "[I" "BeeTurnpike"),
  (Jvm.Cond.fieldLinkNest "BeeTurnpike$Bee" (143 : Nat) "BeeTurnpike$Told" "ease" "[I" "BeeTurnpike"),
  (Jvm.Cond.fieldLinkNest "BeeTurnpike$Bee" (149 : Nat) "BeeTurnpike$Speller" "passes" "I" "BeeTurnpike"),
  (Jvm.Cond.fieldLinkNest "BeeTurnpike$Bee" (161 : Nat) "BeeTurnpike$Speller" "hints" "I" "BeeTurnpike"),
  (Jvm.Cond.methodLinkNest "BeeTurnpike$Bee" (168 : Nat) ({ cls := "BeeTurnpike", name := "put", desc := "([III)V" } : Jvm.MethodName) "BeeTurnpike"),
  (Jvm.Cond.fieldLinkNest "BeeTurnpike$Bee" (189 : Nat) "BeeTurnpike$Told" "orderSpeller" "[I" "BeeTurnpike"),
  (Jvm.Cond.fieldLinkNest "BeeTurnpike$Bee" (192 : Nat) "BeeTurnpike$Told" "orderKind" "[I" "BeeTurnpike"),
  (Jvm.Cond.fieldLinkNest "BeeTurnpike$Bee" (205 : Nat) "BeeTurnpike$Speller" "hasAppeal" "Z" "BeeTurnpike"),
  (Jvm.Cond.fieldLinkNest "BeeTurnpike$Bee" (219 : Nat) "BeeTurnpike$Told" "roundSize" "[I" "BeeTurnpike"),
  (Jvm.Cond.fieldLinkNest "BeeTurnpike$Bee" (222 : Nat) "BeeTurnpike$Speller" "right" "I" "BeeTurnpike"),
  (Jvm.Cond.fieldLinkNest "BeeTurnpike$Bee" (225 : Nat) "BeeTurnpike$Speller" "wrong" "I" "BeeTurnpike"),
  (Jvm.Cond.fieldLinkNest "BeeTurnpike$Bee" (228 : Nat) "BeeTurnpike$Speller" "misses" "I" "BeeTurnpike"),
  (Jvm.Cond.fieldLinkNest "BeeTurnpike$Bee" (231 : Nat) "BeeTurnpike$Speller" "outInLap" "Z" "BeeTurnpike"),
  (Jvm.Cond.fieldLinkNest "BeeTurnpike$Bee" (237 : Nat) "BeeTurnpike$Told" "laps" "[I" "BeeTurnpike"),
  (Jvm.Cond.fieldLinkNest "BeeTurnpike$Bee" (243 : Nat) "BeeTurnpike$Told" "toll" "[I" "BeeTurnpike"),
  (Jvm.Cond.methodLinkNest "BeeTurnpike$Code" (22 : Nat) ({ cls := "BeeTurnpike", name := "put", desc := "([III)V" } : Jvm.MethodName) "BeeTurnpike"),
  (Jvm.Cond.fieldLinkNest "BeeTurnpike$Code" (32 : Nat) "BeeTurnpike$Tokens" "values" "[I" "BeeTurnpike"),
  (Jvm.Cond.methodLinkNest "BeeTurnpike$Code" (37 : Nat) ({ cls := "BeeTurnpike", name := "get", desc := "([II)I" } : Jvm.MethodName) "BeeTurnpike"),
  (Jvm.Cond.methodLinkNest "BeeTurnpike$Code" (41 : Nat) ({ cls := "BeeTurnpike", name := "copy", desc := "([I[I)V" } : Jvm.MethodName) "BeeTurnpike"),
  (Jvm.Cond.fieldLinkNest "BeeTurnpike$Grammar" (23 : Nat) "BeeTurnpike$Tokens" "kinds" "[I" "BeeTurnpike"),
  (Jvm.Cond.methodLinkNest "BeeTurnpike$Grammar" (29 : Nat) ({ cls := "BeeTurnpike", name := "get", desc := "([II)I" } : Jvm.MethodName) "BeeTurnpike"),
  (Jvm.Cond.fieldLinkNest "BeeTurnpike$Grammar" (36 : Nat) "BeeTurnpike$Code" "size" "I" "BeeTurnpike"),
  (Jvm.Cond.fieldLinkNest "BeeTurnpike$Grammar" (49 : Nat) "BeeTurnpike$Tokens" "roles" "[I" "BeeTurnpike"),
  (Jvm.Cond.methodLinkNest "BeeTurnpike$Grammar" (52 : Nat) ({ cls := "BeeTurnpike", name := "put", desc := "([III)V" } : Jvm.MethodName) "BeeTurnpike"),
  (Jvm.Cond.fieldLinkNest "BeeTurnpike$Grammar" (63 : Nat) "BeeTurnpike$Tokens" "values" "[I" "BeeTurnpike"),
  (Jvm.Cond.fieldLinkNest "BeeTurnpike$Reckoner" (15 : Nat) "BeeTurnpike$Bee" "told" "LBeeTurnpike$Told;" "BeeTurnpike"),
  (Jvm.Cond.fieldLinkNest "BeeTurnpike$Reckoner" (29 : Nat) "BeeTurnpike$Told" "orderTest" "[I" "BeeTurnpike"),
  (Jvm.Cond.methodLinkNest "BeeTurnpike$Reckoner" (34 : Nat) ({ cls := "BeeTurnpike", name := "get", desc := "([II)I" } : Jvm.MethodName) "BeeTurnpike"),
  (Jvm.Cond.fieldLinkNest "BeeTurnpike$Reckoner" (38 : Nat) "BeeTurnpike$Told" "code" "LBeeTurnpike$Code;" "BeeTurnpike"),
  (Jvm.Cond.fieldLinkNest "BeeTurnpike$Reckoner" (42 : Nat) "BeeTurnpike$Code" "size" "I" "BeeTurnpike"),
  (Jvm.Cond.fieldLinkNest "BeeTurnpike$Reckoner" (45 : Nat) "BeeTurnpike$Code" "operations" "[I" "BeeTurnpike"),
  (Jvm.Cond.fieldLinkNest "BeeTurnpike$Reckoner" (48 : Nat) "BeeTurnpike$Code" "arguments" "[I" "BeeTurnpike"),
  (Jvm.Cond.fieldLinkNest "BeeTurnpike$Reckoner" (55 : Nat) "BeeTurnpike$Bee" "turn" "I" "BeeTurnpike"),
  (Jvm.Cond.fieldLinkNest "BeeTurnpike$Reckoner" (65 : Nat) "BeeTurnpike$Speller" "points" "I" "BeeTurnpike"),
  (Jvm.Cond.fieldLinkNest "BeeTurnpike$Reckoner" (70 : Nat) "BeeTurnpike$Speller" "misses" "I" "BeeTurnpike"),
  (Jvm.Cond.fieldLinkNest "BeeTurnpike$Reckoner" (73 : Nat) "BeeTurnpike$Speller" "passes" "I" "BeeTurnpike"),
  (Jvm.Cond.fieldLinkNest "BeeTurnpike$Reckoner" (84 : Nat) "BeeTurnpike$Speller" "in" "Z" "BeeTurnpike"),
  (Jvm.Cond.fieldLinkNest "BeeTurnpike$Reckoner" (88 : Nat) "BeeTurnpike$Bee" "onTurn" "I" "BeeTurnpike"),
  (Jvm.Cond.methodLinkNest "BeeTurnpike$Reckoner" (98 : Nat) ({ cls := "BeeTurnpike", name := "put", desc := "([III)V" } : Jvm.MethodName) "BeeTurnpike"),
  (Jvm.Cond.fieldLinkNest "BeeTurnpike$Speller" (41 : Nat) "BeeTurnpike$Told" "passes" "[I" "BeeTurnpike"),
  (Jvm.Cond.methodLinkNest "BeeTurnpike$Speller" (44 : Nat) ({ cls := "BeeTurnpike", name := "get", desc := "([II)I" } : Jvm.MethodName) "BeeTurnpike"),
  (Jvm.Cond.fieldLinkNest "BeeTurnpike$Speller" (65 : Nat) "BeeTurnpike$Told" "knowledge" "[I" "BeeTurnpike"),
  (Jvm.Cond.methodLinkNest "BeeTurnpike$Speller" (66 : Nat) ({ cls := "BeeTurnpike", name := "put", desc := "([III)V" } : Jvm.MethodName) "BeeTurnpike"),
  (Jvm.Cond.methodLinkNest "BeeTurnpike$Speller" (70 : Nat) ({ cls := "BeeTurnpike", name := "copy", desc := "([I[I)V" } : Jvm.MethodName) "BeeTurnpike"),
  (Jvm.Cond.methodLinkNest "BeeTurnpike$Tape" (19 : Nat) ({ cls := "BeeTurnpike", name := "put", desc := "([III)V" } : Jvm.MethodName) "BeeTurnpike"),
  (Jvm.Cond.fieldLinkNest "BeeTurnpike$Teller" (28 : Nat) "BeeTurnpike$Tokens" "size" "I" "BeeTurnpike"),
  (Jvm.Cond.fieldLinkNest "BeeTurnpike$Teller" (45 : Nat) "BeeTurnpike$Tokens" "roles" "[I" "BeeTurnpike"),
  (Jvm.Cond.methodLinkNest "BeeTurnpike$Teller" (48 : Nat) ({ cls := "BeeTurnpike", name := "get", desc := "([II)I" } : Jvm.MethodName) "BeeTurnpike"),
  (Jvm.Cond.fieldLinkNest "BeeTurnpike$Teller" (63 : Nat) "BeeTurnpike$Told" "rootTongue" "[I" "BeeTurnpike"),
  (Jvm.Cond.fieldLinkNest "BeeTurnpike$Teller" (79 : Nat) "BeeTurnpike$Told" "wordRoots" "[I" "BeeTurnpike"),
  (Jvm.Cond.fieldLinkNest "BeeTurnpike$Teller" (82 : Nat) "BeeTurnpike$Told" "wordSize" "[I" "BeeTurnpike"),
  (Jvm.Cond.fieldLinkNest "BeeTurnpike$Teller" (89 : Nat) "BeeTurnpike$Told" "roundWords" "[I" "BeeTurnpike"),
  (Jvm.Cond.fieldLinkNest "BeeTurnpike$Teller" (92 : Nat) "BeeTurnpike$Told" "roundSize" "[I" "BeeTurnpike"),
  (Jvm.Cond.fieldLinkNest "BeeTurnpike$Teller" (95 : Nat) "BeeTurnpike$Told" "orderSpeller" "[I" "BeeTurnpike"),
  (Jvm.Cond.fieldLinkNest "BeeTurnpike$Teller" (98 : Nat) "BeeTurnpike$Tokens" "values" "[I" "BeeTurnpike"),
  (Jvm.Cond.fieldLinkNest "BeeTurnpike$Teller" (101 : Nat) "BeeTurnpike$Told" "ease" "[I" "BeeTurnpike"),
  (Jvm.Cond.fieldLinkNest "BeeTurnpike$Teller" (108 : Nat) "BeeTurnpike$Told" "rootLetters" "[I" "BeeTurnpike"),
  (Jvm.Cond.fieldLinkNest "BeeTurnpike$Teller" (111 : Nat) "BeeTurnpike$Told" "rootHard" "[I" "BeeTurnpike"),
  (Jvm.Cond.fieldLinkNest "BeeTurnpike$Teller" (114 : Nat) "BeeTurnpike$Told" "passes" "[I" "BeeTurnpike"),
  (Jvm.Cond.fieldLinkNest "BeeTurnpike$Teller" (117 : Nat) "BeeTurnpike$Told" "knowledge" "[I" "BeeTurnpike"),
  (Jvm.Cond.fieldLinkNest "BeeTurnpike$Teller" (120 : Nat) "BeeTurnpike$Told" "toll" "[I" "BeeTurnpike"),
  (Jvm.Cond.fieldLinkNest "BeeTurnpike$Teller" (123 : Nat) "BeeTurnpike$Told" "laps" "[I" "BeeTurnpike"),
  (Jvm.Cond.fieldLinkNest "BeeTurnpike$Teller" (126 : Nat) "BeeTurnpike$Told" "counts" "[I" "BeeTurnpike"),
  (Jvm.Cond.methodLinkNest "BeeTurnpike$Teller" (133 : Nat) ({ cls := "BeeTurnpike", name := "put", desc := "([III)V" } : Jvm.MethodName) "BeeTurnpike"),
  (Jvm.Cond.fieldLinkNest "BeeTurnpike$Teller" (137 : Nat) "BeeTurnpike$Told" "orderKind" "[I" "BeeTurnpike"),
  (Jvm.Cond.fieldLinkNest "BeeTurnpike$Teller" (140 : Nat) "BeeTurnpike$Tokens" "kinds" "[I" "BeeTurnpike"),
  (Jvm.Cond.fieldLinkNest "BeeTurnpike$Teller" (143 : Nat) "BeeTurnpike$Told" "orderTest" "[I" "BeeTurnpike"),
  (Jvm.Cond.methodLinkNest "BeeTurnpike$Tokens" (46 : Nat) ({ cls := "BeeTurnpike", name := "put", desc := "([III)V" } : Jvm.MethodName) "BeeTurnpike"),
  (Jvm.Cond.methodLinkNest "BeeTurnpike$Tokens" (165 : Nat) ({ cls := "BeeTurnpike", name := "get", desc := "([II)I" } : Jvm.MethodName) "BeeTurnpike"),
  (Jvm.Cond.methodLinkNest "BeeTurnpike$Told" (65 : Nat) ({ cls := "BeeTurnpike$Code", name := "<init>", desc := "()V" } : Jvm.MethodName) "BeeTurnpike"),
  (Jvm.Cond.methodLinkNest "BeeTurnpike$Told" (70 : Nat) ({ cls := "BeeTurnpike", name := "get", desc := "([II)I" } : Jvm.MethodName) "BeeTurnpike"),
  (Jvm.Cond.methodLinkNest "BeeTurnpike$Told" (96 : Nat) ({ cls := "BeeTurnpike", name := "put", desc := "([III)V" } : Jvm.MethodName) "BeeTurnpike"),
  (Jvm.Cond.methodLinkNest "BeeTurnpike$Told" (100 : Nat) ({ cls := "BeeTurnpike", name := "copy", desc := "([I[I)V" } : Jvm.MethodName) "BeeTurnpike"),
  (Jvm.Cond.methodLinkNest "BeeTurnpike" (9 : Nat) ({ cls := "BeeTurnpike$Tape", name := "<init>", desc := "()V" } : Jvm.MethodName) "BeeTurnpike"),
  (Jvm.Cond.methodLinkNest "BeeTurnpike" (27 : Nat) ({ cls := "BeeTurnpike$Told", name := "<init>", desc := "()V" } : Jvm.MethodName) "BeeTurnpike"),
  (Jvm.Cond.fieldLinkNest "BeeTurnpike" (37 : Nat) "BeeTurnpike$Told" "code" "LBeeTurnpike$Code;" "BeeTurnpike"),
  (Jvm.Cond.fieldLinkNest "BeeTurnpike" (73 : Nat) "BeeTurnpike$Tape" "length" "I" "BeeTurnpike"),
  (Jvm.Cond.fieldLinkNest "BeeTurnpike" (100 : Nat) "BeeTurnpike$Teller" "errorToken" "I" "BeeTurnpike"),
  (Jvm.Cond.fieldLinkNest "BeeTurnpike" (103 : Nat) "BeeTurnpike$Tokens" "starts" "[I" "BeeTurnpike"),
  (Jvm.Cond.fieldLinkNest "BeeTurnpike" (141 : Nat) "BeeTurnpike$Told" "wordSize" "[I" "BeeTurnpike"),
  (Jvm.Cond.fieldLinkNest "BeeTurnpike" (160 : Nat) "BeeTurnpike$Speller" "knowledge" "[I" "BeeTurnpike"),
  (Jvm.Cond.fieldLinkNest "BeeTurnpike" (167 : Nat) "BeeTurnpike$Speller" "hearings" "[I" "BeeTurnpike"),
  (Jvm.Cond.fieldLinkNest "BeeTurnpike" (184 : Nat) "BeeTurnpike$Bee" "onTurn" "I" "BeeTurnpike"),
  (Jvm.Cond.fieldLinkNest "BeeTurnpike" (187 : Nat) "BeeTurnpike$Speller" "points" "I" "BeeTurnpike"),
  (Jvm.Cond.fieldLinkNest "BeeTurnpike" (226 : Nat) "BeeTurnpike$Speller" "in" "Z" "BeeTurnpike"),
  (Jvm.Cond.fieldLinkNest "BeeTurnpike" (249 : Nat) "BeeTurnpike$Bee" "turn" "I" "BeeTurnpike"),
  (Jvm.Cond.fieldLinkNest "BeeTurnpike" (252 : Nat) "BeeTurnpike$Bee" "round" "I" "BeeTurnpike"),
  (Jvm.Cond.fieldLinkNest "BeeTurnpike" (258 : Nat) "BeeTurnpike$Told" "rootTongue" "[I" "BeeTurnpike"),
  (Jvm.Cond.fieldLinkNest "BeeTurnpike" (261 : Nat) "BeeTurnpike$Told" "rootLetters" "[I" "BeeTurnpike"),
  (Jvm.Cond.fieldLinkNest "BeeTurnpike" (264 : Nat) "BeeTurnpike$Told" "rootHard" "[I" "BeeTurnpike"),
  (Jvm.Cond.fieldLinkNest "BeeTurnpike" (267 : Nat) "BeeTurnpike$Told" "ease" "[I" "BeeTurnpike"),
  (Jvm.Cond.fieldLinkNest "BeeTurnpike" (279 : Nat) "BeeTurnpike$Bee" "wordSpelled" "[I" "BeeTurnpike"),
  (Jvm.Cond.fieldLinkNest "BeeTurnpike" (282 : Nat) "BeeTurnpike$Bee" "wordRight" "[I" "BeeTurnpike"),
  (Jvm.Cond.fieldLinkNest "BeeTurnpike" (285 : Nat) "BeeTurnpike$Speller" "misses" "I" "BeeTurnpike"),
  (Jvm.Cond.fieldLinkNest "BeeTurnpike" (288 : Nat) "BeeTurnpike$Speller" "passes" "I" "BeeTurnpike"),
  (Jvm.Cond.fieldLinkNest "BeeTurnpike" (291 : Nat) "BeeTurnpike$Speller" "hasAppeal" "Z" "BeeTurnpike"),
  (Jvm.Cond.fieldLinkNest "BeeTurnpike" (294 : Nat) "BeeTurnpike$Speller" "hints" "I" "BeeTurnpike"),
  (Jvm.Cond.fieldLinkNest "BeeTurnpike" (297 : Nat) "BeeTurnpike$Speller" "right" "I" "BeeTurnpike"),
  (Jvm.Cond.fieldLinkNest "BeeTurnpike" (300 : Nat) "BeeTurnpike$Speller" "wrong" "I" "BeeTurnpike"),
  (Jvm.Cond.methodLinkNest "BeeTurnpikeLaw" (92 : Nat) ({ cls := "BeeTurnpikeLaw$Sim", name := "<init>", desc := "()V" } : Jvm.MethodName) "BeeTurnpikeLaw")
  ]
def nwp : List Nat := [313, 327, 766, 213, 554, 339, 348, 192, 181, 336, 333, 177, 356, 359, 710, 219, 216, 344, 210, 362, 365, 352, 342, 207, 204, 1204, 127, 1288, 1300, 118, 1170, 164, 125, 1179, 129, 391, 221, 679, 225, 165, 160, 162, 400, 347, 351, 355, 338, 408, 684, 197, 1311, 200, 1313, 777, 1009, 131, 124, 1241, 180, 194, 190, 212, 209, 218, 128, 176, 184, 187, 198, 201, 203, 206, 174, 1254, 215, 119, 222, 1161, 1267, 155, 561, 1290, 1295, 97, 149, 223, 102, 293, 121, 191, 332, 335, 409, 349, 340, 402, 404, 182, 185, 188, 178, 397, 399, 353, 357, 345, 360, 363, 366, 1318]
/-- text constants: class, entry, text, cell -/
def sTab : List (String × Nat × String × Nat) := [
  ("BeeTurnpike$Tokens", 78, "()[];,+-*/<>=", 4),
  ("BeeTurnpike$Tokens", 101, "tongue", 6),
  ("BeeTurnpike$Tokens", 103, "ease", 8),
  ("BeeTurnpike$Tokens", 105, "root", 10),
  ("BeeTurnpike$Tokens", 107, "of", 12),
  ("BeeTurnpike$Tokens", 109, "letters", 14),
  ("BeeTurnpike$Tokens", 111, "hard", 16),
  ("BeeTurnpike$Tokens", 113, "word", 18),
  ("BeeTurnpike$Tokens", 115, "from", 20),
  ("BeeTurnpike$Tokens", 117, "speller", 22),
  ("BeeTurnpike$Tokens", 119, "passes", 24),
  ("BeeTurnpike$Tokens", 121, "knows", 26),
  ("BeeTurnpike$Tokens", 123, "round", 28),
  ("BeeTurnpike$Tokens", 125, "toll", 30),
  ("BeeTurnpike$Tokens", 127, "laps", 32),
  ("BeeTurnpike$Tokens", 129, "words", 34),
  ("BeeTurnpike$Tokens", 131, "hint", 36),
  ("BeeTurnpike$Tokens", 133, "pass", 38),
  ("BeeTurnpike$Tokens", 135, "appeal", 40),
  ("BeeTurnpike$Tokens", 137, "when", 42),
  ("BeeTurnpike$Tokens", 139, "turn", 44),
  ("BeeTurnpike$Tokens", 141, "left", 46),
  ("BeeTurnpike$Tokens", 143, "points", 48),
  ("BeeTurnpike$Tokens", 145, "misses", 50),
  ("BeeTurnpike$Tokens", 147, "gap", 52),
  ("BeeTurnpike$Tokens", 149, "in", 54),
  ("BeeTurnpike$Tokens", 151, "next", 56),
  ("BeeTurnpike$Tokens", 153, "not", 58),
  ("BeeTurnpike$Tokens", 155, "and", 60),
  ("BeeTurnpike$Tokens", 157, "or", 62),
  ("BeeTurnpike$Tokens", 159, "min", 64),
  ("BeeTurnpike$Tokens", 161, "max", 66),
  ("BeeTurnpike$Tokens", 163, "", 68),
  ("BeeTurnpikeLaw", 35, " s", 70),
  ("BeeTurnpikeLaw", 48, " w", 72),
  ("BeeTurnpikeLaw", 50, "gap", 74),
  ("BeeTurnpikeLaw", 52, ">", 76),
  ("BeeTurnpikeLaw", 54, "points", 78),
  ("BeeTurnpikeLaw", 56, ">=", 80),
  ("BeeTurnpikeLaw", 58, "misses", 82),
  ("BeeTurnpikeLaw", 60, "=1", 84),
  ("BeeTurnpikeLaw", 62, "turn > ", 86),
  ("BeeTurnpikeLaw", 64, "left<=", 88),
  ("BeeTurnpikeLaw", 66, " and passes", 90),
  ("BeeTurnpikeLaw", 68, ">0", 92),
  ("BeeTurnpikeLaw", 70, "not next", 94),
  ("BeeTurnpikeLaw", 72, " or hard", 96),
  ("BeeTurnpikeLaw", 74, "[in", 98),
  ("BeeTurnpikeLaw", 76, "]and gap", 100),
  ("BeeTurnpikeLaw", 78, "-hard", 102),
  ("BeeTurnpikeLaw", 80, "/2<", 104),
  ("BeeTurnpikeLaw", 82, "1=1", 106),
  ("BeeTurnpikeLaw", 84, "min(points", 108),
  ("BeeTurnpikeLaw", 86, ",", 110),
  ("BeeTurnpikeLaw", 88, ")*2>turn/3", 112),
  ("BeeTurnpikeLaw", 107, "tongue t", 114),
  ("BeeTurnpikeLaw", 109, " ease ", 116),
  ("BeeTurnpikeLaw", 111, ";", 118),
  ("BeeTurnpikeLaw", 113, " ;\n", 120),
  ("BeeTurnpikeLaw", 120, "root r", 122),
  ("BeeTurnpikeLaw", 122, " of t", 124),
  ("BeeTurnpikeLaw", 124, " letters ", 126),
  ("BeeTurnpikeLaw", 126, " hard ", 128),
  ("BeeTurnpikeLaw", 135, "word w", 130),
  ("BeeTurnpikeLaw", 137, " from", 132),
  ("BeeTurnpikeLaw", 139, " r", 134),
  ("BeeTurnpikeLaw", 150, "speller s", 136),
  ("BeeTurnpikeLaw", 152, " passes ", 138),
  ("BeeTurnpikeLaw", 154, " knows t", 140),
  ("BeeTurnpikeLaw", 156, " ", 142),
  ("BeeTurnpikeLaw", 158, ";\n", 144),
  ("BeeTurnpikeLaw", 166, "round q", 146),
  ("BeeTurnpikeLaw", 168, " toll ", 148),
  ("BeeTurnpikeLaw", 170, " laps ", 150),
  ("BeeTurnpikeLaw", 172, " words", 152),
  ("BeeTurnpikeLaw", 177, "hint", 154),
  ("BeeTurnpikeLaw", 179, "pass", 156),
  ("BeeTurnpikeLaw", 181, "appeal", 158),
  ("BeeTurnpikeLaw", 183, " when ", 160)
  ]
