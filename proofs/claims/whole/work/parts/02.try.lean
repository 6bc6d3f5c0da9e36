abbrev cX12_noRing : ByteArray := prog_14_method_98_code
def ib (a b : Instr) : Bool := match a, b with
  | .aload_n x, .aload_n y => x.val == y.val
  | .iload_n x, .iload_n y => x.val == y.val
  | .iload x, .iload y => x == y
  | .aload x, .aload y => x == y
  | .istore x, .istore y => x == y
  | .istore_n x, .istore_n y => x.val == y.val
  | .iconst x, .iconst y => x == y
  | .bipush x, .bipush y => x == y
  | .sipush x, .sipush y => x == y
  | .getfield x, .getfield y => x == y
  | .putfield x, .putfield y => x == y
  | .invokevirtual x, .invokevirtual y => x == y
  | .ireturn, .ireturn => true
  | .iadd, .iadd => true
  | .isub, .isub => true
  | .imul, .imul => true
  | .iaload, .iaload => true
  | .iastore, .iastore => true
  | .dup2, .dup2 => true
  | .ldc x, .ldc y => x == y
  | .ldc_w x, .ldc_w y => x == y
  | .iinc x n, .iinc y k => x == y && n == k
  | .goto x, .goto y => x == y
  | .if_icmp c x, .if_icmp d y => c == d && x == y
  | .ifCond c x, .ifCond d y => c == d && x == y
  | _, _ => false
def okc (c : ByteArray) (L : List (Nat × Instr × Nat)) : Bool := L.all (fun q => match decode c q.1 with | .ok r => ib r.1 q.2.1 && r.2 == q.2.2 | _ => false)
def tbR : List (Nat × Instr × Nat) := [(0, .iconst 0, 1), (1, .istore_n 3, 1), (2, .iload_n 3, 1), (3, .bipush 120, 2), (5, .if_icmp .ge 38, 3), (8, .aload_n 0, 1), (9, .getfield 45, 3), (12, .iload_n 3, 1), (13, .iload_n 3, 1), (14, .aload_n 0, 1), (15, .iload_n 1, 1), (16, .invokevirtual 239, 3), (19, .if_icmp .ne 7, 3), (22, .iconst 0, 1), (23, .goto 6, 3), (26, .ldc_w 328, 3), (29, .iastore, 1), (30, .aload_n 0, 1), (31, .getfield 61, 3), (34, .iload_n 3, 1), (35, .iconst 0, 1), (36, .iastore, 1), (37, .iinc 3 1, 3), (40, .goto (-38), 3), (43, .iconst 1, 1), (44, .istore_n 3, 1), (45, .iload_n 3, 1), (46, .ifCond .eq 96, 3), (49, .iconst 0, 1), (50, .istore_n 3, 1), (51, .iconst 0, 1), (52, .istore 4, 2), (54, .iload 4, 2), (56, .aload_n 0, 1), (57, .invokevirtual 329, 3), (60, .if_icmp .ge 79, 3), (63, .iconst 0, 1), (64, .istore 5, 2), (66, .iload 5, 2), (68, .aload_n 0, 1), (69, .getfield 13, 3), (72, .iconst 2, 1), (73, .iaload, 1), (74, .if_icmp .ge 59, 3), (77, .aload_n 0, 1), (78, .getfield 45, 3), (81, .iload 4, 2), (83, .iaload, 1), (84, .ifCond .ne 49, 3), (87, .aload_n 0, 1), (88, .iload 4, 2), (90, .iload 5, 2), (92, .iload_n 2, 1), (93, .invokevirtual 381, 3), (96, .istore 6, 2), (98, .iload 6, 2), (100, .iconst (-1), 1), (101, .if_icmp .eq 26, 3), (104, .aload_n 0, 1), (105, .getfield 45, 3), (108, .iload 6, 2), (110, .iaload, 1), (111, .ifCond .ne 6, 3), (114, .goto 13, 3), (117, .aload_n 0, 1), (118, .getfield 45, 3), (121, .iload 6, 2), (123, .iconst 0, 1), (124, .iastore, 1), (125, .iconst 1, 1), (126, .istore_n 3, 1), (127, .iinc 5 1, 3), (130, .goto (-64), 3), (133, .iinc 4 1, 3), (136, .goto (-82), 3), (139, .goto (-94), 3), (142, .iconst 0, 1), (143, .istore 4, 2), (145, .iload 4, 2), (147, .aload_n 0, 1), (148, .invokevirtual 329, 3), (151, .if_icmp .ge 70, 3), (154, .iconst 0, 1), (155, .istore 5, 2), (157, .iload 5, 2), (159, .aload_n 0, 1), (160, .getfield 13, 3), (163, .iconst 2, 1), (164, .iaload, 1), (165, .if_icmp .ge 50, 3), (168, .aload_n 0, 1), (169, .getfield 45, 3), (172, .iload 4, 2), (174, .iaload, 1), (175, .ifCond .ne 40, 3), (178, .aload_n 0, 1), (179, .iload 4, 2), (181, .iload 5, 2), (183, .iload_n 2, 1), (184, .invokevirtual 381, 3), (187, .iconst (-1), 1), (188, .if_icmp .eq 21, 3), (191, .aload_n 0, 1), (192, .getfield 61, 3), (195, .aload_n 0, 1), (196, .iload 4, 2), (198, .iload 5, 2), (200, .iload_n 2, 1), (201, .invokevirtual 381, 3), (204, .dup2, 1), (205, .iaload, 1), (206, .iconst 1, 1), (207, .iadd, 1), (208, .iastore, 1), (209, .iinc 5 1, 3), (212, .goto (-55), 3), (215, .iinc 4 1, 3), (218, .goto (-73), 3), (221, .iconst 1, 1), (222, .istore_n 3, 1), (223, .iload_n 3, 1), (224, .ifCond .eq 112, 3), (227, .iconst 0, 1), (228, .istore_n 3, 1), (229, .iconst 0, 1), (230, .istore 4, 2), (232, .iload 4, 2), (234, .aload_n 0, 1), (235, .invokevirtual 329, 3), (238, .if_icmp .ge 95, 3), (241, .aload_n 0, 1), (242, .getfield 45, 3), (245, .iload 4, 2), (247, .iaload, 1), (248, .ifCond .ne 79, 3), (251, .aload_n 0, 1), (252, .getfield 61, 3), (255, .iload 4, 2), (257, .iaload, 1), (258, .ifCond .le 6, 3), (261, .goto 66, 3), (264, .aload_n 0, 1), (265, .getfield 45, 3), (268, .iload 4, 2), (270, .ldc_w 328, 3), (273, .iastore, 1), (274, .iconst 1, 1), (275, .istore_n 3, 1), (276, .iconst 0, 1), (277, .istore 5, 2), (279, .iload 5, 2), (281, .aload_n 0, 1), (282, .getfield 13, 3), (285, .iconst 2, 1), (286, .iaload, 1), (287, .if_icmp .ge 40, 3), (290, .aload_n 0, 1), (291, .iload 4, 2), (293, .iload 5, 2), (295, .iload_n 2, 1), (296, .invokevirtual 381, 3), (299, .iconst (-1), 1), (300, .if_icmp .eq 21, 3), (303, .aload_n 0, 1), (304, .getfield 61, 3), (307, .aload_n 0, 1), (308, .iload 4, 2), (310, .iload 5, 2), (312, .iload_n 2, 1), (313, .invokevirtual 381, 3), (316, .dup2, 1), (317, .iaload, 1), (318, .iconst 1, 1), (319, .isub, 1), (320, .iastore, 1), (321, .iinc 5 1, 3), (324, .goto (-45), 3), (327, .iinc 4 1, 3), (330, .goto (-98), 3), (333, .goto (-110), 3), (336, .iconst 0, 1), (337, .istore 4, 2), (339, .iload 4, 2), (341, .aload_n 0, 1), (342, .invokevirtual 329, 3), (345, .if_icmp .ge 21, 3), (348, .aload_n 0, 1), (349, .getfield 45, 3), (352, .iload 4, 2), (354, .iaload, 1), (355, .ifCond .ne 5, 3), (358, .iconst 0, 1), (359, .ireturn, 1), (360, .iinc 4 1, 3), (363, .goto (-24), 3), (366, .iconst 1, 1), (367, .ireturn, 1)]
theorem okR : okc cX12_noRing tbR = true := by decide +kernel
