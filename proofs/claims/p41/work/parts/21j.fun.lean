theorem DX9_drawWay_0 : dAre cX9_drawWay [(0, .aload_n 0, 1), (1, .bipush 8, 2), (3, .invokevirtual 328, 3), (6, .istore_n 1, 1), (7, .iload_n 1, 1), (8, .bipush 7, 2), (10, .if_icmp .ne 18, 3), (13, .aload_n 0, 1), (14, .iconst 3, 1), (15, .aload_n 0, 1), (16, .bipush 24, 2), (18, .invokevirtual 328, 3), (21, .iconst 0, 1), (22, .iconst 0, 1), (23, .iconst 0, 1), (24, .invokevirtual 331, 3)] := dAre0 (by decide +kernel)
theorem dX9_drawWay_0 : decode cX9_drawWay 0 = .ok (.aload_n 0, 1) := DX9_drawWay_0.1
theorem dX9_drawWay_1 : decode cX9_drawWay 1 = .ok (.bipush 8, 2) := DX9_drawWay_0.2.1
theorem dX9_drawWay_3 : decode cX9_drawWay 3 = .ok (.invokevirtual 328, 3) := DX9_drawWay_0.2.2.1
theorem dX9_drawWay_6 : decode cX9_drawWay 6 = .ok (.istore_n 1, 1) := DX9_drawWay_0.2.2.2.1
theorem dX9_drawWay_7 : decode cX9_drawWay 7 = .ok (.iload_n 1, 1) := DX9_drawWay_0.2.2.2.2.1
theorem dX9_drawWay_8 : decode cX9_drawWay 8 = .ok (.bipush 7, 2) := DX9_drawWay_0.2.2.2.2.2.1
theorem dX9_drawWay_10 : decode cX9_drawWay 10 = .ok (.if_icmp .ne 18, 3) := DX9_drawWay_0.2.2.2.2.2.2.1
theorem dX9_drawWay_13 : decode cX9_drawWay 13 = .ok (.aload_n 0, 1) := DX9_drawWay_0.2.2.2.2.2.2.2.1
theorem dX9_drawWay_14 : decode cX9_drawWay 14 = .ok (.iconst 3, 1) := DX9_drawWay_0.2.2.2.2.2.2.2.2.1
theorem dX9_drawWay_15 : decode cX9_drawWay 15 = .ok (.aload_n 0, 1) := DX9_drawWay_0.2.2.2.2.2.2.2.2.2.1
theorem dX9_drawWay_16 : decode cX9_drawWay 16 = .ok (.bipush 24, 2) := DX9_drawWay_0.2.2.2.2.2.2.2.2.2.2.1
theorem dX9_drawWay_18 : decode cX9_drawWay 18 = .ok (.invokevirtual 328, 3) := DX9_drawWay_0.2.2.2.2.2.2.2.2.2.2.2.1
theorem dX9_drawWay_21 : decode cX9_drawWay 21 = .ok (.iconst 0, 1) := DX9_drawWay_0.2.2.2.2.2.2.2.2.2.2.2.2.1
theorem dX9_drawWay_22 : decode cX9_drawWay 22 = .ok (.iconst 0, 1) := DX9_drawWay_0.2.2.2.2.2.2.2.2.2.2.2.2.2.1
theorem dX9_drawWay_23 : decode cX9_drawWay 23 = .ok (.iconst 0, 1) := DX9_drawWay_0.2.2.2.2.2.2.2.2.2.2.2.2.2.2.1
theorem dX9_drawWay_24 : decode cX9_drawWay 24 = .ok (.invokevirtual 331, 3) := DX9_drawWay_0.2.2.2.2.2.2.2.2.2.2.2.2.2.2.2.1
theorem DX9_drawWay_27 : dAre cX9_drawWay [(27, .return_, 1), (28, .aload_n 0, 1), (29, .aload_n 0, 1), (30, .getfield 173, 3), (33, .invokevirtual 328, 3), (36, .istore_n 2, 1), (37, .iload_n 1, 1), (38, .iconst 4, 1), (39, .if_icmp .ge 64, 3), (42, .aload_n 0, 1), (43, .bipush 6, 2), (45, .invokevirtual 328, 3), (48, .istore_n 3, 1), (49, .aload_n 0, 1), (50, .getfield 37, 3), (53, .iload_n 2, 1)] := dAre0 (by decide +kernel)
theorem dX9_drawWay_27 : decode cX9_drawWay 27 = .ok (.return_, 1) := DX9_drawWay_27.1
theorem dX9_drawWay_28 : decode cX9_drawWay 28 = .ok (.aload_n 0, 1) := DX9_drawWay_27.2.1
theorem dX9_drawWay_29 : decode cX9_drawWay 29 = .ok (.aload_n 0, 1) := DX9_drawWay_27.2.2.1
theorem dX9_drawWay_30 : decode cX9_drawWay 30 = .ok (.getfield 173, 3) := DX9_drawWay_27.2.2.2.1
theorem dX9_drawWay_33 : decode cX9_drawWay 33 = .ok (.invokevirtual 328, 3) := DX9_drawWay_27.2.2.2.2.1
theorem dX9_drawWay_36 : decode cX9_drawWay 36 = .ok (.istore_n 2, 1) := DX9_drawWay_27.2.2.2.2.2.1
theorem dX9_drawWay_37 : decode cX9_drawWay 37 = .ok (.iload_n 1, 1) := DX9_drawWay_27.2.2.2.2.2.2.1
theorem dX9_drawWay_38 : decode cX9_drawWay 38 = .ok (.iconst 4, 1) := DX9_drawWay_27.2.2.2.2.2.2.2.1
theorem dX9_drawWay_39 : decode cX9_drawWay 39 = .ok (.if_icmp .ge 64, 3) := DX9_drawWay_27.2.2.2.2.2.2.2.2.1
theorem dX9_drawWay_42 : decode cX9_drawWay 42 = .ok (.aload_n 0, 1) := DX9_drawWay_27.2.2.2.2.2.2.2.2.2.1
theorem dX9_drawWay_43 : decode cX9_drawWay 43 = .ok (.bipush 6, 2) := DX9_drawWay_27.2.2.2.2.2.2.2.2.2.2.1
theorem dX9_drawWay_45 : decode cX9_drawWay 45 = .ok (.invokevirtual 328, 3) := DX9_drawWay_27.2.2.2.2.2.2.2.2.2.2.2.1
theorem dX9_drawWay_48 : decode cX9_drawWay 48 = .ok (.istore_n 3, 1) := DX9_drawWay_27.2.2.2.2.2.2.2.2.2.2.2.2.1
theorem dX9_drawWay_49 : decode cX9_drawWay 49 = .ok (.aload_n 0, 1) := DX9_drawWay_27.2.2.2.2.2.2.2.2.2.2.2.2.2.1
theorem dX9_drawWay_50 : decode cX9_drawWay 50 = .ok (.getfield 37, 3) := DX9_drawWay_27.2.2.2.2.2.2.2.2.2.2.2.2.2.2.1
theorem dX9_drawWay_53 : decode cX9_drawWay 53 = .ok (.iload_n 2, 1) := DX9_drawWay_27.2.2.2.2.2.2.2.2.2.2.2.2.2.2.2.1
theorem DX9_drawWay_54 : dAre cX9_drawWay [(54, .iaload, 1), (55, .iconst 1, 1), (56, .if_icmp .le 12, 3), (59, .aload_n 0, 1), (60, .bipush 6, 2), (62, .invokevirtual 328, 3), (65, .goto 4, 3), (68, .iconst (-1), 1), (69, .istore 4, 2), (71, .aload_n 0, 1), (72, .iconst 0, 1), (73, .iload_n 2, 1), (74, .iload_n 3, 1), (75, .iload 4, 2), (77, .aload_n 0, 1), (78, .getfield 37, 3)] := dAre0 (by decide +kernel)
theorem dX9_drawWay_54 : decode cX9_drawWay 54 = .ok (.iaload, 1) := DX9_drawWay_54.1
theorem dX9_drawWay_55 : decode cX9_drawWay 55 = .ok (.iconst 1, 1) := DX9_drawWay_54.2.1
theorem dX9_drawWay_56 : decode cX9_drawWay 56 = .ok (.if_icmp .le 12, 3) := DX9_drawWay_54.2.2.1
theorem dX9_drawWay_59 : decode cX9_drawWay 59 = .ok (.aload_n 0, 1) := DX9_drawWay_54.2.2.2.1
theorem dX9_drawWay_60 : decode cX9_drawWay 60 = .ok (.bipush 6, 2) := DX9_drawWay_54.2.2.2.2.1
theorem dX9_drawWay_62 : decode cX9_drawWay 62 = .ok (.invokevirtual 328, 3) := DX9_drawWay_54.2.2.2.2.2.1
theorem dX9_drawWay_65 : decode cX9_drawWay 65 = .ok (.goto 4, 3) := DX9_drawWay_54.2.2.2.2.2.2.1
theorem dX9_drawWay_68 : decode cX9_drawWay 68 = .ok (.iconst (-1), 1) := DX9_drawWay_54.2.2.2.2.2.2.2.1
theorem dX9_drawWay_69 : decode cX9_drawWay 69 = .ok (.istore 4, 2) := DX9_drawWay_54.2.2.2.2.2.2.2.2.1
theorem dX9_drawWay_71 : decode cX9_drawWay 71 = .ok (.aload_n 0, 1) := DX9_drawWay_54.2.2.2.2.2.2.2.2.2.1
theorem dX9_drawWay_72 : decode cX9_drawWay 72 = .ok (.iconst 0, 1) := DX9_drawWay_54.2.2.2.2.2.2.2.2.2.2.1
theorem dX9_drawWay_73 : decode cX9_drawWay 73 = .ok (.iload_n 2, 1) := DX9_drawWay_54.2.2.2.2.2.2.2.2.2.2.2.1
theorem dX9_drawWay_74 : decode cX9_drawWay 74 = .ok (.iload_n 3, 1) := DX9_drawWay_54.2.2.2.2.2.2.2.2.2.2.2.2.1
theorem dX9_drawWay_75 : decode cX9_drawWay 75 = .ok (.iload 4, 2) := DX9_drawWay_54.2.2.2.2.2.2.2.2.2.2.2.2.2.1
theorem dX9_drawWay_77 : decode cX9_drawWay 77 = .ok (.aload_n 0, 1) := DX9_drawWay_54.2.2.2.2.2.2.2.2.2.2.2.2.2.2.1
theorem dX9_drawWay_78 : decode cX9_drawWay 78 = .ok (.getfield 37, 3) := DX9_drawWay_54.2.2.2.2.2.2.2.2.2.2.2.2.2.2.2.1
theorem DX9_drawWay_81 : dAre cX9_drawWay [(81, .iload_n 2, 1), (82, .iaload, 1), (83, .iconst 2, 1), (84, .if_icmp .le 12, 3), (87, .aload_n 0, 1), (88, .bipush 6, 2), (90, .invokevirtual 328, 3), (93, .goto 4, 3), (96, .iconst (-1), 1), (97, .invokevirtual 331, 3), (100, .goto 75, 3), (103, .iload_n 1, 1), (104, .bipush 6, 2), (106, .if_icmp .ne 15, 3), (109, .aload_n 0, 1), (110, .iconst 2, 1)] := dAre0 (by decide +kernel)
theorem dX9_drawWay_81 : decode cX9_drawWay 81 = .ok (.iload_n 2, 1) := DX9_drawWay_81.1
theorem dX9_drawWay_82 : decode cX9_drawWay 82 = .ok (.iaload, 1) := DX9_drawWay_81.2.1
theorem dX9_drawWay_83 : decode cX9_drawWay 83 = .ok (.iconst 2, 1) := DX9_drawWay_81.2.2.1
theorem dX9_drawWay_84 : decode cX9_drawWay 84 = .ok (.if_icmp .le 12, 3) := DX9_drawWay_81.2.2.2.1
theorem dX9_drawWay_87 : decode cX9_drawWay 87 = .ok (.aload_n 0, 1) := DX9_drawWay_81.2.2.2.2.1
theorem dX9_drawWay_88 : decode cX9_drawWay 88 = .ok (.bipush 6, 2) := DX9_drawWay_81.2.2.2.2.2.1
theorem dX9_drawWay_90 : decode cX9_drawWay 90 = .ok (.invokevirtual 328, 3) := DX9_drawWay_81.2.2.2.2.2.2.1
theorem dX9_drawWay_93 : decode cX9_drawWay 93 = .ok (.goto 4, 3) := DX9_drawWay_81.2.2.2.2.2.2.2.1
theorem dX9_drawWay_96 : decode cX9_drawWay 96 = .ok (.iconst (-1), 1) := DX9_drawWay_81.2.2.2.2.2.2.2.2.1
theorem dX9_drawWay_97 : decode cX9_drawWay 97 = .ok (.invokevirtual 331, 3) := DX9_drawWay_81.2.2.2.2.2.2.2.2.2.1
theorem dX9_drawWay_100 : decode cX9_drawWay 100 = .ok (.goto 75, 3) := DX9_drawWay_81.2.2.2.2.2.2.2.2.2.2.1
theorem dX9_drawWay_103 : decode cX9_drawWay 103 = .ok (.iload_n 1, 1) := DX9_drawWay_81.2.2.2.2.2.2.2.2.2.2.2.1
theorem dX9_drawWay_104 : decode cX9_drawWay 104 = .ok (.bipush 6, 2) := DX9_drawWay_81.2.2.2.2.2.2.2.2.2.2.2.2.1
theorem dX9_drawWay_106 : decode cX9_drawWay 106 = .ok (.if_icmp .ne 15, 3) := DX9_drawWay_81.2.2.2.2.2.2.2.2.2.2.2.2.2.1
theorem dX9_drawWay_109 : decode cX9_drawWay 109 = .ok (.aload_n 0, 1) := DX9_drawWay_81.2.2.2.2.2.2.2.2.2.2.2.2.2.2.1
theorem dX9_drawWay_110 : decode cX9_drawWay 110 = .ok (.iconst 2, 1) := DX9_drawWay_81.2.2.2.2.2.2.2.2.2.2.2.2.2.2.2.1
theorem DX9_drawWay_111 : dAre cX9_drawWay [(111, .iload_n 2, 1), (112, .iconst 0, 1), (113, .iconst 0, 1), (114, .iconst 0, 1), (115, .invokevirtual 331, 3), (118, .goto 57, 3), (121, .aload_n 0, 1), (122, .bipush 12, 2), (124, .invokevirtual 328, 3), (127, .istore_n 3, 1), (128, .iload_n 3, 1), (129, .aload_n 0, 1), (130, .iload_n 2, 1), (131, .invokevirtual 186, 3), (134, .if_icmp .ge 41, 3), (137, .iload_n 2, 1)] := dAre0 (by decide +kernel)
theorem dX9_drawWay_111 : decode cX9_drawWay 111 = .ok (.iload_n 2, 1) := DX9_drawWay_111.1
theorem dX9_drawWay_112 : decode cX9_drawWay 112 = .ok (.iconst 0, 1) := DX9_drawWay_111.2.1
theorem dX9_drawWay_113 : decode cX9_drawWay 113 = .ok (.iconst 0, 1) := DX9_drawWay_111.2.2.1
theorem dX9_drawWay_114 : decode cX9_drawWay 114 = .ok (.iconst 0, 1) := DX9_drawWay_111.2.2.2.1
theorem dX9_drawWay_115 : decode cX9_drawWay 115 = .ok (.invokevirtual 331, 3) := DX9_drawWay_111.2.2.2.2.1
theorem dX9_drawWay_118 : decode cX9_drawWay 118 = .ok (.goto 57, 3) := DX9_drawWay_111.2.2.2.2.2.1
theorem dX9_drawWay_121 : decode cX9_drawWay 121 = .ok (.aload_n 0, 1) := DX9_drawWay_111.2.2.2.2.2.2.1
theorem dX9_drawWay_122 : decode cX9_drawWay 122 = .ok (.bipush 12, 2) := DX9_drawWay_111.2.2.2.2.2.2.2.1
theorem dX9_drawWay_124 : decode cX9_drawWay 124 = .ok (.invokevirtual 328, 3) := DX9_drawWay_111.2.2.2.2.2.2.2.2.1
theorem dX9_drawWay_127 : decode cX9_drawWay 127 = .ok (.istore_n 3, 1) := DX9_drawWay_111.2.2.2.2.2.2.2.2.2.1
theorem dX9_drawWay_128 : decode cX9_drawWay 128 = .ok (.iload_n 3, 1) := DX9_drawWay_111.2.2.2.2.2.2.2.2.2.2.1
theorem dX9_drawWay_129 : decode cX9_drawWay 129 = .ok (.aload_n 0, 1) := DX9_drawWay_111.2.2.2.2.2.2.2.2.2.2.2.1
theorem dX9_drawWay_130 : decode cX9_drawWay 130 = .ok (.iload_n 2, 1) := DX9_drawWay_111.2.2.2.2.2.2.2.2.2.2.2.2.1
theorem dX9_drawWay_131 : decode cX9_drawWay 131 = .ok (.invokevirtual 186, 3) := DX9_drawWay_111.2.2.2.2.2.2.2.2.2.2.2.2.2.1
theorem dX9_drawWay_134 : decode cX9_drawWay 134 = .ok (.if_icmp .ge 41, 3) := DX9_drawWay_111.2.2.2.2.2.2.2.2.2.2.2.2.2.2.1
theorem dX9_drawWay_137 : decode cX9_drawWay 137 = .ok (.iload_n 2, 1) := DX9_drawWay_111.2.2.2.2.2.2.2.2.2.2.2.2.2.2.2.1
theorem DX9_drawWay_138 : dAre cX9_drawWay [(138, .iload_n 3, 1), (139, .invokestatic 182, 3), (142, .istore 4, 2), (144, .aload_n 0, 1), (145, .iconst 1, 1), (146, .iload_n 2, 1), (147, .aload_n 0, 1), (148, .getfield 31, 3), (151, .iload 4, 2), (153, .iaload, 1), (154, .aload_n 0, 1), (155, .getfield 31, 3), (158, .iload 4, 2), (160, .iconst 1, 1), (161, .iadd, 1), (162, .iaload, 1)] := dAre0 (by decide +kernel)
theorem dX9_drawWay_138 : decode cX9_drawWay 138 = .ok (.iload_n 3, 1) := DX9_drawWay_138.1
theorem dX9_drawWay_139 : decode cX9_drawWay 139 = .ok (.invokestatic 182, 3) := DX9_drawWay_138.2.1
theorem dX9_drawWay_142 : decode cX9_drawWay 142 = .ok (.istore 4, 2) := DX9_drawWay_138.2.2.1
theorem dX9_drawWay_144 : decode cX9_drawWay 144 = .ok (.aload_n 0, 1) := DX9_drawWay_138.2.2.2.1
theorem dX9_drawWay_145 : decode cX9_drawWay 145 = .ok (.iconst 1, 1) := DX9_drawWay_138.2.2.2.2.1
theorem dX9_drawWay_146 : decode cX9_drawWay 146 = .ok (.iload_n 2, 1) := DX9_drawWay_138.2.2.2.2.2.1
theorem dX9_drawWay_147 : decode cX9_drawWay 147 = .ok (.aload_n 0, 1) := DX9_drawWay_138.2.2.2.2.2.2.1
theorem dX9_drawWay_148 : decode cX9_drawWay 148 = .ok (.getfield 31, 3) := DX9_drawWay_138.2.2.2.2.2.2.2.1
theorem dX9_drawWay_151 : decode cX9_drawWay 151 = .ok (.iload 4, 2) := DX9_drawWay_138.2.2.2.2.2.2.2.2.1
theorem dX9_drawWay_153 : decode cX9_drawWay 153 = .ok (.iaload, 1) := DX9_drawWay_138.2.2.2.2.2.2.2.2.2.1
theorem dX9_drawWay_154 : decode cX9_drawWay 154 = .ok (.aload_n 0, 1) := DX9_drawWay_138.2.2.2.2.2.2.2.2.2.2.1
theorem dX9_drawWay_155 : decode cX9_drawWay 155 = .ok (.getfield 31, 3) := DX9_drawWay_138.2.2.2.2.2.2.2.2.2.2.2.1
theorem dX9_drawWay_158 : decode cX9_drawWay 158 = .ok (.iload 4, 2) := DX9_drawWay_138.2.2.2.2.2.2.2.2.2.2.2.2.1
theorem dX9_drawWay_160 : decode cX9_drawWay 160 = .ok (.iconst 1, 1) := DX9_drawWay_138.2.2.2.2.2.2.2.2.2.2.2.2.2.1
theorem dX9_drawWay_161 : decode cX9_drawWay 161 = .ok (.iadd, 1) := DX9_drawWay_138.2.2.2.2.2.2.2.2.2.2.2.2.2.2.1
theorem dX9_drawWay_162 : decode cX9_drawWay 162 = .ok (.iaload, 1) := DX9_drawWay_138.2.2.2.2.2.2.2.2.2.2.2.2.2.2.2.1
theorem DX9_drawWay_163 : dAre cX9_drawWay [(163, .aload_n 0, 1), (164, .getfield 31, 3), (167, .iload 4, 2), (169, .iconst 2, 1), (170, .iadd, 1), (171, .iaload, 1), (172, .invokevirtual 331, 3), (175, .return_, 1)] := dAre0 (by decide +kernel)
theorem dX9_drawWay_163 : decode cX9_drawWay 163 = .ok (.aload_n 0, 1) := DX9_drawWay_163.1
theorem dX9_drawWay_164 : decode cX9_drawWay 164 = .ok (.getfield 31, 3) := DX9_drawWay_163.2.1
theorem dX9_drawWay_167 : decode cX9_drawWay 167 = .ok (.iload 4, 2) := DX9_drawWay_163.2.2.1
theorem dX9_drawWay_169 : decode cX9_drawWay 169 = .ok (.iconst 2, 1) := DX9_drawWay_163.2.2.2.1
theorem dX9_drawWay_170 : decode cX9_drawWay 170 = .ok (.iadd, 1) := DX9_drawWay_163.2.2.2.2.1
theorem dX9_drawWay_171 : decode cX9_drawWay 171 = .ok (.iaload, 1) := DX9_drawWay_163.2.2.2.2.2.1
theorem dX9_drawWay_172 : decode cX9_drawWay 172 = .ok (.invokevirtual 331, 3) := DX9_drawWay_163.2.2.2.2.2.2.1
theorem dX9_drawWay_175 : decode cX9_drawWay 175 = .ok (.return_, 1) := DX9_drawWay_163.2.2.2.2.2.2.2.1
theorem mX9_drawWay : gMv yX9_drawWay cX9_drawWay 5 none RX9 0 := ⟨q1121, q1433, q10, q1122, rfl, by decide, by decide, by decide +kernel⟩
noncomputable def bX9_drawWay_97 (t0 : Int32) (t1 : Int32) (t2 : Int32) (t3 : Int32) (t4 : Int32) (I : gM) (J : gN) : Option (gM × gN) :=
  (fX9_tryOne t4 t3 t2 t1 t0 I).bind fun r16 =>
  some (r16, J)
set_option maxRecDepth 100000 in
set_option maxHeartbeats 4000000 in
theorem wbX9_drawWay_97 {z : gZ} {E : gE} {bk : Nat} (F : Fx z sh E "LeapJoinModel" cX9_drawWay (gR 17) 5) (B : bZ z bk) (hE : gDist sh E) (t0 : Int32) (t1 : Int32) (t2 : Int32) (t3 : Int32) (t4 : Int32) (I : gM) (J : gN) {y : gM × gN} (h : bX9_drawWay_97 t0 t1 t2 t3 t4 I J = some y) (e : Fe z sh E none (fun r1 I1 J1 => r1 = none ∧ I1 = y.1 ∧ J1 = y.2)) : G z 97 [] [.int t0, .int t1, .int t2, .int t3, .int t4, .ref (E.2.1 62)] I J := by
  unfold bX9_drawWay_97 at h
  refine u_callV (k := 62) (As := [.int t4, .int t3, .int t2, .int t1, .int t0]) (rest := []) (sn := fun _ => []) F B (fun _ => wX9_tryOne (zl z) E hE bk t4 t3 t2 t1 t0 I J) mX9_tryOne q1128 rfl s62 rfl rfl rfl (Nat.le_of_ble_eq_true rfl) dX9_drawWay_97 (fun _ => rfl) h (fun r16 h => ?_)
  refine g_goto (tgt := 175) F dX9_drawWay_100 (by decide) ?_
  obtain rfl := Option.some.inj h
  exact g_vret F e dX9_drawWay_175 ⟨rfl, rfl, rfl⟩
noncomputable def bX9_drawWay_69 (v2 : Int32) (v3 : Int32) (t0 : Int32) (I : gM) (J : gN) : Option (gM × gN) :=
  (rI 4 (I 72) v2).bind fun u15 =>
  if u15 ≤ 2 then
    bX9_drawWay_97 ((-1) : Int32) t0 v3 v2 (0 : Int32) I J
  else
    (fX9_draw (6 : Int32) J).bind fun r17 =>
    bX9_drawWay_97 r17.1 t0 v3 v2 (0 : Int32) I r17.2
set_option maxRecDepth 100000 in
set_option maxHeartbeats 4000000 in
theorem wbX9_drawWay_69 {z : gZ} {E : gE} {bk : Nat} (F : Fx z sh E "LeapJoinModel" cX9_drawWay (gR 17) 5) (B : bZ z bk) (hE : gDist sh E) (v2 : Int32) (v3 : Int32) (t0 : Int32) (I : gM) (J : gN) {y : gM × gN} (h : bX9_drawWay_69 v2 v3 t0 I J = some y) (e : Fe z sh E none (fun r1 I1 J1 => r1 = none ∧ I1 = y.1 ∧ J1 = y.2)) : G z 69 [(0, .ref (E.2.1 62)), (2, .int v2), (3, .int v3)] [.int t0] I J := by
  unfold bX9_drawWay_69 at h
  refine g_istore (Ln := [(4, .int t0), (0, .ref (E.2.1 62)), (2, .int v2), (3, .int v3)]) F dX9_drawWay_69 (by decide) rfl ?_
  refine g_aload_n F 1 dX9_drawWay_71 rfl rfl ?_
  refine g_iconst (v := 0) F dX9_drawWay_72 (by decide) ?_
  refine g_iload_n F 2 dX9_drawWay_73 rfl rfl ?_
  refine g_iload_n F 3 dX9_drawWay_74 rfl rfl ?_
  refine g_iload F 0 dX9_drawWay_75 rfl ?_
  refine g_aload_n F 1 dX9_drawWay_77 rfl rfl ?_
  refine g_getr (j := 15) (nn := 72) F s62 rfl rfl uX9 (by decide) q836 dX9_drawWay_78 ?_
  refine g_iload_n F 2 dX9_drawWay_81 rfl rfl ?_
  refine u_rI F s72 (by decide) dX9_drawWay_82 h (fun u15 h => ?_)
  refine g_iconst (v := 2) F dX9_drawWay_83 (by decide) ?_
  refine u_icmp_le (tgt := 96) F dX9_drawWay_84 (by decide) h (fun h => ?_) (fun h => ?_)
  · refine g_iconst (v := (-1)) F dX9_drawWay_96 (by decide) ?_
    refine g_sub (Ln := []) [] rfl ?_
    exact wbX9_drawWay_97 F B hE ((-1) : Int32) t0 v3 v2 (0 : Int32) I J h e
  · refine g_aload_n F 1 dX9_drawWay_87 rfl rfl ?_
    refine g_bipush (v := 6) F dX9_drawWay_88 (by decide) ?_
    refine u_callV (k := 62) (As := [.int 6]) (rest := [.int t0, .int v3, .int v2, .int 0, .ref (E.2.1 62)]) (sn := fun r17 => [.int r17.1, .int t0, .int v3, .int v2, .int 0, .ref (E.2.1 62)]) F B (fun _ => wX9_draw (zl z) E hE bk (6 : Int32) I J) mX9_draw q1123 rfl s62 rfl rfl rfl (Nat.le_of_ble_eq_true rfl) dX9_drawWay_90 (fun _ => rfl) h (fun r17 h => ?_)
    refine g_goto (tgt := 97) F dX9_drawWay_93 (by decide) ?_
    refine g_sub (Ln := []) [] rfl ?_
    exact wbX9_drawWay_97 F B hE r17.1 t0 v3 v2 (0 : Int32) I r17.2 h e
noncomputable def fX9_drawWay (I : gM) (J : gN) : Option (gM × gN) :=
  (fX9_draw (8 : Int32) J).bind fun r1 =>
  if r1.1 = 7 then
    (fX9_draw (24 : Int32) r1.2).bind fun r2 =>
    (fX9_tryOne (3 : Int32) r2.1 (0 : Int32) (0 : Int32) (0 : Int32) I).bind fun r3 =>
    some (r3, r2.2)
  else
    (fX9_draw (I 62 17) r1.2).bind fun r4 =>
    if (4 : Int32) ≤ r1.1 then
      if r1.1 = 6 then
        (fX9_tryOne (2 : Int32) r4.1 (0 : Int32) (0 : Int32) (0 : Int32) I).bind fun r5 =>
        some (r5, r4.2)
      else
        (fX9_draw (12 : Int32) r4.2).bind fun r6 =>
        (fX9_many r4.1 I).bind fun r7 =>
        if r7 ≤ r6.1 then
          some (I, r6.2)
        else
          (fX9_rowAt r4.1 r6.1).bind fun r8 =>
          (rI 331 (I 70) r8).bind fun u9 =>
          (rI 331 (I 70) (r8 + 1)).bind fun u10 =>
          (rI 331 (I 70) (r8 + 2)).bind fun u11 =>
          (fX9_tryOne (1 : Int32) r4.1 u9 u10 u11 I).bind fun r12 =>
          some (r12, r6.2)
    else
      (fX9_draw (6 : Int32) r4.2).bind fun r13 =>
      (rI 4 (I 72) r4.1).bind fun u14 =>
      if u14 ≤ 1 then
        bX9_drawWay_69 r4.1 r13.1 ((-1) : Int32) I r13.2
      else
        (fX9_draw (6 : Int32) r13.2).bind fun r18 =>
        bX9_drawWay_69 r4.1 r13.1 r18.1 I r18.2
set_option maxRecDepth 100000 in
set_option maxHeartbeats 4000000 in
theorem wX9_drawWay (l : Launch) (E : gE) (hE : gDist sh E) (bk : Nat) (I : gM) (J : gN) {r : gM × gN} (h : fX9_drawWay I J = some r) : Cu l sh E bk yX9_drawWay cX9_drawWay 5 none (gR 17) [.ref (E.2.1 62)] I J (fun r1 I1 J1 => r1 = none ∧ I1 = r.1 ∧ J1 = r.2) := by
  refine Cu.of "LeapJoinModel" rfl hE (by decide) (Nat.le_of_ble_eq_true rfl) (fun z F B e hl => ?_)
  subst hl
  unfold fX9_drawWay at h
  refine g_aload_n F 0 dX9_drawWay_0 rfl rfl ?_
  refine g_bipush (v := 8) F dX9_drawWay_1 (by decide) ?_
  refine u_callV (k := 62) (As := [.int 8]) (rest := []) (sn := fun r1 => [.int r1.1]) F B (fun _ => wX9_draw (zl z) E hE bk (8 : Int32) I J) mX9_draw q1123 rfl s62 rfl rfl rfl (Nat.le_of_ble_eq_true rfl) dX9_drawWay_3 (fun _ => rfl) h (fun r1 h => ?_)
  refine g_istore_n (Ln := [(1, .int r1.1), (0, .ref (E.2.1 62))]) F dX9_drawWay_6 rfl (by decide) rfl ?_
  refine g_iload_n F 0 dX9_drawWay_7 rfl rfl ?_
  refine g_bipush (v := 7) F dX9_drawWay_8 (by decide) ?_
  refine u_icmp_ne (tgt := 28) F dX9_drawWay_10 (by decide) h (fun h => ?_) (fun h => ?_)
  · refine g_aload_n F 1 dX9_drawWay_13 rfl rfl ?_
    refine g_iconst (v := 3) F dX9_drawWay_14 (by decide) ?_
    refine g_aload_n F 1 dX9_drawWay_15 rfl rfl ?_
    refine g_bipush (v := 24) F dX9_drawWay_16 (by decide) ?_
    refine u_callV (k := 62) (As := [.int 24]) (rest := [.int 3, .ref (E.2.1 62)]) (sn := fun r2 => [.int r2.1, .int 3, .ref (E.2.1 62)]) F B (fun _ => wX9_draw (zl z) E hE bk (24 : Int32) I r1.2) mX9_draw q1123 rfl s62 rfl rfl rfl (Nat.le_of_ble_eq_true rfl) dX9_drawWay_18 (fun _ => rfl) h (fun r2 h => ?_)
    refine g_iconst (v := 0) F dX9_drawWay_21 (by decide) ?_
    refine g_iconst (v := 0) F dX9_drawWay_22 (by decide) ?_
    refine g_iconst (v := 0) F dX9_drawWay_23 (by decide) ?_
    refine u_callV (k := 62) (As := [.int 3, .int r2.1, .int 0, .int 0, .int 0]) (rest := []) (sn := fun _ => []) F B (fun _ => wX9_tryOne (zl z) E hE bk (3 : Int32) r2.1 (0 : Int32) (0 : Int32) (0 : Int32) I r2.2) mX9_tryOne q1128 rfl s62 rfl rfl rfl (Nat.le_of_ble_eq_true rfl) dX9_drawWay_24 (fun _ => rfl) h (fun r3 h => ?_)
    obtain rfl := Option.some.inj h
    exact g_vret F e dX9_drawWay_27 ⟨rfl, rfl, rfl⟩
  · refine g_aload_n F 1 dX9_drawWay_28 rfl rfl ?_
    refine g_aload_n F 1 dX9_drawWay_29 rfl rfl ?_
    refine g_geti (j := 17) (v := I 62 17) F s62 rfl rfl uX9 (by decide) q838 rfl dX9_drawWay_30 ?_
    refine u_callV (k := 62) (As := [.int (I 62 17)]) (rest := []) (sn := fun r4 => [.int r4.1]) F B (fun _ => wX9_draw (zl z) E hE bk (I 62 17) I r1.2) mX9_draw q1123 rfl s62 rfl rfl rfl (Nat.le_of_ble_eq_true rfl) dX9_drawWay_33 (fun _ => rfl) h (fun r4 h => ?_)
    refine g_istore_n (Ln := [(2, .int r4.1), (1, .int r1.1), (0, .ref (E.2.1 62))]) F dX9_drawWay_36 rfl (by decide) rfl ?_
    refine g_iload_n F 1 dX9_drawWay_37 rfl rfl ?_
    refine g_iconst (v := 4) F dX9_drawWay_38 (by decide) ?_
    refine u_icmp_ge (tgt := 103) F dX9_drawWay_39 (by decide) h (fun h => ?_) (fun h => ?_)
    · refine g_iload_n F 1 dX9_drawWay_103 rfl rfl ?_
      refine g_bipush (v := 6) F dX9_drawWay_104 (by decide) ?_
      refine u_icmp_ne (tgt := 121) F dX9_drawWay_106 (by decide) h (fun h => ?_) (fun h => ?_)
      · refine g_aload_n F 2 dX9_drawWay_109 rfl rfl ?_
        refine g_iconst (v := 2) F dX9_drawWay_110 (by decide) ?_
        refine g_iload_n F 0 dX9_drawWay_111 rfl rfl ?_
        refine g_iconst (v := 0) F dX9_drawWay_112 (by decide) ?_
        refine g_iconst (v := 0) F dX9_drawWay_113 (by decide) ?_
        refine g_iconst (v := 0) F dX9_drawWay_114 (by decide) ?_
        refine u_callV (k := 62) (As := [.int 2, .int r4.1, .int 0, .int 0, .int 0]) (rest := []) (sn := fun _ => []) F B (fun _ => wX9_tryOne (zl z) E hE bk (2 : Int32) r4.1 (0 : Int32) (0 : Int32) (0 : Int32) I r4.2) mX9_tryOne q1128 rfl s62 rfl rfl rfl (Nat.le_of_ble_eq_true rfl) dX9_drawWay_115 (fun _ => rfl) h (fun r5 h => ?_)
        refine g_goto (tgt := 175) F dX9_drawWay_118 (by decide) ?_
        obtain rfl := Option.some.inj h
        exact g_vret F e dX9_drawWay_175 ⟨rfl, rfl, rfl⟩
      · refine g_aload_n F 2 dX9_drawWay_121 rfl rfl ?_
        refine g_bipush (v := 12) F dX9_drawWay_122 (by decide) ?_
        refine u_callV (k := 62) (As := [.int 12]) (rest := []) (sn := fun r6 => [.int r6.1]) F B (fun _ => wX9_draw (zl z) E hE bk (12 : Int32) I r4.2) mX9_draw q1123 rfl s62 rfl rfl rfl (Nat.le_of_ble_eq_true rfl) dX9_drawWay_124 (fun _ => rfl) h (fun r6 h => ?_)
        refine g_istore_n (Ln := [(3, .int r6.1), (2, .int r4.1), (1, .int r1.1), (0, .ref (E.2.1 62))]) F dX9_drawWay_127 rfl (by decide) rfl ?_
        refine g_iload_n F 0 dX9_drawWay_128 rfl rfl ?_
        refine g_aload_n F 3 dX9_drawWay_129 rfl rfl ?_
        refine g_iload_n F 1 dX9_drawWay_130 rfl rfl ?_
        refine u_callV (k := 62) (As := [.int r4.1]) (rest := [.int r6.1]) (sn := fun r7 => [.int r7, .int r6.1]) F B (fun _ => wX9_many (zl z) E hE bk r4.1 I r6.2) mX9_many q994 rfl s62 rfl rfl rfl (Nat.le_of_ble_eq_true rfl) dX9_drawWay_131 (fun _ => rfl) h (fun r7 h => ?_)
        refine u_icmp_ge (tgt := 175) F dX9_drawWay_134 (by decide) h (fun h => ?_) (fun h => ?_)
        · obtain rfl := Option.some.inj h
          exact g_vret F e dX9_drawWay_175 ⟨rfl, rfl, rfl⟩
        · refine g_iload_n F 1 dX9_drawWay_137 rfl rfl ?_
          refine g_iload_n F 0 dX9_drawWay_138 rfl rfl ?_
          refine u_callS (As := [.int r4.1, .int r6.1]) (rest := []) (sn := fun r8 => [.int r8]) F B (fun _ => wX9_rowAt (zl z) E hE bk r4.1 r6.1 I r6.2) mX9_rowAt q1000 rfl rfl rfl (Nat.le_of_ble_eq_true rfl) dX9_drawWay_139 (fun _ => rfl) h (fun r8 h => ?_)
          refine g_istore (Ln := [(4, .int r8), (3, .int r6.1), (2, .int r4.1), (1, .int r1.1), (0, .ref (E.2.1 62))]) F dX9_drawWay_142 (by decide) rfl ?_
          refine g_aload_n F 4 dX9_drawWay_144 rfl rfl ?_
          refine g_iconst (v := 1) F dX9_drawWay_145 (by decide) ?_
          refine g_iload_n F 2 dX9_drawWay_146 rfl rfl ?_
          refine g_aload_n F 4 dX9_drawWay_147 rfl rfl ?_
          refine g_getr (j := 13) (nn := 70) F s62 rfl rfl uX9 (by decide) q834 dX9_drawWay_148 ?_
          refine g_iload F 0 dX9_drawWay_151 rfl ?_
          refine u_rI F s70 (by decide) dX9_drawWay_153 h (fun u9 h => ?_)
          refine g_aload_n F 4 dX9_drawWay_154 rfl rfl ?_
          refine g_getr (j := 13) (nn := 70) F s62 rfl rfl uX9 (by decide) q834 dX9_drawWay_155 ?_
          refine g_iload F 0 dX9_drawWay_158 rfl ?_
          refine g_iconst (v := 1) F dX9_drawWay_160 (by decide) ?_
          refine g_iadd (v := r8 + 1) F dX9_drawWay_161 rfl ?_
          refine u_rI F s70 (by decide) dX9_drawWay_162 h (fun u10 h => ?_)
          refine g_aload_n F 4 dX9_drawWay_163 rfl rfl ?_
          refine g_getr (j := 13) (nn := 70) F s62 rfl rfl uX9 (by decide) q834 dX9_drawWay_164 ?_
          refine g_iload F 0 dX9_drawWay_167 rfl ?_
          refine g_iconst (v := 2) F dX9_drawWay_169 (by decide) ?_
          refine g_iadd (v := r8 + 2) F dX9_drawWay_170 rfl ?_
          refine u_rI F s70 (by decide) dX9_drawWay_171 h (fun u11 h => ?_)
          refine u_callV (k := 62) (As := [.int 1, .int r4.1, .int u9, .int u10, .int u11]) (rest := []) (sn := fun _ => []) F B (fun _ => wX9_tryOne (zl z) E hE bk (1 : Int32) r4.1 u9 u10 u11 I r6.2) mX9_tryOne q1128 rfl s62 rfl rfl rfl (Nat.le_of_ble_eq_true rfl) dX9_drawWay_172 (fun _ => rfl) h (fun r12 h => ?_)
          obtain rfl := Option.some.inj h
          exact g_vret F e dX9_drawWay_175 ⟨rfl, rfl, rfl⟩
    · refine g_aload_n F 2 dX9_drawWay_42 rfl rfl ?_
      refine g_bipush (v := 6) F dX9_drawWay_43 (by decide) ?_
      refine u_callV (k := 62) (As := [.int 6]) (rest := []) (sn := fun r13 => [.int r13.1]) F B (fun _ => wX9_draw (zl z) E hE bk (6 : Int32) I r4.2) mX9_draw q1123 rfl s62 rfl rfl rfl (Nat.le_of_ble_eq_true rfl) dX9_drawWay_45 (fun _ => rfl) h (fun r13 h => ?_)
      refine g_istore_n (Ln := [(3, .int r13.1), (2, .int r4.1), (1, .int r1.1), (0, .ref (E.2.1 62))]) F dX9_drawWay_48 rfl (by decide) rfl ?_
      refine g_aload_n F 3 dX9_drawWay_49 rfl rfl ?_
      refine g_getr (j := 15) (nn := 72) F s62 rfl rfl uX9 (by decide) q836 dX9_drawWay_50 ?_
      refine g_iload_n F 1 dX9_drawWay_53 rfl rfl ?_
      refine u_rI F s72 (by decide) dX9_drawWay_54 h (fun u14 h => ?_)
      refine g_iconst (v := 1) F dX9_drawWay_55 (by decide) ?_
      refine u_icmp_le (tgt := 68) F dX9_drawWay_56 (by decide) h (fun h => ?_) (fun h => ?_)
      · refine g_iconst (v := (-1)) F dX9_drawWay_68 (by decide) ?_
        refine g_sub (Ln := [(0, .ref (E.2.1 62)), (2, .int r4.1), (3, .int r13.1)]) [3, 1, 0] rfl ?_
        exact wbX9_drawWay_69 F B hE r4.1 r13.1 ((-1) : Int32) I r13.2 h e
      · refine g_aload_n F 3 dX9_drawWay_59 rfl rfl ?_
        refine g_bipush (v := 6) F dX9_drawWay_60 (by decide) ?_
        refine u_callV (k := 62) (As := [.int 6]) (rest := []) (sn := fun r18 => [.int r18.1]) F B (fun _ => wX9_draw (zl z) E hE bk (6 : Int32) I r13.2) mX9_draw q1123 rfl s62 rfl rfl rfl (Nat.le_of_ble_eq_true rfl) dX9_drawWay_62 (fun _ => rfl) h (fun r18 h => ?_)
        refine g_goto (tgt := 69) F dX9_drawWay_65 (by decide) ?_
        refine g_sub (Ln := [(0, .ref (E.2.1 62)), (2, .int r4.1), (3, .int r13.1)]) [3, 1, 0] rfl ?_
        exact wbX9_drawWay_69 F B hE r4.1 r13.1 r18.1 I r18.2 h e
theorem DX9_ways_0 : dAre cX9_ways [(0, .aload_n 0, 1), (1, .invokevirtual 277, 3), (4, .ifCond .eq 13, 3), (7, .iload_n 1, 1), (8, .iconst 1, 1), (9, .bipush 40, 2), (11, .invokestatic 104, 3), (14, .ifCond .ne 5, 3), (17, .iconst (-1), 1), (18, .ireturn, 1), (19, .aload_n 0, 1), (20, .lload_n 2, 1), (21, .putfield 320, 3), (24, .iconst 0, 1), (25, .istore 4, 2), (27, .iload 4, 2)] := dAre0 (by decide +kernel)
theorem dX9_ways_0 : decode cX9_ways 0 = .ok (.aload_n 0, 1) := DX9_ways_0.1
theorem dX9_ways_1 : decode cX9_ways 1 = .ok (.invokevirtual 277, 3) := DX9_ways_0.2.1
theorem dX9_ways_4 : decode cX9_ways 4 = .ok (.ifCond .eq 13, 3) := DX9_ways_0.2.2.1
theorem dX9_ways_7 : decode cX9_ways 7 = .ok (.iload_n 1, 1) := DX9_ways_0.2.2.2.1
theorem dX9_ways_8 : decode cX9_ways 8 = .ok (.iconst 1, 1) := DX9_ways_0.2.2.2.2.1
theorem dX9_ways_9 : decode cX9_ways 9 = .ok (.bipush 40, 2) := DX9_ways_0.2.2.2.2.2.1
theorem dX9_ways_11 : decode cX9_ways 11 = .ok (.invokestatic 104, 3) := DX9_ways_0.2.2.2.2.2.2.1
theorem dX9_ways_14 : decode cX9_ways 14 = .ok (.ifCond .ne 5, 3) := DX9_ways_0.2.2.2.2.2.2.2.1
theorem dX9_ways_17 : decode cX9_ways 17 = .ok (.iconst (-1), 1) := DX9_ways_0.2.2.2.2.2.2.2.2.1
theorem dX9_ways_18 : decode cX9_ways 18 = .ok (.ireturn, 1) := DX9_ways_0.2.2.2.2.2.2.2.2.2.1
theorem dX9_ways_19 : decode cX9_ways 19 = .ok (.aload_n 0, 1) := DX9_ways_0.2.2.2.2.2.2.2.2.2.2.1
theorem dX9_ways_20 : decode cX9_ways 20 = .ok (.lload_n 2, 1) := DX9_ways_0.2.2.2.2.2.2.2.2.2.2.2.1
theorem dX9_ways_21 : decode cX9_ways 21 = .ok (.putfield 320, 3) := DX9_ways_0.2.2.2.2.2.2.2.2.2.2.2.2.1
theorem dX9_ways_24 : decode cX9_ways 24 = .ok (.iconst 0, 1) := DX9_ways_0.2.2.2.2.2.2.2.2.2.2.2.2.2.1
theorem dX9_ways_25 : decode cX9_ways 25 = .ok (.istore 4, 2) := DX9_ways_0.2.2.2.2.2.2.2.2.2.2.2.2.2.2.1
theorem dX9_ways_27 : decode cX9_ways 27 = .ok (.iload 4, 2) := DX9_ways_0.2.2.2.2.2.2.2.2.2.2.2.2.2.2.2.1
theorem DX9_ways_29 : dAre cX9_ways [(29, .iload_n 1, 1), (30, .if_icmp .ge 13, 3), (33, .aload_n 0, 1), (34, .invokevirtual 335, 3), (37, .iinc 4 1, 3), (40, .goto (-13), 3), (43, .aload_n 0, 1), (44, .invokevirtual 299, 3), (47, .ireturn, 1)] := dAre0 (by decide +kernel)
theorem dX9_ways_29 : decode cX9_ways 29 = .ok (.iload_n 1, 1) := DX9_ways_29.1
theorem dX9_ways_30 : decode cX9_ways 30 = .ok (.if_icmp .ge 13, 3) := DX9_ways_29.2.1
theorem dX9_ways_33 : decode cX9_ways 33 = .ok (.aload_n 0, 1) := DX9_ways_29.2.2.1
theorem dX9_ways_34 : decode cX9_ways 34 = .ok (.invokevirtual 335, 3) := DX9_ways_29.2.2.2.1
theorem dX9_ways_37 : decode cX9_ways 37 = .ok (.iinc 4 1, 3) := DX9_ways_29.2.2.2.2.1
theorem dX9_ways_40 : decode cX9_ways 40 = .ok (.goto (-13), 3) := DX9_ways_29.2.2.2.2.2.1
theorem dX9_ways_43 : decode cX9_ways 43 = .ok (.aload_n 0, 1) := DX9_ways_29.2.2.2.2.2.2.1
theorem dX9_ways_44 : decode cX9_ways 44 = .ok (.invokevirtual 299, 3) := DX9_ways_29.2.2.2.2.2.2.2.1
theorem dX9_ways_47 : decode cX9_ways 47 = .ok (.ireturn, 1) := DX9_ways_29.2.2.2.2.2.2.2.2.1
theorem mX9_ways : gMv yX9_ways cX9_ways 5 (some .int) RX9 2 := ⟨q1117, q1118, q10, q1119, rfl, by decide, by decide, by decide +kernel⟩
noncomputable def lX9_ways_27 (v1 : Int32) : (Int32 × gM × gN) → Option (gM × gN) :=
  itO fun s =>
    if v1 ≤ s.1 then
      some (.inr (s.2.1, s.2.2))
    else
      (fX9_drawWay s.2.1 s.2.2).bind fun r4 =>
      some (.inl (s.1 + 1, r4.1, r4.2))
set_option maxRecDepth 100000 in
set_option maxHeartbeats 4000000 in
theorem wlX9_ways_27 {z : gZ} {E : gE} {bk : Nat} (F : Fx z sh E "LeapJoinModel" cX9_ways (gR 18) 5) (B : bZ z bk) (hE : gDist sh E) (v1 : Int32) {r : gM × gN} : ∀ s : Int32 × gM × gN, lX9_ways_27 v1 s = some r → (G z 43 [(0, .ref (E.2.1 62))] [] r.1 r.2) → G z 27 [(0, .ref (E.2.1 62)), (1, .int v1), (4, .int s.1)] [] s.2.1 s.2.2 := by
  intro s h X0
  unfold lX9_ways_27 at h
  revert s
  refine itO_ind (P := fun s : Int32 × gM × gN => G z 27 [(0, .ref (E.2.1 62)), (1, .int v1), (4, .int s.1)] [] s.2.1 s.2.2) (fun s y h hl hr => ?_)
  have K27_0 : ∀ x : gM × gN, y = .inr x → (G z 43 [(0, .ref (E.2.1 62))] [] x.1 x.2) := fun x q => by have q2 := hr _ q; subst q2; exact X0
  refine g_iload F 2 dX9_ways_27 rfl ?_
  refine g_iload_n F 1 dX9_ways_29 rfl rfl ?_
  refine u_icmp_ge (tgt := 43) F dX9_ways_30 (by decide) h (fun h => ?_) (fun h => ?_)
  · obtain rfl := Option.some.inj h
    refine g_sub (Ln := [(0, .ref (E.2.1 62))]) [0] rfl ?_
    exact K27_0 (s.2.1, s.2.2) rfl
  · refine g_aload_n F 0 dX9_ways_33 rfl rfl ?_
    refine u_callV (k := 62) (As := []) (rest := []) (sn := fun _ => []) F B (fun _ => wX9_drawWay (zl z) E hE bk  s.2.1 s.2.2) mX9_drawWay q1120 rfl s62 rfl rfl rfl (Nat.le_of_ble_eq_true rfl) dX9_ways_34 (fun _ => rfl) h (fun r4 h => ?_)
    refine g_iinc (v := s.1 + 1) (Ln := [(4, .int (s.1 + 1)), (0, .ref (E.2.1 62)), (1, .int v1)]) F 2 dX9_ways_37 rfl (add_c (by decide)) (by decide) rfl ?_
    refine g_goto (tgt := 27) F dX9_ways_40 (by decide) ?_
    obtain rfl := Option.some.inj h
    refine g_sub (Ln := [(0, .ref (E.2.1 62)), (1, .int v1), (4, .int (s.1 + 1))]) [1, 2, 0] rfl ?_
    exact hl (s.1 + 1, r4.1, r4.2) rfl
noncomputable def fX9_ways (v1 : Int32) (v2 : Int64) (I : gM) (J : gN) : Option (Int32 × gM × gN) :=
  (fX9_areTables I).bind fun r1 =>
  if r1 = 0 then
    some (((-1) : Int32), I, J)
  else
    (fX9_in v1 (1 : Int32) (40 : Int32)).bind fun r2 =>
    if r2 = 0 then
      some (((-1) : Int32), I, J)
    else
      (pU J 62 30 v2).bind fun J3 =>
      (lX9_ways_27 v1 ((0 : Int32), I, J3)).bind fun w5 =>
      (fX9_rowsNow w5.1).bind fun r6 =>
      some (r6.1, r6.2, w5.2)
set_option maxRecDepth 100000 in
set_option maxHeartbeats 4000000 in
theorem wX9_ways (l : Launch) (E : gE) (hE : gDist sh E) (bk : Nat) (v1 : Int32) (v2 : Int64) (I : gM) (J : gN) {r : Int32 × gM × gN} (h : fX9_ways v1 v2 I J = some r) : Cu l sh E bk yX9_ways cX9_ways 5 (some .int) (gR 18) [.ref (E.2.1 62), .int v1, .long v2] I J (fun r1 I1 J1 => r1 = some (.int r.1) ∧ I1 = r.2.1 ∧ J1 = r.2.2) := by
  refine Cu.of "LeapJoinModel" rfl hE (by decide) (Nat.le_of_ble_eq_true rfl) (fun z F B e hl => ?_)
  subst hl
  unfold fX9_ways at h
  refine g_aload_n F 0 dX9_ways_0 rfl rfl ?_
  refine u_callV (k := 62) (As := []) (rest := []) (sn := fun r1 => [.int r1]) F B (fun _ => wX9_areTables (zl z) E hE bk  I J) mX9_areTables q1028 rfl s62 rfl rfl rfl (Nat.le_of_ble_eq_true rfl) dX9_ways_1 (fun _ => rfl) h (fun r1 h => ?_)
  refine u_if_eq (tgt := 17) F dX9_ways_4 (by decide) h (fun h => ?_) (fun h => ?_)
  · refine g_iconst (v := (-1)) F dX9_ways_17 (by decide) ?_
    obtain rfl := Option.some.inj h
    exact g_iret F e dX9_ways_18 ⟨rfl, rfl, rfl⟩
  · refine g_iload_n F 1 dX9_ways_7 rfl rfl ?_
    refine g_iconst (v := 1) F dX9_ways_8 (by decide) ?_
    refine g_bipush (v := 40) F dX9_ways_9 (by decide) ?_
    refine u_callS (As := [.int v1, .int 1, .int 40]) (rest := []) (sn := fun r2 => [.int r2]) F B (fun _ => wX9_in (zl z) E hE bk v1 (1 : Int32) (40 : Int32) I J) mX9_in q923 rfl rfl rfl (Nat.le_of_ble_eq_true rfl) dX9_ways_11 (fun _ => rfl) h (fun r2 h => ?_)
    refine u_if_ne (tgt := 19) F dX9_ways_14 (by decide) h (fun h => ?_) (fun h => ?_)
    · refine g_iconst (v := (-1)) F dX9_ways_17 (by decide) ?_
      obtain rfl := Option.some.inj h
      exact g_iret F e dX9_ways_18 ⟨rfl, rfl, rfl⟩
    · refine g_aload_n F 0 dX9_ways_19 rfl rfl ?_
      refine g_lload_n F 2 dX9_ways_20 rfl rfl ?_
      refine u_putl (j := 30) F s62 rfl rfl uX9 (by decide) q851 tyX9_ok nmX9 rfl rfl rfl dX9_ways_21 h (fun J3 h => ?_)
      refine g_iconst (v := 0) F dX9_ways_24 (by decide) ?_
      refine g_istore (Ln := [(4, .int 0), (0, .ref (E.2.1 62)), (1, .int v1), (2, .long v2)]) F dX9_ways_25 (by decide) rfl ?_
      obtain ⟨w5, ew5, h⟩ := ob h
      refine g_sub (Ln := [(0, .ref (E.2.1 62)), (1, .int v1), (4, .int 0)]) [1, 2, 0] rfl ?_
      refine wlX9_ways_27 F B hE v1 _ ew5 ?_
      refine g_aload_n F 0 dX9_ways_43 rfl rfl ?_
      refine u_callV (k := 62) (As := []) (rest := []) (sn := fun r6 => [.int r6.1]) F B (fun _ => wX9_rowsNow (zl z) E hE bk  w5.1 w5.2) mX9_rowsNow q1049 rfl s62 rfl rfl rfl (Nat.le_of_ble_eq_true rfl) dX9_ways_44 (fun _ => rfl) h (fun r6 h => ?_)
      obtain rfl := Option.some.inj h
      exact g_iret F e dX9_ways_47 ⟨rfl, rfl, rfl⟩
theorem DX9_status_0 : dAre cX9_status [(0, .iload_n 1, 1), (1, .iconst 0, 1), (2, .iconst 3, 1), (3, .invokestatic 104, 3), (6, .ifCond .eq 12, 3), (9, .aload_n 0, 1), (10, .getfield 34, 3), (13, .iload_n 1, 1), (14, .iaload, 1), (15, .goto 4, 3), (18, .iconst (-1), 1), (19, .ireturn, 1)] := dAre0 (by decide +kernel)
theorem dX9_status_0 : decode cX9_status 0 = .ok (.iload_n 1, 1) := DX9_status_0.1
theorem dX9_status_1 : decode cX9_status 1 = .ok (.iconst 0, 1) := DX9_status_0.2.1
theorem dX9_status_2 : decode cX9_status 2 = .ok (.iconst 3, 1) := DX9_status_0.2.2.1
theorem dX9_status_3 : decode cX9_status 3 = .ok (.invokestatic 104, 3) := DX9_status_0.2.2.2.1
theorem dX9_status_6 : decode cX9_status 6 = .ok (.ifCond .eq 12, 3) := DX9_status_0.2.2.2.2.1
theorem dX9_status_9 : decode cX9_status 9 = .ok (.aload_n 0, 1) := DX9_status_0.2.2.2.2.2.1
theorem dX9_status_10 : decode cX9_status 10 = .ok (.getfield 34, 3) := DX9_status_0.2.2.2.2.2.2.1
theorem dX9_status_13 : decode cX9_status 13 = .ok (.iload_n 1, 1) := DX9_status_0.2.2.2.2.2.2.2.1
theorem dX9_status_14 : decode cX9_status 14 = .ok (.iaload, 1) := DX9_status_0.2.2.2.2.2.2.2.2.1
theorem dX9_status_15 : decode cX9_status 15 = .ok (.goto 4, 3) := DX9_status_0.2.2.2.2.2.2.2.2.2.1
theorem dX9_status_18 : decode cX9_status 18 = .ok (.iconst (-1), 1) := DX9_status_0.2.2.2.2.2.2.2.2.2.2.1
theorem dX9_status_19 : decode cX9_status 19 = .ok (.ireturn, 1) := DX9_status_0.2.2.2.2.2.2.2.2.2.2.2.1
theorem mX9_status : gMv yX9_status cX9_status 2 (some .int) RX9 1 := ⟨q1132, q1133, q10, q1134, rfl, by decide, by decide, by decide +kernel⟩
noncomputable def fX9_status (v1 : Int32) (I : gM) : Option (Int32) :=
  (fX9_in v1 (0 : Int32) (3 : Int32)).bind fun r1 =>
  if r1 = 0 then
    some ((-1) : Int32)
  else
    (rI 4 (I 71) v1).bind fun u2 =>
    some u2
set_option maxRecDepth 100000 in
set_option maxHeartbeats 4000000 in
theorem wX9_status (l : Launch) (E : gE) (hE : gDist sh E) (bk : Nat) (v1 : Int32) (I : gM) (J : gN) {r : Int32} (h : fX9_status v1 I = some r) : Cu l sh E bk yX9_status cX9_status 2 (some .int) (gR 1) [.ref (E.2.1 62), .int v1] I J (fun r1 I1 J1 => r1 = some (.int r) ∧ I1 = I ∧ J1 = J) := by
  refine Cu.of "LeapJoinModel" rfl hE (by decide) (Nat.le_of_ble_eq_true rfl) (fun z F B e hl => ?_)
  subst hl
  unfold fX9_status at h
  refine g_iload_n F 1 dX9_status_0 rfl rfl ?_
  refine g_iconst (v := 0) F dX9_status_1 (by decide) ?_
  refine g_iconst (v := 3) F dX9_status_2 (by decide) ?_
  refine u_callS (As := [.int v1, .int 0, .int 3]) (rest := []) (sn := fun r1 => [.int r1]) F B (fun _ => wX9_in (zl z) E hE bk v1 (0 : Int32) (3 : Int32) I J) mX9_in q923 rfl rfl rfl (Nat.le_of_ble_eq_true rfl) dX9_status_3 (fun _ => rfl) h (fun r1 h => ?_)
  refine u_if_eq (tgt := 18) F dX9_status_6 (by decide) h (fun h => ?_) (fun h => ?_)
  · refine g_iconst (v := (-1)) F dX9_status_18 (by decide) ?_
    obtain rfl := Option.some.inj h
    exact g_iret F e dX9_status_19 ⟨rfl, rfl, rfl⟩
  · refine g_aload_n F 0 dX9_status_9 rfl rfl ?_
    refine g_getr (j := 14) (nn := 71) F s62 rfl rfl uX9 (by decide) q835 dX9_status_10 ?_
    refine g_iload_n F 1 dX9_status_13 rfl rfl ?_
    refine u_rI F s71 (by decide) dX9_status_14 h (fun u2 h => ?_)
    refine g_goto (tgt := 19) F dX9_status_15 (by decide) ?_
    obtain rfl := Option.some.inj h
    exact g_iret F e dX9_status_19 ⟨rfl, rfl, rfl⟩
theorem DX9_undo_0 : dAre cX9_undo [(0, .aload_n 0, 1), (1, .getfield 204, 3), (4, .ifCond .ne 5, 3), (7, .iconst (-1), 1), (8, .ireturn, 1), (9, .aload_n 0, 1), (10, .dup, 1), (11, .getfield 204, 3), (14, .iconst 1, 1), (15, .isub, 1), (16, .putfield 204, 3), (19, .iconst 0, 1), (20, .istore_n 1, 1), (21, .iload_n 1, 1), (22, .sipush 331, 3), (25, .if_icmp .ge 30, 3)] := dAre0 (by decide +kernel)
theorem dX9_undo_0 : decode cX9_undo 0 = .ok (.aload_n 0, 1) := DX9_undo_0.1
theorem dX9_undo_1 : decode cX9_undo 1 = .ok (.getfield 204, 3) := DX9_undo_0.2.1
theorem dX9_undo_4 : decode cX9_undo 4 = .ok (.ifCond .ne 5, 3) := DX9_undo_0.2.2.1
theorem dX9_undo_7 : decode cX9_undo 7 = .ok (.iconst (-1), 1) := DX9_undo_0.2.2.2.1
theorem dX9_undo_8 : decode cX9_undo 8 = .ok (.ireturn, 1) := DX9_undo_0.2.2.2.2.1
theorem dX9_undo_9 : decode cX9_undo 9 = .ok (.aload_n 0, 1) := DX9_undo_0.2.2.2.2.2.1
theorem dX9_undo_10 : decode cX9_undo 10 = .ok (.dup, 1) := DX9_undo_0.2.2.2.2.2.2.1
theorem dX9_undo_11 : decode cX9_undo 11 = .ok (.getfield 204, 3) := DX9_undo_0.2.2.2.2.2.2.2.1
theorem dX9_undo_14 : decode cX9_undo 14 = .ok (.iconst 1, 1) := DX9_undo_0.2.2.2.2.2.2.2.2.1
theorem dX9_undo_15 : decode cX9_undo 15 = .ok (.isub, 1) := DX9_undo_0.2.2.2.2.2.2.2.2.2.1
theorem dX9_undo_16 : decode cX9_undo 16 = .ok (.putfield 204, 3) := DX9_undo_0.2.2.2.2.2.2.2.2.2.2.1
theorem dX9_undo_19 : decode cX9_undo 19 = .ok (.iconst 0, 1) := DX9_undo_0.2.2.2.2.2.2.2.2.2.2.2.1
theorem dX9_undo_20 : decode cX9_undo 20 = .ok (.istore_n 1, 1) := DX9_undo_0.2.2.2.2.2.2.2.2.2.2.2.2.1
theorem dX9_undo_21 : decode cX9_undo 21 = .ok (.iload_n 1, 1) := DX9_undo_0.2.2.2.2.2.2.2.2.2.2.2.2.2.1
theorem dX9_undo_22 : decode cX9_undo 22 = .ok (.sipush 331, 3) := DX9_undo_0.2.2.2.2.2.2.2.2.2.2.2.2.2.2.1
theorem dX9_undo_25 : decode cX9_undo 25 = .ok (.if_icmp .ge 30, 3) := DX9_undo_0.2.2.2.2.2.2.2.2.2.2.2.2.2.2.2.1
theorem DX9_undo_28 : dAre cX9_undo [(28, .aload_n 0, 1), (29, .getfield 31, 3), (32, .iload_n 1, 1), (33, .aload_n 0, 1), (34, .getfield 65, 3), (37, .sipush 331, 3), (40, .aload_n 0, 1), (41, .getfield 204, 3), (44, .imul, 1), (45, .iload_n 1, 1), (46, .iadd, 1), (47, .iaload, 1), (48, .iastore, 1), (49, .iinc 1 1, 3), (52, .goto (-31), 3), (55, .aload_n 0, 1)] := dAre0 (by decide +kernel)
theorem dX9_undo_28 : decode cX9_undo 28 = .ok (.aload_n 0, 1) := DX9_undo_28.1
theorem dX9_undo_29 : decode cX9_undo 29 = .ok (.getfield 31, 3) := DX9_undo_28.2.1
theorem dX9_undo_32 : decode cX9_undo 32 = .ok (.iload_n 1, 1) := DX9_undo_28.2.2.1
theorem dX9_undo_33 : decode cX9_undo 33 = .ok (.aload_n 0, 1) := DX9_undo_28.2.2.2.1
theorem dX9_undo_34 : decode cX9_undo 34 = .ok (.getfield 65, 3) := DX9_undo_28.2.2.2.2.1
theorem dX9_undo_37 : decode cX9_undo 37 = .ok (.sipush 331, 3) := DX9_undo_28.2.2.2.2.2.1
theorem dX9_undo_40 : decode cX9_undo 40 = .ok (.aload_n 0, 1) := DX9_undo_28.2.2.2.2.2.2.1
theorem dX9_undo_41 : decode cX9_undo 41 = .ok (.getfield 204, 3) := DX9_undo_28.2.2.2.2.2.2.2.1
theorem dX9_undo_44 : decode cX9_undo 44 = .ok (.imul, 1) := DX9_undo_28.2.2.2.2.2.2.2.2.1
theorem dX9_undo_45 : decode cX9_undo 45 = .ok (.iload_n 1, 1) := DX9_undo_28.2.2.2.2.2.2.2.2.2.1
theorem dX9_undo_46 : decode cX9_undo 46 = .ok (.iadd, 1) := DX9_undo_28.2.2.2.2.2.2.2.2.2.2.1
theorem dX9_undo_47 : decode cX9_undo 47 = .ok (.iaload, 1) := DX9_undo_28.2.2.2.2.2.2.2.2.2.2.2.1
theorem dX9_undo_48 : decode cX9_undo 48 = .ok (.iastore, 1) := DX9_undo_28.2.2.2.2.2.2.2.2.2.2.2.2.1
theorem dX9_undo_49 : decode cX9_undo 49 = .ok (.iinc 1 1, 3) := DX9_undo_28.2.2.2.2.2.2.2.2.2.2.2.2.2.1
theorem dX9_undo_52 : decode cX9_undo 52 = .ok (.goto (-31), 3) := DX9_undo_28.2.2.2.2.2.2.2.2.2.2.2.2.2.2.1
theorem dX9_undo_55 : decode cX9_undo 55 = .ok (.aload_n 0, 1) := DX9_undo_28.2.2.2.2.2.2.2.2.2.2.2.2.2.2.2.1
theorem dX9_undo_56 : decode cX9_undo 56 = .ok (.getfield 204, 3) := by decide +kernel
theorem dX9_undo_59 : decode cX9_undo 59 = .ok (.ireturn, 1) := by decide +kernel
theorem mX9_undo : gMv yX9_undo cX9_undo 2 (some .int) RX9 0 := ⟨q1136, q1137, q10, q1138, rfl, by decide, by decide, by decide +kernel⟩
noncomputable def lX9_undo_21 : (Int32 × gM) → Option (gM) :=
  itO fun s =>
    if (331 : Int32) ≤ s.1 then
      some (.inr s.2)
    else
      (rI 13240 (s.2 81) (((331 : Int32) * (s.2 62 29)) + s.1)).bind fun u2 =>
      (wI s.2 70 331 s.1 u2).bind fun I3 =>
      some (.inl (s.1 + 1, I3))
set_option maxRecDepth 100000 in
set_option maxHeartbeats 4000000 in
theorem wlX9_undo_21 {z : gZ} {E : gE} {bk : Nat} (F : Fx z sh E "LeapJoinModel" cX9_undo (gR 0) 2) (B : bZ z bk) (hE : gDist sh E) (J : gN) {r : gM} : ∀ s : Int32 × gM, lX9_undo_21 s = some r → (G z 55 [(0, .ref (E.2.1 62))] [] r J) → G z 21 [(0, .ref (E.2.1 62)), (1, .int s.1)] [] s.2 J := by
  intro s h X0
  unfold lX9_undo_21 at h
  revert s
  refine itO_ind (P := fun s : Int32 × gM => G z 21 [(0, .ref (E.2.1 62)), (1, .int s.1)] [] s.2 J) (fun s y h hl hr => ?_)
  have K21_0 : ∀ x : gM, y = .inr x → (G z 55 [(0, .ref (E.2.1 62))] [] x J) := fun x q => by have q2 := hr _ q; subst q2; exact X0
  refine g_iload_n F 1 dX9_undo_21 rfl rfl ?_
  refine g_sipush (v := 331) F dX9_undo_22 (by decide) ?_
  refine u_icmp_ge (tgt := 55) F dX9_undo_25 (by decide) h (fun h => ?_) (fun h => ?_)
  · obtain rfl := Option.some.inj h
    refine g_sub (Ln := [(0, .ref (E.2.1 62))]) [0] rfl ?_
    exact K21_0 s.2 rfl
  · refine g_aload_n F 0 dX9_undo_28 rfl rfl ?_
    refine g_getr (j := 13) (nn := 70) F s62 rfl rfl uX9 (by decide) q834 dX9_undo_29 ?_
    refine g_iload_n F 1 dX9_undo_32 rfl rfl ?_
    refine g_aload_n F 0 dX9_undo_33 rfl rfl ?_
    refine g_getr (j := 28) (nn := 81) F s62 rfl rfl uX9 (by decide) q849 dX9_undo_34 ?_
    refine g_sipush (v := 331) F dX9_undo_37 (by decide) ?_
    refine g_aload_n F 0 dX9_undo_40 rfl rfl ?_
    refine g_geti (j := 29) (v := s.2 62 29) F s62 rfl rfl uX9 (by decide) q850 rfl dX9_undo_41 ?_
    refine g_imul (v := (331 : Int32) * (s.2 62 29)) F dX9_undo_44 rfl ?_
    refine g_iload_n F 1 dX9_undo_45 rfl rfl ?_
    refine g_iadd (v := ((331 : Int32) * (s.2 62 29)) + s.1) F dX9_undo_46 rfl ?_
    refine u_rI F s81 (by decide) dX9_undo_47 h (fun u2 h => ?_)
    refine u_wI F s70 (by decide) dX9_undo_48 h (fun I3 h => ?_)
    refine g_iinc (v := s.1 + 1) (Ln := [(1, .int (s.1 + 1)), (0, .ref (E.2.1 62))]) F 1 dX9_undo_49 rfl (add_c (by decide)) (by decide) rfl ?_
    refine g_goto (tgt := 21) F dX9_undo_52 (by decide) ?_
    obtain rfl := Option.some.inj h
    refine g_sub (Ln := [(0, .ref (E.2.1 62)), (1, .int (s.1 + 1))]) [1, 0] rfl ?_
    exact hl (s.1 + 1, I3) rfl
noncomputable def fX9_undo (I : gM) : Option (Int32 × gM) :=
  if (I 62 29) = 0 then
    some (((-1) : Int32), I)
  else
    (pU I 62 29 ((I 62 29) - 1)).bind fun I1 =>
    (lX9_undo_21 ((0 : Int32), I1)).bind fun w4 =>
    some (w4 62 29, w4)
set_option maxRecDepth 100000 in
set_option maxHeartbeats 4000000 in
theorem wX9_undo (l : Launch) (E : gE) (hE : gDist sh E) (bk : Nat) (I : gM) (J : gN) {r : Int32 × gM} (h : fX9_undo I = some r) : Cu l sh E bk yX9_undo cX9_undo 2 (some .int) (gR 0) [.ref (E.2.1 62)] I J (fun r1 I1 J1 => r1 = some (.int r.1) ∧ I1 = r.2 ∧ J1 = J) := by
  refine Cu.of "LeapJoinModel" rfl hE (by decide) (Nat.le_of_ble_eq_true rfl) (fun z F B e hl => ?_)
  subst hl
  unfold fX9_undo at h
  refine g_aload_n F 0 dX9_undo_0 rfl rfl ?_
  refine g_geti (j := 29) (v := I 62 29) F s62 rfl rfl uX9 (by decide) q850 rfl dX9_undo_1 ?_
  refine u_if_ne (tgt := 9) F dX9_undo_4 (by decide) h (fun h => ?_) (fun h => ?_)
  · refine g_iconst (v := (-1)) F dX9_undo_7 (by decide) ?_
    obtain rfl := Option.some.inj h
    exact g_iret F e dX9_undo_8 ⟨rfl, rfl, rfl⟩
  · refine g_aload_n F 0 dX9_undo_9 rfl rfl ?_
    refine g_dup F dX9_undo_10 rfl ?_
    refine g_geti (j := 29) (v := I 62 29) F s62 rfl rfl uX9 (by decide) q850 rfl dX9_undo_11 ?_
    refine g_iconst (v := 1) F dX9_undo_14 (by decide) ?_
    refine g_isub (v := (I 62 29) - 1) F dX9_undo_15 rfl ?_
    refine u_puti (j := 29) F s62 rfl rfl uX9 (by decide) q850 tyX9_ok nmX9 rfl rfl rfl dX9_undo_16 h (fun I1 h => ?_)
    refine g_iconst (v := 0) F dX9_undo_19 (by decide) ?_
    refine g_istore_n (Ln := [(1, .int 0), (0, .ref (E.2.1 62))]) F dX9_undo_20 rfl (by decide) rfl ?_
    obtain ⟨w4, ew4, h⟩ := ob h
    refine g_sub (Ln := [(0, .ref (E.2.1 62)), (1, .int 0)]) [1, 0] rfl ?_
    refine wlX9_undo_21 F B hE J _ ew4 ?_
    refine g_aload_n F 0 dX9_undo_55 rfl rfl ?_
    refine g_geti (j := 29) (v := w4 62 29) F s62 rfl rfl uX9 (by decide) q850 rfl dX9_undo_56 ?_
    obtain rfl := Option.some.inj h
    exact g_iret F e dX9_undo_59 ⟨rfl, rfl, rfl⟩
theorem DX9_log_0 : dAre cX9_log [(0, .iload_n 1, 1), (1, .iconst 0, 1), (2, .aload_n 0, 1), (3, .getfield 31, 3), (6, .sipush 150, 3), (9, .iaload, 1), (10, .iconst 1, 1), (11, .isub, 1), (12, .invokestatic 104, 3), (15, .ifCond .eq 40, 3), (18, .iload_n 2, 1), (19, .iconst 0, 1), (20, .iconst 2, 1), (21, .invokestatic 104, 3), (24, .ifCond .eq 31, 3), (27, .aload_n 0, 1)] := dAre0 (by decide +kernel)
theorem dX9_log_0 : decode cX9_log 0 = .ok (.iload_n 1, 1) := DX9_log_0.1
theorem dX9_log_1 : decode cX9_log 1 = .ok (.iconst 0, 1) := DX9_log_0.2.1
theorem dX9_log_2 : decode cX9_log 2 = .ok (.aload_n 0, 1) := DX9_log_0.2.2.1
theorem dX9_log_3 : decode cX9_log 3 = .ok (.getfield 31, 3) := DX9_log_0.2.2.2.1
theorem dX9_log_6 : decode cX9_log 6 = .ok (.sipush 150, 3) := DX9_log_0.2.2.2.2.1
theorem dX9_log_9 : decode cX9_log 9 = .ok (.iaload, 1) := DX9_log_0.2.2.2.2.2.1
theorem dX9_log_10 : decode cX9_log 10 = .ok (.iconst 1, 1) := DX9_log_0.2.2.2.2.2.2.1
theorem dX9_log_11 : decode cX9_log 11 = .ok (.isub, 1) := DX9_log_0.2.2.2.2.2.2.2.1
theorem dX9_log_12 : decode cX9_log 12 = .ok (.invokestatic 104, 3) := DX9_log_0.2.2.2.2.2.2.2.2.1
theorem dX9_log_15 : decode cX9_log 15 = .ok (.ifCond .eq 40, 3) := DX9_log_0.2.2.2.2.2.2.2.2.2.1
theorem dX9_log_18 : decode cX9_log 18 = .ok (.iload_n 2, 1) := DX9_log_0.2.2.2.2.2.2.2.2.2.2.1
theorem dX9_log_19 : decode cX9_log 19 = .ok (.iconst 0, 1) := DX9_log_0.2.2.2.2.2.2.2.2.2.2.2.1
theorem dX9_log_20 : decode cX9_log 20 = .ok (.iconst 2, 1) := DX9_log_0.2.2.2.2.2.2.2.2.2.2.2.2.1
theorem dX9_log_21 : decode cX9_log 21 = .ok (.invokestatic 104, 3) := DX9_log_0.2.2.2.2.2.2.2.2.2.2.2.2.2.1
theorem dX9_log_24 : decode cX9_log 24 = .ok (.ifCond .eq 31, 3) := DX9_log_0.2.2.2.2.2.2.2.2.2.2.2.2.2.2.1
theorem dX9_log_27 : decode cX9_log 27 = .ok (.aload_n 0, 1) := DX9_log_0.2.2.2.2.2.2.2.2.2.2.2.2.2.2.2.1
theorem DX9_log_28 : dAre cX9_log [(28, .getfield 31, 3), (31, .sipush 151, 3), (34, .iconst 3, 1), (35, .aload_n 0, 1), (36, .getfield 31, 3), (39, .sipush 150, 3), (42, .iaload, 1), (43, .iconst 1, 1), (44, .isub, 1), (45, .iload_n 1, 1), (46, .isub, 1), (47, .imul, 1), (48, .iadd, 1), (49, .iload_n 2, 1), (50, .iadd, 1), (51, .iaload, 1)] := dAre0 (by decide +kernel)
theorem dX9_log_28 : decode cX9_log 28 = .ok (.getfield 31, 3) := DX9_log_28.1
theorem dX9_log_31 : decode cX9_log 31 = .ok (.sipush 151, 3) := DX9_log_28.2.1
theorem dX9_log_34 : decode cX9_log 34 = .ok (.iconst 3, 1) := DX9_log_28.2.2.1
theorem dX9_log_35 : decode cX9_log 35 = .ok (.aload_n 0, 1) := DX9_log_28.2.2.2.1
theorem dX9_log_36 : decode cX9_log 36 = .ok (.getfield 31, 3) := DX9_log_28.2.2.2.2.1
theorem dX9_log_39 : decode cX9_log 39 = .ok (.sipush 150, 3) := DX9_log_28.2.2.2.2.2.1
theorem dX9_log_42 : decode cX9_log 42 = .ok (.iaload, 1) := DX9_log_28.2.2.2.2.2.2.1
theorem dX9_log_43 : decode cX9_log 43 = .ok (.iconst 1, 1) := DX9_log_28.2.2.2.2.2.2.2.1
theorem dX9_log_44 : decode cX9_log 44 = .ok (.isub, 1) := DX9_log_28.2.2.2.2.2.2.2.2.1
theorem dX9_log_45 : decode cX9_log 45 = .ok (.iload_n 1, 1) := DX9_log_28.2.2.2.2.2.2.2.2.2.1
theorem dX9_log_46 : decode cX9_log 46 = .ok (.isub, 1) := DX9_log_28.2.2.2.2.2.2.2.2.2.2.1
theorem dX9_log_47 : decode cX9_log 47 = .ok (.imul, 1) := DX9_log_28.2.2.2.2.2.2.2.2.2.2.2.1
theorem dX9_log_48 : decode cX9_log 48 = .ok (.iadd, 1) := DX9_log_28.2.2.2.2.2.2.2.2.2.2.2.2.1
theorem dX9_log_49 : decode cX9_log 49 = .ok (.iload_n 2, 1) := DX9_log_28.2.2.2.2.2.2.2.2.2.2.2.2.2.1
theorem dX9_log_50 : decode cX9_log 50 = .ok (.iadd, 1) := DX9_log_28.2.2.2.2.2.2.2.2.2.2.2.2.2.2.1
theorem dX9_log_51 : decode cX9_log 51 = .ok (.iaload, 1) := DX9_log_28.2.2.2.2.2.2.2.2.2.2.2.2.2.2.2.1
theorem DX9_log_52 : dAre cX9_log [(52, .goto 6, 3), (55, .ldc_w 338, 3), (58, .ireturn, 1)] := dAre0 (by decide +kernel)
theorem dX9_log_52 : decode cX9_log 52 = .ok (.goto 6, 3) := DX9_log_52.1
theorem dX9_log_55 : decode cX9_log 55 = .ok (.ldc_w 338, 3) := DX9_log_52.2.1
theorem dX9_log_58 : decode cX9_log 58 = .ok (.ireturn, 1) := DX9_log_52.2.2.1
theorem mX9_log : gMv yX9_log cX9_log 3 (some .int) RX9 2 := ⟨q1140, q1141, q10, q1142, rfl, by decide, by decide, by decide +kernel⟩
noncomputable def fX9_log (v1 : Int32) (v2 : Int32) (I : gM) : Option (Int32) :=
  (rI 331 (I 70) (150 : Int32)).bind fun u1 =>
  (fX9_in v1 (0 : Int32) (u1 - 1)).bind fun r2 =>
  if r2 = 0 then
    some ((-1000000) : Int32)
  else
    (fX9_in v2 (0 : Int32) (2 : Int32)).bind fun r3 =>
    if r3 = 0 then
      some ((-1000000) : Int32)
    else
      (rI 331 (I 70) (150 : Int32)).bind fun u4 =>
      (rI 331 (I 70) (((151 : Int32) + ((3 : Int32) * ((u4 - 1) - v1))) + v2)).bind fun u5 =>
      some u5
set_option maxRecDepth 100000 in
set_option maxHeartbeats 4000000 in
theorem wX9_log (l : Launch) (E : gE) (hE : gDist sh E) (bk : Nat) (v1 : Int32) (v2 : Int32) (I : gM) (J : gN) {r : Int32} (h : fX9_log v1 v2 I = some r) : Cu l sh E bk yX9_log cX9_log 3 (some .int) (gR 1) [.ref (E.2.1 62), .int v1, .int v2] I J (fun r1 I1 J1 => r1 = some (.int r) ∧ I1 = I ∧ J1 = J) := by
  refine Cu.of "LeapJoinModel" rfl hE (by decide) (Nat.le_of_ble_eq_true rfl) (fun z F B e hl => ?_)
  subst hl
  unfold fX9_log at h
  refine g_iload_n F 1 dX9_log_0 rfl rfl ?_
  refine g_iconst (v := 0) F dX9_log_1 (by decide) ?_
  refine g_aload_n F 0 dX9_log_2 rfl rfl ?_
  refine g_getr (j := 13) (nn := 70) F s62 rfl rfl uX9 (by decide) q834 dX9_log_3 ?_
  refine g_sipush (v := 150) F dX9_log_6 (by decide) ?_
  refine u_rI F s70 (by decide) dX9_log_9 h (fun u1 h => ?_)
  refine g_iconst (v := 1) F dX9_log_10 (by decide) ?_
  refine g_isub (v := u1 - 1) F dX9_log_11 rfl ?_
  refine u_callS (As := [.int v1, .int 0, .int (u1 - 1)]) (rest := []) (sn := fun r2 => [.int r2]) F B (fun _ => wX9_in (zl z) E hE bk v1 (0 : Int32) (u1 - 1) I J) mX9_in q923 rfl rfl rfl (Nat.le_of_ble_eq_true rfl) dX9_log_12 (fun _ => rfl) h (fun r2 h => ?_)
  refine u_if_eq (tgt := 55) F dX9_log_15 (by decide) h (fun h => ?_) (fun h => ?_)
  · refine g_ldc_w F dX9_log_55 q1143 ?_
    obtain rfl := Option.some.inj h
    exact g_iret F e dX9_log_58 ⟨rfl, rfl, rfl⟩
  · refine g_iload_n F 2 dX9_log_18 rfl rfl ?_
    refine g_iconst (v := 0) F dX9_log_19 (by decide) ?_
    refine g_iconst (v := 2) F dX9_log_20 (by decide) ?_
    refine u_callS (As := [.int v2, .int 0, .int 2]) (rest := []) (sn := fun r3 => [.int r3]) F B (fun _ => wX9_in (zl z) E hE bk v2 (0 : Int32) (2 : Int32) I J) mX9_in q923 rfl rfl rfl (Nat.le_of_ble_eq_true rfl) dX9_log_21 (fun _ => rfl) h (fun r3 h => ?_)
    refine u_if_eq (tgt := 55) F dX9_log_24 (by decide) h (fun h => ?_) (fun h => ?_)
    · refine g_ldc_w F dX9_log_55 q1143 ?_
      obtain rfl := Option.some.inj h
      exact g_iret F e dX9_log_58 ⟨rfl, rfl, rfl⟩
    · refine g_aload_n F 0 dX9_log_27 rfl rfl ?_
      refine g_getr (j := 13) (nn := 70) F s62 rfl rfl uX9 (by decide) q834 dX9_log_28 ?_
      refine g_sipush (v := 151) F dX9_log_31 (by decide) ?_
      refine g_iconst (v := 3) F dX9_log_34 (by decide) ?_
      refine g_aload_n F 0 dX9_log_35 rfl rfl ?_
      refine g_getr (j := 13) (nn := 70) F s62 rfl rfl uX9 (by decide) q834 dX9_log_36 ?_
      refine g_sipush (v := 150) F dX9_log_39 (by decide) ?_
      refine u_rI F s70 (by decide) dX9_log_42 h (fun u4 h => ?_)
      refine g_iconst (v := 1) F dX9_log_43 (by decide) ?_
      refine g_isub (v := u4 - 1) F dX9_log_44 rfl ?_
      refine g_iload_n F 1 dX9_log_45 rfl rfl ?_
      refine g_isub (v := (u4 - 1) - v1) F dX9_log_46 rfl ?_
      refine g_imul (v := (3 : Int32) * ((u4 - 1) - v1)) F dX9_log_47 rfl ?_
      refine g_iadd (v := (151 : Int32) + ((3 : Int32) * ((u4 - 1) - v1))) F dX9_log_48 rfl ?_
      refine g_iload_n F 2 dX9_log_49 rfl rfl ?_
      refine g_iadd (v := ((151 : Int32) + ((3 : Int32) * ((u4 - 1) - v1))) + v2) F dX9_log_50 rfl ?_
      refine u_rI F s70 (by decide) dX9_log_51 h (fun u5 h => ?_)
      refine g_goto (tgt := 58) F dX9_log_52 (by decide) ?_
      obtain rfl := Option.some.inj h
      exact g_iret F e dX9_log_58 ⟨rfl, rfl, rfl⟩
theorem DX9_rowsOfAll_0 : dAre cX9_rowsOfAll [(0, .iconst 0, 1), (1, .istore_n 1, 1), (2, .iconst 0, 1), (3, .istore_n 2, 1), (4, .iload_n 2, 1), (5, .aload_n 0, 1), (6, .getfield 173, 3), (9, .if_icmp .ge 17, 3), (12, .iload_n 1, 1), (13, .aload_n 0, 1), (14, .iload_n 2, 1), (15, .invokevirtual 186, 3), (18, .iadd, 1), (19, .istore_n 1, 1), (20, .iinc 2 1, 3), (23, .goto (-19), 3)] := dAre0 (by decide +kernel)
theorem dX9_rowsOfAll_0 : decode cX9_rowsOfAll 0 = .ok (.iconst 0, 1) := DX9_rowsOfAll_0.1
theorem dX9_rowsOfAll_1 : decode cX9_rowsOfAll 1 = .ok (.istore_n 1, 1) := DX9_rowsOfAll_0.2.1
theorem dX9_rowsOfAll_2 : decode cX9_rowsOfAll 2 = .ok (.iconst 0, 1) := DX9_rowsOfAll_0.2.2.1
theorem dX9_rowsOfAll_3 : decode cX9_rowsOfAll 3 = .ok (.istore_n 2, 1) := DX9_rowsOfAll_0.2.2.2.1
theorem dX9_rowsOfAll_4 : decode cX9_rowsOfAll 4 = .ok (.iload_n 2, 1) := DX9_rowsOfAll_0.2.2.2.2.1
theorem dX9_rowsOfAll_5 : decode cX9_rowsOfAll 5 = .ok (.aload_n 0, 1) := DX9_rowsOfAll_0.2.2.2.2.2.1
theorem dX9_rowsOfAll_6 : decode cX9_rowsOfAll 6 = .ok (.getfield 173, 3) := DX9_rowsOfAll_0.2.2.2.2.2.2.1
theorem dX9_rowsOfAll_9 : decode cX9_rowsOfAll 9 = .ok (.if_icmp .ge 17, 3) := DX9_rowsOfAll_0.2.2.2.2.2.2.2.1
theorem dX9_rowsOfAll_12 : decode cX9_rowsOfAll 12 = .ok (.iload_n 1, 1) := DX9_rowsOfAll_0.2.2.2.2.2.2.2.2.1
theorem dX9_rowsOfAll_13 : decode cX9_rowsOfAll 13 = .ok (.aload_n 0, 1) := DX9_rowsOfAll_0.2.2.2.2.2.2.2.2.2.1
theorem dX9_rowsOfAll_14 : decode cX9_rowsOfAll 14 = .ok (.iload_n 2, 1) := DX9_rowsOfAll_0.2.2.2.2.2.2.2.2.2.2.1
theorem dX9_rowsOfAll_15 : decode cX9_rowsOfAll 15 = .ok (.invokevirtual 186, 3) := DX9_rowsOfAll_0.2.2.2.2.2.2.2.2.2.2.2.1
theorem dX9_rowsOfAll_18 : decode cX9_rowsOfAll 18 = .ok (.iadd, 1) := DX9_rowsOfAll_0.2.2.2.2.2.2.2.2.2.2.2.2.1
theorem dX9_rowsOfAll_19 : decode cX9_rowsOfAll 19 = .ok (.istore_n 1, 1) := DX9_rowsOfAll_0.2.2.2.2.2.2.2.2.2.2.2.2.2.1
theorem dX9_rowsOfAll_20 : decode cX9_rowsOfAll 20 = .ok (.iinc 2 1, 3) := DX9_rowsOfAll_0.2.2.2.2.2.2.2.2.2.2.2.2.2.2.1
theorem dX9_rowsOfAll_23 : decode cX9_rowsOfAll 23 = .ok (.goto (-19), 3) := DX9_rowsOfAll_0.2.2.2.2.2.2.2.2.2.2.2.2.2.2.2.1
theorem dX9_rowsOfAll_26 : decode cX9_rowsOfAll 26 = .ok (.iload_n 1, 1) := by decide +kernel
theorem dX9_rowsOfAll_27 : decode cX9_rowsOfAll 27 = .ok (.ireturn, 1) := by decide +kernel
theorem mX9_rowsOfAll : gMv yX9_rowsOfAll cX9_rowsOfAll 3 (some .int) RX9 0 := ⟨q1149, q1436, q10, q1150, rfl, by decide, by decide, by decide +kernel⟩
noncomputable def lX9_rowsOfAll_4 (I : gM) : (Int32 × Int32) → Option (Int32) :=
  itO fun s =>
    if (I 62 17) ≤ s.2 then
      some (.inr s.1)
    else
      (fX9_many s.2 I).bind fun r1 =>
      some (.inl (s.1 + r1, s.2 + 1))
set_option maxRecDepth 100000 in
set_option maxHeartbeats 4000000 in
theorem wlX9_rowsOfAll_4 {z : gZ} {E : gE} {bk : Nat} (F : Fx z sh E "LeapJoinModel" cX9_rowsOfAll (gR 1) 3) (B : bZ z bk) (hE : gDist sh E) (I : gM) (J : gN) {r : Int32} : ∀ s : Int32 × Int32, lX9_rowsOfAll_4 I s = some r → (G z 26 [(1, .int r)] [] I J) → G z 4 [(0, .ref (E.2.1 62)), (1, .int s.1), (2, .int s.2)] [] I J := by
  intro s h X0
  unfold lX9_rowsOfAll_4 at h
  revert s
  refine itO_ind (P := fun s : Int32 × Int32 => G z 4 [(0, .ref (E.2.1 62)), (1, .int s.1), (2, .int s.2)] [] I J) (fun s y h hl hr => ?_)
  have K4_0 : ∀ x : Int32, y = .inr x → (G z 26 [(1, .int x)] [] I J) := fun x q => by have q2 := hr _ q; subst q2; exact X0
  refine g_iload_n F 2 dX9_rowsOfAll_4 rfl rfl ?_
  refine g_aload_n F 0 dX9_rowsOfAll_5 rfl rfl ?_
  refine g_geti (j := 17) (v := I 62 17) F s62 rfl rfl uX9 (by decide) q838 rfl dX9_rowsOfAll_6 ?_
  refine u_icmp_ge (tgt := 26) F dX9_rowsOfAll_9 (by decide) h (fun h => ?_) (fun h => ?_)
  · obtain rfl := Option.some.inj h
    refine g_sub (Ln := [(1, .int s.1)]) [1] rfl ?_
    exact K4_0 s.1 rfl
  · refine g_iload_n F 1 dX9_rowsOfAll_12 rfl rfl ?_
    refine g_aload_n F 0 dX9_rowsOfAll_13 rfl rfl ?_
    refine g_iload_n F 2 dX9_rowsOfAll_14 rfl rfl ?_
    refine u_callV (k := 62) (As := [.int s.2]) (rest := [.int s.1]) (sn := fun r1 => [.int r1, .int s.1]) F B (fun _ => wX9_many (zl z) E hE bk s.2 I J) mX9_many q994 rfl s62 rfl rfl rfl (Nat.le_of_ble_eq_true rfl) dX9_rowsOfAll_15 (fun _ => rfl) h (fun r1 h => ?_)
    refine g_iadd (v := s.1 + r1) F dX9_rowsOfAll_18 rfl ?_
    refine g_istore_n (Ln := [(1, .int (s.1 + r1)), (0, .ref (E.2.1 62)), (2, .int s.2)]) F dX9_rowsOfAll_19 rfl (by decide) rfl ?_
    refine g_iinc (v := s.2 + 1) (Ln := [(2, .int (s.2 + 1)), (1, .int (s.1 + r1)), (0, .ref (E.2.1 62))]) F 2 dX9_rowsOfAll_20 rfl (add_c (by decide)) (by decide) rfl ?_
    refine g_goto (tgt := 4) F dX9_rowsOfAll_23 (by decide) ?_
    obtain rfl := Option.some.inj h
    refine g_sub (Ln := [(0, .ref (E.2.1 62)), (1, .int (s.1 + r1)), (2, .int (s.2 + 1))]) [2, 1, 0] rfl ?_
    exact hl (s.1 + r1, s.2 + 1) rfl
noncomputable def fX9_rowsOfAll (I : gM) : Option (Int32) :=
  (lX9_rowsOfAll_4 I ((0 : Int32), (0 : Int32))).bind fun w2 =>
  some w2
set_option maxRecDepth 100000 in
set_option maxHeartbeats 4000000 in
theorem wX9_rowsOfAll (l : Launch) (E : gE) (hE : gDist sh E) (bk : Nat) (I : gM) (J : gN) {r : Int32} (h : fX9_rowsOfAll I = some r) : Cu l sh E bk yX9_rowsOfAll cX9_rowsOfAll 3 (some .int) (gR 1) [.ref (E.2.1 62)] I J (fun r1 I1 J1 => r1 = some (.int r) ∧ I1 = I ∧ J1 = J) := by
  refine Cu.of "LeapJoinModel" rfl hE (by decide) (Nat.le_of_ble_eq_true rfl) (fun z F B e hl => ?_)
  subst hl
  unfold fX9_rowsOfAll at h
  refine g_iconst (v := 0) F dX9_rowsOfAll_0 (by decide) ?_
  refine g_istore_n (Ln := [(1, .int 0), (0, .ref (E.2.1 62))]) F dX9_rowsOfAll_1 rfl (by decide) rfl ?_
  refine g_iconst (v := 0) F dX9_rowsOfAll_2 (by decide) ?_
  refine g_istore_n (Ln := [(2, .int 0), (1, .int 0), (0, .ref (E.2.1 62))]) F dX9_rowsOfAll_3 rfl (by decide) rfl ?_
  obtain ⟨w2, ew2, h⟩ := ob h
  refine g_sub (Ln := [(0, .ref (E.2.1 62)), (1, .int 0), (2, .int 0)]) [2, 1, 0] rfl ?_
  refine wlX9_rowsOfAll_4 F B hE I J _ ew2 ?_
  refine g_iload_n F 0 dX9_rowsOfAll_26 rfl rfl ?_
  obtain rfl := Option.some.inj h
  exact g_iret F e dX9_rowsOfAll_27 ⟨rfl, rfl, rfl⟩
theorem dX9_rule_19 : decode cX9_rule 19 = .ok (.tableswitch 53 0 3 #[29, 34, 41, 48], 29) := by decide +kernel
theorem DX9_rule_0 : dAre cX9_rule [(0, .aload_n 0, 1), (1, .invokevirtual 277, 3), (4, .ifCond .eq 12, 3), (7, .iload_n 1, 1), (8, .iconst 0, 1), (9, .iconst 4, 1), (10, .invokestatic 104, 3), (13, .ifCond .ne 5, 3), (16, .iconst (-1), 1), (17, .ireturn, 1), (18, .iload_n 1, 1), (48, .aload_n 0, 1), (49, .getfield 173, 3), (52, .ireturn, 1), (53, .aload_n 0, 1), (54, .getfield 31, 3)] := dAre0 (by decide +kernel)
theorem dX9_rule_0 : decode cX9_rule 0 = .ok (.aload_n 0, 1) := DX9_rule_0.1
theorem dX9_rule_1 : decode cX9_rule 1 = .ok (.invokevirtual 277, 3) := DX9_rule_0.2.1
theorem dX9_rule_4 : decode cX9_rule 4 = .ok (.ifCond .eq 12, 3) := DX9_rule_0.2.2.1
theorem dX9_rule_7 : decode cX9_rule 7 = .ok (.iload_n 1, 1) := DX9_rule_0.2.2.2.1
theorem dX9_rule_8 : decode cX9_rule 8 = .ok (.iconst 0, 1) := DX9_rule_0.2.2.2.2.1
theorem dX9_rule_9 : decode cX9_rule 9 = .ok (.iconst 4, 1) := DX9_rule_0.2.2.2.2.2.1
theorem dX9_rule_10 : decode cX9_rule 10 = .ok (.invokestatic 104, 3) := DX9_rule_0.2.2.2.2.2.2.1
theorem dX9_rule_13 : decode cX9_rule 13 = .ok (.ifCond .ne 5, 3) := DX9_rule_0.2.2.2.2.2.2.2.1
theorem dX9_rule_16 : decode cX9_rule 16 = .ok (.iconst (-1), 1) := DX9_rule_0.2.2.2.2.2.2.2.2.1
theorem dX9_rule_17 : decode cX9_rule 17 = .ok (.ireturn, 1) := DX9_rule_0.2.2.2.2.2.2.2.2.2.1
theorem dX9_rule_18 : decode cX9_rule 18 = .ok (.iload_n 1, 1) := DX9_rule_0.2.2.2.2.2.2.2.2.2.2.1
theorem dX9_rule_48 : decode cX9_rule 48 = .ok (.aload_n 0, 1) := DX9_rule_0.2.2.2.2.2.2.2.2.2.2.2.1
theorem dX9_rule_49 : decode cX9_rule 49 = .ok (.getfield 173, 3) := DX9_rule_0.2.2.2.2.2.2.2.2.2.2.2.2.1
theorem dX9_rule_52 : decode cX9_rule 52 = .ok (.ireturn, 1) := DX9_rule_0.2.2.2.2.2.2.2.2.2.2.2.2.2.1
theorem dX9_rule_53 : decode cX9_rule 53 = .ok (.aload_n 0, 1) := DX9_rule_0.2.2.2.2.2.2.2.2.2.2.2.2.2.2.1
theorem dX9_rule_54 : decode cX9_rule 54 = .ok (.getfield 31, 3) := DX9_rule_0.2.2.2.2.2.2.2.2.2.2.2.2.2.2.2.1
theorem DX9_rule_57 : dAre cX9_rule [(57, .iconst 0, 1), (58, .iaload, 1), (59, .ireturn, 1), (60, .aload_n 0, 1), (61, .getfield 31, 3), (64, .iconst 1, 1), (65, .iaload, 1), (66, .ireturn, 1), (67, .aload_n 0, 1), (68, .invokevirtual 220, 3), (71, .ireturn, 1), (72, .aload_n 0, 1), (73, .invokevirtual 339, 3), (76, .ireturn, 1)] := dAre0 (by decide +kernel)
theorem dX9_rule_57 : decode cX9_rule 57 = .ok (.iconst 0, 1) := DX9_rule_57.1
theorem dX9_rule_58 : decode cX9_rule 58 = .ok (.iaload, 1) := DX9_rule_57.2.1
theorem dX9_rule_59 : decode cX9_rule 59 = .ok (.ireturn, 1) := DX9_rule_57.2.2.1
theorem dX9_rule_60 : decode cX9_rule 60 = .ok (.aload_n 0, 1) := DX9_rule_57.2.2.2.1
theorem dX9_rule_61 : decode cX9_rule 61 = .ok (.getfield 31, 3) := DX9_rule_57.2.2.2.2.1
theorem dX9_rule_64 : decode cX9_rule 64 = .ok (.iconst 1, 1) := DX9_rule_57.2.2.2.2.2.1
theorem dX9_rule_65 : decode cX9_rule 65 = .ok (.iaload, 1) := DX9_rule_57.2.2.2.2.2.2.1
theorem dX9_rule_66 : decode cX9_rule 66 = .ok (.ireturn, 1) := DX9_rule_57.2.2.2.2.2.2.2.1
theorem dX9_rule_67 : decode cX9_rule 67 = .ok (.aload_n 0, 1) := DX9_rule_57.2.2.2.2.2.2.2.2.1
theorem dX9_rule_68 : decode cX9_rule 68 = .ok (.invokevirtual 220, 3) := DX9_rule_57.2.2.2.2.2.2.2.2.2.1
theorem dX9_rule_71 : decode cX9_rule 71 = .ok (.ireturn, 1) := DX9_rule_57.2.2.2.2.2.2.2.2.2.2.1
theorem dX9_rule_72 : decode cX9_rule 72 = .ok (.aload_n 0, 1) := DX9_rule_57.2.2.2.2.2.2.2.2.2.2.2.1
theorem dX9_rule_73 : decode cX9_rule 73 = .ok (.invokevirtual 339, 3) := DX9_rule_57.2.2.2.2.2.2.2.2.2.2.2.2.1
theorem dX9_rule_76 : decode cX9_rule 76 = .ok (.ireturn, 1) := DX9_rule_57.2.2.2.2.2.2.2.2.2.2.2.2.2.1
theorem mX9_rule : gMv yX9_rule cX9_rule 2 (some .int) RX9 1 := ⟨q1145, q1146, q10, q1147, rfl, by decide, by decide, by decide +kernel⟩
noncomputable def fX9_rule (v1 : Int32) (I : gM) : Option (Int32) :=
  (fX9_areTables I).bind fun r1 =>
  if r1 = 0 then
    some ((-1) : Int32)
  else
    (fX9_in v1 (0 : Int32) (4 : Int32)).bind fun r2 =>
    if r2 = 0 then
      some ((-1) : Int32)
    else
      if v1 = 0 then
        some (I 62 17)
      else
      if v1 = 1 then
        (rI 331 (I 70) (0 : Int32)).bind fun u3 =>
        some u3
      else
      if v1 = 2 then
        (rI 331 (I 70) (1 : Int32)).bind fun u4 =>
        some u4
      else
      if v1 = 3 then
        (fX9_asked I).bind fun r5 =>
        some r5
      else
      (fX9_rowsOfAll I).bind fun r6 =>
      some r6
set_option maxRecDepth 100000 in
set_option maxHeartbeats 4000000 in
theorem wX9_rule (l : Launch) (E : gE) (hE : gDist sh E) (bk : Nat) (v1 : Int32) (I : gM) (J : gN) {r : Int32} (h : fX9_rule v1 I = some r) : Cu l sh E bk yX9_rule cX9_rule 2 (some .int) (gR 3) [.ref (E.2.1 62), .int v1] I J (fun r1 I1 J1 => r1 = some (.int r) ∧ I1 = I ∧ J1 = J) := by
  refine Cu.of "LeapJoinModel" rfl hE (by decide) (Nat.le_of_ble_eq_true rfl) (fun z F B e hl => ?_)
  subst hl
  unfold fX9_rule at h
  refine g_aload_n F 0 dX9_rule_0 rfl rfl ?_
  refine u_callV (k := 62) (As := []) (rest := []) (sn := fun r1 => [.int r1]) F B (fun _ => wX9_areTables (zl z) E hE bk  I J) mX9_areTables q1028 rfl s62 rfl rfl rfl (Nat.le_of_ble_eq_true rfl) dX9_rule_1 (fun _ => rfl) h (fun r1 h => ?_)
  refine u_if_eq (tgt := 16) F dX9_rule_4 (by decide) h (fun h => ?_) (fun h => ?_)
  · refine g_iconst (v := (-1)) F dX9_rule_16 (by decide) ?_
    obtain rfl := Option.some.inj h
    exact g_iret F e dX9_rule_17 ⟨rfl, rfl, rfl⟩
  · refine g_iload_n F 1 dX9_rule_7 rfl rfl ?_
    refine g_iconst (v := 0) F dX9_rule_8 (by decide) ?_
    refine g_iconst (v := 4) F dX9_rule_9 (by decide) ?_
    refine u_callS (As := [.int v1, .int 0, .int 4]) (rest := []) (sn := fun r2 => [.int r2]) F B (fun _ => wX9_in (zl z) E hE bk v1 (0 : Int32) (4 : Int32) I J) mX9_in q923 rfl rfl rfl (Nat.le_of_ble_eq_true rfl) dX9_rule_10 (fun _ => rfl) h (fun r2 h => ?_)
    refine u_if_ne (tgt := 18) F dX9_rule_13 (by decide) h (fun h => ?_) (fun h => ?_)
    · refine g_iconst (v := (-1)) F dX9_rule_16 (by decide) ?_
      obtain rfl := Option.some.inj h
      exact g_iret F e dX9_rule_17 ⟨rfl, rfl, rfl⟩
    · refine g_iload_n F 1 dX9_rule_18 rfl rfl ?_
      rcases oi h with ⟨c19_0, h⟩ | ⟨c19_0, h⟩
      · refine g_tableIn (tgt := 48) F dX9_rule_19 (by rw [c19_0]; decide) (by rw [c19_0]; decide) (by rw [c19_0]; rfl) (by decide) ?_
        refine g_aload_n F 0 dX9_rule_48 rfl rfl ?_
        refine g_geti (j := 17) (v := I 62 17) F s62 rfl rfl uX9 (by decide) q838 rfl dX9_rule_49 ?_
        obtain rfl := Option.some.inj h
        exact g_iret F e dX9_rule_52 ⟨rfl, rfl, rfl⟩
      rcases oi h with ⟨c19_1, h⟩ | ⟨c19_1, h⟩
      · refine g_tableIn (tgt := 53) F dX9_rule_19 (by rw [c19_1]; decide) (by rw [c19_1]; decide) (by rw [c19_1]; rfl) (by decide) ?_
        refine g_aload_n F 0 dX9_rule_53 rfl rfl ?_
        refine g_getr (j := 13) (nn := 70) F s62 rfl rfl uX9 (by decide) q834 dX9_rule_54 ?_
        refine g_iconst (v := 0) F dX9_rule_57 (by decide) ?_
        refine u_rI F s70 (by decide) dX9_rule_58 h (fun u3 h => ?_)
        obtain rfl := Option.some.inj h
        exact g_iret F e dX9_rule_59 ⟨rfl, rfl, rfl⟩
      rcases oi h with ⟨c19_2, h⟩ | ⟨c19_2, h⟩
      · refine g_tableIn (tgt := 60) F dX9_rule_19 (by rw [c19_2]; decide) (by rw [c19_2]; decide) (by rw [c19_2]; rfl) (by decide) ?_
        refine g_aload_n F 0 dX9_rule_60 rfl rfl ?_
        refine g_getr (j := 13) (nn := 70) F s62 rfl rfl uX9 (by decide) q834 dX9_rule_61 ?_
        refine g_iconst (v := 1) F dX9_rule_64 (by decide) ?_
        refine u_rI F s70 (by decide) dX9_rule_65 h (fun u4 h => ?_)
        obtain rfl := Option.some.inj h
        exact g_iret F e dX9_rule_66 ⟨rfl, rfl, rfl⟩
      rcases oi h with ⟨c19_3, h⟩ | ⟨c19_3, h⟩
      · refine g_tableIn (tgt := 67) F dX9_rule_19 (by rw [c19_3]; decide) (by rw [c19_3]; decide) (by rw [c19_3]; rfl) (by decide) ?_
        refine g_aload_n F 0 dX9_rule_67 rfl rfl ?_
        refine u_callV (k := 62) (As := []) (rest := []) (sn := fun r5 => [.int r5]) F B (fun _ => wX9_asked (zl z) E hE bk  I J) mX9_asked q1061 rfl s62 rfl rfl rfl (Nat.le_of_ble_eq_true rfl) dX9_rule_68 (fun _ => rfl) h (fun r5 h => ?_)
        obtain rfl := Option.some.inj h
        exact g_iret F e dX9_rule_71 ⟨rfl, rfl, rfl⟩
      refine g_tableOut (tgt := 72) F dX9_rule_19 (by have q0 : ¬ (v1).toInt = 0 := fun q => c19_0 (Int32.toInt_inj.mp (q.trans (by decide))); have q1 : ¬ (v1).toInt = 1 := fun q => c19_1 (Int32.toInt_inj.mp (q.trans (by decide))); have q2 : ¬ (v1).toInt = 2 := fun q => c19_2 (Int32.toInt_inj.mp (q.trans (by decide))); have q3 : ¬ (v1).toInt = 3 := fun q => c19_3 (Int32.toInt_inj.mp (q.trans (by decide))); omega) (by decide) ?_
      refine g_aload_n F 0 dX9_rule_72 rfl rfl ?_
      refine u_callV (k := 62) (As := []) (rest := []) (sn := fun r6 => [.int r6]) F B (fun _ => wX9_rowsOfAll (zl z) E hE bk  I J) mX9_rowsOfAll q1148 rfl s62 rfl rfl rfl (Nat.le_of_ble_eq_true rfl) dX9_rule_73 (fun _ => rfl) h (fun r6 h => ?_)
      obtain rfl := Option.some.inj h
      exact g_iret F e dX9_rule_76 ⟨rfl, rfl, rfl⟩
theorem DX9_table_0 : dAre cX9_table [(0, .aload_n 0, 1), (1, .aload_n 0, 1), (2, .iload_n 1, 1), (3, .invokevirtual 281, 3), (6, .ifCond .eq 16, 3), (9, .iload_n 2, 1), (10, .iconst 0, 1), (11, .iconst 3, 1), (12, .invokestatic 104, 3), (15, .ifCond .eq 7, 3), (18, .iconst 0, 1), (19, .goto 4, 3), (22, .iconst 1, 1), (23, .putfield 93, 3), (26, .aload_n 0, 1), (27, .getfield 93, 3)] := dAre0 (by decide +kernel)
theorem dX9_table_0 : decode cX9_table 0 = .ok (.aload_n 0, 1) := DX9_table_0.1
theorem dX9_table_1 : decode cX9_table 1 = .ok (.aload_n 0, 1) := DX9_table_0.2.1
theorem dX9_table_2 : decode cX9_table 2 = .ok (.iload_n 1, 1) := DX9_table_0.2.2.1
theorem dX9_table_3 : decode cX9_table 3 = .ok (.invokevirtual 281, 3) := DX9_table_0.2.2.2.1
theorem dX9_table_6 : decode cX9_table 6 = .ok (.ifCond .eq 16, 3) := DX9_table_0.2.2.2.2.1
theorem dX9_table_9 : decode cX9_table 9 = .ok (.iload_n 2, 1) := DX9_table_0.2.2.2.2.2.1
theorem dX9_table_10 : decode cX9_table 10 = .ok (.iconst 0, 1) := DX9_table_0.2.2.2.2.2.2.1
theorem dX9_table_11 : decode cX9_table 11 = .ok (.iconst 3, 1) := DX9_table_0.2.2.2.2.2.2.2.1
theorem dX9_table_12 : decode cX9_table 12 = .ok (.invokestatic 104, 3) := DX9_table_0.2.2.2.2.2.2.2.2.1
theorem dX9_table_15 : decode cX9_table 15 = .ok (.ifCond .eq 7, 3) := DX9_table_0.2.2.2.2.2.2.2.2.2.1
theorem dX9_table_18 : decode cX9_table 18 = .ok (.iconst 0, 1) := DX9_table_0.2.2.2.2.2.2.2.2.2.2.1
theorem dX9_table_19 : decode cX9_table 19 = .ok (.goto 4, 3) := DX9_table_0.2.2.2.2.2.2.2.2.2.2.2.1
theorem dX9_table_22 : decode cX9_table 22 = .ok (.iconst 1, 1) := DX9_table_0.2.2.2.2.2.2.2.2.2.2.2.2.1
theorem dX9_table_23 : decode cX9_table 23 = .ok (.putfield 93, 3) := DX9_table_0.2.2.2.2.2.2.2.2.2.2.2.2.2.1
theorem dX9_table_26 : decode cX9_table 26 = .ok (.aload_n 0, 1) := DX9_table_0.2.2.2.2.2.2.2.2.2.2.2.2.2.2.1
theorem dX9_table_27 : decode cX9_table 27 = .ok (.getfield 93, 3) := DX9_table_0.2.2.2.2.2.2.2.2.2.2.2.2.2.2.2.1
theorem DX9_table_30 : dAre cX9_table [(30, .iconst 1, 1), (31, .if_icmp .ne 5, 3), (34, .iconst 0, 1), (35, .ireturn, 1), (36, .iload_n 2, 1), (37, .ifCond .ne 12, 3), (40, .aload_n 0, 1), (41, .getfield 37, 3), (44, .iload_n 1, 1), (45, .iaload, 1), (46, .goto 42, 3), (49, .iload_n 2, 1), (50, .iconst 1, 1), (51, .if_icmp .ne 11, 3), (54, .aload_n 0, 1), (55, .iload_n 1, 1)] := dAre0 (by decide +kernel)
theorem dX9_table_30 : decode cX9_table 30 = .ok (.iconst 1, 1) := DX9_table_30.1
theorem dX9_table_31 : decode cX9_table 31 = .ok (.if_icmp .ne 5, 3) := DX9_table_30.2.1
theorem dX9_table_34 : decode cX9_table 34 = .ok (.iconst 0, 1) := DX9_table_30.2.2.1
theorem dX9_table_35 : decode cX9_table 35 = .ok (.ireturn, 1) := DX9_table_30.2.2.2.1
theorem dX9_table_36 : decode cX9_table 36 = .ok (.iload_n 2, 1) := DX9_table_30.2.2.2.2.1
theorem dX9_table_37 : decode cX9_table 37 = .ok (.ifCond .ne 12, 3) := DX9_table_30.2.2.2.2.2.1
theorem dX9_table_40 : decode cX9_table 40 = .ok (.aload_n 0, 1) := DX9_table_30.2.2.2.2.2.2.1
theorem dX9_table_41 : decode cX9_table 41 = .ok (.getfield 37, 3) := DX9_table_30.2.2.2.2.2.2.2.1
theorem dX9_table_44 : decode cX9_table 44 = .ok (.iload_n 1, 1) := DX9_table_30.2.2.2.2.2.2.2.2.1
theorem dX9_table_45 : decode cX9_table 45 = .ok (.iaload, 1) := DX9_table_30.2.2.2.2.2.2.2.2.2.1
theorem dX9_table_46 : decode cX9_table 46 = .ok (.goto 42, 3) := DX9_table_30.2.2.2.2.2.2.2.2.2.2.1
theorem dX9_table_49 : decode cX9_table 49 = .ok (.iload_n 2, 1) := DX9_table_30.2.2.2.2.2.2.2.2.2.2.2.1
theorem dX9_table_50 : decode cX9_table 50 = .ok (.iconst 1, 1) := DX9_table_30.2.2.2.2.2.2.2.2.2.2.2.2.1
theorem dX9_table_51 : decode cX9_table 51 = .ok (.if_icmp .ne 11, 3) := DX9_table_30.2.2.2.2.2.2.2.2.2.2.2.2.2.1
theorem dX9_table_54 : decode cX9_table 54 = .ok (.aload_n 0, 1) := DX9_table_30.2.2.2.2.2.2.2.2.2.2.2.2.2.2.1
theorem dX9_table_55 : decode cX9_table 55 = .ok (.iload_n 1, 1) := DX9_table_30.2.2.2.2.2.2.2.2.2.2.2.2.2.2.2.1
theorem DX9_table_56 : dAre cX9_table [(56, .invokevirtual 179, 3), (59, .goto 29, 3), (62, .iload_n 2, 1), (63, .iconst 2, 1), (64, .if_icmp .ne 11, 3), (67, .aload_n 0, 1), (68, .iload_n 1, 1), (69, .invokevirtual 186, 3), (72, .goto 16, 3), (75, .aload_n 0, 1), (76, .iload_n 1, 1), (77, .invokevirtual 176, 3), (80, .ifCond .eq 7, 3), (83, .iconst 1, 1), (84, .goto 4, 3), (87, .iconst 0, 1)] := dAre0 (by decide +kernel)
theorem dX9_table_56 : decode cX9_table 56 = .ok (.invokevirtual 179, 3) := DX9_table_56.1
theorem dX9_table_59 : decode cX9_table 59 = .ok (.goto 29, 3) := DX9_table_56.2.1
theorem dX9_table_62 : decode cX9_table 62 = .ok (.iload_n 2, 1) := DX9_table_56.2.2.1
theorem dX9_table_63 : decode cX9_table 63 = .ok (.iconst 2, 1) := DX9_table_56.2.2.2.1
theorem dX9_table_64 : decode cX9_table 64 = .ok (.if_icmp .ne 11, 3) := DX9_table_56.2.2.2.2.1
theorem dX9_table_67 : decode cX9_table 67 = .ok (.aload_n 0, 1) := DX9_table_56.2.2.2.2.2.1
theorem dX9_table_68 : decode cX9_table 68 = .ok (.iload_n 1, 1) := DX9_table_56.2.2.2.2.2.2.1
theorem dX9_table_69 : decode cX9_table 69 = .ok (.invokevirtual 186, 3) := DX9_table_56.2.2.2.2.2.2.2.1
theorem dX9_table_72 : decode cX9_table 72 = .ok (.goto 16, 3) := DX9_table_56.2.2.2.2.2.2.2.2.1
theorem dX9_table_75 : decode cX9_table 75 = .ok (.aload_n 0, 1) := DX9_table_56.2.2.2.2.2.2.2.2.2.1
theorem dX9_table_76 : decode cX9_table 76 = .ok (.iload_n 1, 1) := DX9_table_56.2.2.2.2.2.2.2.2.2.2.1
theorem dX9_table_77 : decode cX9_table 77 = .ok (.invokevirtual 176, 3) := DX9_table_56.2.2.2.2.2.2.2.2.2.2.2.1
theorem dX9_table_80 : decode cX9_table 80 = .ok (.ifCond .eq 7, 3) := DX9_table_56.2.2.2.2.2.2.2.2.2.2.2.2.1
theorem dX9_table_83 : decode cX9_table 83 = .ok (.iconst 1, 1) := DX9_table_56.2.2.2.2.2.2.2.2.2.2.2.2.2.1
theorem dX9_table_84 : decode cX9_table 84 = .ok (.goto 4, 3) := DX9_table_56.2.2.2.2.2.2.2.2.2.2.2.2.2.2.1
theorem dX9_table_87 : decode cX9_table 87 = .ok (.iconst 0, 1) := DX9_table_56.2.2.2.2.2.2.2.2.2.2.2.2.2.2.2.1
theorem dX9_table_88 : decode cX9_table 88 = .ok (.ireturn, 1) := by decide +kernel
theorem mX9_table : gMv yX9_table cX9_table 3 (some .int) RX9 2 := ⟨q1152, q1153, q10, q1154, rfl, by decide, by decide, by decide +kernel⟩
noncomputable def bX9_table_23 (v1 : Int32) (v2 : Int32) (t0 : Int32) (I : gM) : Option (Int32 × gM) :=
  (pU I 62 0 t0).bind fun I2 =>
  if (I2 62 0) = 1 then
    some ((0 : Int32), I2)
  else
    if v2 = 0 then
      (rI 4 (I2 72) v1).bind fun u3 =>
      some (u3, I2)
    else
      if v2 = 1 then
        (fX9_lettersOf v1 I2).bind fun r4 =>
        some (r4, I2)
      else
        if v2 = 2 then
          (fX9_many v1 I2).bind fun r5 =>
          some (r5, I2)
        else
          (fX9_isUsed v1 I2).bind fun r6 =>
          if r6 = 0 then
            some ((0 : Int32), I2)
          else
            some ((1 : Int32), I2)
set_option maxRecDepth 100000 in
set_option maxHeartbeats 4000000 in
theorem wbX9_table_23 {z : gZ} {E : gE} {bk : Nat} (F : Fx z sh E "LeapJoinModel" cX9_table (gR 2) 3) (B : bZ z bk) (hE : gDist sh E) (v1 : Int32) (v2 : Int32) (t0 : Int32) (I : gM) (J : gN) {y : Int32 × gM} (h : bX9_table_23 v1 v2 t0 I = some y) (e : Fe z sh E (some .int) (fun r1 I1 J1 => r1 = some (.int y.1) ∧ I1 = y.2 ∧ J1 = J)) : G z 23 [(0, .ref (E.2.1 62)), (1, .int v1), (2, .int v2)] [.int t0, .ref (E.2.1 62)] I J := by
  unfold bX9_table_23 at h
  refine u_puti (j := 0) F s62 rfl rfl uX9 (by decide) q821 tyX9_ok nmX9 rfl rfl rfl dX9_table_23 h (fun I2 h => ?_)
  refine g_aload_n F 0 dX9_table_26 rfl rfl ?_
  refine g_geti (j := 0) (v := I2 62 0) F s62 rfl rfl uX9 (by decide) q821 rfl dX9_table_27 ?_
  refine g_iconst (v := 1) F dX9_table_30 (by decide) ?_
  refine u_icmp_ne (tgt := 36) F dX9_table_31 (by decide) h (fun h => ?_) (fun h => ?_)
  · refine g_iconst (v := 0) F dX9_table_34 (by decide) ?_
    obtain rfl := Option.some.inj h
    exact g_iret F e dX9_table_35 ⟨rfl, rfl, rfl⟩
  · refine g_iload_n F 2 dX9_table_36 rfl rfl ?_
    refine u_if_ne (tgt := 49) F dX9_table_37 (by decide) h (fun h => ?_) (fun h => ?_)
    · refine g_aload_n F 0 dX9_table_40 rfl rfl ?_
      refine g_getr (j := 15) (nn := 72) F s62 rfl rfl uX9 (by decide) q836 dX9_table_41 ?_
      refine g_iload_n F 1 dX9_table_44 rfl rfl ?_
      refine u_rI F s72 (by decide) dX9_table_45 h (fun u3 h => ?_)
      refine g_goto (tgt := 88) F dX9_table_46 (by decide) ?_
      obtain rfl := Option.some.inj h
      exact g_iret F e dX9_table_88 ⟨rfl, rfl, rfl⟩
    · refine g_iload_n F 2 dX9_table_49 rfl rfl ?_
      refine g_iconst (v := 1) F dX9_table_50 (by decide) ?_
      refine u_icmp_ne (tgt := 62) F dX9_table_51 (by decide) h (fun h => ?_) (fun h => ?_)
      · refine g_aload_n F 0 dX9_table_54 rfl rfl ?_
        refine g_iload_n F 1 dX9_table_55 rfl rfl ?_
        refine u_callV (k := 62) (As := [.int v1]) (rest := []) (sn := fun r4 => [.int r4]) F B (fun _ => wX9_lettersOf (zl z) E hE bk v1 I2 J) mX9_lettersOf q1064 rfl s62 rfl rfl rfl (Nat.le_of_ble_eq_true rfl) dX9_table_56 (fun _ => rfl) h (fun r4 h => ?_)
        refine g_goto (tgt := 88) F dX9_table_59 (by decide) ?_
        obtain rfl := Option.some.inj h
        exact g_iret F e dX9_table_88 ⟨rfl, rfl, rfl⟩
      · refine g_iload_n F 2 dX9_table_62 rfl rfl ?_
        refine g_iconst (v := 2) F dX9_table_63 (by decide) ?_
        refine u_icmp_ne (tgt := 75) F dX9_table_64 (by decide) h (fun h => ?_) (fun h => ?_)
        · refine g_aload_n F 0 dX9_table_67 rfl rfl ?_
          refine g_iload_n F 1 dX9_table_68 rfl rfl ?_
          refine u_callV (k := 62) (As := [.int v1]) (rest := []) (sn := fun r5 => [.int r5]) F B (fun _ => wX9_many (zl z) E hE bk v1 I2 J) mX9_many q994 rfl s62 rfl rfl rfl (Nat.le_of_ble_eq_true rfl) dX9_table_69 (fun _ => rfl) h (fun r5 h => ?_)
          refine g_goto (tgt := 88) F dX9_table_72 (by decide) ?_
          obtain rfl := Option.some.inj h
          exact g_iret F e dX9_table_88 ⟨rfl, rfl, rfl⟩
        · refine g_aload_n F 0 dX9_table_75 rfl rfl ?_
          refine g_iload_n F 1 dX9_table_76 rfl rfl ?_
          refine u_callV (k := 62) (As := [.int v1]) (rest := []) (sn := fun r6 => [.int r6]) F B (fun _ => wX9_isUsed (zl z) E hE bk v1 I2 J) mX9_isUsed q1043 rfl s62 rfl rfl rfl (Nat.le_of_ble_eq_true rfl) dX9_table_77 (fun _ => rfl) h (fun r6 h => ?_)
          refine u_if_eq (tgt := 87) F dX9_table_80 (by decide) h (fun h => ?_) (fun h => ?_)
          · refine g_iconst (v := 0) F dX9_table_87 (by decide) ?_
            obtain rfl := Option.some.inj h
            exact g_iret F e dX9_table_88 ⟨rfl, rfl, rfl⟩
          · refine g_iconst (v := 1) F dX9_table_83 (by decide) ?_
            refine g_goto (tgt := 88) F dX9_table_84 (by decide) ?_
            obtain rfl := Option.some.inj h
            exact g_iret F e dX9_table_88 ⟨rfl, rfl, rfl⟩
noncomputable def bX9_table_22 (v1 : Int32) (v2 : Int32) (I : gM) : Option (Int32 × gM) :=
  bX9_table_23 v1 v2 (1 : Int32) I
set_option maxRecDepth 100000 in
set_option maxHeartbeats 4000000 in
theorem wbX9_table_22 {z : gZ} {E : gE} {bk : Nat} (F : Fx z sh E "LeapJoinModel" cX9_table (gR 2) 3) (B : bZ z bk) (hE : gDist sh E) (v1 : Int32) (v2 : Int32) (I : gM) (J : gN) {y : Int32 × gM} (h : bX9_table_22 v1 v2 I = some y) (e : Fe z sh E (some .int) (fun r1 I1 J1 => r1 = some (.int y.1) ∧ I1 = y.2 ∧ J1 = J)) : G z 22 [(0, .ref (E.2.1 62)), (1, .int v1), (2, .int v2)] [.ref (E.2.1 62)] I J := by
  unfold bX9_table_22 at h
  refine g_iconst (v := 1) F dX9_table_22 (by decide) ?_
  refine g_sub (Ln := [(0, .ref (E.2.1 62)), (1, .int v1), (2, .int v2)]) [0, 1, 2] rfl ?_
  exact wbX9_table_23 F B hE v1 v2 (1 : Int32) I J h e
noncomputable def fX9_table (v1 : Int32) (v2 : Int32) (I : gM) : Option (Int32 × gM) :=
  (fX9_isTable v1 I).bind fun r1 =>
  if r1 = 0 then
    bX9_table_22 v1 v2 I
  else
    (fX9_in v2 (0 : Int32) (3 : Int32)).bind fun r7 =>
    if r7 = 0 then
      bX9_table_22 v1 v2 I
    else
      bX9_table_23 v1 v2 (0 : Int32) I
set_option maxRecDepth 100000 in
set_option maxHeartbeats 4000000 in
theorem wX9_table (l : Launch) (E : gE) (hE : gDist sh E) (bk : Nat) (v1 : Int32) (v2 : Int32) (I : gM) (J : gN) {r : Int32 × gM} (h : fX9_table v1 v2 I = some r) : Cu l sh E bk yX9_table cX9_table 3 (some .int) (gR 2) [.ref (E.2.1 62), .int v1, .int v2] I J (fun r1 I1 J1 => r1 = some (.int r.1) ∧ I1 = r.2 ∧ J1 = J) := by
  refine Cu.of "LeapJoinModel" rfl hE (by decide) (Nat.le_of_ble_eq_true rfl) (fun z F B e hl => ?_)
  subst hl
  unfold fX9_table at h
  refine g_aload_n F 0 dX9_table_0 rfl rfl ?_
  refine g_aload_n F 0 dX9_table_1 rfl rfl ?_
  refine g_iload_n F 1 dX9_table_2 rfl rfl ?_
  refine u_callV (k := 62) (As := [.int v1]) (rest := [.ref (E.2.1 62)]) (sn := fun r1 => [.int r1, .ref (E.2.1 62)]) F B (fun _ => wX9_isTable (zl z) E hE bk v1 I J) mX9_isTable q1019 rfl s62 rfl rfl rfl (Nat.le_of_ble_eq_true rfl) dX9_table_3 (fun _ => rfl) h (fun r1 h => ?_)
  refine u_if_eq (tgt := 22) F dX9_table_6 (by decide) h (fun h => ?_) (fun h => ?_)
  · refine g_sub (Ln := [(0, .ref (E.2.1 62)), (1, .int v1), (2, .int v2)]) [0, 1, 2] rfl ?_
    exact wbX9_table_22 F B hE v1 v2 I J h e
  · refine g_iload_n F 2 dX9_table_9 rfl rfl ?_
    refine g_iconst (v := 0) F dX9_table_10 (by decide) ?_
    refine g_iconst (v := 3) F dX9_table_11 (by decide) ?_
    refine u_callS (As := [.int v2, .int 0, .int 3]) (rest := [.ref (E.2.1 62)]) (sn := fun r7 => [.int r7, .ref (E.2.1 62)]) F B (fun _ => wX9_in (zl z) E hE bk v2 (0 : Int32) (3 : Int32) I J) mX9_in q923 rfl rfl rfl (Nat.le_of_ble_eq_true rfl) dX9_table_12 (fun _ => rfl) h (fun r7 h => ?_)
    refine u_if_eq (tgt := 22) F dX9_table_15 (by decide) h (fun h => ?_) (fun h => ?_)
    · refine g_sub (Ln := [(0, .ref (E.2.1 62)), (1, .int v1), (2, .int v2)]) [0, 1, 2] rfl ?_
      exact wbX9_table_22 F B hE v1 v2 I J h e
    · refine g_iconst (v := 0) F dX9_table_18 (by decide) ?_
      refine g_goto (tgt := 23) F dX9_table_19 (by decide) ?_
      refine g_sub (Ln := [(0, .ref (E.2.1 62)), (1, .int v1), (2, .int v2)]) [0, 1, 2] rfl ?_
      exact wbX9_table_23 F B hE v1 v2 (0 : Int32) I J h e
theorem DX9_cell_0 : dAre cX9_cell [(0, .aload_n 0, 1), (1, .iload_n 1, 1), (2, .invokevirtual 281, 3), (5, .ifCond .eq 49, 3), (8, .iload_n 2, 1), (9, .iconst 0, 1), (10, .aload_n 0, 1), (11, .iload_n 1, 1), (12, .invokevirtual 186, 3), (15, .iconst 1, 1), (16, .isub, 1), (17, .invokestatic 104, 3), (20, .ifCond .eq 34, 3), (23, .iload_n 3, 1), (24, .iconst 0, 1), (25, .aload_n 0, 1)] := dAre0 (by decide +kernel)
theorem dX9_cell_0 : decode cX9_cell 0 = .ok (.aload_n 0, 1) := DX9_cell_0.1
theorem dX9_cell_1 : decode cX9_cell 1 = .ok (.iload_n 1, 1) := DX9_cell_0.2.1
theorem dX9_cell_2 : decode cX9_cell 2 = .ok (.invokevirtual 281, 3) := DX9_cell_0.2.2.1
theorem dX9_cell_5 : decode cX9_cell 5 = .ok (.ifCond .eq 49, 3) := DX9_cell_0.2.2.2.1
theorem dX9_cell_8 : decode cX9_cell 8 = .ok (.iload_n 2, 1) := DX9_cell_0.2.2.2.2.1
theorem dX9_cell_9 : decode cX9_cell 9 = .ok (.iconst 0, 1) := DX9_cell_0.2.2.2.2.2.1
theorem dX9_cell_10 : decode cX9_cell 10 = .ok (.aload_n 0, 1) := DX9_cell_0.2.2.2.2.2.2.1
theorem dX9_cell_11 : decode cX9_cell 11 = .ok (.iload_n 1, 1) := DX9_cell_0.2.2.2.2.2.2.2.1
theorem dX9_cell_12 : decode cX9_cell 12 = .ok (.invokevirtual 186, 3) := DX9_cell_0.2.2.2.2.2.2.2.2.1
theorem dX9_cell_15 : decode cX9_cell 15 = .ok (.iconst 1, 1) := DX9_cell_0.2.2.2.2.2.2.2.2.2.1
theorem dX9_cell_16 : decode cX9_cell 16 = .ok (.isub, 1) := DX9_cell_0.2.2.2.2.2.2.2.2.2.2.1
theorem dX9_cell_17 : decode cX9_cell 17 = .ok (.invokestatic 104, 3) := DX9_cell_0.2.2.2.2.2.2.2.2.2.2.2.1
theorem dX9_cell_20 : decode cX9_cell 20 = .ok (.ifCond .eq 34, 3) := DX9_cell_0.2.2.2.2.2.2.2.2.2.2.2.2.1
theorem dX9_cell_23 : decode cX9_cell 23 = .ok (.iload_n 3, 1) := DX9_cell_0.2.2.2.2.2.2.2.2.2.2.2.2.2.1
theorem dX9_cell_24 : decode cX9_cell 24 = .ok (.iconst 0, 1) := DX9_cell_0.2.2.2.2.2.2.2.2.2.2.2.2.2.2.1
theorem dX9_cell_25 : decode cX9_cell 25 = .ok (.aload_n 0, 1) := DX9_cell_0.2.2.2.2.2.2.2.2.2.2.2.2.2.2.2.1
theorem DX9_cell_26 : dAre cX9_cell [(26, .getfield 37, 3), (29, .iload_n 1, 1), (30, .iaload, 1), (31, .iconst 1, 1), (32, .isub, 1), (33, .invokestatic 104, 3), (36, .ifCond .eq 18, 3), (39, .aload_n 0, 1), (40, .getfield 31, 3), (43, .iload_n 1, 1), (44, .iload_n 2, 1), (45, .invokestatic 182, 3), (48, .iload_n 3, 1), (49, .iadd, 1), (50, .iaload, 1), (51, .goto 4, 3)] := dAre0 (by decide +kernel)
theorem dX9_cell_26 : decode cX9_cell 26 = .ok (.getfield 37, 3) := DX9_cell_26.1
theorem dX9_cell_29 : decode cX9_cell 29 = .ok (.iload_n 1, 1) := DX9_cell_26.2.1
theorem dX9_cell_30 : decode cX9_cell 30 = .ok (.iaload, 1) := DX9_cell_26.2.2.1
theorem dX9_cell_31 : decode cX9_cell 31 = .ok (.iconst 1, 1) := DX9_cell_26.2.2.2.1
theorem dX9_cell_32 : decode cX9_cell 32 = .ok (.isub, 1) := DX9_cell_26.2.2.2.2.1
theorem dX9_cell_33 : decode cX9_cell 33 = .ok (.invokestatic 104, 3) := DX9_cell_26.2.2.2.2.2.1
theorem dX9_cell_36 : decode cX9_cell 36 = .ok (.ifCond .eq 18, 3) := DX9_cell_26.2.2.2.2.2.2.1
theorem dX9_cell_39 : decode cX9_cell 39 = .ok (.aload_n 0, 1) := DX9_cell_26.2.2.2.2.2.2.2.1
theorem dX9_cell_40 : decode cX9_cell 40 = .ok (.getfield 31, 3) := DX9_cell_26.2.2.2.2.2.2.2.2.1
theorem dX9_cell_43 : decode cX9_cell 43 = .ok (.iload_n 1, 1) := DX9_cell_26.2.2.2.2.2.2.2.2.2.1
theorem dX9_cell_44 : decode cX9_cell 44 = .ok (.iload_n 2, 1) := DX9_cell_26.2.2.2.2.2.2.2.2.2.2.1
theorem dX9_cell_45 : decode cX9_cell 45 = .ok (.invokestatic 182, 3) := DX9_cell_26.2.2.2.2.2.2.2.2.2.2.2.1
theorem dX9_cell_48 : decode cX9_cell 48 = .ok (.iload_n 3, 1) := DX9_cell_26.2.2.2.2.2.2.2.2.2.2.2.2.1
theorem dX9_cell_49 : decode cX9_cell 49 = .ok (.iadd, 1) := DX9_cell_26.2.2.2.2.2.2.2.2.2.2.2.2.2.1
theorem dX9_cell_50 : decode cX9_cell 50 = .ok (.iaload, 1) := DX9_cell_26.2.2.2.2.2.2.2.2.2.2.2.2.2.2.1
theorem dX9_cell_51 : decode cX9_cell 51 = .ok (.goto 4, 3) := DX9_cell_26.2.2.2.2.2.2.2.2.2.2.2.2.2.2.2.1
theorem dX9_cell_54 : decode cX9_cell 54 = .ok (.iconst (-1), 1) := by decide +kernel
theorem dX9_cell_55 : decode cX9_cell 55 = .ok (.ireturn, 1) := by decide +kernel
theorem mX9_cell : gMv yX9_cell cX9_cell 4 (some .int) RX9 3 := ⟨q1156, q1157, q10, q1158, rfl, by decide, by decide, by decide +kernel⟩
noncomputable def fX9_cell (v1 : Int32) (v2 : Int32) (v3 : Int32) (I : gM) : Option (Int32) :=
  (fX9_isTable v1 I).bind fun r1 =>
  if r1 = 0 then
    some ((-1) : Int32)
  else
    (fX9_many v1 I).bind fun r2 =>
    (fX9_in v2 (0 : Int32) (r2 - 1)).bind fun r3 =>
    if r3 = 0 then
      some ((-1) : Int32)
    else
      (rI 4 (I 72) v1).bind fun u4 =>
      (fX9_in v3 (0 : Int32) (u4 - 1)).bind fun r5 =>
      if r5 = 0 then
        some ((-1) : Int32)
      else
        (fX9_rowAt v1 v2).bind fun r6 =>
        (rI 331 (I 70) (r6 + v3)).bind fun u7 =>
        some u7
set_option maxRecDepth 100000 in
set_option maxHeartbeats 4000000 in
theorem wX9_cell (l : Launch) (E : gE) (hE : gDist sh E) (bk : Nat) (v1 : Int32) (v2 : Int32) (v3 : Int32) (I : gM) (J : gN) {r : Int32} (h : fX9_cell v1 v2 v3 I = some r) : Cu l sh E bk yX9_cell cX9_cell 4 (some .int) (gR 2) [.ref (E.2.1 62), .int v1, .int v2, .int v3] I J (fun r1 I1 J1 => r1 = some (.int r) ∧ I1 = I ∧ J1 = J) := by
  refine Cu.of "LeapJoinModel" rfl hE (by decide) (Nat.le_of_ble_eq_true rfl) (fun z F B e hl => ?_)
  subst hl
  unfold fX9_cell at h
  refine g_aload_n F 0 dX9_cell_0 rfl rfl ?_
  refine g_iload_n F 1 dX9_cell_1 rfl rfl ?_
  refine u_callV (k := 62) (As := [.int v1]) (rest := []) (sn := fun r1 => [.int r1]) F B (fun _ => wX9_isTable (zl z) E hE bk v1 I J) mX9_isTable q1019 rfl s62 rfl rfl rfl (Nat.le_of_ble_eq_true rfl) dX9_cell_2 (fun _ => rfl) h (fun r1 h => ?_)
  refine u_if_eq (tgt := 54) F dX9_cell_5 (by decide) h (fun h => ?_) (fun h => ?_)
  · refine g_iconst (v := (-1)) F dX9_cell_54 (by decide) ?_
    obtain rfl := Option.some.inj h
    exact g_iret F e dX9_cell_55 ⟨rfl, rfl, rfl⟩
  · refine g_iload_n F 2 dX9_cell_8 rfl rfl ?_
    refine g_iconst (v := 0) F dX9_cell_9 (by decide) ?_
    refine g_aload_n F 0 dX9_cell_10 rfl rfl ?_
    refine g_iload_n F 1 dX9_cell_11 rfl rfl ?_
    refine u_callV (k := 62) (As := [.int v1]) (rest := [.int 0, .int v2]) (sn := fun r2 => [.int r2, .int 0, .int v2]) F B (fun _ => wX9_many (zl z) E hE bk v1 I J) mX9_many q994 rfl s62 rfl rfl rfl (Nat.le_of_ble_eq_true rfl) dX9_cell_12 (fun _ => rfl) h (fun r2 h => ?_)
    refine g_iconst (v := 1) F dX9_cell_15 (by decide) ?_
    refine g_isub (v := r2 - 1) F dX9_cell_16 rfl ?_
    refine u_callS (As := [.int v2, .int 0, .int (r2 - 1)]) (rest := []) (sn := fun r3 => [.int r3]) F B (fun _ => wX9_in (zl z) E hE bk v2 (0 : Int32) (r2 - 1) I J) mX9_in q923 rfl rfl rfl (Nat.le_of_ble_eq_true rfl) dX9_cell_17 (fun _ => rfl) h (fun r3 h => ?_)
    refine u_if_eq (tgt := 54) F dX9_cell_20 (by decide) h (fun h => ?_) (fun h => ?_)
    · refine g_iconst (v := (-1)) F dX9_cell_54 (by decide) ?_
      obtain rfl := Option.some.inj h
      exact g_iret F e dX9_cell_55 ⟨rfl, rfl, rfl⟩
    · refine g_iload_n F 3 dX9_cell_23 rfl rfl ?_
      refine g_iconst (v := 0) F dX9_cell_24 (by decide) ?_
      refine g_aload_n F 0 dX9_cell_25 rfl rfl ?_
      refine g_getr (j := 15) (nn := 72) F s62 rfl rfl uX9 (by decide) q836 dX9_cell_26 ?_
      refine g_iload_n F 1 dX9_cell_29 rfl rfl ?_
      refine u_rI F s72 (by decide) dX9_cell_30 h (fun u4 h => ?_)
      refine g_iconst (v := 1) F dX9_cell_31 (by decide) ?_
      refine g_isub (v := u4 - 1) F dX9_cell_32 rfl ?_
      refine u_callS (As := [.int v3, .int 0, .int (u4 - 1)]) (rest := []) (sn := fun r5 => [.int r5]) F B (fun _ => wX9_in (zl z) E hE bk v3 (0 : Int32) (u4 - 1) I J) mX9_in q923 rfl rfl rfl (Nat.le_of_ble_eq_true rfl) dX9_cell_33 (fun _ => rfl) h (fun r5 h => ?_)
      refine u_if_eq (tgt := 54) F dX9_cell_36 (by decide) h (fun h => ?_) (fun h => ?_)
      · refine g_iconst (v := (-1)) F dX9_cell_54 (by decide) ?_
        obtain rfl := Option.some.inj h
        exact g_iret F e dX9_cell_55 ⟨rfl, rfl, rfl⟩
      · refine g_aload_n F 0 dX9_cell_39 rfl rfl ?_
        refine g_getr (j := 13) (nn := 70) F s62 rfl rfl uX9 (by decide) q834 dX9_cell_40 ?_
        refine g_iload_n F 1 dX9_cell_43 rfl rfl ?_
        refine g_iload_n F 2 dX9_cell_44 rfl rfl ?_
        refine u_callS (As := [.int v1, .int v2]) (rest := [.ref (E.2.1 70)]) (sn := fun r6 => [.int r6, .ref (E.2.1 70)]) F B (fun _ => wX9_rowAt (zl z) E hE bk v1 v2 I J) mX9_rowAt q1000 rfl rfl rfl (Nat.le_of_ble_eq_true rfl) dX9_cell_45 (fun _ => rfl) h (fun r6 h => ?_)
        refine g_iload_n F 3 dX9_cell_48 rfl rfl ?_
        refine g_iadd (v := r6 + v3) F dX9_cell_49 rfl ?_
        refine u_rI F s70 (by decide) dX9_cell_50 h (fun u7 h => ?_)
        refine g_goto (tgt := 55) F dX9_cell_51 (by decide) ?_
        obtain rfl := Option.some.inj h
        exact g_iret F e dX9_cell_55 ⟨rfl, rfl, rfl⟩
theorem DX9_rows_0 : dAre cX9_rows [(0, .aload_n 0, 1), (1, .invokevirtual 277, 3), (4, .ifCond .eq 10, 3), (7, .aload_n 0, 1), (8, .invokevirtual 299, 3), (11, .goto 4, 3), (14, .iconst (-1), 1), (15, .ireturn, 1)] := dAre0 (by decide +kernel)
theorem dX9_rows_0 : decode cX9_rows 0 = .ok (.aload_n 0, 1) := DX9_rows_0.1
theorem dX9_rows_1 : decode cX9_rows 1 = .ok (.invokevirtual 277, 3) := DX9_rows_0.2.1
theorem dX9_rows_4 : decode cX9_rows 4 = .ok (.ifCond .eq 10, 3) := DX9_rows_0.2.2.1
theorem dX9_rows_7 : decode cX9_rows 7 = .ok (.aload_n 0, 1) := DX9_rows_0.2.2.2.1
theorem dX9_rows_8 : decode cX9_rows 8 = .ok (.invokevirtual 299, 3) := DX9_rows_0.2.2.2.2.1
theorem dX9_rows_11 : decode cX9_rows 11 = .ok (.goto 4, 3) := DX9_rows_0.2.2.2.2.2.1
theorem dX9_rows_14 : decode cX9_rows 14 = .ok (.iconst (-1), 1) := DX9_rows_0.2.2.2.2.2.2.1
theorem dX9_rows_15 : decode cX9_rows 15 = .ok (.ireturn, 1) := DX9_rows_0.2.2.2.2.2.2.2.1
theorem mX9_rows : gMv yX9_rows cX9_rows 1 (some .int) RX9 0 := ⟨q1160, q1161, q10, q1162, rfl, by decide, by decide, by decide +kernel⟩
noncomputable def fX9_rows (I : gM) : Option (Int32 × gM) :=
  (fX9_areTables I).bind fun r1 =>
  if r1 = 0 then
    some (((-1) : Int32), I)
  else
    (fX9_rowsNow I).bind fun r2 =>
    some (r2.1, r2.2)
set_option maxRecDepth 100000 in
set_option maxHeartbeats 4000000 in
theorem wX9_rows (l : Launch) (E : gE) (hE : gDist sh E) (bk : Nat) (I : gM) (J : gN) {r : Int32 × gM} (h : fX9_rows I = some r) : Cu l sh E bk yX9_rows cX9_rows 1 (some .int) (gR 14) [.ref (E.2.1 62)] I J (fun r1 I1 J1 => r1 = some (.int r.1) ∧ I1 = r.2 ∧ J1 = J) := by
  refine Cu.of "LeapJoinModel" rfl hE (by decide) (Nat.le_of_ble_eq_true rfl) (fun z F B e hl => ?_)
  subst hl
  unfold fX9_rows at h
  refine g_aload_n F 0 dX9_rows_0 rfl rfl ?_
  refine u_callV (k := 62) (As := []) (rest := []) (sn := fun r1 => [.int r1]) F B (fun _ => wX9_areTables (zl z) E hE bk  I J) mX9_areTables q1028 rfl s62 rfl rfl rfl (Nat.le_of_ble_eq_true rfl) dX9_rows_1 (fun _ => rfl) h (fun r1 h => ?_)
  refine u_if_eq (tgt := 14) F dX9_rows_4 (by decide) h (fun h => ?_) (fun h => ?_)
  · refine g_iconst (v := (-1)) F dX9_rows_14 (by decide) ?_
    obtain rfl := Option.some.inj h
    exact g_iret F e dX9_rows_15 ⟨rfl, rfl, rfl⟩
  · refine g_aload_n F 0 dX9_rows_7 rfl rfl ?_
    refine u_callV (k := 62) (As := []) (rest := []) (sn := fun r2 => [.int r2.1]) F B (fun _ => wX9_rowsNow (zl z) E hE bk  I J) mX9_rowsNow q1049 rfl s62 rfl rfl rfl (Nat.le_of_ble_eq_true rfl) dX9_rows_8 (fun _ => rfl) h (fun r2 h => ?_)
    refine g_goto (tgt := 15) F dX9_rows_11 (by decide) ?_
    obtain rfl := Option.some.inj h
    exact g_iret F e dX9_rows_15 ⟨rfl, rfl, rfl⟩
theorem DX9_row_0 : dAre cX9_row [(0, .aload_n 0, 1), (1, .iload_n 2, 1), (2, .invokevirtual 342, 3), (5, .ifCond .eq 24, 3), (8, .iload_n 1, 1), (9, .ifCond .lt 20, 3), (12, .iload_n 1, 1), (13, .aload_n 0, 1), (14, .invokevirtual 299, 3), (17, .if_icmp .ge 12, 3), (20, .aload_n 0, 1), (21, .iload_n 1, 1), (22, .iload_n 2, 1), (23, .invokevirtual 345, 3), (26, .goto 4, 3), (29, .iconst (-1), 1)] := dAre0 (by decide +kernel)
theorem dX9_row_0 : decode cX9_row 0 = .ok (.aload_n 0, 1) := DX9_row_0.1
theorem dX9_row_1 : decode cX9_row 1 = .ok (.iload_n 2, 1) := DX9_row_0.2.1
theorem dX9_row_2 : decode cX9_row 2 = .ok (.invokevirtual 342, 3) := DX9_row_0.2.2.1
theorem dX9_row_5 : decode cX9_row 5 = .ok (.ifCond .eq 24, 3) := DX9_row_0.2.2.2.1
theorem dX9_row_8 : decode cX9_row 8 = .ok (.iload_n 1, 1) := DX9_row_0.2.2.2.2.1
theorem dX9_row_9 : decode cX9_row 9 = .ok (.ifCond .lt 20, 3) := DX9_row_0.2.2.2.2.2.1
theorem dX9_row_12 : decode cX9_row 12 = .ok (.iload_n 1, 1) := DX9_row_0.2.2.2.2.2.2.1
theorem dX9_row_13 : decode cX9_row 13 = .ok (.aload_n 0, 1) := DX9_row_0.2.2.2.2.2.2.2.1
theorem dX9_row_14 : decode cX9_row 14 = .ok (.invokevirtual 299, 3) := DX9_row_0.2.2.2.2.2.2.2.2.1
theorem dX9_row_17 : decode cX9_row 17 = .ok (.if_icmp .ge 12, 3) := DX9_row_0.2.2.2.2.2.2.2.2.2.1
theorem dX9_row_20 : decode cX9_row 20 = .ok (.aload_n 0, 1) := DX9_row_0.2.2.2.2.2.2.2.2.2.2.1
theorem dX9_row_21 : decode cX9_row 21 = .ok (.iload_n 1, 1) := DX9_row_0.2.2.2.2.2.2.2.2.2.2.2.1
theorem dX9_row_22 : decode cX9_row 22 = .ok (.iload_n 2, 1) := DX9_row_0.2.2.2.2.2.2.2.2.2.2.2.2.1
theorem dX9_row_23 : decode cX9_row 23 = .ok (.invokevirtual 345, 3) := DX9_row_0.2.2.2.2.2.2.2.2.2.2.2.2.2.1
theorem dX9_row_26 : decode cX9_row 26 = .ok (.goto 4, 3) := DX9_row_0.2.2.2.2.2.2.2.2.2.2.2.2.2.2.1
theorem dX9_row_29 : decode cX9_row 29 = .ok (.iconst (-1), 1) := DX9_row_0.2.2.2.2.2.2.2.2.2.2.2.2.2.2.2.1
theorem dX9_row_30 : decode cX9_row 30 = .ok (.ireturn, 1) := by decide +kernel
theorem mX9_row : gMv yX9_row cX9_row 3 (some .int) RX9 2 := ⟨q1164, q1165, q10, q1166, rfl, by decide, by decide, by decide +kernel⟩
noncomputable def fX9_row (v1 : Int32) (v2 : Int32) (I : gM) : Option (Int32 × gM) :=
  (fX9_isAsked v2 I).bind fun r1 =>
  if r1 = 0 then
    some (((-1) : Int32), I)
  else
    if v1 < 0 then
      some (((-1) : Int32), I)
    else
      (fX9_rowsNow I).bind fun r2 =>
      if r2.1 ≤ v1 then
        some (((-1) : Int32), r2.2)
      else
        (fX9_numberOf v1 v2 r2.2).bind fun r3 =>
        some (r3, r2.2)
set_option maxRecDepth 100000 in
set_option maxHeartbeats 4000000 in
theorem wX9_row (l : Launch) (E : gE) (hE : gDist sh E) (bk : Nat) (v1 : Int32) (v2 : Int32) (I : gM) (J : gN) {r : Int32 × gM} (h : fX9_row v1 v2 I = some r) : Cu l sh E bk yX9_row cX9_row 3 (some .int) (gR 14) [.ref (E.2.1 62), .int v1, .int v2] I J (fun r1 I1 J1 => r1 = some (.int r.1) ∧ I1 = r.2 ∧ J1 = J) := by
  refine Cu.of "LeapJoinModel" rfl hE (by decide) (Nat.le_of_ble_eq_true rfl) (fun z F B e hl => ?_)
  subst hl
  unfold fX9_row at h
  refine g_aload_n F 0 dX9_row_0 rfl rfl ?_
  refine g_iload_n F 2 dX9_row_1 rfl rfl ?_
  refine u_callV (k := 62) (As := [.int v2]) (rest := []) (sn := fun r1 => [.int r1]) F B (fun _ => wX9_isAsked (zl z) E hE bk v2 I J) mX9_isAsked q1167 rfl s62 rfl rfl rfl (Nat.le_of_ble_eq_true rfl) dX9_row_2 (fun _ => rfl) h (fun r1 h => ?_)
  refine u_if_eq (tgt := 29) F dX9_row_5 (by decide) h (fun h => ?_) (fun h => ?_)
  · refine g_iconst (v := (-1)) F dX9_row_29 (by decide) ?_
    obtain rfl := Option.some.inj h
    exact g_iret F e dX9_row_30 ⟨rfl, rfl, rfl⟩
  · refine g_iload_n F 1 dX9_row_8 rfl rfl ?_
    refine u_if_lt (tgt := 29) F dX9_row_9 (by decide) h (fun h => ?_) (fun h => ?_)
    · refine g_iconst (v := (-1)) F dX9_row_29 (by decide) ?_
      obtain rfl := Option.some.inj h
      exact g_iret F e dX9_row_30 ⟨rfl, rfl, rfl⟩
    · refine g_iload_n F 1 dX9_row_12 rfl rfl ?_
      refine g_aload_n F 0 dX9_row_13 rfl rfl ?_
      refine u_callV (k := 62) (As := []) (rest := [.int v1]) (sn := fun r2 => [.int r2.1, .int v1]) F B (fun _ => wX9_rowsNow (zl z) E hE bk  I J) mX9_rowsNow q1049 rfl s62 rfl rfl rfl (Nat.le_of_ble_eq_true rfl) dX9_row_14 (fun _ => rfl) h (fun r2 h => ?_)
      refine u_icmp_ge (tgt := 29) F dX9_row_17 (by decide) h (fun h => ?_) (fun h => ?_)
      · refine g_iconst (v := (-1)) F dX9_row_29 (by decide) ?_
        obtain rfl := Option.some.inj h
        exact g_iret F e dX9_row_30 ⟨rfl, rfl, rfl⟩
      · refine g_aload_n F 0 dX9_row_20 rfl rfl ?_
        refine g_iload_n F 1 dX9_row_21 rfl rfl ?_
        refine g_iload_n F 2 dX9_row_22 rfl rfl ?_
        refine u_callV (k := 62) (As := [.int v1, .int v2]) (rest := []) (sn := fun r3 => [.int r3]) F B (fun _ => wX9_numberOf (zl z) E hE bk v1 v2 r2.2 J) mX9_numberOf q1170 rfl s62 rfl rfl rfl (Nat.le_of_ble_eq_true rfl) dX9_row_23 (fun _ => rfl) h (fun r3 h => ?_)
        refine g_goto (tgt := 30) F dX9_row_26 (by decide) ?_
        obtain rfl := Option.some.inj h
        exact g_iret F e dX9_row_30 ⟨rfl, rfl, rfl⟩
theorem DX9_leaps__0 : dAre cX9_leaps_ [(0, .aload_n 0, 1), (1, .invokevirtual 277, 3), (4, .ifCond .ne 5, 3), (7, .iconst (-1), 1), (8, .ireturn, 1), (9, .aload_n 0, 1), (10, .invokevirtual 296, 3), (13, .aload_n 0, 1), (14, .getfield 244, 3), (17, .ireturn, 1)] := dAre0 (by decide +kernel)
theorem dX9_leaps__0 : decode cX9_leaps_ 0 = .ok (.aload_n 0, 1) := DX9_leaps__0.1
theorem dX9_leaps__1 : decode cX9_leaps_ 1 = .ok (.invokevirtual 277, 3) := DX9_leaps__0.2.1
theorem dX9_leaps__4 : decode cX9_leaps_ 4 = .ok (.ifCond .ne 5, 3) := DX9_leaps__0.2.2.1
theorem dX9_leaps__7 : decode cX9_leaps_ 7 = .ok (.iconst (-1), 1) := DX9_leaps__0.2.2.2.1
theorem dX9_leaps__8 : decode cX9_leaps_ 8 = .ok (.ireturn, 1) := DX9_leaps__0.2.2.2.2.1
theorem dX9_leaps__9 : decode cX9_leaps_ 9 = .ok (.aload_n 0, 1) := DX9_leaps__0.2.2.2.2.2.1
theorem dX9_leaps__10 : decode cX9_leaps_ 10 = .ok (.invokevirtual 296, 3) := DX9_leaps__0.2.2.2.2.2.2.1
theorem dX9_leaps__13 : decode cX9_leaps_ 13 = .ok (.aload_n 0, 1) := DX9_leaps__0.2.2.2.2.2.2.2.1
theorem dX9_leaps__14 : decode cX9_leaps_ 14 = .ok (.getfield 244, 3) := DX9_leaps__0.2.2.2.2.2.2.2.2.1
theorem dX9_leaps__17 : decode cX9_leaps_ 17 = .ok (.ireturn, 1) := DX9_leaps__0.2.2.2.2.2.2.2.2.2.1
theorem mX9_leaps_ : gMv yX9_leaps_ cX9_leaps_ 1 (some .int) RX9 0 := ⟨q1174, q1175, q10, q1176, rfl, by decide, by decide, by decide +kernel⟩
noncomputable def fX9_leaps_ (I : gM) : Option (Int32 × gM) :=
  (fX9_areTables I).bind fun r1 =>
  if r1 = 0 then
    some (((-1) : Int32), I)
  else
    (fX9_joinsNow I).bind fun r2 =>
    some (r2 62 27, r2)
set_option maxRecDepth 100000 in
set_option maxHeartbeats 4000000 in
theorem wX9_leaps_ (l : Launch) (E : gE) (hE : gDist sh E) (bk : Nat) (I : gM) (J : gN) {r : Int32 × gM} (h : fX9_leaps_ I = some r) : Cu l sh E bk yX9_leaps_ cX9_leaps_ 1 (some .int) (gR 13) [.ref (E.2.1 62)] I J (fun r1 I1 J1 => r1 = some (.int r.1) ∧ I1 = r.2 ∧ J1 = J) := by
  refine Cu.of "LeapJoinModel" rfl hE (by decide) (Nat.le_of_ble_eq_true rfl) (fun z F B e hl => ?_)
  subst hl
  unfold fX9_leaps_ at h
  refine g_aload_n F 0 dX9_leaps__0 rfl rfl ?_
  refine u_callV (k := 62) (As := []) (rest := []) (sn := fun r1 => [.int r1]) F B (fun _ => wX9_areTables (zl z) E hE bk  I J) mX9_areTables q1028 rfl s62 rfl rfl rfl (Nat.le_of_ble_eq_true rfl) dX9_leaps__1 (fun _ => rfl) h (fun r1 h => ?_)
  refine u_if_ne (tgt := 9) F dX9_leaps__4 (by decide) h (fun h => ?_) (fun h => ?_)
  · refine g_iconst (v := (-1)) F dX9_leaps__7 (by decide) ?_
    obtain rfl := Option.some.inj h
    exact g_iret F e dX9_leaps__8 ⟨rfl, rfl, rfl⟩
  · refine g_aload_n F 0 dX9_leaps__9 rfl rfl ?_
    refine u_callV (k := 62) (As := []) (rest := []) (sn := fun _ => []) F B (fun _ => wX9_joinsNow (zl z) E hE bk  I J) mX9_joinsNow q1052 rfl s62 rfl rfl rfl (Nat.le_of_ble_eq_true rfl) dX9_leaps__10 (fun _ => rfl) h (fun r2 h => ?_)
    refine g_aload_n F 0 dX9_leaps__13 rfl rfl ?_
    refine g_geti (j := 27) (v := r2 62 27) F s62 rfl rfl uX9 (by decide) q848 rfl dX9_leaps__14 ?_
    obtain rfl := Option.some.inj h
    exact g_iret F e dX9_leaps__17 ⟨rfl, rfl, rfl⟩
theorem DX9_beginnings_0 : dAre cX9_beginnings [(0, .aload_n 0, 1), (1, .invokevirtual 277, 3), (4, .ifCond .eq 8, 3), (7, .iload_n 1, 1), (8, .iconst 1, 1), (9, .if_icmp .ge 5, 3), (12, .iconst (-1), 1), (13, .ireturn, 1), (14, .aload_n 0, 1), (15, .invokevirtual 296, 3), (18, .iload_n 1, 1), (19, .aload_n 0, 1), (20, .getfield 217, 3), (23, .if_icmp .gt 12, 3), (26, .aload_n 0, 1), (27, .getfield 58, 3)] := dAre0 (by decide +kernel)
theorem dX9_beginnings_0 : decode cX9_beginnings 0 = .ok (.aload_n 0, 1) := DX9_beginnings_0.1
theorem dX9_beginnings_1 : decode cX9_beginnings 1 = .ok (.invokevirtual 277, 3) := DX9_beginnings_0.2.1
theorem dX9_beginnings_4 : decode cX9_beginnings 4 = .ok (.ifCond .eq 8, 3) := DX9_beginnings_0.2.2.1
theorem dX9_beginnings_7 : decode cX9_beginnings 7 = .ok (.iload_n 1, 1) := DX9_beginnings_0.2.2.2.1
theorem dX9_beginnings_8 : decode cX9_beginnings 8 = .ok (.iconst 1, 1) := DX9_beginnings_0.2.2.2.2.1
theorem dX9_beginnings_9 : decode cX9_beginnings 9 = .ok (.if_icmp .ge 5, 3) := DX9_beginnings_0.2.2.2.2.2.1
theorem dX9_beginnings_12 : decode cX9_beginnings 12 = .ok (.iconst (-1), 1) := DX9_beginnings_0.2.2.2.2.2.2.1
theorem dX9_beginnings_13 : decode cX9_beginnings 13 = .ok (.ireturn, 1) := DX9_beginnings_0.2.2.2.2.2.2.2.1
theorem dX9_beginnings_14 : decode cX9_beginnings 14 = .ok (.aload_n 0, 1) := DX9_beginnings_0.2.2.2.2.2.2.2.2.1
theorem dX9_beginnings_15 : decode cX9_beginnings 15 = .ok (.invokevirtual 296, 3) := DX9_beginnings_0.2.2.2.2.2.2.2.2.2.1
theorem dX9_beginnings_18 : decode cX9_beginnings 18 = .ok (.iload_n 1, 1) := DX9_beginnings_0.2.2.2.2.2.2.2.2.2.2.1
theorem dX9_beginnings_19 : decode cX9_beginnings 19 = .ok (.aload_n 0, 1) := DX9_beginnings_0.2.2.2.2.2.2.2.2.2.2.2.1
theorem dX9_beginnings_20 : decode cX9_beginnings 20 = .ok (.getfield 217, 3) := DX9_beginnings_0.2.2.2.2.2.2.2.2.2.2.2.2.1
theorem dX9_beginnings_23 : decode cX9_beginnings 23 = .ok (.if_icmp .gt 12, 3) := DX9_beginnings_0.2.2.2.2.2.2.2.2.2.2.2.2.2.1
theorem dX9_beginnings_26 : decode cX9_beginnings 26 = .ok (.aload_n 0, 1) := DX9_beginnings_0.2.2.2.2.2.2.2.2.2.2.2.2.2.2.1
theorem dX9_beginnings_27 : decode cX9_beginnings 27 = .ok (.getfield 58, 3) := DX9_beginnings_0.2.2.2.2.2.2.2.2.2.2.2.2.2.2.2.1
theorem DX9_beginnings_30 : dAre cX9_beginnings [(30, .iload_n 1, 1), (31, .iaload, 1), (32, .goto 4, 3), (35, .iconst (-1), 1), (36, .ireturn, 1)] := dAre0 (by decide +kernel)
theorem dX9_beginnings_30 : decode cX9_beginnings 30 = .ok (.iload_n 1, 1) := DX9_beginnings_30.1
theorem dX9_beginnings_31 : decode cX9_beginnings 31 = .ok (.iaload, 1) := DX9_beginnings_30.2.1
theorem dX9_beginnings_32 : decode cX9_beginnings 32 = .ok (.goto 4, 3) := DX9_beginnings_30.2.2.1
theorem dX9_beginnings_35 : decode cX9_beginnings 35 = .ok (.iconst (-1), 1) := DX9_beginnings_30.2.2.2.1
theorem dX9_beginnings_36 : decode cX9_beginnings 36 = .ok (.ireturn, 1) := DX9_beginnings_30.2.2.2.2.1
theorem mX9_beginnings : gMv yX9_beginnings cX9_beginnings 2 (some .int) RX9 1 := ⟨q1178, q1179, q10, q1180, rfl, by decide, by decide, by decide +kernel⟩
noncomputable def fX9_beginnings (v1 : Int32) (I : gM) : Option (Int32 × gM) :=
  (fX9_areTables I).bind fun r1 =>
  if r1 = 0 then
    some (((-1) : Int32), I)
  else
    if (1 : Int32) ≤ v1 then
      (fX9_joinsNow I).bind fun r2 =>
      if (r2 62 19) < v1 then
        some (((-1) : Int32), r2)
      else
        (rI 5 (r2 79) v1).bind fun u3 =>
        some (u3, r2)
    else
      some (((-1) : Int32), I)
set_option maxRecDepth 100000 in
set_option maxHeartbeats 4000000 in
theorem wX9_beginnings (l : Launch) (E : gE) (hE : gDist sh E) (bk : Nat) (v1 : Int32) (I : gM) (J : gN) {r : Int32 × gM} (h : fX9_beginnings v1 I = some r) : Cu l sh E bk yX9_beginnings cX9_beginnings 2 (some .int) (gR 13) [.ref (E.2.1 62), .int v1] I J (fun r1 I1 J1 => r1 = some (.int r.1) ∧ I1 = r.2 ∧ J1 = J) := by
  refine Cu.of "LeapJoinModel" rfl hE (by decide) (Nat.le_of_ble_eq_true rfl) (fun z F B e hl => ?_)
  subst hl
  unfold fX9_beginnings at h
  refine g_aload_n F 0 dX9_beginnings_0 rfl rfl ?_
  refine u_callV (k := 62) (As := []) (rest := []) (sn := fun r1 => [.int r1]) F B (fun _ => wX9_areTables (zl z) E hE bk  I J) mX9_areTables q1028 rfl s62 rfl rfl rfl (Nat.le_of_ble_eq_true rfl) dX9_beginnings_1 (fun _ => rfl) h (fun r1 h => ?_)
  refine u_if_eq (tgt := 12) F dX9_beginnings_4 (by decide) h (fun h => ?_) (fun h => ?_)
  · refine g_iconst (v := (-1)) F dX9_beginnings_12 (by decide) ?_
    obtain rfl := Option.some.inj h
    exact g_iret F e dX9_beginnings_13 ⟨rfl, rfl, rfl⟩
  · refine g_iload_n F 1 dX9_beginnings_7 rfl rfl ?_
    refine g_iconst (v := 1) F dX9_beginnings_8 (by decide) ?_
    refine u_icmp_ge (tgt := 14) F dX9_beginnings_9 (by decide) h (fun h => ?_) (fun h => ?_)
    · refine g_aload_n F 0 dX9_beginnings_14 rfl rfl ?_
      refine u_callV (k := 62) (As := []) (rest := []) (sn := fun _ => []) F B (fun _ => wX9_joinsNow (zl z) E hE bk  I J) mX9_joinsNow q1052 rfl s62 rfl rfl rfl (Nat.le_of_ble_eq_true rfl) dX9_beginnings_15 (fun _ => rfl) h (fun r2 h => ?_)
      refine g_iload_n F 1 dX9_beginnings_18 rfl rfl ?_
      refine g_aload_n F 0 dX9_beginnings_19 rfl rfl ?_
      refine g_geti (j := 19) (v := r2 62 19) F s62 rfl rfl uX9 (by decide) q840 rfl dX9_beginnings_20 ?_
      refine u_icmp_gt (tgt := 35) F dX9_beginnings_23 (by decide) h (fun h => ?_) (fun h => ?_)
      · refine g_iconst (v := (-1)) F dX9_beginnings_35 (by decide) ?_
        obtain rfl := Option.some.inj h
        exact g_iret F e dX9_beginnings_36 ⟨rfl, rfl, rfl⟩
      · refine g_aload_n F 0 dX9_beginnings_26 rfl rfl ?_
        refine g_getr (j := 24) (nn := 79) F s62 rfl rfl uX9 (by decide) q845 dX9_beginnings_27 ?_
        refine g_iload_n F 1 dX9_beginnings_30 rfl rfl ?_
        refine u_rI F s79 (by decide) dX9_beginnings_31 h (fun u3 h => ?_)
        refine g_goto (tgt := 36) F dX9_beginnings_32 (by decide) ?_
        obtain rfl := Option.some.inj h
        exact g_iret F e dX9_beginnings_36 ⟨rfl, rfl, rfl⟩
    · refine g_iconst (v := (-1)) F dX9_beginnings_12 (by decide) ?_
      obtain rfl := Option.some.inj h
      exact g_iret F e dX9_beginnings_13 ⟨rfl, rfl, rfl⟩
theorem DX9_triesOrders_0 : dAre cX9_triesOrders [(0, .aload_n 0, 1), (1, .iconst (-1), 1), (2, .putfield 348, 3), (5, .aload_n 0, 1), (6, .iconst 0, 1), (7, .putfield 351, 3), (10, .iconst 0, 1), (11, .istore_n 1, 1), (12, .iload_n 1, 1), (13, .bipush 24, 2), (15, .if_icmp .ge 61, 3), (18, .aload_n 0, 1), (19, .iload_n 1, 1), (20, .invokevirtual 274, 3), (23, .aload_n 0, 1), (24, .getfield 348, 3)] := dAre0 (by decide +kernel)
theorem dX9_triesOrders_0 : decode cX9_triesOrders 0 = .ok (.aload_n 0, 1) := DX9_triesOrders_0.1
theorem dX9_triesOrders_1 : decode cX9_triesOrders 1 = .ok (.iconst (-1), 1) := DX9_triesOrders_0.2.1
theorem dX9_triesOrders_2 : decode cX9_triesOrders 2 = .ok (.putfield 348, 3) := DX9_triesOrders_0.2.2.1
theorem dX9_triesOrders_5 : decode cX9_triesOrders 5 = .ok (.aload_n 0, 1) := DX9_triesOrders_0.2.2.2.1
theorem dX9_triesOrders_6 : decode cX9_triesOrders 6 = .ok (.iconst 0, 1) := DX9_triesOrders_0.2.2.2.2.1
theorem dX9_triesOrders_7 : decode cX9_triesOrders 7 = .ok (.putfield 351, 3) := DX9_triesOrders_0.2.2.2.2.2.1
theorem dX9_triesOrders_10 : decode cX9_triesOrders 10 = .ok (.iconst 0, 1) := DX9_triesOrders_0.2.2.2.2.2.2.1
theorem dX9_triesOrders_11 : decode cX9_triesOrders 11 = .ok (.istore_n 1, 1) := DX9_triesOrders_0.2.2.2.2.2.2.2.1
theorem dX9_triesOrders_12 : decode cX9_triesOrders 12 = .ok (.iload_n 1, 1) := DX9_triesOrders_0.2.2.2.2.2.2.2.2.1
theorem dX9_triesOrders_13 : decode cX9_triesOrders 13 = .ok (.bipush 24, 2) := DX9_triesOrders_0.2.2.2.2.2.2.2.2.2.1
theorem dX9_triesOrders_15 : decode cX9_triesOrders 15 = .ok (.if_icmp .ge 61, 3) := DX9_triesOrders_0.2.2.2.2.2.2.2.2.2.2.1
theorem dX9_triesOrders_18 : decode cX9_triesOrders 18 = .ok (.aload_n 0, 1) := DX9_triesOrders_0.2.2.2.2.2.2.2.2.2.2.2.1
theorem dX9_triesOrders_19 : decode cX9_triesOrders 19 = .ok (.iload_n 1, 1) := DX9_triesOrders_0.2.2.2.2.2.2.2.2.2.2.2.2.1
theorem dX9_triesOrders_20 : decode cX9_triesOrders 20 = .ok (.invokevirtual 274, 3) := DX9_triesOrders_0.2.2.2.2.2.2.2.2.2.2.2.2.2.1
theorem dX9_triesOrders_23 : decode cX9_triesOrders 23 = .ok (.aload_n 0, 1) := DX9_triesOrders_0.2.2.2.2.2.2.2.2.2.2.2.2.2.2.1
theorem dX9_triesOrders_24 : decode cX9_triesOrders 24 = .ok (.getfield 348, 3) := DX9_triesOrders_0.2.2.2.2.2.2.2.2.2.2.2.2.2.2.2.1
theorem DX9_triesOrders_27 : dAre cX9_triesOrders [(27, .iconst (-1), 1), (28, .if_icmp .eq 14, 3), (31, .aload_n 0, 1), (32, .getfield 244, 3), (35, .aload_n 0, 1), (36, .getfield 354, 3), (39, .if_icmp .ge 16, 3), (42, .aload_n 0, 1), (43, .iload_n 1, 1), (44, .putfield 348, 3), (47, .aload_n 0, 1), (48, .aload_n 0, 1), (49, .getfield 244, 3), (52, .putfield 354, 3), (55, .aload_n 0, 1), (56, .aload_n 0, 1)] := dAre0 (by decide +kernel)
theorem dX9_triesOrders_27 : decode cX9_triesOrders 27 = .ok (.iconst (-1), 1) := DX9_triesOrders_27.1
theorem dX9_triesOrders_28 : decode cX9_triesOrders 28 = .ok (.if_icmp .eq 14, 3) := DX9_triesOrders_27.2.1
theorem dX9_triesOrders_31 : decode cX9_triesOrders 31 = .ok (.aload_n 0, 1) := DX9_triesOrders_27.2.2.1
theorem dX9_triesOrders_32 : decode cX9_triesOrders 32 = .ok (.getfield 244, 3) := DX9_triesOrders_27.2.2.2.1
theorem dX9_triesOrders_35 : decode cX9_triesOrders 35 = .ok (.aload_n 0, 1) := DX9_triesOrders_27.2.2.2.2.1
theorem dX9_triesOrders_36 : decode cX9_triesOrders 36 = .ok (.getfield 354, 3) := DX9_triesOrders_27.2.2.2.2.2.1
theorem dX9_triesOrders_39 : decode cX9_triesOrders 39 = .ok (.if_icmp .ge 16, 3) := DX9_triesOrders_27.2.2.2.2.2.2.1
theorem dX9_triesOrders_42 : decode cX9_triesOrders 42 = .ok (.aload_n 0, 1) := DX9_triesOrders_27.2.2.2.2.2.2.2.1
theorem dX9_triesOrders_43 : decode cX9_triesOrders 43 = .ok (.iload_n 1, 1) := DX9_triesOrders_27.2.2.2.2.2.2.2.2.1
theorem dX9_triesOrders_44 : decode cX9_triesOrders 44 = .ok (.putfield 348, 3) := DX9_triesOrders_27.2.2.2.2.2.2.2.2.2.1
theorem dX9_triesOrders_47 : decode cX9_triesOrders 47 = .ok (.aload_n 0, 1) := DX9_triesOrders_27.2.2.2.2.2.2.2.2.2.2.1
theorem dX9_triesOrders_48 : decode cX9_triesOrders 48 = .ok (.aload_n 0, 1) := DX9_triesOrders_27.2.2.2.2.2.2.2.2.2.2.2.1
theorem dX9_triesOrders_49 : decode cX9_triesOrders 49 = .ok (.getfield 244, 3) := DX9_triesOrders_27.2.2.2.2.2.2.2.2.2.2.2.2.1
theorem dX9_triesOrders_52 : decode cX9_triesOrders 52 = .ok (.putfield 354, 3) := DX9_triesOrders_27.2.2.2.2.2.2.2.2.2.2.2.2.2.1
theorem dX9_triesOrders_55 : decode cX9_triesOrders 55 = .ok (.aload_n 0, 1) := DX9_triesOrders_27.2.2.2.2.2.2.2.2.2.2.2.2.2.2.1
theorem dX9_triesOrders_56 : decode cX9_triesOrders 56 = .ok (.aload_n 0, 1) := DX9_triesOrders_27.2.2.2.2.2.2.2.2.2.2.2.2.2.2.2.1
theorem DX9_triesOrders_57 : dAre cX9_triesOrders [(57, .getfield 351, 3), (60, .aload_n 0, 1), (61, .getfield 244, 3), (64, .invokestatic 239, 3), (67, .putfield 351, 3), (70, .iinc 1 1, 3), (73, .goto (-61), 3), (76, .return_, 1)] := dAre0 (by decide +kernel)
theorem dX9_triesOrders_57 : decode cX9_triesOrders 57 = .ok (.getfield 351, 3) := DX9_triesOrders_57.1
theorem dX9_triesOrders_60 : decode cX9_triesOrders 60 = .ok (.aload_n 0, 1) := DX9_triesOrders_57.2.1
theorem dX9_triesOrders_61 : decode cX9_triesOrders 61 = .ok (.getfield 244, 3) := DX9_triesOrders_57.2.2.1
theorem dX9_triesOrders_64 : decode cX9_triesOrders 64 = .ok (.invokestatic 239, 3) := DX9_triesOrders_57.2.2.2.1
theorem dX9_triesOrders_67 : decode cX9_triesOrders 67 = .ok (.putfield 351, 3) := DX9_triesOrders_57.2.2.2.2.1
theorem dX9_triesOrders_70 : decode cX9_triesOrders 70 = .ok (.iinc 1 1, 3) := DX9_triesOrders_57.2.2.2.2.2.1
theorem dX9_triesOrders_73 : decode cX9_triesOrders 73 = .ok (.goto (-61), 3) := DX9_triesOrders_57.2.2.2.2.2.2.1
theorem dX9_triesOrders_76 : decode cX9_triesOrders 76 = .ok (.return_, 1) := DX9_triesOrders_57.2.2.2.2.2.2.2.1
theorem mX9_triesOrders : gMv yX9_triesOrders cX9_triesOrders 2 none RX9 0 := ⟨q1186, q1439, q10, q1187, rfl, by decide, by decide, by decide +kernel⟩
noncomputable def bX9_triesOrders_55 (v1 : Int32) (I : gM) : Option ((Int32 × gM) ⊕ (gM)) :=
  (pU I 62 33 (mX (I 62 33) (I 62 27))).bind fun I6 =>
  some (.inl (v1 + 1, I6))
set_option maxRecDepth 100000 in
set_option maxHeartbeats 4000000 in
theorem wbX9_triesOrders_55 {z : gZ} {E : gE} {bk : Nat} (F : Fx z sh E "LeapJoinModel" cX9_triesOrders (gR 12) 2) (B : bZ z bk) (hE : gDist sh E) (v1 : Int32) (I : gM) (J : gN) {y : (Int32 × gM) ⊕ (gM)} (h : bX9_triesOrders_55 v1 I = some y) (hl : ∀ s' : Int32 × gM, y = .inl s' → G z 12 [(0, .ref (E.2.1 62)), (1, .int (s'.1))] [] s'.2 J) (K12_0 : ∀ x : gM, y = .inr x → G z 76 [] [] x J) : G z 55 [(0, .ref (E.2.1 62)), (1, .int v1)] [] I J := by
  unfold bX9_triesOrders_55 at h
  refine g_aload_n F 0 dX9_triesOrders_55 rfl rfl ?_
  refine g_aload_n F 0 dX9_triesOrders_56 rfl rfl ?_
  refine g_geti (j := 33) (v := I 62 33) F s62 rfl rfl uX9 (by decide) q854 rfl dX9_triesOrders_57 ?_
  refine g_aload_n F 0 dX9_triesOrders_60 rfl rfl ?_
  refine g_geti (j := 27) (v := I 62 27) F s62 rfl rfl uX9 (by decide) q848 rfl dX9_triesOrders_61 ?_
  refine g_mmax (v := mX (I 62 33) (I 62 27)) F q1094 rfl (Nat.le_of_ble_eq_true rfl) (Nat.le_of_ble_eq_true rfl) (Nat.le_of_ble_eq_true rfl) dX9_triesOrders_64 ?_
  refine u_puti (j := 33) F s62 rfl rfl uX9 (by decide) q854 tyX9_ok nmX9 rfl rfl rfl dX9_triesOrders_67 h (fun I6 h => ?_)
  refine g_iinc (v := v1 + 1) (Ln := [(1, .int (v1 + 1)), (0, .ref (E.2.1 62))]) F 1 dX9_triesOrders_70 rfl (add_c (by decide)) (by decide) rfl ?_
  refine g_goto (tgt := 12) F dX9_triesOrders_73 (by decide) ?_
  obtain rfl := Option.some.inj h
  refine g_sub (Ln := [(0, .ref (E.2.1 62)), (1, .int (v1 + 1))]) [1, 0] rfl ?_
  exact hl (v1 + 1, I6) rfl
noncomputable def bX9_triesOrders_42 (v1 : Int32) (I : gM) : Option ((Int32 × gM) ⊕ (gM)) :=
  (pU I 62 31 v1).bind fun I4 =>
  (pU I4 62 32 (I4 62 27)).bind fun I5 =>
  bX9_triesOrders_55 v1 I5
set_option maxRecDepth 100000 in
set_option maxHeartbeats 4000000 in
theorem wbX9_triesOrders_42 {z : gZ} {E : gE} {bk : Nat} (F : Fx z sh E "LeapJoinModel" cX9_triesOrders (gR 12) 2) (B : bZ z bk) (hE : gDist sh E) (v1 : Int32) (I : gM) (J : gN) {y : (Int32 × gM) ⊕ (gM)} (h : bX9_triesOrders_42 v1 I = some y) (hl : ∀ s' : Int32 × gM, y = .inl s' → G z 12 [(0, .ref (E.2.1 62)), (1, .int (s'.1))] [] s'.2 J) (K12_0 : ∀ x : gM, y = .inr x → G z 76 [] [] x J) : G z 42 [(0, .ref (E.2.1 62)), (1, .int v1)] [] I J := by
  unfold bX9_triesOrders_42 at h
  refine g_aload_n F 0 dX9_triesOrders_42 rfl rfl ?_
  refine g_iload_n F 1 dX9_triesOrders_43 rfl rfl ?_
  refine u_puti (j := 31) F s62 rfl rfl uX9 (by decide) q852 tyX9_ok nmX9 rfl rfl rfl dX9_triesOrders_44 h (fun I4 h => ?_)
  refine g_aload_n F 0 dX9_triesOrders_47 rfl rfl ?_
  refine g_aload_n F 0 dX9_triesOrders_48 rfl rfl ?_
  refine g_geti (j := 27) (v := I4 62 27) F s62 rfl rfl uX9 (by decide) q848 rfl dX9_triesOrders_49 ?_
  refine u_puti (j := 32) F s62 rfl rfl uX9 (by decide) q853 tyX9_ok nmX9 rfl rfl rfl dX9_triesOrders_52 h (fun I5 h => ?_)
  refine g_sub (Ln := [(0, .ref (E.2.1 62)), (1, .int v1)]) [0, 1] rfl ?_
  exact wbX9_triesOrders_55 F B hE v1 I5 J h hl K12_0
noncomputable def lX9_triesOrders_12 : (Int32 × gM) → Option (gM) :=
  itO fun s =>
    if (24 : Int32) ≤ s.1 then
      some (.inr s.2)
    else
      (fX9_joins s.1 s.2).bind fun r3 =>
      if (r3 62 31) = (-1) then
        bX9_triesOrders_42 s.1 r3
      else
        if (r3 62 32) ≤ (r3 62 27) then
          bX9_triesOrders_55 s.1 r3
        else
          bX9_triesOrders_42 s.1 r3
set_option maxRecDepth 100000 in
set_option maxHeartbeats 4000000 in
theorem wlX9_triesOrders_12 {z : gZ} {E : gE} {bk : Nat} (F : Fx z sh E "LeapJoinModel" cX9_triesOrders (gR 12) 2) (B : bZ z bk) (hE : gDist sh E) (J : gN) {r : gM} : ∀ s : Int32 × gM, lX9_triesOrders_12 s = some r → (G z 76 [] [] r J) → G z 12 [(0, .ref (E.2.1 62)), (1, .int s.1)] [] s.2 J := by
  intro s h X0
  unfold lX9_triesOrders_12 at h
  revert s
  refine itO_ind (P := fun s : Int32 × gM => G z 12 [(0, .ref (E.2.1 62)), (1, .int s.1)] [] s.2 J) (fun s y h hl hr => ?_)
  have K12_0 : ∀ x : gM, y = .inr x → (G z 76 [] [] x J) := fun x q => by have q2 := hr _ q; subst q2; exact X0
  refine g_iload_n F 1 dX9_triesOrders_12 rfl rfl ?_
  refine g_bipush (v := 24) F dX9_triesOrders_13 (by decide) ?_
  refine u_icmp_ge (tgt := 76) F dX9_triesOrders_15 (by decide) h (fun h => ?_) (fun h => ?_)
  · obtain rfl := Option.some.inj h
    refine g_sub (Ln := []) [] rfl ?_
    exact K12_0 s.2 rfl
  · refine g_aload_n F 0 dX9_triesOrders_18 rfl rfl ?_
    refine g_iload_n F 1 dX9_triesOrders_19 rfl rfl ?_
    refine u_callV (k := 62) (As := [.int s.1]) (rest := []) (sn := fun _ => []) F B (fun _ => wX9_joins (zl z) E hE bk s.1 s.2 J) mX9_joins q1055 rfl s62 rfl rfl rfl (Nat.le_of_ble_eq_true rfl) dX9_triesOrders_20 (fun _ => rfl) h (fun r3 h => ?_)
    refine g_aload_n F 0 dX9_triesOrders_23 rfl rfl ?_
    refine g_geti (j := 31) (v := r3 62 31) F s62 rfl rfl uX9 (by decide) q852 rfl dX9_triesOrders_24 ?_
    refine g_iconst (v := (-1)) F dX9_triesOrders_27 (by decide) ?_
    refine u_icmp_eq (tgt := 42) F dX9_triesOrders_28 (by decide) h (fun h => ?_) (fun h => ?_)
    · refine g_sub (Ln := [(0, .ref (E.2.1 62)), (1, .int s.1)]) [0, 1] rfl ?_
      exact wbX9_triesOrders_42 F B hE s.1 r3 J h hl K12_0
    · refine g_aload_n F 0 dX9_triesOrders_31 rfl rfl ?_
      refine g_geti (j := 27) (v := r3 62 27) F s62 rfl rfl uX9 (by decide) q848 rfl dX9_triesOrders_32 ?_
      refine g_aload_n F 0 dX9_triesOrders_35 rfl rfl ?_
      refine g_geti (j := 32) (v := r3 62 32) F s62 rfl rfl uX9 (by decide) q853 rfl dX9_triesOrders_36 ?_
      refine u_icmp_ge (tgt := 55) F dX9_triesOrders_39 (by decide) h (fun h => ?_) (fun h => ?_)
      · refine g_sub (Ln := [(0, .ref (E.2.1 62)), (1, .int s.1)]) [0, 1] rfl ?_
        exact wbX9_triesOrders_55 F B hE s.1 r3 J h hl K12_0
      · refine g_sub (Ln := [(0, .ref (E.2.1 62)), (1, .int s.1)]) [0, 1] rfl ?_
        exact wbX9_triesOrders_42 F B hE s.1 r3 J h hl K12_0
noncomputable def fX9_triesOrders (I : gM) : Option (gM) :=
  (pU I 62 31 ((-1) : Int32)).bind fun I1 =>
  (pU I1 62 33 (0 : Int32)).bind fun I2 =>
  (lX9_triesOrders_12 ((0 : Int32), I2)).bind fun w7 =>
  some w7
set_option maxRecDepth 100000 in
set_option maxHeartbeats 4000000 in
theorem wX9_triesOrders (l : Launch) (E : gE) (hE : gDist sh E) (bk : Nat) (I : gM) (J : gN) {r : gM} (h : fX9_triesOrders I = some r) : Cu l sh E bk yX9_triesOrders cX9_triesOrders 2 none (gR 12) [.ref (E.2.1 62)] I J (fun r1 I1 J1 => r1 = none ∧ I1 = r ∧ J1 = J) := by
  refine Cu.of "LeapJoinModel" rfl hE (by decide) (Nat.le_of_ble_eq_true rfl) (fun z F B e hl => ?_)
  subst hl
  unfold fX9_triesOrders at h
  refine g_aload_n F 0 dX9_triesOrders_0 rfl rfl ?_
  refine g_iconst (v := (-1)) F dX9_triesOrders_1 (by decide) ?_
  refine u_puti (j := 31) F s62 rfl rfl uX9 (by decide) q852 tyX9_ok nmX9 rfl rfl rfl dX9_triesOrders_2 h (fun I1 h => ?_)
  refine g_aload_n F 0 dX9_triesOrders_5 rfl rfl ?_
  refine g_iconst (v := 0) F dX9_triesOrders_6 (by decide) ?_
  refine u_puti (j := 33) F s62 rfl rfl uX9 (by decide) q854 tyX9_ok nmX9 rfl rfl rfl dX9_triesOrders_7 h (fun I2 h => ?_)
  refine g_iconst (v := 0) F dX9_triesOrders_10 (by decide) ?_
  refine g_istore_n (Ln := [(1, .int 0), (0, .ref (E.2.1 62))]) F dX9_triesOrders_11 rfl (by decide) rfl ?_
  obtain ⟨w7, ew7, h⟩ := ob h
  refine g_sub (Ln := [(0, .ref (E.2.1 62)), (1, .int 0)]) [1, 0] rfl ?_
  refine wlX9_triesOrders_12 F B hE J _ ew7 ?_
  obtain rfl := Option.some.inj h
  exact g_vret F e dX9_triesOrders_76 ⟨rfl, rfl, rfl⟩
theorem DX9_best_0 : dAre cX9_best [(0, .aload_n 0, 1), (1, .invokevirtual 277, 3), (4, .ifCond .eq 12, 3), (7, .iload_n 1, 1), (8, .iconst 0, 1), (9, .iconst 1, 1), (10, .invokestatic 104, 3), (13, .ifCond .ne 5, 3), (16, .iconst (-1), 1), (17, .ireturn, 1), (18, .aload_n 0, 1), (19, .invokevirtual 357, 3), (22, .iload_n 1, 1), (23, .ifCond .ne 10, 3), (26, .aload_n 0, 1), (27, .getfield 348, 3)] := dAre0 (by decide +kernel)
theorem dX9_best_0 : decode cX9_best 0 = .ok (.aload_n 0, 1) := DX9_best_0.1
theorem dX9_best_1 : decode cX9_best 1 = .ok (.invokevirtual 277, 3) := DX9_best_0.2.1
theorem dX9_best_4 : decode cX9_best 4 = .ok (.ifCond .eq 12, 3) := DX9_best_0.2.2.1
theorem dX9_best_7 : decode cX9_best 7 = .ok (.iload_n 1, 1) := DX9_best_0.2.2.2.1
theorem dX9_best_8 : decode cX9_best 8 = .ok (.iconst 0, 1) := DX9_best_0.2.2.2.2.1
theorem dX9_best_9 : decode cX9_best 9 = .ok (.iconst 1, 1) := DX9_best_0.2.2.2.2.2.1
theorem dX9_best_10 : decode cX9_best 10 = .ok (.invokestatic 104, 3) := DX9_best_0.2.2.2.2.2.2.1
theorem dX9_best_13 : decode cX9_best 13 = .ok (.ifCond .ne 5, 3) := DX9_best_0.2.2.2.2.2.2.2.1
theorem dX9_best_16 : decode cX9_best 16 = .ok (.iconst (-1), 1) := DX9_best_0.2.2.2.2.2.2.2.2.1
theorem dX9_best_17 : decode cX9_best 17 = .ok (.ireturn, 1) := DX9_best_0.2.2.2.2.2.2.2.2.2.1
theorem dX9_best_18 : decode cX9_best 18 = .ok (.aload_n 0, 1) := DX9_best_0.2.2.2.2.2.2.2.2.2.2.1
theorem dX9_best_19 : decode cX9_best 19 = .ok (.invokevirtual 357, 3) := DX9_best_0.2.2.2.2.2.2.2.2.2.2.2.1
theorem dX9_best_22 : decode cX9_best 22 = .ok (.iload_n 1, 1) := DX9_best_0.2.2.2.2.2.2.2.2.2.2.2.2.1
theorem dX9_best_23 : decode cX9_best 23 = .ok (.ifCond .ne 10, 3) := DX9_best_0.2.2.2.2.2.2.2.2.2.2.2.2.2.1
theorem dX9_best_26 : decode cX9_best 26 = .ok (.aload_n 0, 1) := DX9_best_0.2.2.2.2.2.2.2.2.2.2.2.2.2.2.1
theorem dX9_best_27 : decode cX9_best 27 = .ok (.getfield 348, 3) := DX9_best_0.2.2.2.2.2.2.2.2.2.2.2.2.2.2.2.1
theorem DX9_best_30 : dAre cX9_best [(30, .goto 7, 3), (33, .aload_n 0, 1), (34, .getfield 354, 3), (37, .ireturn, 1)] := dAre0 (by decide +kernel)
theorem dX9_best_30 : decode cX9_best 30 = .ok (.goto 7, 3) := DX9_best_30.1
theorem dX9_best_33 : decode cX9_best 33 = .ok (.aload_n 0, 1) := DX9_best_30.2.1
theorem dX9_best_34 : decode cX9_best 34 = .ok (.getfield 354, 3) := DX9_best_30.2.2.1
theorem dX9_best_37 : decode cX9_best 37 = .ok (.ireturn, 1) := DX9_best_30.2.2.2.1
theorem mX9_best : gMv yX9_best cX9_best 2 (some .int) RX9 1 := ⟨q1182, q1183, q10, q1184, rfl, by decide, by decide, by decide +kernel⟩
noncomputable def fX9_best (v1 : Int32) (I : gM) : Option (Int32 × gM) :=
  (fX9_areTables I).bind fun r1 =>
  if r1 = 0 then
    some (((-1) : Int32), I)
  else
    (fX9_in v1 (0 : Int32) (1 : Int32)).bind fun r2 =>
    if r2 = 0 then
      some (((-1) : Int32), I)
    else
      (fX9_triesOrders I).bind fun r3 =>
      if v1 = 0 then
        some (r3 62 31, r3)
      else
        some (r3 62 32, r3)
set_option maxRecDepth 100000 in
set_option maxHeartbeats 4000000 in
theorem wX9_best (l : Launch) (E : gE) (hE : gDist sh E) (bk : Nat) (v1 : Int32) (I : gM) (J : gN) {r : Int32 × gM} (h : fX9_best v1 I = some r) : Cu l sh E bk yX9_best cX9_best 2 (some .int) (gR 13) [.ref (E.2.1 62), .int v1] I J (fun r1 I1 J1 => r1 = some (.int r.1) ∧ I1 = r.2 ∧ J1 = J) := by
  refine Cu.of "LeapJoinModel" rfl hE (by decide) (Nat.le_of_ble_eq_true rfl) (fun z F B e hl => ?_)
  subst hl
  unfold fX9_best at h
  refine g_aload_n F 0 dX9_best_0 rfl rfl ?_
  refine u_callV (k := 62) (As := []) (rest := []) (sn := fun r1 => [.int r1]) F B (fun _ => wX9_areTables (zl z) E hE bk  I J) mX9_areTables q1028 rfl s62 rfl rfl rfl (Nat.le_of_ble_eq_true rfl) dX9_best_1 (fun _ => rfl) h (fun r1 h => ?_)
  refine u_if_eq (tgt := 16) F dX9_best_4 (by decide) h (fun h => ?_) (fun h => ?_)
  · refine g_iconst (v := (-1)) F dX9_best_16 (by decide) ?_
    obtain rfl := Option.some.inj h
    exact g_iret F e dX9_best_17 ⟨rfl, rfl, rfl⟩
  · refine g_iload_n F 1 dX9_best_7 rfl rfl ?_
    refine g_iconst (v := 0) F dX9_best_8 (by decide) ?_
    refine g_iconst (v := 1) F dX9_best_9 (by decide) ?_
    refine u_callS (As := [.int v1, .int 0, .int 1]) (rest := []) (sn := fun r2 => [.int r2]) F B (fun _ => wX9_in (zl z) E hE bk v1 (0 : Int32) (1 : Int32) I J) mX9_in q923 rfl rfl rfl (Nat.le_of_ble_eq_true rfl) dX9_best_10 (fun _ => rfl) h (fun r2 h => ?_)
    refine u_if_ne (tgt := 18) F dX9_best_13 (by decide) h (fun h => ?_) (fun h => ?_)
    · refine g_iconst (v := (-1)) F dX9_best_16 (by decide) ?_
      obtain rfl := Option.some.inj h
      exact g_iret F e dX9_best_17 ⟨rfl, rfl, rfl⟩
    · refine g_aload_n F 0 dX9_best_18 rfl rfl ?_
      refine u_callV (k := 62) (As := []) (rest := []) (sn := fun _ => []) F B (fun _ => wX9_triesOrders (zl z) E hE bk  I J) mX9_triesOrders q1185 rfl s62 rfl rfl rfl (Nat.le_of_ble_eq_true rfl) dX9_best_19 (fun _ => rfl) h (fun r3 h => ?_)
      refine g_iload_n F 1 dX9_best_22 rfl rfl ?_
      refine u_if_ne (tgt := 33) F dX9_best_23 (by decide) h (fun h => ?_) (fun h => ?_)
      · refine g_aload_n F 0 dX9_best_26 rfl rfl ?_
        refine g_geti (j := 31) (v := r3 62 31) F s62 rfl rfl uX9 (by decide) q852 rfl dX9_best_27 ?_
        refine g_goto (tgt := 37) F dX9_best_30 (by decide) ?_
        obtain rfl := Option.some.inj h
        exact g_iret F e dX9_best_37 ⟨rfl, rfl, rfl⟩
      · refine g_aload_n F 0 dX9_best_33 rfl rfl ?_
        refine g_geti (j := 32) (v := r3 62 32) F s62 rfl rfl uX9 (by decide) q853 rfl dX9_best_34 ?_
        obtain rfl := Option.some.inj h
        exact g_iret F e dX9_best_37 ⟨rfl, rfl, rfl⟩
theorem DX9_plain_0 : dAre cX9_plain [(0, .aload_n 0, 1), (1, .invokevirtual 277, 3), (4, .ifCond .ne 5, 3), (7, .iconst (-1), 1), (8, .ireturn, 1), (9, .iconst 1, 1), (10, .istore_n 1, 1), (11, .iconst 0, 1), (12, .istore_n 2, 1), (13, .iload_n 2, 1), (14, .aload_n 0, 1), (15, .getfield 173, 3), (18, .if_icmp .ge 29, 3), (21, .iload_n 1, 1), (22, .aload_n 0, 1), (23, .iload_n 2, 1)] := dAre0 (by decide +kernel)
theorem dX9_plain_0 : decode cX9_plain 0 = .ok (.aload_n 0, 1) := DX9_plain_0.1
theorem dX9_plain_1 : decode cX9_plain 1 = .ok (.invokevirtual 277, 3) := DX9_plain_0.2.1
theorem dX9_plain_4 : decode cX9_plain 4 = .ok (.ifCond .ne 5, 3) := DX9_plain_0.2.2.1
theorem dX9_plain_7 : decode cX9_plain 7 = .ok (.iconst (-1), 1) := DX9_plain_0.2.2.2.1
theorem dX9_plain_8 : decode cX9_plain 8 = .ok (.ireturn, 1) := DX9_plain_0.2.2.2.2.1
theorem dX9_plain_9 : decode cX9_plain 9 = .ok (.iconst 1, 1) := DX9_plain_0.2.2.2.2.2.1
theorem dX9_plain_10 : decode cX9_plain 10 = .ok (.istore_n 1, 1) := DX9_plain_0.2.2.2.2.2.2.1
theorem dX9_plain_11 : decode cX9_plain 11 = .ok (.iconst 0, 1) := DX9_plain_0.2.2.2.2.2.2.2.1
theorem dX9_plain_12 : decode cX9_plain 12 = .ok (.istore_n 2, 1) := DX9_plain_0.2.2.2.2.2.2.2.2.1
theorem dX9_plain_13 : decode cX9_plain 13 = .ok (.iload_n 2, 1) := DX9_plain_0.2.2.2.2.2.2.2.2.2.1
theorem dX9_plain_14 : decode cX9_plain 14 = .ok (.aload_n 0, 1) := DX9_plain_0.2.2.2.2.2.2.2.2.2.2.1
theorem dX9_plain_15 : decode cX9_plain 15 = .ok (.getfield 173, 3) := DX9_plain_0.2.2.2.2.2.2.2.2.2.2.2.1
theorem dX9_plain_18 : decode cX9_plain 18 = .ok (.if_icmp .ge 29, 3) := DX9_plain_0.2.2.2.2.2.2.2.2.2.2.2.2.1
theorem dX9_plain_21 : decode cX9_plain 21 = .ok (.iload_n 1, 1) := DX9_plain_0.2.2.2.2.2.2.2.2.2.2.2.2.2.1
theorem dX9_plain_22 : decode cX9_plain 22 = .ok (.aload_n 0, 1) := DX9_plain_0.2.2.2.2.2.2.2.2.2.2.2.2.2.2.1
theorem dX9_plain_23 : decode cX9_plain 23 = .ok (.iload_n 2, 1) := DX9_plain_0.2.2.2.2.2.2.2.2.2.2.2.2.2.2.2.1
theorem DX9_plain_24 : dAre cX9_plain [(24, .invokevirtual 176, 3), (27, .ifCond .eq 11, 3), (30, .aload_n 0, 1), (31, .iload_n 2, 1), (32, .invokevirtual 186, 3), (35, .goto 4, 3), (38, .iconst 1, 1), (39, .imul, 1), (40, .istore_n 1, 1), (41, .iinc 2 1, 3), (44, .goto (-31), 3), (47, .iload_n 1, 1), (48, .ireturn, 1)] := dAre0 (by decide +kernel)
theorem dX9_plain_24 : decode cX9_plain 24 = .ok (.invokevirtual 176, 3) := DX9_plain_24.1
theorem dX9_plain_27 : decode cX9_plain 27 = .ok (.ifCond .eq 11, 3) := DX9_plain_24.2.1
theorem dX9_plain_30 : decode cX9_plain 30 = .ok (.aload_n 0, 1) := DX9_plain_24.2.2.1
theorem dX9_plain_31 : decode cX9_plain 31 = .ok (.iload_n 2, 1) := DX9_plain_24.2.2.2.1
theorem dX9_plain_32 : decode cX9_plain 32 = .ok (.invokevirtual 186, 3) := DX9_plain_24.2.2.2.2.1
theorem dX9_plain_35 : decode cX9_plain 35 = .ok (.goto 4, 3) := DX9_plain_24.2.2.2.2.2.1
theorem dX9_plain_38 : decode cX9_plain 38 = .ok (.iconst 1, 1) := DX9_plain_24.2.2.2.2.2.2.1
theorem dX9_plain_39 : decode cX9_plain 39 = .ok (.imul, 1) := DX9_plain_24.2.2.2.2.2.2.2.1
theorem dX9_plain_40 : decode cX9_plain 40 = .ok (.istore_n 1, 1) := DX9_plain_24.2.2.2.2.2.2.2.2.1
theorem dX9_plain_41 : decode cX9_plain 41 = .ok (.iinc 2 1, 3) := DX9_plain_24.2.2.2.2.2.2.2.2.2.1
theorem dX9_plain_44 : decode cX9_plain 44 = .ok (.goto (-31), 3) := DX9_plain_24.2.2.2.2.2.2.2.2.2.2.1
theorem dX9_plain_47 : decode cX9_plain 47 = .ok (.iload_n 1, 1) := DX9_plain_24.2.2.2.2.2.2.2.2.2.2.2.1
theorem dX9_plain_48 : decode cX9_plain 48 = .ok (.ireturn, 1) := DX9_plain_24.2.2.2.2.2.2.2.2.2.2.2.2.1
theorem mX9_plain : gMv yX9_plain cX9_plain 3 (some .int) RX9 0 := ⟨q1189, q1190, q10, q1191, rfl, by decide, by decide, by decide +kernel⟩
noncomputable def bX9_plain_39 (v2 : Int32) (t0 : Int32) (t1 : Int32) : Option ((Int32 × Int32) ⊕ (Int32)) :=
  some (.inl (t1 * t0, v2 + 1))
set_option maxRecDepth 100000 in
set_option maxHeartbeats 4000000 in
theorem wbX9_plain_39 {z : gZ} {E : gE} {bk : Nat} (F : Fx z sh E "LeapJoinModel" cX9_plain (gR 2) 3) (B : bZ z bk) (hE : gDist sh E) (v2 : Int32) (t0 : Int32) (t1 : Int32) (I : gM) (J : gN) {y : (Int32 × Int32) ⊕ (Int32)} (h : bX9_plain_39 v2 t0 t1 = some y) (hl : ∀ s' : Int32 × Int32, y = .inl s' → G z 13 [(0, .ref (E.2.1 62)), (1, .int (s'.1)), (2, .int (s'.2))] [] I J) (K13_0 : ∀ x : Int32, y = .inr x → G z 47 [(1, .int x)] [] I J) : G z 39 [(0, .ref (E.2.1 62)), (2, .int v2)] [.int t0, .int t1] I J := by
  unfold bX9_plain_39 at h
  refine g_imul (v := t1 * t0) F dX9_plain_39 rfl ?_
  refine g_istore_n (Ln := [(1, .int (t1 * t0)), (0, .ref (E.2.1 62)), (2, .int v2)]) F dX9_plain_40 rfl (by decide) rfl ?_
  refine g_iinc (v := v2 + 1) (Ln := [(2, .int (v2 + 1)), (1, .int (t1 * t0)), (0, .ref (E.2.1 62))]) F 2 dX9_plain_41 rfl (add_c (by decide)) (by decide) rfl ?_
  refine g_goto (tgt := 13) F dX9_plain_44 (by decide) ?_
  obtain rfl := Option.some.inj h
  refine g_sub (Ln := [(0, .ref (E.2.1 62)), (1, .int (t1 * t0)), (2, .int (v2 + 1))]) [2, 1, 0] rfl ?_
  exact hl (t1 * t0, v2 + 1) rfl
noncomputable def lX9_plain_13 (I : gM) : (Int32 × Int32) → Option (Int32) :=
  itO fun s =>
    if (I 62 17) ≤ s.2 then
      some (.inr s.1)
    else
      (fX9_isUsed s.2 I).bind fun r2 =>
      if r2 = 0 then
        bX9_plain_39 s.2 (1 : Int32) s.1
      else
        (fX9_many s.2 I).bind fun r3 =>
        bX9_plain_39 s.2 r3 s.1
set_option maxRecDepth 100000 in
set_option maxHeartbeats 4000000 in
theorem wlX9_plain_13 {z : gZ} {E : gE} {bk : Nat} (F : Fx z sh E "LeapJoinModel" cX9_plain (gR 2) 3) (B : bZ z bk) (hE : gDist sh E) (I : gM) (J : gN) {r : Int32} : ∀ s : Int32 × Int32, lX9_plain_13 I s = some r → (G z 47 [(1, .int r)] [] I J) → G z 13 [(0, .ref (E.2.1 62)), (1, .int s.1), (2, .int s.2)] [] I J := by
  intro s h X0
  unfold lX9_plain_13 at h
  revert s
  refine itO_ind (P := fun s : Int32 × Int32 => G z 13 [(0, .ref (E.2.1 62)), (1, .int s.1), (2, .int s.2)] [] I J) (fun s y h hl hr => ?_)
  have K13_0 : ∀ x : Int32, y = .inr x → (G z 47 [(1, .int x)] [] I J) := fun x q => by have q2 := hr _ q; subst q2; exact X0
  refine g_iload_n F 2 dX9_plain_13 rfl rfl ?_
  refine g_aload_n F 0 dX9_plain_14 rfl rfl ?_
  refine g_geti (j := 17) (v := I 62 17) F s62 rfl rfl uX9 (by decide) q838 rfl dX9_plain_15 ?_
  refine u_icmp_ge (tgt := 47) F dX9_plain_18 (by decide) h (fun h => ?_) (fun h => ?_)
  · obtain rfl := Option.some.inj h
    refine g_sub (Ln := [(1, .int s.1)]) [1] rfl ?_
    exact K13_0 s.1 rfl
  · refine g_iload_n F 1 dX9_plain_21 rfl rfl ?_
    refine g_aload_n F 0 dX9_plain_22 rfl rfl ?_
    refine g_iload_n F 2 dX9_plain_23 rfl rfl ?_
    refine u_callV (k := 62) (As := [.int s.2]) (rest := [.int s.1]) (sn := fun r2 => [.int r2, .int s.1]) F B (fun _ => wX9_isUsed (zl z) E hE bk s.2 I J) mX9_isUsed q1043 rfl s62 rfl rfl rfl (Nat.le_of_ble_eq_true rfl) dX9_plain_24 (fun _ => rfl) h (fun r2 h => ?_)
    refine u_if_eq (tgt := 38) F dX9_plain_27 (by decide) h (fun h => ?_) (fun h => ?_)
    · refine g_iconst (v := 1) F dX9_plain_38 (by decide) ?_
      refine g_sub (Ln := [(0, .ref (E.2.1 62)), (2, .int s.2)]) [0, 2] rfl ?_
      exact wbX9_plain_39 F B hE s.2 (1 : Int32) s.1 I J h hl K13_0
    · refine g_aload_n F 0 dX9_plain_30 rfl rfl ?_
      refine g_iload_n F 2 dX9_plain_31 rfl rfl ?_
      refine u_callV (k := 62) (As := [.int s.2]) (rest := [.int s.1]) (sn := fun r3 => [.int r3, .int s.1]) F B (fun _ => wX9_many (zl z) E hE bk s.2 I J) mX9_many q994 rfl s62 rfl rfl rfl (Nat.le_of_ble_eq_true rfl) dX9_plain_32 (fun _ => rfl) h (fun r3 h => ?_)
      refine g_goto (tgt := 39) F dX9_plain_35 (by decide) ?_
      refine g_sub (Ln := [(0, .ref (E.2.1 62)), (2, .int s.2)]) [0, 2] rfl ?_
      exact wbX9_plain_39 F B hE s.2 r3 s.1 I J h hl K13_0
noncomputable def fX9_plain (I : gM) : Option (Int32) :=
  (fX9_areTables I).bind fun r1 =>
  if r1 = 0 then
    some ((-1) : Int32)
  else
    (lX9_plain_13 I ((1 : Int32), (0 : Int32))).bind fun w4 =>
    some w4
set_option maxRecDepth 100000 in
set_option maxHeartbeats 4000000 in
theorem wX9_plain (l : Launch) (E : gE) (hE : gDist sh E) (bk : Nat) (I : gM) (J : gN) {r : Int32} (h : fX9_plain I = some r) : Cu l sh E bk yX9_plain cX9_plain 3 (some .int) (gR 2) [.ref (E.2.1 62)] I J (fun r1 I1 J1 => r1 = some (.int r) ∧ I1 = I ∧ J1 = J) := by
  refine Cu.of "LeapJoinModel" rfl hE (by decide) (Nat.le_of_ble_eq_true rfl) (fun z F B e hl => ?_)
  subst hl
  unfold fX9_plain at h
  refine g_aload_n F 0 dX9_plain_0 rfl rfl ?_
  refine u_callV (k := 62) (As := []) (rest := []) (sn := fun r1 => [.int r1]) F B (fun _ => wX9_areTables (zl z) E hE bk  I J) mX9_areTables q1028 rfl s62 rfl rfl rfl (Nat.le_of_ble_eq_true rfl) dX9_plain_1 (fun _ => rfl) h (fun r1 h => ?_)
  refine u_if_ne (tgt := 9) F dX9_plain_4 (by decide) h (fun h => ?_) (fun h => ?_)
  · refine g_iconst (v := (-1)) F dX9_plain_7 (by decide) ?_
    obtain rfl := Option.some.inj h
    exact g_iret F e dX9_plain_8 ⟨rfl, rfl, rfl⟩
  · refine g_iconst (v := 1) F dX9_plain_9 (by decide) ?_
    refine g_istore_n (Ln := [(1, .int 1), (0, .ref (E.2.1 62))]) F dX9_plain_10 rfl (by decide) rfl ?_
    refine g_iconst (v := 0) F dX9_plain_11 (by decide) ?_
    refine g_istore_n (Ln := [(2, .int 0), (1, .int 1), (0, .ref (E.2.1 62))]) F dX9_plain_12 rfl (by decide) rfl ?_
    obtain ⟨w4, ew4, h⟩ := ob h
    refine g_sub (Ln := [(0, .ref (E.2.1 62)), (1, .int 1), (2, .int 0)]) [2, 1, 0] rfl ?_
    refine wlX9_plain_13 F B hE I J _ ew4 ?_
    refine g_iload_n F 0 dX9_plain_47 rfl rfl ?_
    obtain rfl := Option.some.inj h
    exact g_iret F e dX9_plain_48 ⟨rfl, rfl, rfl⟩
theorem DX9_isOf_0 : dAre cX9_isOf [(0, .iconst 1, 1), (1, .istore 4, 2), (3, .iconst 0, 1), (4, .istore 5, 2), (6, .iload 5, 2), (8, .aload_n 0, 1), (9, .getfield 37, 3), (12, .iload_n 2, 1), (13, .iaload, 1), (14, .if_icmp .ge 53, 3), (17, .iload 4, 2), (19, .ifCond .eq 39, 3), (22, .aload_n 0, 1), (23, .iload_n 1, 1), (24, .aload_n 0, 1), (25, .getfield 40, 3)] := dAre0 (by decide +kernel)
theorem dX9_isOf_0 : decode cX9_isOf 0 = .ok (.iconst 1, 1) := DX9_isOf_0.1
theorem dX9_isOf_1 : decode cX9_isOf 1 = .ok (.istore 4, 2) := DX9_isOf_0.2.1
theorem dX9_isOf_3 : decode cX9_isOf 3 = .ok (.iconst 0, 1) := DX9_isOf_0.2.2.1
theorem dX9_isOf_4 : decode cX9_isOf 4 = .ok (.istore 5, 2) := DX9_isOf_0.2.2.2.1
theorem dX9_isOf_6 : decode cX9_isOf 6 = .ok (.iload 5, 2) := DX9_isOf_0.2.2.2.2.1
theorem dX9_isOf_8 : decode cX9_isOf 8 = .ok (.aload_n 0, 1) := DX9_isOf_0.2.2.2.2.2.1
theorem dX9_isOf_9 : decode cX9_isOf 9 = .ok (.getfield 37, 3) := DX9_isOf_0.2.2.2.2.2.2.1
theorem dX9_isOf_12 : decode cX9_isOf 12 = .ok (.iload_n 2, 1) := DX9_isOf_0.2.2.2.2.2.2.2.1
theorem dX9_isOf_13 : decode cX9_isOf 13 = .ok (.iaload, 1) := DX9_isOf_0.2.2.2.2.2.2.2.2.1
theorem dX9_isOf_14 : decode cX9_isOf 14 = .ok (.if_icmp .ge 53, 3) := DX9_isOf_0.2.2.2.2.2.2.2.2.2.1
theorem dX9_isOf_17 : decode cX9_isOf 17 = .ok (.iload 4, 2) := DX9_isOf_0.2.2.2.2.2.2.2.2.2.2.1
theorem dX9_isOf_19 : decode cX9_isOf 19 = .ok (.ifCond .eq 39, 3) := DX9_isOf_0.2.2.2.2.2.2.2.2.2.2.2.1
theorem dX9_isOf_22 : decode cX9_isOf 22 = .ok (.aload_n 0, 1) := DX9_isOf_0.2.2.2.2.2.2.2.2.2.2.2.2.1
theorem dX9_isOf_23 : decode cX9_isOf 23 = .ok (.iload_n 1, 1) := DX9_isOf_0.2.2.2.2.2.2.2.2.2.2.2.2.2.1
theorem dX9_isOf_24 : decode cX9_isOf 24 = .ok (.aload_n 0, 1) := DX9_isOf_0.2.2.2.2.2.2.2.2.2.2.2.2.2.2.1
theorem dX9_isOf_25 : decode cX9_isOf 25 = .ok (.getfield 40, 3) := DX9_isOf_0.2.2.2.2.2.2.2.2.2.2.2.2.2.2.2.1
theorem DX9_isOf_28 : dAre cX9_isOf [(28, .iconst 3, 1), (29, .iload_n 2, 1), (30, .imul, 1), (31, .iload 5, 2), (33, .iadd, 1), (34, .iaload, 1), (35, .invokevirtual 345, 3), (38, .aload_n 0, 1), (39, .getfield 31, 3), (42, .iload_n 2, 1), (43, .iload_n 3, 1), (44, .invokestatic 182, 3), (47, .iload 5, 2), (49, .iadd, 1), (50, .iaload, 1), (51, .if_icmp .ne 7, 3)] := dAre0 (by decide +kernel)
theorem dX9_isOf_28 : decode cX9_isOf 28 = .ok (.iconst 3, 1) := DX9_isOf_28.1
theorem dX9_isOf_29 : decode cX9_isOf 29 = .ok (.iload_n 2, 1) := DX9_isOf_28.2.1
theorem dX9_isOf_30 : decode cX9_isOf 30 = .ok (.imul, 1) := DX9_isOf_28.2.2.1
theorem dX9_isOf_31 : decode cX9_isOf 31 = .ok (.iload 5, 2) := DX9_isOf_28.2.2.2.1
theorem dX9_isOf_33 : decode cX9_isOf 33 = .ok (.iadd, 1) := DX9_isOf_28.2.2.2.2.1
theorem dX9_isOf_34 : decode cX9_isOf 34 = .ok (.iaload, 1) := DX9_isOf_28.2.2.2.2.2.1
theorem dX9_isOf_35 : decode cX9_isOf 35 = .ok (.invokevirtual 345, 3) := DX9_isOf_28.2.2.2.2.2.2.1
theorem dX9_isOf_38 : decode cX9_isOf 38 = .ok (.aload_n 0, 1) := DX9_isOf_28.2.2.2.2.2.2.2.1
theorem dX9_isOf_39 : decode cX9_isOf 39 = .ok (.getfield 31, 3) := DX9_isOf_28.2.2.2.2.2.2.2.2.1
theorem dX9_isOf_42 : decode cX9_isOf 42 = .ok (.iload_n 2, 1) := DX9_isOf_28.2.2.2.2.2.2.2.2.2.1
theorem dX9_isOf_43 : decode cX9_isOf 43 = .ok (.iload_n 3, 1) := DX9_isOf_28.2.2.2.2.2.2.2.2.2.2.1
theorem dX9_isOf_44 : decode cX9_isOf 44 = .ok (.invokestatic 182, 3) := DX9_isOf_28.2.2.2.2.2.2.2.2.2.2.2.1
theorem dX9_isOf_47 : decode cX9_isOf 47 = .ok (.iload 5, 2) := DX9_isOf_28.2.2.2.2.2.2.2.2.2.2.2.2.1
theorem dX9_isOf_49 : decode cX9_isOf 49 = .ok (.iadd, 1) := DX9_isOf_28.2.2.2.2.2.2.2.2.2.2.2.2.2.1
theorem dX9_isOf_50 : decode cX9_isOf 50 = .ok (.iaload, 1) := DX9_isOf_28.2.2.2.2.2.2.2.2.2.2.2.2.2.2.1
theorem dX9_isOf_51 : decode cX9_isOf 51 = .ok (.if_icmp .ne 7, 3) := DX9_isOf_28.2.2.2.2.2.2.2.2.2.2.2.2.2.2.2.1
theorem DX9_isOf_54 : dAre cX9_isOf [(54, .iconst 1, 1), (55, .goto 4, 3), (58, .iconst 0, 1), (59, .istore 4, 2), (61, .iinc 5 1, 3), (64, .goto (-58), 3), (67, .iload 4, 2), (69, .ireturn, 1)] := dAre0 (by decide +kernel)
theorem dX9_isOf_54 : decode cX9_isOf 54 = .ok (.iconst 1, 1) := DX9_isOf_54.1
theorem dX9_isOf_55 : decode cX9_isOf 55 = .ok (.goto 4, 3) := DX9_isOf_54.2.1
theorem dX9_isOf_58 : decode cX9_isOf 58 = .ok (.iconst 0, 1) := DX9_isOf_54.2.2.1
theorem dX9_isOf_59 : decode cX9_isOf 59 = .ok (.istore 4, 2) := DX9_isOf_54.2.2.2.1
theorem dX9_isOf_61 : decode cX9_isOf 61 = .ok (.iinc 5 1, 3) := DX9_isOf_54.2.2.2.2.1
theorem dX9_isOf_64 : decode cX9_isOf 64 = .ok (.goto (-58), 3) := DX9_isOf_54.2.2.2.2.2.1
theorem dX9_isOf_67 : decode cX9_isOf 67 = .ok (.iload 4, 2) := DX9_isOf_54.2.2.2.2.2.2.1
theorem dX9_isOf_69 : decode cX9_isOf 69 = .ok (.ireturn, 1) := DX9_isOf_54.2.2.2.2.2.2.2.1
theorem mX9_isOf : gMv yX9_isOf cX9_isOf 6 (some .boolean) RX9 3 := ⟨q1200, q1441, q10, q1201, rfl, by decide, by decide, by decide +kernel⟩
noncomputable def bX9_isOf_59 (v5 : Int32) (t0 : Int32) : Option ((Int32 × Int32) ⊕ (Int32)) :=
  some (.inl (t0, v5 + 1))
set_option maxRecDepth 100000 in
set_option maxHeartbeats 4000000 in
theorem wbX9_isOf_59 {z : gZ} {E : gE} {bk : Nat} (F : Fx z sh E "LeapJoinModel" cX9_isOf (gR 1) 6) (B : bZ z bk) (hE : gDist sh E) (v1 : Int32) (v2 : Int32) (v3 : Int32) (v5 : Int32) (t0 : Int32) (I : gM) (J : gN) {y : (Int32 × Int32) ⊕ (Int32)} (h : bX9_isOf_59 v5 t0 = some y) (hl : ∀ s' : Int32 × Int32, y = .inl s' → G z 6 [(0, .ref (E.2.1 62)), (1, .int v1), (2, .int v2), (3, .int v3), (4, .int (s'.1)), (5, .int (s'.2))] [] I J) (K6_0 : ∀ x : Int32, y = .inr x → G z 67 [(4, .int x)] [] I J) : G z 59 [(0, .ref (E.2.1 62)), (1, .int v1), (2, .int v2), (3, .int v3), (5, .int v5)] [.int t0] I J := by
  unfold bX9_isOf_59 at h
  refine g_istore (Ln := [(4, .int t0), (0, .ref (E.2.1 62)), (1, .int v1), (2, .int v2), (3, .int v3), (5, .int v5)]) F dX9_isOf_59 (by decide) rfl ?_
  refine g_iinc (v := v5 + 1) (Ln := [(5, .int (v5 + 1)), (4, .int t0), (0, .ref (E.2.1 62)), (1, .int v1), (2, .int v2), (3, .int v3)]) F 5 dX9_isOf_61 rfl (add_c (by decide)) (by decide) rfl ?_
  refine g_goto (tgt := 6) F dX9_isOf_64 (by decide) ?_
  obtain rfl := Option.some.inj h
  refine g_sub (Ln := [(0, .ref (E.2.1 62)), (1, .int v1), (2, .int v2), (3, .int v3), (4, .int t0), (5, .int (v5 + 1))]) [2, 3, 4, 5, 1, 0] rfl ?_
  exact hl (t0, v5 + 1) rfl
noncomputable def bX9_isOf_58 (v5 : Int32) : Option ((Int32 × Int32) ⊕ (Int32)) :=
  bX9_isOf_59 v5 (0 : Int32)
set_option maxRecDepth 100000 in
set_option maxHeartbeats 4000000 in
theorem wbX9_isOf_58 {z : gZ} {E : gE} {bk : Nat} (F : Fx z sh E "LeapJoinModel" cX9_isOf (gR 1) 6) (B : bZ z bk) (hE : gDist sh E) (v1 : Int32) (v2 : Int32) (v3 : Int32) (v5 : Int32) (I : gM) (J : gN) {y : (Int32 × Int32) ⊕ (Int32)} (h : bX9_isOf_58 v5 = some y) (hl : ∀ s' : Int32 × Int32, y = .inl s' → G z 6 [(0, .ref (E.2.1 62)), (1, .int v1), (2, .int v2), (3, .int v3), (4, .int (s'.1)), (5, .int (s'.2))] [] I J) (K6_0 : ∀ x : Int32, y = .inr x → G z 67 [(4, .int x)] [] I J) : G z 58 [(0, .ref (E.2.1 62)), (1, .int v1), (2, .int v2), (3, .int v3), (5, .int v5)] [] I J := by
  unfold bX9_isOf_58 at h
  refine g_iconst (v := 0) F dX9_isOf_58 (by decide) ?_
  refine g_sub (Ln := [(0, .ref (E.2.1 62)), (1, .int v1), (2, .int v2), (3, .int v3), (5, .int v5)]) [0, 1, 2, 3, 4] rfl ?_
  exact wbX9_isOf_59 F B hE v1 v2 v3 v5 (0 : Int32) I J h hl K6_0
noncomputable def lX9_isOf_6 (v1 : Int32) (v2 : Int32) (v3 : Int32) (I : gM) : (Int32 × Int32) → Option (Int32) :=
  itO fun s =>
    (rI 4 (I 72) v2).bind fun u1 =>
    if u1 ≤ s.2 then
      some (.inr s.1)
    else
      if s.1 = 0 then
        bX9_isOf_58 s.2
      else
        (rI 12 (I 73) (((3 : Int32) * v2) + s.2)).bind fun u2 =>
        (fX9_numberOf v1 u2 I).bind fun r3 =>
        (fX9_rowAt v2 v3).bind fun r4 =>
        (rI 331 (I 70) (r4 + s.2)).bind fun u5 =>
        if r3 = u5 then
          bX9_isOf_59 s.2 (1 : Int32)
        else
          bX9_isOf_58 s.2
set_option maxRecDepth 100000 in
set_option maxHeartbeats 4000000 in
theorem wlX9_isOf_6 {z : gZ} {E : gE} {bk : Nat} (F : Fx z sh E "LeapJoinModel" cX9_isOf (gR 1) 6) (B : bZ z bk) (hE : gDist sh E) (v1 : Int32) (v2 : Int32) (v3 : Int32) (I : gM) (J : gN) {r : Int32} : ∀ s : Int32 × Int32, lX9_isOf_6 v1 v2 v3 I s = some r → (G z 67 [(4, .int r)] [] I J) → G z 6 [(0, .ref (E.2.1 62)), (1, .int v1), (2, .int v2), (3, .int v3), (4, .int s.1), (5, .int s.2)] [] I J := by
  intro s h X0
  unfold lX9_isOf_6 at h
  revert s
  refine itO_ind (P := fun s : Int32 × Int32 => G z 6 [(0, .ref (E.2.1 62)), (1, .int v1), (2, .int v2), (3, .int v3), (4, .int s.1), (5, .int s.2)] [] I J) (fun s y h hl hr => ?_)
  have K6_0 : ∀ x : Int32, y = .inr x → (G z 67 [(4, .int x)] [] I J) := fun x q => by have q2 := hr _ q; subst q2; exact X0
  refine g_iload F 5 dX9_isOf_6 rfl ?_
  refine g_aload_n F 0 dX9_isOf_8 rfl rfl ?_
  refine g_getr (j := 15) (nn := 72) F s62 rfl rfl uX9 (by decide) q836 dX9_isOf_9 ?_
  refine g_iload_n F 2 dX9_isOf_12 rfl rfl ?_
  refine u_rI F s72 (by decide) dX9_isOf_13 h (fun u1 h => ?_)
  refine u_icmp_ge (tgt := 67) F dX9_isOf_14 (by decide) h (fun h => ?_) (fun h => ?_)
  · obtain rfl := Option.some.inj h
    refine g_sub (Ln := [(4, .int s.1)]) [4] rfl ?_
    exact K6_0 s.1 rfl
  · refine g_iload F 4 dX9_isOf_17 rfl ?_
    refine u_if_eq (tgt := 58) F dX9_isOf_19 (by decide) h (fun h => ?_) (fun h => ?_)
    · refine g_sub (Ln := [(0, .ref (E.2.1 62)), (1, .int v1), (2, .int v2), (3, .int v3), (5, .int s.2)]) [0, 1, 2, 3, 5] rfl ?_
      exact wbX9_isOf_58 F B hE v1 v2 v3 s.2 I J h hl K6_0
    · refine g_aload_n F 0 dX9_isOf_22 rfl rfl ?_
      refine g_iload_n F 1 dX9_isOf_23 rfl rfl ?_
      refine g_aload_n F 0 dX9_isOf_24 rfl rfl ?_
      refine g_getr (j := 16) (nn := 73) F s62 rfl rfl uX9 (by decide) q837 dX9_isOf_25 ?_
      refine g_iconst (v := 3) F dX9_isOf_28 (by decide) ?_
      refine g_iload_n F 2 dX9_isOf_29 rfl rfl ?_
      refine g_imul (v := (3 : Int32) * v2) F dX9_isOf_30 rfl ?_
      refine g_iload F 5 dX9_isOf_31 rfl ?_
      refine g_iadd (v := ((3 : Int32) * v2) + s.2) F dX9_isOf_33 rfl ?_
      refine u_rI F s73 (by decide) dX9_isOf_34 h (fun u2 h => ?_)
      refine u_callV (k := 62) (As := [.int v1, .int u2]) (rest := []) (sn := fun r3 => [.int r3]) F B (fun _ => wX9_numberOf (zl z) E hE bk v1 u2 I J) mX9_numberOf q1170 rfl s62 rfl rfl rfl (Nat.le_of_ble_eq_true rfl) dX9_isOf_35 (fun _ => rfl) h (fun r3 h => ?_)
      refine g_aload_n F 0 dX9_isOf_38 rfl rfl ?_
      refine g_getr (j := 13) (nn := 70) F s62 rfl rfl uX9 (by decide) q834 dX9_isOf_39 ?_
      refine g_iload_n F 2 dX9_isOf_42 rfl rfl ?_
      refine g_iload_n F 3 dX9_isOf_43 rfl rfl ?_
      refine u_callS (As := [.int v2, .int v3]) (rest := [.ref (E.2.1 70), .int r3]) (sn := fun r4 => [.int r4, .ref (E.2.1 70), .int r3]) F B (fun _ => wX9_rowAt (zl z) E hE bk v2 v3 I J) mX9_rowAt q1000 rfl rfl rfl (Nat.le_of_ble_eq_true rfl) dX9_isOf_44 (fun _ => rfl) h (fun r4 h => ?_)
      refine g_iload F 5 dX9_isOf_47 rfl ?_
      refine g_iadd (v := r4 + s.2) F dX9_isOf_49 rfl ?_
      refine u_rI F s70 (by decide) dX9_isOf_50 h (fun u5 h => ?_)
      refine u_icmp_ne (tgt := 58) F dX9_isOf_51 (by decide) h (fun h => ?_) (fun h => ?_)
      · refine g_iconst (v := 1) F dX9_isOf_54 (by decide) ?_
        refine g_goto (tgt := 59) F dX9_isOf_55 (by decide) ?_
        refine g_sub (Ln := [(0, .ref (E.2.1 62)), (1, .int v1), (2, .int v2), (3, .int v3), (5, .int s.2)]) [0, 1, 2, 3, 5] rfl ?_
        exact wbX9_isOf_59 F B hE v1 v2 v3 s.2 (1 : Int32) I J h hl K6_0
      · refine g_sub (Ln := [(0, .ref (E.2.1 62)), (1, .int v1), (2, .int v2), (3, .int v3), (5, .int s.2)]) [0, 1, 2, 3, 5] rfl ?_
        exact wbX9_isOf_58 F B hE v1 v2 v3 s.2 I J h hl K6_0
noncomputable def fX9_isOf (v1 : Int32) (v2 : Int32) (v3 : Int32) (I : gM) : Option (Int32) :=
  (lX9_isOf_6 v1 v2 v3 I ((1 : Int32), (0 : Int32))).bind fun w6 =>
  (bO w6).bind fun u7 =>
  some u7
set_option maxRecDepth 100000 in
set_option maxHeartbeats 4000000 in
theorem wX9_isOf (l : Launch) (E : gE) (hE : gDist sh E) (bk : Nat) (v1 : Int32) (v2 : Int32) (v3 : Int32) (I : gM) (J : gN) {r : Int32} (h : fX9_isOf v1 v2 v3 I = some r) : Cu l sh E bk yX9_isOf cX9_isOf 6 (some .boolean) (gR 1) [.ref (E.2.1 62), .int v1, .int v2, .int v3] I J (fun r1 I1 J1 => r1 = some (.int r) ∧ I1 = I ∧ J1 = J) := by
  refine Cu.of "LeapJoinModel" rfl hE (by decide) (Nat.le_of_ble_eq_true rfl) (fun z F B e hl => ?_)
  subst hl
  unfold fX9_isOf at h
  refine g_iconst (v := 1) F dX9_isOf_0 (by decide) ?_
  refine g_istore (Ln := [(4, .int 1), (0, .ref (E.2.1 62)), (1, .int v1), (2, .int v2), (3, .int v3)]) F dX9_isOf_1 (by decide) rfl ?_
  refine g_iconst (v := 0) F dX9_isOf_3 (by decide) ?_
  refine g_istore (Ln := [(5, .int 0), (4, .int 1), (0, .ref (E.2.1 62)), (1, .int v1), (2, .int v2), (3, .int v3)]) F dX9_isOf_4 (by decide) rfl ?_
  obtain ⟨w6, ew6, h⟩ := ob h
  refine g_sub (Ln := [(0, .ref (E.2.1 62)), (1, .int v1), (2, .int v2), (3, .int v3), (4, .int 1), (5, .int 0)]) [2, 3, 4, 5, 1, 0] rfl ?_
  refine wlX9_isOf_6 F B hE v1 v2 v3 I J _ ew6 ?_
  refine g_iload F 0 dX9_isOf_67 rfl ?_
  obtain ⟨u7, eu7, h⟩ := ob h
  obtain ⟨nu7, rfl⟩ := bO_some eu7
  obtain rfl := Option.some.inj h
  exact g_zret F nu7 e dX9_isOf_69 ⟨rfl, rfl, rfl⟩
theorem DX9_givenBy_0 : dAre cX9_givenBy [(0, .iconst 0, 1), (1, .istore_n 2, 1), (2, .iconst 0, 1), (3, .istore_n 3, 1), (4, .iload_n 3, 1), (5, .aload_n 0, 1), (6, .iload_n 1, 1), (7, .invokevirtual 186, 3), (10, .if_icmp .ge 64, 3), (13, .aload_n 0, 1), (14, .iload_n 1, 1), (15, .invokevirtual 176, 3), (18, .ifCond .eq 56, 3), (21, .iconst 0, 1), (22, .istore 4, 2), (24, .iload 4, 2)] := dAre0 (by decide +kernel)
theorem dX9_givenBy_0 : decode cX9_givenBy 0 = .ok (.iconst 0, 1) := DX9_givenBy_0.1
theorem dX9_givenBy_1 : decode cX9_givenBy 1 = .ok (.istore_n 2, 1) := DX9_givenBy_0.2.1
theorem dX9_givenBy_2 : decode cX9_givenBy 2 = .ok (.iconst 0, 1) := DX9_givenBy_0.2.2.1
theorem dX9_givenBy_3 : decode cX9_givenBy 3 = .ok (.istore_n 3, 1) := DX9_givenBy_0.2.2.2.1
theorem dX9_givenBy_4 : decode cX9_givenBy 4 = .ok (.iload_n 3, 1) := DX9_givenBy_0.2.2.2.2.1
theorem dX9_givenBy_5 : decode cX9_givenBy 5 = .ok (.aload_n 0, 1) := DX9_givenBy_0.2.2.2.2.2.1
theorem dX9_givenBy_6 : decode cX9_givenBy 6 = .ok (.iload_n 1, 1) := DX9_givenBy_0.2.2.2.2.2.2.1
theorem dX9_givenBy_7 : decode cX9_givenBy 7 = .ok (.invokevirtual 186, 3) := DX9_givenBy_0.2.2.2.2.2.2.2.1
theorem dX9_givenBy_10 : decode cX9_givenBy 10 = .ok (.if_icmp .ge 64, 3) := DX9_givenBy_0.2.2.2.2.2.2.2.2.1
theorem dX9_givenBy_13 : decode cX9_givenBy 13 = .ok (.aload_n 0, 1) := DX9_givenBy_0.2.2.2.2.2.2.2.2.2.1
theorem dX9_givenBy_14 : decode cX9_givenBy 14 = .ok (.iload_n 1, 1) := DX9_givenBy_0.2.2.2.2.2.2.2.2.2.2.1
theorem dX9_givenBy_15 : decode cX9_givenBy 15 = .ok (.invokevirtual 176, 3) := DX9_givenBy_0.2.2.2.2.2.2.2.2.2.2.2.1
theorem dX9_givenBy_18 : decode cX9_givenBy 18 = .ok (.ifCond .eq 56, 3) := DX9_givenBy_0.2.2.2.2.2.2.2.2.2.2.2.2.1
theorem dX9_givenBy_21 : decode cX9_givenBy 21 = .ok (.iconst 0, 1) := DX9_givenBy_0.2.2.2.2.2.2.2.2.2.2.2.2.2.1
theorem dX9_givenBy_22 : decode cX9_givenBy 22 = .ok (.istore 4, 2) := DX9_givenBy_0.2.2.2.2.2.2.2.2.2.2.2.2.2.2.1
theorem dX9_givenBy_24 : decode cX9_givenBy 24 = .ok (.iload 4, 2) := DX9_givenBy_0.2.2.2.2.2.2.2.2.2.2.2.2.2.2.2.1
theorem DX9_givenBy_26 : dAre cX9_givenBy [(26, .aload_n 0, 1), (27, .getfield 247, 3), (30, .if_icmp .ge 38, 3), (33, .iload_n 2, 1), (34, .iload_n 3, 1), (35, .invokestatic 131, 3), (38, .ifCond .ne 30, 3), (41, .iload_n 2, 1), (42, .aload_n 0, 1), (43, .iload 4, 2), (45, .iload_n 1, 1), (46, .iload_n 3, 1), (47, .invokevirtual 360, 3), (50, .ifCond .eq 9, 3), (53, .iconst 1, 1), (54, .iload_n 3, 1)] := dAre0 (by decide +kernel)
theorem dX9_givenBy_26 : decode cX9_givenBy 26 = .ok (.aload_n 0, 1) := DX9_givenBy_26.1
theorem dX9_givenBy_27 : decode cX9_givenBy 27 = .ok (.getfield 247, 3) := DX9_givenBy_26.2.1
theorem dX9_givenBy_30 : decode cX9_givenBy 30 = .ok (.if_icmp .ge 38, 3) := DX9_givenBy_26.2.2.1
theorem dX9_givenBy_33 : decode cX9_givenBy 33 = .ok (.iload_n 2, 1) := DX9_givenBy_26.2.2.2.1
theorem dX9_givenBy_34 : decode cX9_givenBy 34 = .ok (.iload_n 3, 1) := DX9_givenBy_26.2.2.2.2.1
theorem dX9_givenBy_35 : decode cX9_givenBy 35 = .ok (.invokestatic 131, 3) := DX9_givenBy_26.2.2.2.2.2.1
theorem dX9_givenBy_38 : decode cX9_givenBy 38 = .ok (.ifCond .ne 30, 3) := DX9_givenBy_26.2.2.2.2.2.2.1
theorem dX9_givenBy_41 : decode cX9_givenBy 41 = .ok (.iload_n 2, 1) := DX9_givenBy_26.2.2.2.2.2.2.2.1
theorem dX9_givenBy_42 : decode cX9_givenBy 42 = .ok (.aload_n 0, 1) := DX9_givenBy_26.2.2.2.2.2.2.2.2.1
theorem dX9_givenBy_43 : decode cX9_givenBy 43 = .ok (.iload 4, 2) := DX9_givenBy_26.2.2.2.2.2.2.2.2.2.1
theorem dX9_givenBy_45 : decode cX9_givenBy 45 = .ok (.iload_n 1, 1) := DX9_givenBy_26.2.2.2.2.2.2.2.2.2.2.1
theorem dX9_givenBy_46 : decode cX9_givenBy 46 = .ok (.iload_n 3, 1) := DX9_givenBy_26.2.2.2.2.2.2.2.2.2.2.2.1
theorem dX9_givenBy_47 : decode cX9_givenBy 47 = .ok (.invokevirtual 360, 3) := DX9_givenBy_26.2.2.2.2.2.2.2.2.2.2.2.2.1
theorem dX9_givenBy_50 : decode cX9_givenBy 50 = .ok (.ifCond .eq 9, 3) := DX9_givenBy_26.2.2.2.2.2.2.2.2.2.2.2.2.2.1
theorem dX9_givenBy_53 : decode cX9_givenBy 53 = .ok (.iconst 1, 1) := DX9_givenBy_26.2.2.2.2.2.2.2.2.2.2.2.2.2.2.1
theorem dX9_givenBy_54 : decode cX9_givenBy 54 = .ok (.iload_n 3, 1) := DX9_givenBy_26.2.2.2.2.2.2.2.2.2.2.2.2.2.2.2.1
theorem DX9_givenBy_55 : dAre cX9_givenBy [(55, .ishl, 1), (56, .goto 4, 3), (59, .iconst 0, 1), (60, .ior, 1), (61, .istore_n 2, 1), (62, .iinc 4 1, 3), (65, .goto (-41), 3), (68, .iinc 3 1, 3), (71, .goto (-67), 3), (74, .iload_n 2, 1), (75, .ireturn, 1)] := dAre0 (by decide +kernel)
theorem dX9_givenBy_55 : decode cX9_givenBy 55 = .ok (.ishl, 1) := DX9_givenBy_55.1
theorem dX9_givenBy_56 : decode cX9_givenBy 56 = .ok (.goto 4, 3) := DX9_givenBy_55.2.1
theorem dX9_givenBy_59 : decode cX9_givenBy 59 = .ok (.iconst 0, 1) := DX9_givenBy_55.2.2.1
theorem dX9_givenBy_60 : decode cX9_givenBy 60 = .ok (.ior, 1) := DX9_givenBy_55.2.2.2.1
theorem dX9_givenBy_61 : decode cX9_givenBy 61 = .ok (.istore_n 2, 1) := DX9_givenBy_55.2.2.2.2.1
theorem dX9_givenBy_62 : decode cX9_givenBy 62 = .ok (.iinc 4 1, 3) := DX9_givenBy_55.2.2.2.2.2.1
theorem dX9_givenBy_65 : decode cX9_givenBy 65 = .ok (.goto (-41), 3) := DX9_givenBy_55.2.2.2.2.2.2.1
theorem dX9_givenBy_68 : decode cX9_givenBy 68 = .ok (.iinc 3 1, 3) := DX9_givenBy_55.2.2.2.2.2.2.2.1
theorem dX9_givenBy_71 : decode cX9_givenBy 71 = .ok (.goto (-67), 3) := DX9_givenBy_55.2.2.2.2.2.2.2.2.1
theorem dX9_givenBy_74 : decode cX9_givenBy 74 = .ok (.iload_n 2, 1) := DX9_givenBy_55.2.2.2.2.2.2.2.2.2.1
theorem dX9_givenBy_75 : decode cX9_givenBy 75 = .ok (.ireturn, 1) := DX9_givenBy_55.2.2.2.2.2.2.2.2.2.2.1
theorem mX9_givenBy : gMv yX9_givenBy cX9_givenBy 5 (some .int) RX9 1 := ⟨q1197, q1440, q10, q1198, rfl, by decide, by decide, by decide +kernel⟩
noncomputable def bX9_givenBy_60 (v4 : Int32) (t0 : Int32) (t1 : Int32) : Option ((Int32 × Int32) ⊕ (Int32)) :=
  some (.inl (t1 ||| t0, v4 + 1))
set_option maxRecDepth 100000 in
set_option maxHeartbeats 4000000 in
theorem wbX9_givenBy_60 {z : gZ} {E : gE} {bk : Nat} (F : Fx z sh E "LeapJoinModel" cX9_givenBy (gR 2) 5) (B : bZ z bk) (hE : gDist sh E) (v1 : Int32) (v3 : Int32) (v4 : Int32) (t0 : Int32) (t1 : Int32) (I : gM) (J : gN) {y : (Int32 × Int32) ⊕ (Int32)} (h : bX9_givenBy_60 v4 t0 t1 = some y) (hl : ∀ s' : Int32 × Int32, y = .inl s' → G z 24 [(0, .ref (E.2.1 62)), (1, .int v1), (2, .int (s'.1)), (3, .int v3), (4, .int (s'.2))] [] I J) (K24_0 : ∀ x : Int32, y = .inr x → G z 68 [(0, .ref (E.2.1 62)), (1, .int v1), (2, .int x), (3, .int v3)] [] I J) : G z 60 [(0, .ref (E.2.1 62)), (1, .int v1), (3, .int v3), (4, .int v4)] [.int t0, .int t1] I J := by
  unfold bX9_givenBy_60 at h
  refine g_ior (v := t1 ||| t0) F dX9_givenBy_60 rfl ?_
  refine g_istore_n (Ln := [(2, .int (t1 ||| t0)), (0, .ref (E.2.1 62)), (1, .int v1), (3, .int v3), (4, .int v4)]) F dX9_givenBy_61 rfl (by decide) rfl ?_
  refine g_iinc (v := v4 + 1) (Ln := [(4, .int (v4 + 1)), (2, .int (t1 ||| t0)), (0, .ref (E.2.1 62)), (1, .int v1), (3, .int v3)]) F 4 dX9_givenBy_62 rfl (add_c (by decide)) (by decide) rfl ?_
  refine g_goto (tgt := 24) F dX9_givenBy_65 (by decide) ?_
  obtain rfl := Option.some.inj h
  refine g_sub (Ln := [(0, .ref (E.2.1 62)), (1, .int v1), (2, .int (t1 ||| t0)), (3, .int v3), (4, .int (v4 + 1))]) [2, 3, 1, 4, 0] rfl ?_
  exact hl (t1 ||| t0, v4 + 1) rfl
noncomputable def lX9_givenBy_24 (v1 : Int32) (v3 : Int32) (I : gM) : (Int32 × Int32) → Option (Int32) :=
  itO fun s =>
    if (I 62 26) ≤ s.2 then
      some (.inr s.1)
    else
      (fX9_has s.1 v3).bind fun r3 =>
      if r3 = 0 then
        (fX9_isOf s.2 v1 v3 I).bind fun r4 =>
        if r4 = 0 then
          bX9_givenBy_60 s.2 (0 : Int32) s.1
        else
          bX9_givenBy_60 s.2 ((1 : Int32) <<< (v3 &&& 31)) s.1
      else
        some (.inr s.1)
set_option maxRecDepth 100000 in
set_option maxHeartbeats 4000000 in
theorem wlX9_givenBy_24 {z : gZ} {E : gE} {bk : Nat} (F : Fx z sh E "LeapJoinModel" cX9_givenBy (gR 2) 5) (B : bZ z bk) (hE : gDist sh E) (v1 : Int32) (v3 : Int32) (I : gM) (J : gN) {r : Int32} : ∀ s : Int32 × Int32, lX9_givenBy_24 v1 v3 I s = some r → (G z 68 [(0, .ref (E.2.1 62)), (1, .int v1), (2, .int r), (3, .int v3)] [] I J) → G z 24 [(0, .ref (E.2.1 62)), (1, .int v1), (2, .int s.1), (3, .int v3), (4, .int s.2)] [] I J := by
  intro s h X0
  unfold lX9_givenBy_24 at h
  revert s
  refine itO_ind (P := fun s : Int32 × Int32 => G z 24 [(0, .ref (E.2.1 62)), (1, .int v1), (2, .int s.1), (3, .int v3), (4, .int s.2)] [] I J) (fun s y h hl hr => ?_)
  have K24_0 : ∀ x : Int32, y = .inr x → (G z 68 [(0, .ref (E.2.1 62)), (1, .int v1), (2, .int x), (3, .int v3)] [] I J) := fun x q => by have q2 := hr _ q; subst q2; exact X0
  refine g_iload F 4 dX9_givenBy_24 rfl ?_
  refine g_aload_n F 0 dX9_givenBy_26 rfl rfl ?_
  refine g_geti (j := 26) (v := I 62 26) F s62 rfl rfl uX9 (by decide) q847 rfl dX9_givenBy_27 ?_
  refine u_icmp_ge (tgt := 68) F dX9_givenBy_30 (by decide) h (fun h => ?_) (fun h => ?_)
  · obtain rfl := Option.some.inj h
    refine g_sub (Ln := [(0, .ref (E.2.1 62)), (1, .int v1), (2, .int s.1), (3, .int v3)]) [0, 1, 2, 3] rfl ?_
    exact K24_0 s.1 rfl
  · refine g_iload_n F 2 dX9_givenBy_33 rfl rfl ?_
    refine g_iload_n F 3 dX9_givenBy_34 rfl rfl ?_
    refine u_callS (As := [.int s.1, .int v3]) (rest := []) (sn := fun r3 => [.int r3]) F B (fun _ => wX9_has (zl z) E hE bk s.1 v3 I J) mX9_has q954 rfl rfl rfl (Nat.le_of_ble_eq_true rfl) dX9_givenBy_35 (fun _ => rfl) h (fun r3 h => ?_)
    refine u_if_ne (tgt := 68) F dX9_givenBy_38 (by decide) h (fun h => ?_) (fun h => ?_)
    · refine g_iload_n F 2 dX9_givenBy_41 rfl rfl ?_
      refine g_aload_n F 0 dX9_givenBy_42 rfl rfl ?_
      refine g_iload F 4 dX9_givenBy_43 rfl ?_
      refine g_iload_n F 1 dX9_givenBy_45 rfl rfl ?_
      refine g_iload_n F 3 dX9_givenBy_46 rfl rfl ?_
      refine u_callV (k := 62) (As := [.int s.2, .int v1, .int v3]) (rest := [.int s.1]) (sn := fun r4 => [.int r4, .int s.1]) F B (fun _ => wX9_isOf (zl z) E hE bk s.2 v1 v3 I J) mX9_isOf q1199 rfl s62 rfl rfl rfl (Nat.le_of_ble_eq_true rfl) dX9_givenBy_47 (fun _ => rfl) h (fun r4 h => ?_)
      refine u_if_eq (tgt := 59) F dX9_givenBy_50 (by decide) h (fun h => ?_) (fun h => ?_)
      · refine g_iconst (v := 0) F dX9_givenBy_59 (by decide) ?_
        refine g_sub (Ln := [(0, .ref (E.2.1 62)), (1, .int v1), (3, .int v3), (4, .int s.2)]) [0, 1, 3, 4] rfl ?_
        exact wbX9_givenBy_60 F B hE v1 v3 s.2 (0 : Int32) s.1 I J h hl K24_0
      · refine g_iconst (v := 1) F dX9_givenBy_53 (by decide) ?_
        refine g_iload_n F 3 dX9_givenBy_54 rfl rfl ?_
        refine g_ishl (v := (1 : Int32) <<< (v3 &&& 31)) F dX9_givenBy_55 rfl ?_
        refine g_goto (tgt := 60) F dX9_givenBy_56 (by decide) ?_
        refine g_sub (Ln := [(0, .ref (E.2.1 62)), (1, .int v1), (3, .int v3), (4, .int s.2)]) [0, 1, 3, 4] rfl ?_
        exact wbX9_givenBy_60 F B hE v1 v3 s.2 ((1 : Int32) <<< (v3 &&& 31)) s.1 I J h hl K24_0
    · obtain rfl := Option.some.inj h
      refine g_sub (Ln := [(0, .ref (E.2.1 62)), (1, .int v1), (2, .int s.1), (3, .int v3)]) [0, 1, 2, 3] rfl ?_
      exact K24_0 s.1 rfl
noncomputable def bX9_givenBy_68 (v2 : Int32) (v3 : Int32) : Option ((Int32 × Int32) ⊕ (Int32)) :=
  some (.inl (v2, v3 + 1))
set_option maxRecDepth 100000 in
set_option maxHeartbeats 4000000 in
theorem wbX9_givenBy_68 {z : gZ} {E : gE} {bk : Nat} (F : Fx z sh E "LeapJoinModel" cX9_givenBy (gR 2) 5) (B : bZ z bk) (hE : gDist sh E) (v1 : Int32) (v2 : Int32) (v3 : Int32) (I : gM) (J : gN) {y : (Int32 × Int32) ⊕ (Int32)} (h : bX9_givenBy_68 v2 v3 = some y) (hl : ∀ s' : Int32 × Int32, y = .inl s' → G z 4 [(0, .ref (E.2.1 62)), (1, .int v1), (2, .int (s'.1)), (3, .int (s'.2))] [] I J) (K4_0 : ∀ x : Int32, y = .inr x → G z 74 [(2, .int x)] [] I J) : G z 68 [(0, .ref (E.2.1 62)), (1, .int v1), (2, .int v2), (3, .int v3)] [] I J := by
  unfold bX9_givenBy_68 at h
  refine g_iinc (v := v3 + 1) (Ln := [(3, .int (v3 + 1)), (0, .ref (E.2.1 62)), (1, .int v1), (2, .int v2)]) F 3 dX9_givenBy_68 rfl (add_c (by decide)) (by decide) rfl ?_
  refine g_goto (tgt := 4) F dX9_givenBy_71 (by decide) ?_
  obtain rfl := Option.some.inj h
  refine g_sub (Ln := [(0, .ref (E.2.1 62)), (1, .int v1), (2, .int v2), (3, .int (v3 + 1))]) [1, 2, 3, 0] rfl ?_
  exact hl (v2, v3 + 1) rfl
noncomputable def lX9_givenBy_4 (v1 : Int32) (I : gM) : (Int32 × Int32) → Option (Int32) :=
  itO fun s =>
    (fX9_many v1 I).bind fun r1 =>
    if r1 ≤ s.2 then
      some (.inr s.1)
    else
      (fX9_isUsed v1 I).bind fun r2 =>
      if r2 = 0 then
        some (.inr s.1)
      else
        (lX9_givenBy_24 v1 s.2 I (s.1, (0 : Int32))).bind fun w5 =>
        bX9_givenBy_68 w5 s.2
set_option maxRecDepth 100000 in
set_option maxHeartbeats 4000000 in
theorem wlX9_givenBy_4 {z : gZ} {E : gE} {bk : Nat} (F : Fx z sh E "LeapJoinModel" cX9_givenBy (gR 2) 5) (B : bZ z bk) (hE : gDist sh E) (v1 : Int32) (I : gM) (J : gN) {r : Int32} : ∀ s : Int32 × Int32, lX9_givenBy_4 v1 I s = some r → (G z 74 [(2, .int r)] [] I J) → G z 4 [(0, .ref (E.2.1 62)), (1, .int v1), (2, .int s.1), (3, .int s.2)] [] I J := by
  intro s h X0
  unfold lX9_givenBy_4 at h
  revert s
  refine itO_ind (P := fun s : Int32 × Int32 => G z 4 [(0, .ref (E.2.1 62)), (1, .int v1), (2, .int s.1), (3, .int s.2)] [] I J) (fun s y h hl hr => ?_)
  have K4_0 : ∀ x : Int32, y = .inr x → (G z 74 [(2, .int x)] [] I J) := fun x q => by have q2 := hr _ q; subst q2; exact X0
  refine g_iload_n F 3 dX9_givenBy_4 rfl rfl ?_
  refine g_aload_n F 0 dX9_givenBy_5 rfl rfl ?_
  refine g_iload_n F 1 dX9_givenBy_6 rfl rfl ?_
  refine u_callV (k := 62) (As := [.int v1]) (rest := [.int s.2]) (sn := fun r1 => [.int r1, .int s.2]) F B (fun _ => wX9_many (zl z) E hE bk v1 I J) mX9_many q994 rfl s62 rfl rfl rfl (Nat.le_of_ble_eq_true rfl) dX9_givenBy_7 (fun _ => rfl) h (fun r1 h => ?_)
  refine u_icmp_ge (tgt := 74) F dX9_givenBy_10 (by decide) h (fun h => ?_) (fun h => ?_)
  · obtain rfl := Option.some.inj h
    refine g_sub (Ln := [(2, .int s.1)]) [2] rfl ?_
    exact K4_0 s.1 rfl
  · refine g_aload_n F 0 dX9_givenBy_13 rfl rfl ?_
    refine g_iload_n F 1 dX9_givenBy_14 rfl rfl ?_
    refine u_callV (k := 62) (As := [.int v1]) (rest := []) (sn := fun r2 => [.int r2]) F B (fun _ => wX9_isUsed (zl z) E hE bk v1 I J) mX9_isUsed q1043 rfl s62 rfl rfl rfl (Nat.le_of_ble_eq_true rfl) dX9_givenBy_15 (fun _ => rfl) h (fun r2 h => ?_)
    refine u_if_eq (tgt := 74) F dX9_givenBy_18 (by decide) h (fun h => ?_) (fun h => ?_)
    · obtain rfl := Option.some.inj h
      refine g_sub (Ln := [(2, .int s.1)]) [2] rfl ?_
      exact K4_0 s.1 rfl
    · refine g_iconst (v := 0) F dX9_givenBy_21 (by decide) ?_
      refine g_istore (Ln := [(4, .int 0), (0, .ref (E.2.1 62)), (1, .int v1), (2, .int s.1), (3, .int s.2)]) F dX9_givenBy_22 (by decide) rfl ?_
      obtain ⟨w5, ew5, h⟩ := ob h
      refine g_sub (Ln := [(0, .ref (E.2.1 62)), (1, .int v1), (2, .int s.1), (3, .int s.2), (4, .int 0)]) [1, 2, 3, 4, 0] rfl ?_
      refine wlX9_givenBy_24 F B hE v1 s.2 I J _ ew5 ?_
      refine g_sub (Ln := [(0, .ref (E.2.1 62)), (1, .int v1), (2, .int w5), (3, .int s.2)]) [0, 1, 2, 3] rfl ?_
      exact wbX9_givenBy_68 F B hE v1 w5 s.2 I J h hl K4_0
noncomputable def fX9_givenBy (v1 : Int32) (I : gM) : Option (Int32) :=
  (lX9_givenBy_4 v1 I ((0 : Int32), (0 : Int32))).bind fun w6 =>
  some w6
set_option maxRecDepth 100000 in
set_option maxHeartbeats 4000000 in
theorem wX9_givenBy (l : Launch) (E : gE) (hE : gDist sh E) (bk : Nat) (v1 : Int32) (I : gM) (J : gN) {r : Int32} (h : fX9_givenBy v1 I = some r) : Cu l sh E bk yX9_givenBy cX9_givenBy 5 (some .int) (gR 2) [.ref (E.2.1 62), .int v1] I J (fun r1 I1 J1 => r1 = some (.int r) ∧ I1 = I ∧ J1 = J) := by
  refine Cu.of "LeapJoinModel" rfl hE (by decide) (Nat.le_of_ble_eq_true rfl) (fun z F B e hl => ?_)
  subst hl
  unfold fX9_givenBy at h
  refine g_iconst (v := 0) F dX9_givenBy_0 (by decide) ?_
  refine g_istore_n (Ln := [(2, .int 0), (0, .ref (E.2.1 62)), (1, .int v1)]) F dX9_givenBy_1 rfl (by decide) rfl ?_
  refine g_iconst (v := 0) F dX9_givenBy_2 (by decide) ?_
  refine g_istore_n (Ln := [(3, .int 0), (2, .int 0), (0, .ref (E.2.1 62)), (1, .int v1)]) F dX9_givenBy_3 rfl (by decide) rfl ?_
  obtain ⟨w6, ew6, h⟩ := ob h
  refine g_sub (Ln := [(0, .ref (E.2.1 62)), (1, .int v1), (2, .int 0), (3, .int 0)]) [2, 3, 1, 0] rfl ?_
  refine wlX9_givenBy_4 F B hE v1 I J _ ew6 ?_
  refine g_iload_n F 0 dX9_givenBy_74 rfl rfl ?_
  obtain rfl := Option.some.inj h
  exact g_iret F e dX9_givenBy_75 ⟨rfl, rfl, rfl⟩
theorem DX9_given_0 : dAre cX9_given [(0, .aload_n 0, 1), (1, .iload_n 1, 1), (2, .invokevirtual 281, 3), (5, .ifCond .ne 5, 3), (8, .iconst (-1), 1), (9, .ireturn, 1), (10, .aload_n 0, 1), (11, .invokevirtual 296, 3), (14, .aload_n 0, 1), (15, .iload_n 1, 1), (16, .invokevirtual 363, 3), (19, .ireturn, 1)] := dAre0 (by decide +kernel)
theorem dX9_given_0 : decode cX9_given 0 = .ok (.aload_n 0, 1) := DX9_given_0.1
theorem dX9_given_1 : decode cX9_given 1 = .ok (.iload_n 1, 1) := DX9_given_0.2.1
theorem dX9_given_2 : decode cX9_given 2 = .ok (.invokevirtual 281, 3) := DX9_given_0.2.2.1
theorem dX9_given_5 : decode cX9_given 5 = .ok (.ifCond .ne 5, 3) := DX9_given_0.2.2.2.1
theorem dX9_given_8 : decode cX9_given 8 = .ok (.iconst (-1), 1) := DX9_given_0.2.2.2.2.1
theorem dX9_given_9 : decode cX9_given 9 = .ok (.ireturn, 1) := DX9_given_0.2.2.2.2.2.1
theorem dX9_given_10 : decode cX9_given 10 = .ok (.aload_n 0, 1) := DX9_given_0.2.2.2.2.2.2.1
theorem dX9_given_11 : decode cX9_given 11 = .ok (.invokevirtual 296, 3) := DX9_given_0.2.2.2.2.2.2.2.1
theorem dX9_given_14 : decode cX9_given 14 = .ok (.aload_n 0, 1) := DX9_given_0.2.2.2.2.2.2.2.2.1
theorem dX9_given_15 : decode cX9_given 15 = .ok (.iload_n 1, 1) := DX9_given_0.2.2.2.2.2.2.2.2.2.1
theorem dX9_given_16 : decode cX9_given 16 = .ok (.invokevirtual 363, 3) := DX9_given_0.2.2.2.2.2.2.2.2.2.2.1
theorem dX9_given_19 : decode cX9_given 19 = .ok (.ireturn, 1) := DX9_given_0.2.2.2.2.2.2.2.2.2.2.2.1
theorem mX9_given : gMv yX9_given cX9_given 2 (some .int) RX9 1 := ⟨q1193, q1194, q10, q1195, rfl, by decide, by decide, by decide +kernel⟩
noncomputable def fX9_given (v1 : Int32) (I : gM) : Option (Int32 × gM) :=
  (fX9_isTable v1 I).bind fun r1 =>
  if r1 = 0 then
    some (((-1) : Int32), I)
  else
    (fX9_joinsNow I).bind fun r2 =>
    (fX9_givenBy v1 r2).bind fun r3 =>
    some (r3, r2)
set_option maxRecDepth 100000 in
set_option maxHeartbeats 4000000 in
theorem wX9_given (l : Launch) (E : gE) (hE : gDist sh E) (bk : Nat) (v1 : Int32) (I : gM) (J : gN) {r : Int32 × gM} (h : fX9_given v1 I = some r) : Cu l sh E bk yX9_given cX9_given 2 (some .int) (gR 13) [.ref (E.2.1 62), .int v1] I J (fun r1 I1 J1 => r1 = some (.int r.1) ∧ I1 = r.2 ∧ J1 = J) := by
  refine Cu.of "LeapJoinModel" rfl hE (by decide) (Nat.le_of_ble_eq_true rfl) (fun z F B e hl => ?_)
  subst hl
  unfold fX9_given at h
  refine g_aload_n F 0 dX9_given_0 rfl rfl ?_
  refine g_iload_n F 1 dX9_given_1 rfl rfl ?_
  refine u_callV (k := 62) (As := [.int v1]) (rest := []) (sn := fun r1 => [.int r1]) F B (fun _ => wX9_isTable (zl z) E hE bk v1 I J) mX9_isTable q1019 rfl s62 rfl rfl rfl (Nat.le_of_ble_eq_true rfl) dX9_given_2 (fun _ => rfl) h (fun r1 h => ?_)
  refine u_if_ne (tgt := 10) F dX9_given_5 (by decide) h (fun h => ?_) (fun h => ?_)
  · refine g_iconst (v := (-1)) F dX9_given_8 (by decide) ?_
    obtain rfl := Option.some.inj h
    exact g_iret F e dX9_given_9 ⟨rfl, rfl, rfl⟩
  · refine g_aload_n F 0 dX9_given_10 rfl rfl ?_
    refine u_callV (k := 62) (As := []) (rest := []) (sn := fun _ => []) F B (fun _ => wX9_joinsNow (zl z) E hE bk  I J) mX9_joinsNow q1052 rfl s62 rfl rfl rfl (Nat.le_of_ble_eq_true rfl) dX9_given_11 (fun _ => rfl) h (fun r2 h => ?_)
    refine g_aload_n F 0 dX9_given_14 rfl rfl ?_
    refine g_iload_n F 1 dX9_given_15 rfl rfl ?_
    refine u_callV (k := 62) (As := [.int v1]) (rest := []) (sn := fun r3 => [.int r3]) F B (fun _ => wX9_givenBy (zl z) E hE bk v1 r2 J) mX9_givenBy q1196 rfl s62 rfl rfl rfl (Nat.le_of_ble_eq_true rfl) dX9_given_16 (fun _ => rfl) h (fun r3 h => ?_)
    obtain rfl := Option.some.inj h
    exact g_iret F e dX9_given_19 ⟨rfl, rfl, rfl⟩
theorem DX9_without_0 : dAre cX9_without [(0, .aload_n 0, 1), (1, .iload_n 1, 1), (2, .invokevirtual 281, 3), (5, .ifCond .eq 15, 3), (8, .aload_n 0, 1), (9, .getfield 31, 3), (12, .iconst 0, 1), (13, .iaload, 1), (14, .iconst 1, 1), (15, .iload_n 1, 1), (16, .ishl, 1), (17, .if_icmp .ne 5, 3), (20, .iconst (-1), 1), (21, .ireturn, 1), (22, .aload_n 0, 1), (23, .getfield 31, 3)] := dAre0 (by decide +kernel)
theorem dX9_without_0 : decode cX9_without 0 = .ok (.aload_n 0, 1) := DX9_without_0.1
theorem dX9_without_1 : decode cX9_without 1 = .ok (.iload_n 1, 1) := DX9_without_0.2.1
theorem dX9_without_2 : decode cX9_without 2 = .ok (.invokevirtual 281, 3) := DX9_without_0.2.2.1
theorem dX9_without_5 : decode cX9_without 5 = .ok (.ifCond .eq 15, 3) := DX9_without_0.2.2.2.1
theorem dX9_without_8 : decode cX9_without 8 = .ok (.aload_n 0, 1) := DX9_without_0.2.2.2.2.1
theorem dX9_without_9 : decode cX9_without 9 = .ok (.getfield 31, 3) := DX9_without_0.2.2.2.2.2.1
theorem dX9_without_12 : decode cX9_without 12 = .ok (.iconst 0, 1) := DX9_without_0.2.2.2.2.2.2.1
theorem dX9_without_13 : decode cX9_without 13 = .ok (.iaload, 1) := DX9_without_0.2.2.2.2.2.2.2.1
theorem dX9_without_14 : decode cX9_without 14 = .ok (.iconst 1, 1) := DX9_without_0.2.2.2.2.2.2.2.2.1
theorem dX9_without_15 : decode cX9_without 15 = .ok (.iload_n 1, 1) := DX9_without_0.2.2.2.2.2.2.2.2.2.1
theorem dX9_without_16 : decode cX9_without 16 = .ok (.ishl, 1) := DX9_without_0.2.2.2.2.2.2.2.2.2.2.1
theorem dX9_without_17 : decode cX9_without 17 = .ok (.if_icmp .ne 5, 3) := DX9_without_0.2.2.2.2.2.2.2.2.2.2.2.1
theorem dX9_without_20 : decode cX9_without 20 = .ok (.iconst (-1), 1) := DX9_without_0.2.2.2.2.2.2.2.2.2.2.2.2.1
theorem dX9_without_21 : decode cX9_without 21 = .ok (.ireturn, 1) := DX9_without_0.2.2.2.2.2.2.2.2.2.2.2.2.2.1
theorem dX9_without_22 : decode cX9_without 22 = .ok (.aload_n 0, 1) := DX9_without_0.2.2.2.2.2.2.2.2.2.2.2.2.2.2.1
theorem dX9_without_23 : decode cX9_without 23 = .ok (.getfield 31, 3) := DX9_without_0.2.2.2.2.2.2.2.2.2.2.2.2.2.2.2.1
theorem DX9_without_26 : dAre cX9_without [(26, .iconst 0, 1), (27, .iaload, 1), (28, .istore_n 2, 1), (29, .aload_n 0, 1), (30, .getfield 31, 3), (33, .iconst 0, 1), (34, .dup2, 1), (35, .iaload, 1), (36, .iconst 1, 1), (37, .iload_n 1, 1), (38, .ishl, 1), (39, .iconst (-1), 1), (40, .ixor, 1), (41, .iand, 1), (42, .iastore, 1), (43, .aload_n 0, 1)] := dAre0 (by decide +kernel)
theorem dX9_without_26 : decode cX9_without 26 = .ok (.iconst 0, 1) := DX9_without_26.1
theorem dX9_without_27 : decode cX9_without 27 = .ok (.iaload, 1) := DX9_without_26.2.1
theorem dX9_without_28 : decode cX9_without 28 = .ok (.istore_n 2, 1) := DX9_without_26.2.2.1
theorem dX9_without_29 : decode cX9_without 29 = .ok (.aload_n 0, 1) := DX9_without_26.2.2.2.1
theorem dX9_without_30 : decode cX9_without 30 = .ok (.getfield 31, 3) := DX9_without_26.2.2.2.2.1
theorem dX9_without_33 : decode cX9_without 33 = .ok (.iconst 0, 1) := DX9_without_26.2.2.2.2.2.1
theorem dX9_without_34 : decode cX9_without 34 = .ok (.dup2, 1) := DX9_without_26.2.2.2.2.2.2.1
theorem dX9_without_35 : decode cX9_without 35 = .ok (.iaload, 1) := DX9_without_26.2.2.2.2.2.2.2.1
theorem dX9_without_36 : decode cX9_without 36 = .ok (.iconst 1, 1) := DX9_without_26.2.2.2.2.2.2.2.2.1
theorem dX9_without_37 : decode cX9_without 37 = .ok (.iload_n 1, 1) := DX9_without_26.2.2.2.2.2.2.2.2.2.1
theorem dX9_without_38 : decode cX9_without 38 = .ok (.ishl, 1) := DX9_without_26.2.2.2.2.2.2.2.2.2.2.1
theorem dX9_without_39 : decode cX9_without 39 = .ok (.iconst (-1), 1) := DX9_without_26.2.2.2.2.2.2.2.2.2.2.2.1
theorem dX9_without_40 : decode cX9_without 40 = .ok (.ixor, 1) := DX9_without_26.2.2.2.2.2.2.2.2.2.2.2.2.1
theorem dX9_without_41 : decode cX9_without 41 = .ok (.iand, 1) := DX9_without_26.2.2.2.2.2.2.2.2.2.2.2.2.2.1
theorem dX9_without_42 : decode cX9_without 42 = .ok (.iastore, 1) := DX9_without_26.2.2.2.2.2.2.2.2.2.2.2.2.2.2.1
theorem dX9_without_43 : decode cX9_without 43 = .ok (.aload_n 0, 1) := DX9_without_26.2.2.2.2.2.2.2.2.2.2.2.2.2.2.2.1
theorem DX9_without_44 : dAre cX9_without [(44, .invokevirtual 299, 3), (47, .istore_n 3, 1), (48, .aload_n 0, 1), (49, .getfield 31, 3), (52, .iconst 0, 1), (53, .iload_n 2, 1), (54, .iastore, 1), (55, .iload_n 3, 1), (56, .ireturn, 1)] := dAre0 (by decide +kernel)
theorem dX9_without_44 : decode cX9_without 44 = .ok (.invokevirtual 299, 3) := DX9_without_44.1
theorem dX9_without_47 : decode cX9_without 47 = .ok (.istore_n 3, 1) := DX9_without_44.2.1
theorem dX9_without_48 : decode cX9_without 48 = .ok (.aload_n 0, 1) := DX9_without_44.2.2.1
theorem dX9_without_49 : decode cX9_without 49 = .ok (.getfield 31, 3) := DX9_without_44.2.2.2.1
theorem dX9_without_52 : decode cX9_without 52 = .ok (.iconst 0, 1) := DX9_without_44.2.2.2.2.1
theorem dX9_without_53 : decode cX9_without 53 = .ok (.iload_n 2, 1) := DX9_without_44.2.2.2.2.2.1
theorem dX9_without_54 : decode cX9_without 54 = .ok (.iastore, 1) := DX9_without_44.2.2.2.2.2.2.1
theorem dX9_without_55 : decode cX9_without 55 = .ok (.iload_n 3, 1) := DX9_without_44.2.2.2.2.2.2.2.1
theorem dX9_without_56 : decode cX9_without 56 = .ok (.ireturn, 1) := DX9_without_44.2.2.2.2.2.2.2.2.1
theorem mX9_without : gMv yX9_without cX9_without 4 (some .int) RX9 1 := ⟨q1203, q1204, q10, q1205, rfl, by decide, by decide, by decide +kernel⟩
noncomputable def fX9_without (v1 : Int32) (I : gM) : Option (Int32 × gM) :=
  (fX9_isTable v1 I).bind fun r1 =>
  if r1 = 0 then
    some (((-1) : Int32), I)
  else
    (rI 331 (I 70) (0 : Int32)).bind fun u2 =>
    if u2 = ((1 : Int32) <<< (v1 &&& 31)) then
      some (((-1) : Int32), I)
    else
      (rI 331 (I 70) (0 : Int32)).bind fun u3 =>
      (rI 331 (I 70) (0 : Int32)).bind fun u4 =>
      (wI I 70 331 0 (u4 &&& (((1 : Int32) <<< (v1 &&& 31)) ^^^ (-1)))).bind fun I5 =>
      (fX9_rowsNow I5).bind fun r6 =>
      (wI r6.2 70 331 0 u3).bind fun I7 =>
      some (r6.1, I7)
set_option maxRecDepth 100000 in
set_option maxHeartbeats 4000000 in
theorem wX9_without (l : Launch) (E : gE) (hE : gDist sh E) (bk : Nat) (v1 : Int32) (I : gM) (J : gN) {r : Int32 × gM} (h : fX9_without v1 I = some r) : Cu l sh E bk yX9_without cX9_without 4 (some .int) (gR 14) [.ref (E.2.1 62), .int v1] I J (fun r1 I1 J1 => r1 = some (.int r.1) ∧ I1 = r.2 ∧ J1 = J) := by
  refine Cu.of "LeapJoinModel" rfl hE (by decide) (Nat.le_of_ble_eq_true rfl) (fun z F B e hl => ?_)
  subst hl
  unfold fX9_without at h
  refine g_aload_n F 0 dX9_without_0 rfl rfl ?_
  refine g_iload_n F 1 dX9_without_1 rfl rfl ?_
  refine u_callV (k := 62) (As := [.int v1]) (rest := []) (sn := fun r1 => [.int r1]) F B (fun _ => wX9_isTable (zl z) E hE bk v1 I J) mX9_isTable q1019 rfl s62 rfl rfl rfl (Nat.le_of_ble_eq_true rfl) dX9_without_2 (fun _ => rfl) h (fun r1 h => ?_)
  refine u_if_eq (tgt := 20) F dX9_without_5 (by decide) h (fun h => ?_) (fun h => ?_)
  · refine g_iconst (v := (-1)) F dX9_without_20 (by decide) ?_
    obtain rfl := Option.some.inj h
    exact g_iret F e dX9_without_21 ⟨rfl, rfl, rfl⟩
  · refine g_aload_n F 0 dX9_without_8 rfl rfl ?_
    refine g_getr (j := 13) (nn := 70) F s62 rfl rfl uX9 (by decide) q834 dX9_without_9 ?_
    refine g_iconst (v := 0) F dX9_without_12 (by decide) ?_
    refine u_rI F s70 (by decide) dX9_without_13 h (fun u2 h => ?_)
    refine g_iconst (v := 1) F dX9_without_14 (by decide) ?_
    refine g_iload_n F 1 dX9_without_15 rfl rfl ?_
    refine g_ishl (v := (1 : Int32) <<< (v1 &&& 31)) F dX9_without_16 rfl ?_
    refine u_icmp_ne (tgt := 22) F dX9_without_17 (by decide) h (fun h => ?_) (fun h => ?_)
    · refine g_iconst (v := (-1)) F dX9_without_20 (by decide) ?_
      obtain rfl := Option.some.inj h
      exact g_iret F e dX9_without_21 ⟨rfl, rfl, rfl⟩
    · refine g_aload_n F 0 dX9_without_22 rfl rfl ?_
      refine g_getr (j := 13) (nn := 70) F s62 rfl rfl uX9 (by decide) q834 dX9_without_23 ?_
      refine g_iconst (v := 0) F dX9_without_26 (by decide) ?_
      refine u_rI F s70 (by decide) dX9_without_27 h (fun u3 h => ?_)
      refine g_istore_n (Ln := [(2, .int u3), (0, .ref (E.2.1 62)), (1, .int v1)]) F dX9_without_28 rfl (by decide) rfl ?_
      refine g_aload_n F 1 dX9_without_29 rfl rfl ?_
      refine g_getr (j := 13) (nn := 70) F s62 rfl rfl uX9 (by decide) q834 dX9_without_30 ?_
      refine g_iconst (v := 0) F dX9_without_33 (by decide) ?_
      refine g_dup2 F dX9_without_34 rfl rfl ?_
      refine u_rI F s70 (by decide) dX9_without_35 h (fun u4 h => ?_)
      refine g_iconst (v := 1) F dX9_without_36 (by decide) ?_
      refine g_iload_n F 2 dX9_without_37 rfl rfl ?_
      refine g_ishl (v := (1 : Int32) <<< (v1 &&& 31)) F dX9_without_38 rfl ?_
      refine g_iconst (v := (-1)) F dX9_without_39 (by decide) ?_
      refine g_ixor (v := ((1 : Int32) <<< (v1 &&& 31)) ^^^ (-1)) F dX9_without_40 rfl ?_
      refine g_iand (v := u4 &&& (((1 : Int32) <<< (v1 &&& 31)) ^^^ (-1))) F dX9_without_41 rfl ?_
      refine u_wI F s70 (by decide) dX9_without_42 h (fun I5 h => ?_)
      refine g_aload_n F 1 dX9_without_43 rfl rfl ?_
      refine u_callV (k := 62) (As := []) (rest := []) (sn := fun r6 => [.int r6.1]) F B (fun _ => wX9_rowsNow (zl z) E hE bk  I5 J) mX9_rowsNow q1049 rfl s62 rfl rfl rfl (Nat.le_of_ble_eq_true rfl) dX9_without_44 (fun _ => rfl) h (fun r6 h => ?_)
      refine g_istore_n (Ln := [(3, .int r6.1), (2, .int u3), (0, .ref (E.2.1 62)), (1, .int v1)]) F dX9_without_47 rfl (by decide) rfl ?_
      refine g_aload_n F 2 dX9_without_48 rfl rfl ?_
      refine g_getr (j := 13) (nn := 70) F s62 rfl rfl uX9 (by decide) q834 dX9_without_49 ?_
      refine g_iconst (v := 0) F dX9_without_52 (by decide) ?_
      refine g_iload_n F 1 dX9_without_53 rfl rfl ?_
      refine u_wI F s70 (by decide) dX9_without_54 h (fun I7 h => ?_)
      refine g_iload_n F 0 dX9_without_55 rfl rfl ?_
      obtain rfl := Option.some.inj h
      exact g_iret F e dX9_without_56 ⟨rfl, rfl, rfl⟩
theorem DX9_counts_0 : dAre cX9_counts [(0, .aload_n 0, 1), (1, .invokevirtual 296, 3), (4, .iconst 0, 1), (5, .istore_n 1, 1), (6, .iload_n 1, 1), (7, .sipush 400, 3), (10, .if_icmp .ge 16, 3), (13, .aload_n 0, 1), (14, .getfield 68, 3), (17, .iload_n 1, 1), (18, .iconst 0, 1), (19, .iastore, 1), (20, .iinc 1 1, 3), (23, .goto (-17), 3), (26, .iconst 0, 1), (27, .istore_n 1, 1)] := dAre0 (by decide +kernel)
theorem dX9_counts_0 : decode cX9_counts 0 = .ok (.aload_n 0, 1) := DX9_counts_0.1
theorem dX9_counts_1 : decode cX9_counts 1 = .ok (.invokevirtual 296, 3) := DX9_counts_0.2.1
theorem dX9_counts_4 : decode cX9_counts 4 = .ok (.iconst 0, 1) := DX9_counts_0.2.2.1
theorem dX9_counts_5 : decode cX9_counts 5 = .ok (.istore_n 1, 1) := DX9_counts_0.2.2.2.1
theorem dX9_counts_6 : decode cX9_counts 6 = .ok (.iload_n 1, 1) := DX9_counts_0.2.2.2.2.1
theorem dX9_counts_7 : decode cX9_counts 7 = .ok (.sipush 400, 3) := DX9_counts_0.2.2.2.2.2.1
theorem dX9_counts_10 : decode cX9_counts 10 = .ok (.if_icmp .ge 16, 3) := DX9_counts_0.2.2.2.2.2.2.1
theorem dX9_counts_13 : decode cX9_counts 13 = .ok (.aload_n 0, 1) := DX9_counts_0.2.2.2.2.2.2.2.1
theorem dX9_counts_14 : decode cX9_counts 14 = .ok (.getfield 68, 3) := DX9_counts_0.2.2.2.2.2.2.2.2.1
theorem dX9_counts_17 : decode cX9_counts 17 = .ok (.iload_n 1, 1) := DX9_counts_0.2.2.2.2.2.2.2.2.2.1
theorem dX9_counts_18 : decode cX9_counts 18 = .ok (.iconst 0, 1) := DX9_counts_0.2.2.2.2.2.2.2.2.2.2.1
theorem dX9_counts_19 : decode cX9_counts 19 = .ok (.iastore, 1) := DX9_counts_0.2.2.2.2.2.2.2.2.2.2.2.1
theorem dX9_counts_20 : decode cX9_counts 20 = .ok (.iinc 1 1, 3) := DX9_counts_0.2.2.2.2.2.2.2.2.2.2.2.2.1
theorem dX9_counts_23 : decode cX9_counts 23 = .ok (.goto (-17), 3) := DX9_counts_0.2.2.2.2.2.2.2.2.2.2.2.2.2.1
theorem dX9_counts_26 : decode cX9_counts 26 = .ok (.iconst 0, 1) := DX9_counts_0.2.2.2.2.2.2.2.2.2.2.2.2.2.2.1
theorem dX9_counts_27 : decode cX9_counts 27 = .ok (.istore_n 1, 1) := DX9_counts_0.2.2.2.2.2.2.2.2.2.2.2.2.2.2.2.1
theorem DX9_counts_28 : dAre cX9_counts [(28, .iload_n 1, 1), (29, .aload_n 0, 1), (30, .getfield 247, 3), (33, .if_icmp .ge 46, 3), (36, .iconst 0, 1), (37, .istore_n 2, 1), (38, .iload_n 2, 1), (39, .iconst 4, 1), (40, .if_icmp .ge 33, 3), (43, .aload_n 0, 1), (44, .getfield 68, 3), (47, .bipush 100, 2), (49, .iload_n 2, 1), (50, .imul, 1), (51, .iconst 0, 1), (52, .aload_n 0, 1)] := dAre0 (by decide +kernel)
theorem dX9_counts_28 : decode cX9_counts 28 = .ok (.iload_n 1, 1) := DX9_counts_28.1
theorem dX9_counts_29 : decode cX9_counts 29 = .ok (.aload_n 0, 1) := DX9_counts_28.2.1
theorem dX9_counts_30 : decode cX9_counts 30 = .ok (.getfield 247, 3) := DX9_counts_28.2.2.1
theorem dX9_counts_33 : decode cX9_counts 33 = .ok (.if_icmp .ge 46, 3) := DX9_counts_28.2.2.2.1
theorem dX9_counts_36 : decode cX9_counts 36 = .ok (.iconst 0, 1) := DX9_counts_28.2.2.2.2.1
theorem dX9_counts_37 : decode cX9_counts 37 = .ok (.istore_n 2, 1) := DX9_counts_28.2.2.2.2.2.1
theorem dX9_counts_38 : decode cX9_counts 38 = .ok (.iload_n 2, 1) := DX9_counts_28.2.2.2.2.2.2.1
theorem dX9_counts_39 : decode cX9_counts 39 = .ok (.iconst 4, 1) := DX9_counts_28.2.2.2.2.2.2.2.1
theorem dX9_counts_40 : decode cX9_counts 40 = .ok (.if_icmp .ge 33, 3) := DX9_counts_28.2.2.2.2.2.2.2.2.1
theorem dX9_counts_43 : decode cX9_counts 43 = .ok (.aload_n 0, 1) := DX9_counts_28.2.2.2.2.2.2.2.2.2.1
theorem dX9_counts_44 : decode cX9_counts 44 = .ok (.getfield 68, 3) := DX9_counts_28.2.2.2.2.2.2.2.2.2.2.1
theorem dX9_counts_47 : decode cX9_counts 47 = .ok (.bipush 100, 2) := DX9_counts_28.2.2.2.2.2.2.2.2.2.2.2.1
theorem dX9_counts_49 : decode cX9_counts 49 = .ok (.iload_n 2, 1) := DX9_counts_28.2.2.2.2.2.2.2.2.2.2.2.2.1
theorem dX9_counts_50 : decode cX9_counts 50 = .ok (.imul, 1) := DX9_counts_28.2.2.2.2.2.2.2.2.2.2.2.2.2.1
theorem dX9_counts_51 : decode cX9_counts 51 = .ok (.iconst 0, 1) := DX9_counts_28.2.2.2.2.2.2.2.2.2.2.2.2.2.2.1
theorem dX9_counts_52 : decode cX9_counts 52 = .ok (.aload_n 0, 1) := DX9_counts_28.2.2.2.2.2.2.2.2.2.2.2.2.2.2.2.1
theorem DX9_counts_53 : dAre cX9_counts [(53, .iload_n 1, 1), (54, .iload_n 2, 1), (55, .invokevirtual 345, 3), (58, .invokestatic 239, 3), (61, .iadd, 1), (62, .dup2, 1), (63, .iaload, 1), (64, .iconst 1, 1), (65, .iadd, 1), (66, .iastore, 1), (67, .iinc 2 1, 3), (70, .goto (-32), 3), (73, .iinc 1 1, 3), (76, .goto (-48), 3), (79, .iconst 0, 1), (80, .istore_n 1, 1)] := dAre0 (by decide +kernel)
theorem dX9_counts_53 : decode cX9_counts 53 = .ok (.iload_n 1, 1) := DX9_counts_53.1
theorem dX9_counts_54 : decode cX9_counts 54 = .ok (.iload_n 2, 1) := DX9_counts_53.2.1
theorem dX9_counts_55 : decode cX9_counts 55 = .ok (.invokevirtual 345, 3) := DX9_counts_53.2.2.1
theorem dX9_counts_58 : decode cX9_counts 58 = .ok (.invokestatic 239, 3) := DX9_counts_53.2.2.2.1
theorem dX9_counts_61 : decode cX9_counts 61 = .ok (.iadd, 1) := DX9_counts_53.2.2.2.2.1
theorem dX9_counts_62 : decode cX9_counts 62 = .ok (.dup2, 1) := DX9_counts_53.2.2.2.2.2.1
theorem dX9_counts_63 : decode cX9_counts 63 = .ok (.iaload, 1) := DX9_counts_53.2.2.2.2.2.2.1
theorem dX9_counts_64 : decode cX9_counts 64 = .ok (.iconst 1, 1) := DX9_counts_53.2.2.2.2.2.2.2.1
theorem dX9_counts_65 : decode cX9_counts 65 = .ok (.iadd, 1) := DX9_counts_53.2.2.2.2.2.2.2.2.1
theorem dX9_counts_66 : decode cX9_counts 66 = .ok (.iastore, 1) := DX9_counts_53.2.2.2.2.2.2.2.2.2.1
theorem dX9_counts_67 : decode cX9_counts 67 = .ok (.iinc 2 1, 3) := DX9_counts_53.2.2.2.2.2.2.2.2.2.2.1
theorem dX9_counts_70 : decode cX9_counts 70 = .ok (.goto (-32), 3) := DX9_counts_53.2.2.2.2.2.2.2.2.2.2.2.1
theorem dX9_counts_73 : decode cX9_counts 73 = .ok (.iinc 1 1, 3) := DX9_counts_53.2.2.2.2.2.2.2.2.2.2.2.2.1
theorem dX9_counts_76 : decode cX9_counts 76 = .ok (.goto (-48), 3) := DX9_counts_53.2.2.2.2.2.2.2.2.2.2.2.2.2.1
theorem dX9_counts_79 : decode cX9_counts 79 = .ok (.iconst 0, 1) := DX9_counts_53.2.2.2.2.2.2.2.2.2.2.2.2.2.2.1
theorem dX9_counts_80 : decode cX9_counts 80 = .ok (.istore_n 1, 1) := DX9_counts_53.2.2.2.2.2.2.2.2.2.2.2.2.2.2.2.1
theorem DX9_counts_81 : dAre cX9_counts [(81, .iload_n 1, 1), (82, .iconst 4, 1), (83, .if_icmp .ge 75, 3), (86, .aload_n 0, 1), (87, .getfield 74, 3), (90, .iload_n 1, 1), (91, .iconst 0, 1), (92, .iastore, 1), (93, .iconst 0, 1), (94, .istore_n 2, 1), (95, .iload_n 2, 1), (96, .bipush 100, 2), (98, .if_icmp .ge 54, 3), (101, .aload_n 0, 1), (102, .getfield 71, 3), (105, .bipush 100, 2)] := dAre0 (by decide +kernel)
theorem dX9_counts_81 : decode cX9_counts 81 = .ok (.iload_n 1, 1) := DX9_counts_81.1
theorem dX9_counts_82 : decode cX9_counts 82 = .ok (.iconst 4, 1) := DX9_counts_81.2.1
theorem dX9_counts_83 : decode cX9_counts 83 = .ok (.if_icmp .ge 75, 3) := DX9_counts_81.2.2.1
theorem dX9_counts_86 : decode cX9_counts 86 = .ok (.aload_n 0, 1) := DX9_counts_81.2.2.2.1
theorem dX9_counts_87 : decode cX9_counts 87 = .ok (.getfield 74, 3) := DX9_counts_81.2.2.2.2.1
theorem dX9_counts_90 : decode cX9_counts 90 = .ok (.iload_n 1, 1) := DX9_counts_81.2.2.2.2.2.1
theorem dX9_counts_91 : decode cX9_counts 91 = .ok (.iconst 0, 1) := DX9_counts_81.2.2.2.2.2.2.1
theorem dX9_counts_92 : decode cX9_counts 92 = .ok (.iastore, 1) := DX9_counts_81.2.2.2.2.2.2.2.1
theorem dX9_counts_93 : decode cX9_counts 93 = .ok (.iconst 0, 1) := DX9_counts_81.2.2.2.2.2.2.2.2.1
theorem dX9_counts_94 : decode cX9_counts 94 = .ok (.istore_n 2, 1) := DX9_counts_81.2.2.2.2.2.2.2.2.2.1
theorem dX9_counts_95 : decode cX9_counts 95 = .ok (.iload_n 2, 1) := DX9_counts_81.2.2.2.2.2.2.2.2.2.2.1
theorem dX9_counts_96 : decode cX9_counts 96 = .ok (.bipush 100, 2) := DX9_counts_81.2.2.2.2.2.2.2.2.2.2.2.1
theorem dX9_counts_98 : decode cX9_counts 98 = .ok (.if_icmp .ge 54, 3) := DX9_counts_81.2.2.2.2.2.2.2.2.2.2.2.2.1
theorem dX9_counts_101 : decode cX9_counts 101 = .ok (.aload_n 0, 1) := DX9_counts_81.2.2.2.2.2.2.2.2.2.2.2.2.2.1
theorem dX9_counts_102 : decode cX9_counts 102 = .ok (.getfield 71, 3) := DX9_counts_81.2.2.2.2.2.2.2.2.2.2.2.2.2.2.1
theorem dX9_counts_105 : decode cX9_counts 105 = .ok (.bipush 100, 2) := DX9_counts_81.2.2.2.2.2.2.2.2.2.2.2.2.2.2.2.1
theorem DX9_counts_107 : dAre cX9_counts [(107, .iload_n 1, 1), (108, .imul, 1), (109, .iload_n 2, 1), (110, .iadd, 1), (111, .aload_n 0, 1), (112, .getfield 74, 3), (115, .iload_n 1, 1), (116, .iaload, 1), (117, .iastore, 1), (118, .aload_n 0, 1), (119, .getfield 74, 3), (122, .iload_n 1, 1), (123, .dup2, 1), (124, .iaload, 1), (125, .aload_n 0, 1), (126, .getfield 68, 3)] := dAre0 (by decide +kernel)
theorem dX9_counts_107 : decode cX9_counts 107 = .ok (.iload_n 1, 1) := DX9_counts_107.1
theorem dX9_counts_108 : decode cX9_counts 108 = .ok (.imul, 1) := DX9_counts_107.2.1
theorem dX9_counts_109 : decode cX9_counts 109 = .ok (.iload_n 2, 1) := DX9_counts_107.2.2.1
theorem dX9_counts_110 : decode cX9_counts 110 = .ok (.iadd, 1) := DX9_counts_107.2.2.2.1
theorem dX9_counts_111 : decode cX9_counts 111 = .ok (.aload_n 0, 1) := DX9_counts_107.2.2.2.2.1
theorem dX9_counts_112 : decode cX9_counts 112 = .ok (.getfield 74, 3) := DX9_counts_107.2.2.2.2.2.1
theorem dX9_counts_115 : decode cX9_counts 115 = .ok (.iload_n 1, 1) := DX9_counts_107.2.2.2.2.2.2.1
theorem dX9_counts_116 : decode cX9_counts 116 = .ok (.iaload, 1) := DX9_counts_107.2.2.2.2.2.2.2.1
theorem dX9_counts_117 : decode cX9_counts 117 = .ok (.iastore, 1) := DX9_counts_107.2.2.2.2.2.2.2.2.1
theorem dX9_counts_118 : decode cX9_counts 118 = .ok (.aload_n 0, 1) := DX9_counts_107.2.2.2.2.2.2.2.2.2.1
theorem dX9_counts_119 : decode cX9_counts 119 = .ok (.getfield 74, 3) := DX9_counts_107.2.2.2.2.2.2.2.2.2.2.1
theorem dX9_counts_122 : decode cX9_counts 122 = .ok (.iload_n 1, 1) := DX9_counts_107.2.2.2.2.2.2.2.2.2.2.2.1
theorem dX9_counts_123 : decode cX9_counts 123 = .ok (.dup2, 1) := DX9_counts_107.2.2.2.2.2.2.2.2.2.2.2.2.1
theorem dX9_counts_124 : decode cX9_counts 124 = .ok (.iaload, 1) := DX9_counts_107.2.2.2.2.2.2.2.2.2.2.2.2.2.1
theorem dX9_counts_125 : decode cX9_counts 125 = .ok (.aload_n 0, 1) := DX9_counts_107.2.2.2.2.2.2.2.2.2.2.2.2.2.2.1
theorem dX9_counts_126 : decode cX9_counts 126 = .ok (.getfield 68, 3) := DX9_counts_107.2.2.2.2.2.2.2.2.2.2.2.2.2.2.2.1
theorem DX9_counts_129 : dAre cX9_counts [(129, .bipush 100, 2), (131, .iload_n 1, 1), (132, .imul, 1), (133, .iload_n 2, 1), (134, .iadd, 1), (135, .iaload, 1), (136, .ifCond .le 7, 3), (139, .iconst 1, 1), (140, .goto 4, 3), (143, .iconst 0, 1), (144, .iadd, 1), (145, .iastore, 1), (146, .iinc 2 1, 3), (149, .goto (-54), 3), (152, .iinc 1 1, 3), (155, .goto (-74), 3)] := dAre0 (by decide +kernel)
theorem dX9_counts_129 : decode cX9_counts 129 = .ok (.bipush 100, 2) := DX9_counts_129.1
theorem dX9_counts_131 : decode cX9_counts 131 = .ok (.iload_n 1, 1) := DX9_counts_129.2.1
theorem dX9_counts_132 : decode cX9_counts 132 = .ok (.imul, 1) := DX9_counts_129.2.2.1
theorem dX9_counts_133 : decode cX9_counts 133 = .ok (.iload_n 2, 1) := DX9_counts_129.2.2.2.1
theorem dX9_counts_134 : decode cX9_counts 134 = .ok (.iadd, 1) := DX9_counts_129.2.2.2.2.1
theorem dX9_counts_135 : decode cX9_counts 135 = .ok (.iaload, 1) := DX9_counts_129.2.2.2.2.2.1
theorem dX9_counts_136 : decode cX9_counts 136 = .ok (.ifCond .le 7, 3) := DX9_counts_129.2.2.2.2.2.2.1
theorem dX9_counts_139 : decode cX9_counts 139 = .ok (.iconst 1, 1) := DX9_counts_129.2.2.2.2.2.2.2.1
theorem dX9_counts_140 : decode cX9_counts 140 = .ok (.goto 4, 3) := DX9_counts_129.2.2.2.2.2.2.2.2.1
theorem dX9_counts_143 : decode cX9_counts 143 = .ok (.iconst 0, 1) := DX9_counts_129.2.2.2.2.2.2.2.2.2.1
theorem dX9_counts_144 : decode cX9_counts 144 = .ok (.iadd, 1) := DX9_counts_129.2.2.2.2.2.2.2.2.2.2.1
theorem dX9_counts_145 : decode cX9_counts 145 = .ok (.iastore, 1) := DX9_counts_129.2.2.2.2.2.2.2.2.2.2.2.1
theorem dX9_counts_146 : decode cX9_counts 146 = .ok (.iinc 2 1, 3) := DX9_counts_129.2.2.2.2.2.2.2.2.2.2.2.2.1
theorem dX9_counts_149 : decode cX9_counts 149 = .ok (.goto (-54), 3) := DX9_counts_129.2.2.2.2.2.2.2.2.2.2.2.2.2.1
theorem dX9_counts_152 : decode cX9_counts 152 = .ok (.iinc 1 1, 3) := DX9_counts_129.2.2.2.2.2.2.2.2.2.2.2.2.2.2.1
theorem dX9_counts_155 : decode cX9_counts 155 = .ok (.goto (-74), 3) := DX9_counts_129.2.2.2.2.2.2.2.2.2.2.2.2.2.2.2.1
theorem dX9_counts_158 : decode cX9_counts 158 = .ok (.return_, 1) := by decide +kernel
theorem mX9_counts : gMv yX9_counts cX9_counts 3 none RX9 0 := ⟨q1211, q1442, q10, q1212, rfl, by decide, by decide, by decide +kernel⟩
noncomputable def lX9_counts_6 : (Int32 × gM) → Option (gM) :=
  itO fun s =>
    if (400 : Int32) ≤ s.1 then
      some (.inr s.2)
    else
      (wI s.2 82 400 s.1 0).bind fun I2 =>
      some (.inl (s.1 + 1, I2))
set_option maxRecDepth 100000 in
set_option maxHeartbeats 4000000 in
theorem wlX9_counts_6 {z : gZ} {E : gE} {bk : Nat} (F : Fx z sh E "LeapJoinModel" cX9_counts (gR 13) 3) (B : bZ z bk) (hE : gDist sh E) (J : gN) {r : gM} : ∀ s : Int32 × gM, lX9_counts_6 s = some r → (G z 26 [(0, .ref (E.2.1 62))] [] r J) → G z 6 [(0, .ref (E.2.1 62)), (1, .int s.1)] [] s.2 J := by
  intro s h X0
  unfold lX9_counts_6 at h
  revert s
  refine itO_ind (P := fun s : Int32 × gM => G z 6 [(0, .ref (E.2.1 62)), (1, .int s.1)] [] s.2 J) (fun s y h hl hr => ?_)
  have K6_0 : ∀ x : gM, y = .inr x → (G z 26 [(0, .ref (E.2.1 62))] [] x J) := fun x q => by have q2 := hr _ q; subst q2; exact X0
  refine g_iload_n F 1 dX9_counts_6 rfl rfl ?_
  refine g_sipush (v := 400) F dX9_counts_7 (by decide) ?_
  refine u_icmp_ge (tgt := 26) F dX9_counts_10 (by decide) h (fun h => ?_) (fun h => ?_)
  · obtain rfl := Option.some.inj h
    refine g_sub (Ln := [(0, .ref (E.2.1 62))]) [0] rfl ?_
    exact K6_0 s.2 rfl
  · refine g_aload_n F 0 dX9_counts_13 rfl rfl ?_
    refine g_getr (j := 34) (nn := 82) F s62 rfl rfl uX9 (by decide) q855 dX9_counts_14 ?_
    refine g_iload_n F 1 dX9_counts_17 rfl rfl ?_
    refine g_iconst (v := 0) F dX9_counts_18 (by decide) ?_
    refine u_wI F s82 (by decide) dX9_counts_19 h (fun I2 h => ?_)
    refine g_iinc (v := s.1 + 1) (Ln := [(1, .int (s.1 + 1)), (0, .ref (E.2.1 62))]) F 1 dX9_counts_20 rfl (add_c (by decide)) (by decide) rfl ?_
    refine g_goto (tgt := 6) F dX9_counts_23 (by decide) ?_
    obtain rfl := Option.some.inj h
    refine g_sub (Ln := [(0, .ref (E.2.1 62)), (1, .int (s.1 + 1))]) [1, 0] rfl ?_
    exact hl (s.1 + 1, I2) rfl
noncomputable def lX9_counts_38 (v1 : Int32) : (Int32 × gM) → Option (gM) :=
  itO fun s =>
    if (4 : Int32) ≤ s.1 then
      some (.inr s.2)
    else
      (fX9_numberOf v1 s.1 s.2).bind fun r4 =>
      (rI 400 (s.2 82) (((100 : Int32) * s.1) + (mX 0 r4))).bind fun u5 =>
      (wI s.2 82 400 (((100 : Int32) * s.1) + (mX 0 r4)) (u5 + 1)).bind fun I6 =>
      some (.inl (s.1 + 1, I6))
set_option maxRecDepth 100000 in
set_option maxHeartbeats 4000000 in
theorem wlX9_counts_38 {z : gZ} {E : gE} {bk : Nat} (F : Fx z sh E "LeapJoinModel" cX9_counts (gR 13) 3) (B : bZ z bk) (hE : gDist sh E) (v1 : Int32) (J : gN) {r : gM} : ∀ s : Int32 × gM, lX9_counts_38 v1 s = some r → (G z 73 [(0, .ref (E.2.1 62)), (1, .int v1)] [] r J) → G z 38 [(0, .ref (E.2.1 62)), (1, .int v1), (2, .int s.1)] [] s.2 J := by
  intro s h X0
  unfold lX9_counts_38 at h
  revert s
  refine itO_ind (P := fun s : Int32 × gM => G z 38 [(0, .ref (E.2.1 62)), (1, .int v1), (2, .int s.1)] [] s.2 J) (fun s y h hl hr => ?_)
  have K38_0 : ∀ x : gM, y = .inr x → (G z 73 [(0, .ref (E.2.1 62)), (1, .int v1)] [] x J) := fun x q => by have q2 := hr _ q; subst q2; exact X0
  refine g_iload_n F 2 dX9_counts_38 rfl rfl ?_
  refine g_iconst (v := 4) F dX9_counts_39 (by decide) ?_
  refine u_icmp_ge (tgt := 73) F dX9_counts_40 (by decide) h (fun h => ?_) (fun h => ?_)
  · obtain rfl := Option.some.inj h
    refine g_sub (Ln := [(0, .ref (E.2.1 62)), (1, .int v1)]) [0, 1] rfl ?_
    exact K38_0 s.2 rfl
  · refine g_aload_n F 0 dX9_counts_43 rfl rfl ?_
    refine g_getr (j := 34) (nn := 82) F s62 rfl rfl uX9 (by decide) q855 dX9_counts_44 ?_
    refine g_bipush (v := 100) F dX9_counts_47 (by decide) ?_
    refine g_iload_n F 2 dX9_counts_49 rfl rfl ?_
    refine g_imul (v := (100 : Int32) * s.1) F dX9_counts_50 rfl ?_
    refine g_iconst (v := 0) F dX9_counts_51 (by decide) ?_
    refine g_aload_n F 0 dX9_counts_52 rfl rfl ?_
    refine g_iload_n F 1 dX9_counts_53 rfl rfl ?_
    refine g_iload_n F 2 dX9_counts_54 rfl rfl ?_
    refine u_callV (k := 62) (As := [.int v1, .int s.1]) (rest := [.int 0, .int ((100 : Int32) * s.1), .ref (E.2.1 82)]) (sn := fun r4 => [.int r4, .int 0, .int ((100 : Int32) * s.1), .ref (E.2.1 82)]) F B (fun _ => wX9_numberOf (zl z) E hE bk v1 s.1 s.2 J) mX9_numberOf q1170 rfl s62 rfl rfl rfl (Nat.le_of_ble_eq_true rfl) dX9_counts_55 (fun _ => rfl) h (fun r4 h => ?_)
    refine g_mmax (v := mX 0 r4) F q1094 rfl (Nat.le_of_ble_eq_true rfl) (Nat.le_of_ble_eq_true rfl) (Nat.le_of_ble_eq_true rfl) dX9_counts_58 ?_
    refine g_iadd (v := ((100 : Int32) * s.1) + (mX 0 r4)) F dX9_counts_61 rfl ?_
    refine g_dup2 F dX9_counts_62 rfl rfl ?_
    refine u_rI F s82 (by decide) dX9_counts_63 h (fun u5 h => ?_)
    refine g_iconst (v := 1) F dX9_counts_64 (by decide) ?_
    refine g_iadd (v := u5 + 1) F dX9_counts_65 rfl ?_
    refine u_wI F s82 (by decide) dX9_counts_66 h (fun I6 h => ?_)
    refine g_iinc (v := s.1 + 1) (Ln := [(2, .int (s.1 + 1)), (0, .ref (E.2.1 62)), (1, .int v1)]) F 2 dX9_counts_67 rfl (add_c (by decide)) (by decide) rfl ?_
    refine g_goto (tgt := 38) F dX9_counts_70 (by decide) ?_
    obtain rfl := Option.some.inj h
    refine g_sub (Ln := [(0, .ref (E.2.1 62)), (1, .int v1), (2, .int (s.1 + 1))]) [1, 2, 0] rfl ?_
    exact hl (s.1 + 1, I6) rfl
noncomputable def lX9_counts_28 : (Int32 × gM) → Option (gM) :=
  itO fun s =>
    if (s.2 62 26) ≤ s.1 then
      some (.inr s.2)
    else
      (lX9_counts_38 s.1 ((0 : Int32), s.2)).bind fun w7 =>
      some (.inl (s.1 + 1, w7))
set_option maxRecDepth 100000 in
set_option maxHeartbeats 4000000 in
theorem wlX9_counts_28 {z : gZ} {E : gE} {bk : Nat} (F : Fx z sh E "LeapJoinModel" cX9_counts (gR 13) 3) (B : bZ z bk) (hE : gDist sh E) (J : gN) {r : gM} : ∀ s : Int32 × gM, lX9_counts_28 s = some r → (G z 79 [(0, .ref (E.2.1 62))] [] r J) → G z 28 [(0, .ref (E.2.1 62)), (1, .int s.1)] [] s.2 J := by
  intro s h X0
  unfold lX9_counts_28 at h
  revert s
  refine itO_ind (P := fun s : Int32 × gM => G z 28 [(0, .ref (E.2.1 62)), (1, .int s.1)] [] s.2 J) (fun s y h hl hr => ?_)
  have K28_0 : ∀ x : gM, y = .inr x → (G z 79 [(0, .ref (E.2.1 62))] [] x J) := fun x q => by have q2 := hr _ q; subst q2; exact X0
  refine g_iload_n F 1 dX9_counts_28 rfl rfl ?_
  refine g_aload_n F 0 dX9_counts_29 rfl rfl ?_
  refine g_geti (j := 26) (v := s.2 62 26) F s62 rfl rfl uX9 (by decide) q847 rfl dX9_counts_30 ?_
  refine u_icmp_ge (tgt := 79) F dX9_counts_33 (by decide) h (fun h => ?_) (fun h => ?_)
  · obtain rfl := Option.some.inj h
    refine g_sub (Ln := [(0, .ref (E.2.1 62))]) [0] rfl ?_
    exact K28_0 s.2 rfl
  · refine g_iconst (v := 0) F dX9_counts_36 (by decide) ?_
    refine g_istore_n (Ln := [(2, .int 0), (0, .ref (E.2.1 62)), (1, .int s.1)]) F dX9_counts_37 rfl (by decide) rfl ?_
    obtain ⟨w7, ew7, h⟩ := ob h
    refine g_sub (Ln := [(0, .ref (E.2.1 62)), (1, .int s.1), (2, .int 0)]) [1, 2, 0] rfl ?_
    refine wlX9_counts_38 F B hE s.1 J _ ew7 ?_
    refine g_iinc (v := s.1 + 1) (Ln := [(1, .int (s.1 + 1)), (0, .ref (E.2.1 62))]) F 1 dX9_counts_73 rfl (add_c (by decide)) (by decide) rfl ?_
    refine g_goto (tgt := 28) F dX9_counts_76 (by decide) ?_
    obtain rfl := Option.some.inj h
    refine g_sub (Ln := [(0, .ref (E.2.1 62)), (1, .int (s.1 + 1))]) [1, 0] rfl ?_
    exact hl (s.1 + 1, w7) rfl
noncomputable def bX9_counts_144 (v2 : Int32) (t0 : Int32) (t1 : Int32) (t2 : Int32) (I : gM) : Option ((Int32 × gM) ⊕ (gM)) :=
  (wI I 84 4 t2 (t1 + t0)).bind fun I14 =>
  some (.inl (v2 + 1, I14))
set_option maxRecDepth 100000 in
set_option maxHeartbeats 4000000 in
theorem wbX9_counts_144 {z : gZ} {E : gE} {bk : Nat} (F : Fx z sh E "LeapJoinModel" cX9_counts (gR 13) 3) (B : bZ z bk) (hE : gDist sh E) (v1 : Int32) (v2 : Int32) (t0 : Int32) (t1 : Int32) (t2 : Int32) (I : gM) (J : gN) {y : (Int32 × gM) ⊕ (gM)} (h : bX9_counts_144 v2 t0 t1 t2 I = some y) (hl : ∀ s' : Int32 × gM, y = .inl s' → G z 95 [(0, .ref (E.2.1 62)), (1, .int v1), (2, .int (s'.1))] [] s'.2 J) (K95_0 : ∀ x : gM, y = .inr x → G z 152 [(0, .ref (E.2.1 62)), (1, .int v1)] [] x J) : G z 144 [(0, .ref (E.2.1 62)), (1, .int v1), (2, .int v2)] [.int t0, .int t1, .int t2, .ref (E.2.1 84)] I J := by
  unfold bX9_counts_144 at h
  refine g_iadd (v := t1 + t0) F dX9_counts_144 rfl ?_
  refine u_wI F s84 (by decide) dX9_counts_145 h (fun I14 h => ?_)
  refine g_iinc (v := v2 + 1) (Ln := [(2, .int (v2 + 1)), (0, .ref (E.2.1 62)), (1, .int v1)]) F 2 dX9_counts_146 rfl (add_c (by decide)) (by decide) rfl ?_
  refine g_goto (tgt := 95) F dX9_counts_149 (by decide) ?_
  obtain rfl := Option.some.inj h
  refine g_sub (Ln := [(0, .ref (E.2.1 62)), (1, .int v1), (2, .int (v2 + 1))]) [1, 2, 0] rfl ?_
  exact hl (v2 + 1, I14) rfl
noncomputable def lX9_counts_95 (v1 : Int32) : (Int32 × gM) → Option (gM) :=
  itO fun s =>
    if (100 : Int32) ≤ s.1 then
      some (.inr s.2)
    else
      (rI 4 (s.2 84) v1).bind fun u10 =>
      (wI s.2 83 400 (((100 : Int32) * v1) + s.1) u10).bind fun I11 =>
      (rI 4 (I11 84) v1).bind fun u12 =>
      (rI 400 (I11 82) (((100 : Int32) * v1) + s.1)).bind fun u13 =>
      if u13 ≤ 0 then
        bX9_counts_144 s.1 (0 : Int32) u12 v1 I11
      else
        bX9_counts_144 s.1 (1 : Int32) u12 v1 I11
set_option maxRecDepth 100000 in
set_option maxHeartbeats 4000000 in
theorem wlX9_counts_95 {z : gZ} {E : gE} {bk : Nat} (F : Fx z sh E "LeapJoinModel" cX9_counts (gR 13) 3) (B : bZ z bk) (hE : gDist sh E) (v1 : Int32) (J : gN) {r : gM} : ∀ s : Int32 × gM, lX9_counts_95 v1 s = some r → (G z 152 [(0, .ref (E.2.1 62)), (1, .int v1)] [] r J) → G z 95 [(0, .ref (E.2.1 62)), (1, .int v1), (2, .int s.1)] [] s.2 J := by
  intro s h X0
  unfold lX9_counts_95 at h
  revert s
  refine itO_ind (P := fun s : Int32 × gM => G z 95 [(0, .ref (E.2.1 62)), (1, .int v1), (2, .int s.1)] [] s.2 J) (fun s y h hl hr => ?_)
  have K95_0 : ∀ x : gM, y = .inr x → (G z 152 [(0, .ref (E.2.1 62)), (1, .int v1)] [] x J) := fun x q => by have q2 := hr _ q; subst q2; exact X0
  refine g_iload_n F 2 dX9_counts_95 rfl rfl ?_
  refine g_bipush (v := 100) F dX9_counts_96 (by decide) ?_
  refine u_icmp_ge (tgt := 152) F dX9_counts_98 (by decide) h (fun h => ?_) (fun h => ?_)
  · obtain rfl := Option.some.inj h
    refine g_sub (Ln := [(0, .ref (E.2.1 62)), (1, .int v1)]) [0, 1] rfl ?_
    exact K95_0 s.2 rfl
  · refine g_aload_n F 0 dX9_counts_101 rfl rfl ?_
    refine g_getr (j := 35) (nn := 83) F s62 rfl rfl uX9 (by decide) q856 dX9_counts_102 ?_
    refine g_bipush (v := 100) F dX9_counts_105 (by decide) ?_
    refine g_iload_n F 1 dX9_counts_107 rfl rfl ?_
    refine g_imul (v := (100 : Int32) * v1) F dX9_counts_108 rfl ?_
    refine g_iload_n F 2 dX9_counts_109 rfl rfl ?_
    refine g_iadd (v := ((100 : Int32) * v1) + s.1) F dX9_counts_110 rfl ?_
    refine g_aload_n F 0 dX9_counts_111 rfl rfl ?_
    refine g_getr (j := 36) (nn := 84) F s62 rfl rfl uX9 (by decide) q857 dX9_counts_112 ?_
    refine g_iload_n F 1 dX9_counts_115 rfl rfl ?_
    refine u_rI F s84 (by decide) dX9_counts_116 h (fun u10 h => ?_)
    refine u_wI F s83 (by decide) dX9_counts_117 h (fun I11 h => ?_)
    refine g_aload_n F 0 dX9_counts_118 rfl rfl ?_
    refine g_getr (j := 36) (nn := 84) F s62 rfl rfl uX9 (by decide) q857 dX9_counts_119 ?_
    refine g_iload_n F 1 dX9_counts_122 rfl rfl ?_
    refine g_dup2 F dX9_counts_123 rfl rfl ?_
    refine u_rI F s84 (by decide) dX9_counts_124 h (fun u12 h => ?_)
    refine g_aload_n F 0 dX9_counts_125 rfl rfl ?_
    refine g_getr (j := 34) (nn := 82) F s62 rfl rfl uX9 (by decide) q855 dX9_counts_126 ?_
    refine g_bipush (v := 100) F dX9_counts_129 (by decide) ?_
    refine g_iload_n F 1 dX9_counts_131 rfl rfl ?_
    refine g_imul (v := (100 : Int32) * v1) F dX9_counts_132 rfl ?_
    refine g_iload_n F 2 dX9_counts_133 rfl rfl ?_
    refine g_iadd (v := ((100 : Int32) * v1) + s.1) F dX9_counts_134 rfl ?_
    refine u_rI F s82 (by decide) dX9_counts_135 h (fun u13 h => ?_)
    refine u_if_le (tgt := 143) F dX9_counts_136 (by decide) h (fun h => ?_) (fun h => ?_)
    · refine g_iconst (v := 0) F dX9_counts_143 (by decide) ?_
      refine g_sub (Ln := [(0, .ref (E.2.1 62)), (1, .int v1), (2, .int s.1)]) [0, 1, 2] rfl ?_
      exact wbX9_counts_144 F B hE v1 s.1 (0 : Int32) u12 v1 I11 J h hl K95_0
    · refine g_iconst (v := 1) F dX9_counts_139 (by decide) ?_
      refine g_goto (tgt := 144) F dX9_counts_140 (by decide) ?_
      refine g_sub (Ln := [(0, .ref (E.2.1 62)), (1, .int v1), (2, .int s.1)]) [0, 1, 2] rfl ?_
      exact wbX9_counts_144 F B hE v1 s.1 (1 : Int32) u12 v1 I11 J h hl K95_0
noncomputable def lX9_counts_81 : (Int32 × gM) → Option (gM) :=
  itO fun s =>
    if (4 : Int32) ≤ s.1 then
      some (.inr s.2)
    else
      (wI s.2 84 4 s.1 0).bind fun I9 =>
      (lX9_counts_95 s.1 ((0 : Int32), I9)).bind fun w15 =>
      some (.inl (s.1 + 1, w15))
set_option maxRecDepth 100000 in
set_option maxHeartbeats 4000000 in
theorem wlX9_counts_81 {z : gZ} {E : gE} {bk : Nat} (F : Fx z sh E "LeapJoinModel" cX9_counts (gR 13) 3) (B : bZ z bk) (hE : gDist sh E) (J : gN) {r : gM} : ∀ s : Int32 × gM, lX9_counts_81 s = some r → (G z 158 [] [] r J) → G z 81 [(0, .ref (E.2.1 62)), (1, .int s.1)] [] s.2 J := by
  intro s h X0
  unfold lX9_counts_81 at h
  revert s
  refine itO_ind (P := fun s : Int32 × gM => G z 81 [(0, .ref (E.2.1 62)), (1, .int s.1)] [] s.2 J) (fun s y h hl hr => ?_)
  have K81_0 : ∀ x : gM, y = .inr x → (G z 158 [] [] x J) := fun x q => by have q2 := hr _ q; subst q2; exact X0
  refine g_iload_n F 1 dX9_counts_81 rfl rfl ?_
  refine g_iconst (v := 4) F dX9_counts_82 (by decide) ?_
  refine u_icmp_ge (tgt := 158) F dX9_counts_83 (by decide) h (fun h => ?_) (fun h => ?_)
  · obtain rfl := Option.some.inj h
    refine g_sub (Ln := []) [] rfl ?_
    exact K81_0 s.2 rfl
  · refine g_aload_n F 0 dX9_counts_86 rfl rfl ?_
    refine g_getr (j := 36) (nn := 84) F s62 rfl rfl uX9 (by decide) q857 dX9_counts_87 ?_
    refine g_iload_n F 1 dX9_counts_90 rfl rfl ?_
    refine g_iconst (v := 0) F dX9_counts_91 (by decide) ?_
    refine u_wI F s84 (by decide) dX9_counts_92 h (fun I9 h => ?_)
    refine g_iconst (v := 0) F dX9_counts_93 (by decide) ?_
    refine g_istore_n (Ln := [(2, .int 0), (0, .ref (E.2.1 62)), (1, .int s.1)]) F dX9_counts_94 rfl (by decide) rfl ?_
    obtain ⟨w15, ew15, h⟩ := ob h
    refine g_sub (Ln := [(0, .ref (E.2.1 62)), (1, .int s.1), (2, .int 0)]) [1, 2, 0] rfl ?_
    refine wlX9_counts_95 F B hE s.1 J _ ew15 ?_
    refine g_iinc (v := s.1 + 1) (Ln := [(1, .int (s.1 + 1)), (0, .ref (E.2.1 62))]) F 1 dX9_counts_152 rfl (add_c (by decide)) (by decide) rfl ?_
    refine g_goto (tgt := 81) F dX9_counts_155 (by decide) ?_
    obtain rfl := Option.some.inj h
    refine g_sub (Ln := [(0, .ref (E.2.1 62)), (1, .int (s.1 + 1))]) [1, 0] rfl ?_
    exact hl (s.1 + 1, w15) rfl
noncomputable def fX9_counts (I : gM) : Option (gM) :=
  (fX9_joinsNow I).bind fun r1 =>
  (lX9_counts_6 ((0 : Int32), r1)).bind fun w3 =>
  (lX9_counts_28 ((0 : Int32), w3)).bind fun w8 =>
  (lX9_counts_81 ((0 : Int32), w8)).bind fun w16 =>
  some w16
set_option maxRecDepth 100000 in
set_option maxHeartbeats 4000000 in
theorem wX9_counts (l : Launch) (E : gE) (hE : gDist sh E) (bk : Nat) (I : gM) (J : gN) {r : gM} (h : fX9_counts I = some r) : Cu l sh E bk yX9_counts cX9_counts 3 none (gR 13) [.ref (E.2.1 62)] I J (fun r1 I1 J1 => r1 = none ∧ I1 = r ∧ J1 = J) := by
  refine Cu.of "LeapJoinModel" rfl hE (by decide) (Nat.le_of_ble_eq_true rfl) (fun z F B e hl => ?_)
  subst hl
  unfold fX9_counts at h
  refine g_aload_n F 0 dX9_counts_0 rfl rfl ?_
  refine u_callV (k := 62) (As := []) (rest := []) (sn := fun _ => []) F B (fun _ => wX9_joinsNow (zl z) E hE bk  I J) mX9_joinsNow q1052 rfl s62 rfl rfl rfl (Nat.le_of_ble_eq_true rfl) dX9_counts_1 (fun _ => rfl) h (fun r1 h => ?_)
  refine g_iconst (v := 0) F dX9_counts_4 (by decide) ?_
  refine g_istore_n (Ln := [(1, .int 0), (0, .ref (E.2.1 62))]) F dX9_counts_5 rfl (by decide) rfl ?_
  obtain ⟨w3, ew3, h⟩ := ob h
  refine g_sub (Ln := [(0, .ref (E.2.1 62)), (1, .int 0)]) [1, 0] rfl ?_
  refine wlX9_counts_6 F B hE J _ ew3 ?_
  refine g_iconst (v := 0) F dX9_counts_26 (by decide) ?_
  refine g_istore_n (Ln := [(1, .int 0), (0, .ref (E.2.1 62))]) F dX9_counts_27 rfl (by decide) rfl ?_
  obtain ⟨w8, ew8, h⟩ := ob h
  refine g_sub (Ln := [(0, .ref (E.2.1 62)), (1, .int 0)]) [1, 0] rfl ?_
  refine wlX9_counts_28 F B hE J _ ew8 ?_
  refine g_iconst (v := 0) F dX9_counts_79 (by decide) ?_
  refine g_istore_n (Ln := [(1, .int 0), (0, .ref (E.2.1 62))]) F dX9_counts_80 rfl (by decide) rfl ?_
  obtain ⟨w16, ew16, h⟩ := ob h
  refine g_sub (Ln := [(0, .ref (E.2.1 62)), (1, .int 0)]) [1, 0] rfl ?_
  refine wlX9_counts_81 F B hE J _ ew16 ?_
  obtain rfl := Option.some.inj h
  exact g_vret F e dX9_counts_158 ⟨rfl, rfl, rfl⟩
