def tb_0_0 : List (Nat × XO) := [(0, (2, 0, 0, 0, 1, [])), (1, (45, 0, 0, 0, 4, [])), (4, (2, 0, 0, 0, 5, [])), (5, (0, 2000, 0, 0, 8, [])), (8, (38, 0, 2, 0, 10, [])), (10, (30, 0, 8, 0, 13, [])), (13, (2, 0, 0, 0, 14, [])), (14, (0, 0, 0, 0, 15, [])), (15, (28, 0, 8, 1, 18, [])), (18, (2, 0, 0, 0, 19, [])), (19, (0, -1, 0, 0, 20, [])), (20, (28, 0, 8, 2, 23, [])), (23, (2, 0, 0, 0, 24, [])), (24, (39, 0, 4, 0, 27, [])), (27, (23, 0, 0, 0, 28, [])), (28, (50, 2, 1, 1, 31, [])), (31, (30, 0, 8, 3, 34, [])), (34, (2, 0, 0, 0, 35, [])), (35, (39, 0, 5, 0, 38, [])), (38, (23, 0, 0, 0, 39, [])), (39, (50, 2, 3, 1, 42, [])), (42, (30, 0, 8, 4, 45, [])), (45, (2, 0, 0, 0, 46, [])), (46, (39, 0, 5, 0, 49, [])), (49, (23, 0, 0, 0, 50, [])), (50, (50, 2, 3, 1, 53, [])), (53, (30, 0, 8, 5, 56, [])), (56, (2, 0, 0, 0, 57, [])), (57, (39, 0, 3, 0, 60, [])), (60, (23, 0, 0, 0, 61, [])), (61, (2, 0, 0, 0, 62, [])), (62, (27, 0, 8, 4, 65, [])), (65, (50, 2, 4, 2, 68, [])), (68, (30, 0, 8, 6, 71, [])), (71, (2, 0, 0, 0, 72, [])), (72, (0, 20, 0, 0, 74, [])), (74, (38, 0, 1, 0, 76, [])), (76, (30, 0, 8, 7, 79, [])), (79, (2, 0, 0, 0, 80, [])), (80, (39, 0, 2, 0, 83, [])), (83, (23, 0, 0, 0, 84, [])), (84, (50, 2, 5, 1, 87, [])), (87, (30, 0, 8, 8, 90, [])), (90, (2, 0, 0, 0, 91, [])), (91, (0, 60, 0, 0, 93, [])), (93, (38, 0, 1, 0, 95, [])), (95, (30, 0, 8, 9, 98, [])), (98, (2, 0, 0, 0, 99, [])), (99, (0, 0, 0, 0, 100, [])), (100, (28, 0, 8, 10, 103, [])), (103, (2, 0, 0, 0, 104, [])), (104, (39, 0, 7, 0, 107, [])), (107, (23, 0, 0, 0, 108, [])), (108, (2, 0, 0, 0, 109, [])), (109, (27, 0, 8, 6, 112, [])), (112, (50, 2, 6, 2, 115, [])), (115, (30, 0, 8, 11, 118, [])), (118, (2, 0, 0, 0, 119, [])), (119, (39, 0, 6, 0, 122, [])), (122, (23, 0, 0, 0, 123, []))]
set_option maxRecDepth 100000 in
theorem tk_0_0 : tb_0_0.all (fun q => x_is (x_ops 0 q.1) q.2) = true := by decide +kernel
theorem o_0_0 : x_ops 0 0 = some (2, 0, 0, 0, 1, []) := x_tab tk_0_0 (i := 0) rfl
theorem o_0_1 : x_ops 0 1 = some (45, 0, 0, 0, 4, []) := x_tab tk_0_0 (i := 1) rfl
theorem o_0_4 : x_ops 0 4 = some (2, 0, 0, 0, 5, []) := x_tab tk_0_0 (i := 2) rfl
theorem o_0_5 : x_ops 0 5 = some (0, 2000, 0, 0, 8, []) := x_tab tk_0_0 (i := 3) rfl
theorem o_0_8 : x_ops 0 8 = some (38, 0, 2, 0, 10, []) := x_tab tk_0_0 (i := 4) rfl
theorem o_0_10 : x_ops 0 10 = some (30, 0, 8, 0, 13, []) := x_tab tk_0_0 (i := 5) rfl
theorem o_0_13 : x_ops 0 13 = some (2, 0, 0, 0, 14, []) := x_tab tk_0_0 (i := 6) rfl
theorem o_0_14 : x_ops 0 14 = some (0, 0, 0, 0, 15, []) := x_tab tk_0_0 (i := 7) rfl
theorem o_0_15 : x_ops 0 15 = some (28, 0, 8, 1, 18, []) := x_tab tk_0_0 (i := 8) rfl
theorem o_0_18 : x_ops 0 18 = some (2, 0, 0, 0, 19, []) := x_tab tk_0_0 (i := 9) rfl
theorem o_0_19 : x_ops 0 19 = some (0, -1, 0, 0, 20, []) := x_tab tk_0_0 (i := 10) rfl
theorem o_0_20 : x_ops 0 20 = some (28, 0, 8, 2, 23, []) := x_tab tk_0_0 (i := 11) rfl
theorem o_0_23 : x_ops 0 23 = some (2, 0, 0, 0, 24, []) := x_tab tk_0_0 (i := 12) rfl
theorem o_0_24 : x_ops 0 24 = some (39, 0, 4, 0, 27, []) := x_tab tk_0_0 (i := 13) rfl
theorem o_0_27 : x_ops 0 27 = some (23, 0, 0, 0, 28, []) := x_tab tk_0_0 (i := 14) rfl
theorem o_0_28 : x_ops 0 28 = some (50, 2, 1, 1, 31, []) := x_tab tk_0_0 (i := 15) rfl
theorem o_0_31 : x_ops 0 31 = some (30, 0, 8, 3, 34, []) := x_tab tk_0_0 (i := 16) rfl
theorem o_0_34 : x_ops 0 34 = some (2, 0, 0, 0, 35, []) := x_tab tk_0_0 (i := 17) rfl
theorem o_0_35 : x_ops 0 35 = some (39, 0, 5, 0, 38, []) := x_tab tk_0_0 (i := 18) rfl
theorem o_0_38 : x_ops 0 38 = some (23, 0, 0, 0, 39, []) := x_tab tk_0_0 (i := 19) rfl
theorem o_0_39 : x_ops 0 39 = some (50, 2, 3, 1, 42, []) := x_tab tk_0_0 (i := 20) rfl
theorem o_0_42 : x_ops 0 42 = some (30, 0, 8, 4, 45, []) := x_tab tk_0_0 (i := 21) rfl
theorem o_0_45 : x_ops 0 45 = some (2, 0, 0, 0, 46, []) := x_tab tk_0_0 (i := 22) rfl
theorem o_0_46 : x_ops 0 46 = some (39, 0, 5, 0, 49, []) := x_tab tk_0_0 (i := 23) rfl
theorem o_0_49 : x_ops 0 49 = some (23, 0, 0, 0, 50, []) := x_tab tk_0_0 (i := 24) rfl
theorem o_0_50 : x_ops 0 50 = some (50, 2, 3, 1, 53, []) := x_tab tk_0_0 (i := 25) rfl
theorem o_0_53 : x_ops 0 53 = some (30, 0, 8, 5, 56, []) := x_tab tk_0_0 (i := 26) rfl
theorem o_0_56 : x_ops 0 56 = some (2, 0, 0, 0, 57, []) := x_tab tk_0_0 (i := 27) rfl
theorem o_0_57 : x_ops 0 57 = some (39, 0, 3, 0, 60, []) := x_tab tk_0_0 (i := 28) rfl
theorem o_0_60 : x_ops 0 60 = some (23, 0, 0, 0, 61, []) := x_tab tk_0_0 (i := 29) rfl
theorem o_0_61 : x_ops 0 61 = some (2, 0, 0, 0, 62, []) := x_tab tk_0_0 (i := 30) rfl
theorem o_0_62 : x_ops 0 62 = some (27, 0, 8, 4, 65, []) := x_tab tk_0_0 (i := 31) rfl
theorem o_0_65 : x_ops 0 65 = some (50, 2, 4, 2, 68, []) := x_tab tk_0_0 (i := 32) rfl
theorem o_0_68 : x_ops 0 68 = some (30, 0, 8, 6, 71, []) := x_tab tk_0_0 (i := 33) rfl
theorem o_0_71 : x_ops 0 71 = some (2, 0, 0, 0, 72, []) := x_tab tk_0_0 (i := 34) rfl
theorem o_0_72 : x_ops 0 72 = some (0, 20, 0, 0, 74, []) := x_tab tk_0_0 (i := 35) rfl
theorem o_0_74 : x_ops 0 74 = some (38, 0, 1, 0, 76, []) := x_tab tk_0_0 (i := 36) rfl
theorem o_0_76 : x_ops 0 76 = some (30, 0, 8, 7, 79, []) := x_tab tk_0_0 (i := 37) rfl
theorem o_0_79 : x_ops 0 79 = some (2, 0, 0, 0, 80, []) := x_tab tk_0_0 (i := 38) rfl
theorem o_0_80 : x_ops 0 80 = some (39, 0, 2, 0, 83, []) := x_tab tk_0_0 (i := 39) rfl
theorem o_0_83 : x_ops 0 83 = some (23, 0, 0, 0, 84, []) := x_tab tk_0_0 (i := 40) rfl
theorem o_0_84 : x_ops 0 84 = some (50, 2, 5, 1, 87, []) := x_tab tk_0_0 (i := 41) rfl
theorem o_0_87 : x_ops 0 87 = some (30, 0, 8, 8, 90, []) := x_tab tk_0_0 (i := 42) rfl
theorem o_0_90 : x_ops 0 90 = some (2, 0, 0, 0, 91, []) := x_tab tk_0_0 (i := 43) rfl
theorem o_0_91 : x_ops 0 91 = some (0, 60, 0, 0, 93, []) := x_tab tk_0_0 (i := 44) rfl
theorem o_0_93 : x_ops 0 93 = some (38, 0, 1, 0, 95, []) := x_tab tk_0_0 (i := 45) rfl
theorem o_0_95 : x_ops 0 95 = some (30, 0, 8, 9, 98, []) := x_tab tk_0_0 (i := 46) rfl
theorem o_0_98 : x_ops 0 98 = some (2, 0, 0, 0, 99, []) := x_tab tk_0_0 (i := 47) rfl
theorem o_0_99 : x_ops 0 99 = some (0, 0, 0, 0, 100, []) := x_tab tk_0_0 (i := 48) rfl
theorem o_0_100 : x_ops 0 100 = some (28, 0, 8, 10, 103, []) := x_tab tk_0_0 (i := 49) rfl
theorem o_0_103 : x_ops 0 103 = some (2, 0, 0, 0, 104, []) := x_tab tk_0_0 (i := 50) rfl
theorem o_0_104 : x_ops 0 104 = some (39, 0, 7, 0, 107, []) := x_tab tk_0_0 (i := 51) rfl
theorem o_0_107 : x_ops 0 107 = some (23, 0, 0, 0, 108, []) := x_tab tk_0_0 (i := 52) rfl
theorem o_0_108 : x_ops 0 108 = some (2, 0, 0, 0, 109, []) := x_tab tk_0_0 (i := 53) rfl
theorem o_0_109 : x_ops 0 109 = some (27, 0, 8, 6, 112, []) := x_tab tk_0_0 (i := 54) rfl
theorem o_0_112 : x_ops 0 112 = some (50, 2, 6, 2, 115, []) := x_tab tk_0_0 (i := 55) rfl
theorem o_0_115 : x_ops 0 115 = some (30, 0, 8, 11, 118, []) := x_tab tk_0_0 (i := 56) rfl
theorem o_0_118 : x_ops 0 118 = some (2, 0, 0, 0, 119, []) := x_tab tk_0_0 (i := 57) rfl
theorem o_0_119 : x_ops 0 119 = some (39, 0, 6, 0, 122, []) := x_tab tk_0_0 (i := 58) rfl
theorem o_0_122 : x_ops 0 122 = some (23, 0, 0, 0, 123, []) := x_tab tk_0_0 (i := 59) rfl
def tb_0_1 : List (Nat × XO) := [(123, (2, 0, 0, 0, 124, [])), (124, (27, 0, 8, 6, 127, [])), (127, (50, 2, 7, 2, 130, [])), (130, (30, 0, 8, 12, 133, [])), (133, (2, 0, 0, 0, 134, [])), (134, (39, 0, 0, 0, 137, [])), (137, (23, 0, 0, 0, 138, [])), (138, (2, 0, 0, 0, 139, [])), (139, (27, 0, 8, 6, 142, [])), (142, (50, 2, 8, 2, 145, [])), (145, (30, 0, 8, 13, 148, [])), (148, (2, 0, 0, 0, 149, [])), (149, (39, 0, 1, 0, 152, [])), (152, (23, 0, 0, 0, 153, [])), (153, (2, 0, 0, 0, 154, [])), (154, (27, 0, 8, 6, 157, [])), (157, (50, 2, 9, 2, 160, [])), (160, (30, 0, 8, 14, 163, [])), (163, (60, 0, 0, 0, 0, []))]
set_option maxRecDepth 100000 in
theorem tk_0_1 : tb_0_1.all (fun q => x_is (x_ops 0 q.1) q.2) = true := by decide +kernel
theorem o_0_123 : x_ops 0 123 = some (2, 0, 0, 0, 124, []) := x_tab tk_0_1 (i := 0) rfl
theorem o_0_124 : x_ops 0 124 = some (27, 0, 8, 6, 127, []) := x_tab tk_0_1 (i := 1) rfl
theorem o_0_127 : x_ops 0 127 = some (50, 2, 7, 2, 130, []) := x_tab tk_0_1 (i := 2) rfl
theorem o_0_130 : x_ops 0 130 = some (30, 0, 8, 12, 133, []) := x_tab tk_0_1 (i := 3) rfl
theorem o_0_133 : x_ops 0 133 = some (2, 0, 0, 0, 134, []) := x_tab tk_0_1 (i := 4) rfl
theorem o_0_134 : x_ops 0 134 = some (39, 0, 0, 0, 137, []) := x_tab tk_0_1 (i := 5) rfl
theorem o_0_137 : x_ops 0 137 = some (23, 0, 0, 0, 138, []) := x_tab tk_0_1 (i := 6) rfl
theorem o_0_138 : x_ops 0 138 = some (2, 0, 0, 0, 139, []) := x_tab tk_0_1 (i := 7) rfl
theorem o_0_139 : x_ops 0 139 = some (27, 0, 8, 6, 142, []) := x_tab tk_0_1 (i := 8) rfl
theorem o_0_142 : x_ops 0 142 = some (50, 2, 8, 2, 145, []) := x_tab tk_0_1 (i := 9) rfl
theorem o_0_145 : x_ops 0 145 = some (30, 0, 8, 13, 148, []) := x_tab tk_0_1 (i := 10) rfl
theorem o_0_148 : x_ops 0 148 = some (2, 0, 0, 0, 149, []) := x_tab tk_0_1 (i := 11) rfl
theorem o_0_149 : x_ops 0 149 = some (39, 0, 1, 0, 152, []) := x_tab tk_0_1 (i := 12) rfl
theorem o_0_152 : x_ops 0 152 = some (23, 0, 0, 0, 153, []) := x_tab tk_0_1 (i := 13) rfl
theorem o_0_153 : x_ops 0 153 = some (2, 0, 0, 0, 154, []) := x_tab tk_0_1 (i := 14) rfl
theorem o_0_154 : x_ops 0 154 = some (27, 0, 8, 6, 157, []) := x_tab tk_0_1 (i := 15) rfl
theorem o_0_157 : x_ops 0 157 = some (50, 2, 9, 2, 160, []) := x_tab tk_0_1 (i := 16) rfl
theorem o_0_160 : x_ops 0 160 = some (30, 0, 8, 14, 163, []) := x_tab tk_0_1 (i := 17) rfl
theorem o_0_163 : x_ops 0 163 = some (60, 0, 0, 0, 0, []) := x_tab tk_0_1 (i := 18) rfl
def tb_10_0 : List (Nat × XO) := [(0, (2, 0, 0, 0, 1, [])), (1, (26, 0, 8, 1, 4, [])), (4, (0, 20, 0, 0, 6, [])), (6, (8, 0, 0, 0, 7, [])), (7, (0, 2000, 0, 0, 10, [])), (10, (21, 0, 15, 5, 13, [])), (13, (0, -1, 0, 0, 14, [])), (14, (60, 0, 1, 0, 0, [])), (15, (2, 0, 0, 0, 16, [])), (16, (1, 0, 1, 0, 17, [])), (17, (50, 0, 11, 2, 20, [])), (20, (2, 0, 0, 0, 21, [])), (21, (1, 0, 2, 0, 22, [])), (22, (50, 0, 11, 2, 25, [])), (25, (2, 0, 0, 0, 26, [])), (26, (1, 0, 3, 0, 27, [])), (27, (50, 0, 11, 2, 30, [])), (30, (2, 0, 0, 0, 31, [])), (31, (1, 0, 4, 0, 33, [])), (33, (50, 0, 11, 2, 36, [])), (36, (2, 0, 0, 0, 37, [])), (37, (1, 0, 5, 0, 39, [])), (39, (50, 0, 11, 2, 42, [])), (42, (2, 0, 0, 0, 43, [])), (43, (26, 0, 8, 1, 46, [])), (46, (60, 0, 1, 0, 0, []))]
set_option maxRecDepth 100000 in
theorem tk_10_0 : tb_10_0.all (fun q => x_is (x_ops 10 q.1) q.2) = true := by decide +kernel
theorem o_10_0 : x_ops 10 0 = some (2, 0, 0, 0, 1, []) := x_tab tk_10_0 (i := 0) rfl
theorem o_10_1 : x_ops 10 1 = some (26, 0, 8, 1, 4, []) := x_tab tk_10_0 (i := 1) rfl
theorem o_10_4 : x_ops 10 4 = some (0, 20, 0, 0, 6, []) := x_tab tk_10_0 (i := 2) rfl
theorem o_10_6 : x_ops 10 6 = some (8, 0, 0, 0, 7, []) := x_tab tk_10_0 (i := 3) rfl
theorem o_10_7 : x_ops 10 7 = some (0, 2000, 0, 0, 10, []) := x_tab tk_10_0 (i := 4) rfl
theorem o_10_10 : x_ops 10 10 = some (21, 0, 15, 5, 13, []) := x_tab tk_10_0 (i := 5) rfl
theorem o_10_13 : x_ops 10 13 = some (0, -1, 0, 0, 14, []) := x_tab tk_10_0 (i := 6) rfl
theorem o_10_14 : x_ops 10 14 = some (60, 0, 1, 0, 0, []) := x_tab tk_10_0 (i := 7) rfl
theorem o_10_15 : x_ops 10 15 = some (2, 0, 0, 0, 16, []) := x_tab tk_10_0 (i := 8) rfl
theorem o_10_16 : x_ops 10 16 = some (1, 0, 1, 0, 17, []) := x_tab tk_10_0 (i := 9) rfl
theorem o_10_17 : x_ops 10 17 = some (50, 0, 11, 2, 20, []) := x_tab tk_10_0 (i := 10) rfl
theorem o_10_20 : x_ops 10 20 = some (2, 0, 0, 0, 21, []) := x_tab tk_10_0 (i := 11) rfl
theorem o_10_21 : x_ops 10 21 = some (1, 0, 2, 0, 22, []) := x_tab tk_10_0 (i := 12) rfl
theorem o_10_22 : x_ops 10 22 = some (50, 0, 11, 2, 25, []) := x_tab tk_10_0 (i := 13) rfl
theorem o_10_25 : x_ops 10 25 = some (2, 0, 0, 0, 26, []) := x_tab tk_10_0 (i := 14) rfl
theorem o_10_26 : x_ops 10 26 = some (1, 0, 3, 0, 27, []) := x_tab tk_10_0 (i := 15) rfl
theorem o_10_27 : x_ops 10 27 = some (50, 0, 11, 2, 30, []) := x_tab tk_10_0 (i := 16) rfl
theorem o_10_30 : x_ops 10 30 = some (2, 0, 0, 0, 31, []) := x_tab tk_10_0 (i := 17) rfl
theorem o_10_31 : x_ops 10 31 = some (1, 0, 4, 0, 33, []) := x_tab tk_10_0 (i := 18) rfl
theorem o_10_33 : x_ops 10 33 = some (50, 0, 11, 2, 36, []) := x_tab tk_10_0 (i := 19) rfl
theorem o_10_36 : x_ops 10 36 = some (2, 0, 0, 0, 37, []) := x_tab tk_10_0 (i := 20) rfl
theorem o_10_37 : x_ops 10 37 = some (1, 0, 5, 0, 39, []) := x_tab tk_10_0 (i := 21) rfl
theorem o_10_39 : x_ops 10 39 = some (50, 0, 11, 2, 42, []) := x_tab tk_10_0 (i := 22) rfl
theorem o_10_42 : x_ops 10 42 = some (2, 0, 0, 0, 43, []) := x_tab tk_10_0 (i := 23) rfl
theorem o_10_43 : x_ops 10 43 = some (26, 0, 8, 1, 46, []) := x_tab tk_10_0 (i := 24) rfl
theorem o_10_46 : x_ops 10 46 = some (60, 0, 1, 0, 0, []) := x_tab tk_10_0 (i := 25) rfl
def tb_11_0 : List (Nat × XO) := [(0, (0, 24, 0, 0, 2, [])), (2, (4, 0, 2, 0, 3, [])), (3, (1, 0, 2, 0, 4, [])), (4, (22, 0, 46, 2, 7, [])), (7, (2, 0, 0, 0, 8, [])), (8, (26, 0, 8, 1, 11, [])), (11, (0, 2000, 0, 0, 14, [])), (14, (21, 0, 46, 3, 17, [])), (17, (2, 0, 0, 0, 18, [])), (18, (27, 0, 8, 0, 21, [])), (21, (2, 0, 0, 0, 22, [])), (22, (26, 0, 8, 1, 25, [])), (25, (1, 0, 1, 0, 26, [])), (26, (1, 0, 2, 0, 27, [])), (27, (8, 0, 7, 0, 28, [])), (28, (16, 0, 0, 0, 29, [])), (29, (36, 0, 0, 0, 30, [])), (30, (2, 0, 0, 0, 31, [])), (31, (23, 0, 0, 0, 32, [])), (32, (26, 0, 8, 1, 35, [])), (35, (0, 1, 0, 0, 36, [])), (36, (8, 0, 0, 0, 37, [])), (37, (28, 0, 8, 1, 40, [])), (40, (7, -8, 2, 0, 43, [])), (43, (20, 0, 3, 0, 46, [])), (46, (60, 0, 0, 0, 0, []))]
set_option maxRecDepth 100000 in
theorem tk_11_0 : tb_11_0.all (fun q => x_is (x_ops 11 q.1) q.2) = true := by decide +kernel
theorem o_11_0 : x_ops 11 0 = some (0, 24, 0, 0, 2, []) := x_tab tk_11_0 (i := 0) rfl
theorem o_11_2 : x_ops 11 2 = some (4, 0, 2, 0, 3, []) := x_tab tk_11_0 (i := 1) rfl
theorem o_11_3 : x_ops 11 3 = some (1, 0, 2, 0, 4, []) := x_tab tk_11_0 (i := 2) rfl
theorem o_11_4 : x_ops 11 4 = some (22, 0, 46, 2, 7, []) := x_tab tk_11_0 (i := 3) rfl
theorem o_11_7 : x_ops 11 7 = some (2, 0, 0, 0, 8, []) := x_tab tk_11_0 (i := 4) rfl
theorem o_11_8 : x_ops 11 8 = some (26, 0, 8, 1, 11, []) := x_tab tk_11_0 (i := 5) rfl
theorem o_11_11 : x_ops 11 11 = some (0, 2000, 0, 0, 14, []) := x_tab tk_11_0 (i := 6) rfl
theorem o_11_14 : x_ops 11 14 = some (21, 0, 46, 3, 17, []) := x_tab tk_11_0 (i := 7) rfl
theorem o_11_17 : x_ops 11 17 = some (2, 0, 0, 0, 18, []) := x_tab tk_11_0 (i := 8) rfl
theorem o_11_18 : x_ops 11 18 = some (27, 0, 8, 0, 21, []) := x_tab tk_11_0 (i := 9) rfl
theorem o_11_21 : x_ops 11 21 = some (2, 0, 0, 0, 22, []) := x_tab tk_11_0 (i := 10) rfl
theorem o_11_22 : x_ops 11 22 = some (26, 0, 8, 1, 25, []) := x_tab tk_11_0 (i := 11) rfl
theorem o_11_25 : x_ops 11 25 = some (1, 0, 1, 0, 26, []) := x_tab tk_11_0 (i := 12) rfl
theorem o_11_26 : x_ops 11 26 = some (1, 0, 2, 0, 27, []) := x_tab tk_11_0 (i := 13) rfl
theorem o_11_27 : x_ops 11 27 = some (8, 0, 7, 0, 28, []) := x_tab tk_11_0 (i := 14) rfl
theorem o_11_28 : x_ops 11 28 = some (16, 0, 0, 0, 29, []) := x_tab tk_11_0 (i := 15) rfl
theorem o_11_29 : x_ops 11 29 = some (36, 0, 0, 0, 30, []) := x_tab tk_11_0 (i := 16) rfl
theorem o_11_30 : x_ops 11 30 = some (2, 0, 0, 0, 31, []) := x_tab tk_11_0 (i := 17) rfl
theorem o_11_31 : x_ops 11 31 = some (23, 0, 0, 0, 32, []) := x_tab tk_11_0 (i := 18) rfl
theorem o_11_32 : x_ops 11 32 = some (26, 0, 8, 1, 35, []) := x_tab tk_11_0 (i := 19) rfl
theorem o_11_35 : x_ops 11 35 = some (0, 1, 0, 0, 36, []) := x_tab tk_11_0 (i := 20) rfl
theorem o_11_36 : x_ops 11 36 = some (8, 0, 0, 0, 37, []) := x_tab tk_11_0 (i := 21) rfl
theorem o_11_37 : x_ops 11 37 = some (28, 0, 8, 1, 40, []) := x_tab tk_11_0 (i := 22) rfl
theorem o_11_40 : x_ops 11 40 = some (7, -8, 2, 0, 43, []) := x_tab tk_11_0 (i := 23) rfl
theorem o_11_43 : x_ops 11 43 = some (20, 0, 3, 0, 46, []) := x_tab tk_11_0 (i := 24) rfl
theorem o_11_46 : x_ops 11 46 = some (60, 0, 0, 0, 0, []) := x_tab tk_11_0 (i := 25) rfl
def tb_12_0 : List (Nat × XO) := [(0, (1, 0, 1, 0, 1, [])), (1, (22, 0, 12, 2, 4, [])), (4, (1, 0, 1, 0, 5, [])), (5, (2, 0, 0, 0, 6, [])), (6, (26, 0, 8, 1, 9, [])), (9, (21, 0, 14, 5, 12, [])), (12, (0, -1, 0, 0, 13, [])), (13, (60, 0, 1, 0, 0, [])), (14, (2, 0, 0, 0, 15, [])), (15, (23, 0, 0, 0, 16, [])), (16, (26, 0, 8, 1, 19, [])), (19, (1, 0, 1, 0, 20, [])), (20, (8, 0, 1, 0, 21, [])), (21, (28, 0, 8, 1, 24, [])), (24, (2, 0, 0, 0, 25, [])), (25, (26, 0, 8, 1, 28, [])), (28, (60, 0, 1, 0, 0, []))]
set_option maxRecDepth 100000 in
theorem tk_12_0 : tb_12_0.all (fun q => x_is (x_ops 12 q.1) q.2) = true := by decide +kernel
theorem o_12_0 : x_ops 12 0 = some (1, 0, 1, 0, 1, []) := x_tab tk_12_0 (i := 0) rfl
theorem o_12_1 : x_ops 12 1 = some (22, 0, 12, 2, 4, []) := x_tab tk_12_0 (i := 1) rfl
theorem o_12_4 : x_ops 12 4 = some (1, 0, 1, 0, 5, []) := x_tab tk_12_0 (i := 2) rfl
theorem o_12_5 : x_ops 12 5 = some (2, 0, 0, 0, 6, []) := x_tab tk_12_0 (i := 3) rfl
theorem o_12_6 : x_ops 12 6 = some (26, 0, 8, 1, 9, []) := x_tab tk_12_0 (i := 4) rfl
theorem o_12_9 : x_ops 12 9 = some (21, 0, 14, 5, 12, []) := x_tab tk_12_0 (i := 5) rfl
theorem o_12_12 : x_ops 12 12 = some (0, -1, 0, 0, 13, []) := x_tab tk_12_0 (i := 6) rfl
theorem o_12_13 : x_ops 12 13 = some (60, 0, 1, 0, 0, []) := x_tab tk_12_0 (i := 7) rfl
theorem o_12_14 : x_ops 12 14 = some (2, 0, 0, 0, 15, []) := x_tab tk_12_0 (i := 8) rfl
theorem o_12_15 : x_ops 12 15 = some (23, 0, 0, 0, 16, []) := x_tab tk_12_0 (i := 9) rfl
theorem o_12_16 : x_ops 12 16 = some (26, 0, 8, 1, 19, []) := x_tab tk_12_0 (i := 10) rfl
theorem o_12_19 : x_ops 12 19 = some (1, 0, 1, 0, 20, []) := x_tab tk_12_0 (i := 11) rfl
theorem o_12_20 : x_ops 12 20 = some (8, 0, 1, 0, 21, []) := x_tab tk_12_0 (i := 12) rfl
theorem o_12_21 : x_ops 12 21 = some (28, 0, 8, 1, 24, []) := x_tab tk_12_0 (i := 13) rfl
theorem o_12_24 : x_ops 12 24 = some (2, 0, 0, 0, 25, []) := x_tab tk_12_0 (i := 14) rfl
theorem o_12_25 : x_ops 12 25 = some (26, 0, 8, 1, 28, []) := x_tab tk_12_0 (i := 15) rfl
theorem o_12_28 : x_ops 12 28 = some (60, 0, 1, 0, 0, []) := x_tab tk_12_0 (i := 16) rfl
def tb_13_0 : List (Nat × XO) := [(0, (2, 0, 0, 0, 1, [])), (1, (27, 0, 8, 3, 4, [])), (4, (2, 0, 0, 0, 5, [])), (5, (27, 0, 8, 0, 8, [])), (8, (2, 0, 0, 0, 9, [])), (9, (26, 0, 8, 1, 12, [])), (12, (50, 0, 14, 3, 15, [])), (15, (2, 0, 0, 0, 16, [])), (16, (27, 0, 8, 3, 19, [])), (19, (2, 0, 0, 0, 20, [])), (20, (27, 0, 8, 5, 23, [])), (23, (50, 0, 21, 2, 26, [])), (26, (2, 0, 0, 0, 27, [])), (27, (27, 0, 8, 3, 30, [])), (30, (50, 0, 45, 1, 33, [])), (33, (4, 0, 1, 0, 34, [])), (34, (2, 0, 0, 0, 35, [])), (35, (0, 0, 0, 0, 36, [])), (36, (28, 0, 8, 1, 39, [])), (39, (2, 0, 0, 0, 40, [])), (40, (2, 0, 0, 0, 41, [])), (41, (27, 0, 8, 3, 44, [])), (44, (26, 0, 4, 0, 47, [])), (47, (28, 0, 8, 2, 50, [])), (50, (1, 0, 1, 0, 51, [])), (51, (22, 0, 58, 1, 54, [])), (54, (2, 0, 0, 0, 55, [])), (55, (50, 0, 50, 1, 58, [])), (58, (1, 0, 1, 0, 59, [])), (59, (60, 0, 1, 0, 0, []))]
set_option maxRecDepth 100000 in
theorem tk_13_0 : tb_13_0.all (fun q => x_is (x_ops 13 q.1) q.2) = true := by decide +kernel
theorem o_13_0 : x_ops 13 0 = some (2, 0, 0, 0, 1, []) := x_tab tk_13_0 (i := 0) rfl
theorem o_13_1 : x_ops 13 1 = some (27, 0, 8, 3, 4, []) := x_tab tk_13_0 (i := 1) rfl
theorem o_13_4 : x_ops 13 4 = some (2, 0, 0, 0, 5, []) := x_tab tk_13_0 (i := 2) rfl
theorem o_13_5 : x_ops 13 5 = some (27, 0, 8, 0, 8, []) := x_tab tk_13_0 (i := 3) rfl
theorem o_13_8 : x_ops 13 8 = some (2, 0, 0, 0, 9, []) := x_tab tk_13_0 (i := 4) rfl
theorem o_13_9 : x_ops 13 9 = some (26, 0, 8, 1, 12, []) := x_tab tk_13_0 (i := 5) rfl
theorem o_13_12 : x_ops 13 12 = some (50, 0, 14, 3, 15, []) := x_tab tk_13_0 (i := 6) rfl
theorem o_13_15 : x_ops 13 15 = some (2, 0, 0, 0, 16, []) := x_tab tk_13_0 (i := 7) rfl
theorem o_13_16 : x_ops 13 16 = some (27, 0, 8, 3, 19, []) := x_tab tk_13_0 (i := 8) rfl
theorem o_13_19 : x_ops 13 19 = some (2, 0, 0, 0, 20, []) := x_tab tk_13_0 (i := 9) rfl
theorem o_13_20 : x_ops 13 20 = some (27, 0, 8, 5, 23, []) := x_tab tk_13_0 (i := 10) rfl
theorem o_13_23 : x_ops 13 23 = some (50, 0, 21, 2, 26, []) := x_tab tk_13_0 (i := 11) rfl
theorem o_13_26 : x_ops 13 26 = some (2, 0, 0, 0, 27, []) := x_tab tk_13_0 (i := 12) rfl
theorem o_13_27 : x_ops 13 27 = some (27, 0, 8, 3, 30, []) := x_tab tk_13_0 (i := 13) rfl
theorem o_13_30 : x_ops 13 30 = some (50, 0, 45, 1, 33, []) := x_tab tk_13_0 (i := 14) rfl
theorem o_13_33 : x_ops 13 33 = some (4, 0, 1, 0, 34, []) := x_tab tk_13_0 (i := 15) rfl
theorem o_13_34 : x_ops 13 34 = some (2, 0, 0, 0, 35, []) := x_tab tk_13_0 (i := 16) rfl
theorem o_13_35 : x_ops 13 35 = some (0, 0, 0, 0, 36, []) := x_tab tk_13_0 (i := 17) rfl
theorem o_13_36 : x_ops 13 36 = some (28, 0, 8, 1, 39, []) := x_tab tk_13_0 (i := 18) rfl
theorem o_13_39 : x_ops 13 39 = some (2, 0, 0, 0, 40, []) := x_tab tk_13_0 (i := 19) rfl
theorem o_13_40 : x_ops 13 40 = some (2, 0, 0, 0, 41, []) := x_tab tk_13_0 (i := 20) rfl
theorem o_13_41 : x_ops 13 41 = some (27, 0, 8, 3, 44, []) := x_tab tk_13_0 (i := 21) rfl
theorem o_13_44 : x_ops 13 44 = some (26, 0, 4, 0, 47, []) := x_tab tk_13_0 (i := 22) rfl
theorem o_13_47 : x_ops 13 47 = some (28, 0, 8, 2, 50, []) := x_tab tk_13_0 (i := 23) rfl
theorem o_13_50 : x_ops 13 50 = some (1, 0, 1, 0, 51, []) := x_tab tk_13_0 (i := 24) rfl
theorem o_13_51 : x_ops 13 51 = some (22, 0, 58, 1, 54, []) := x_tab tk_13_0 (i := 25) rfl
theorem o_13_54 : x_ops 13 54 = some (2, 0, 0, 0, 55, []) := x_tab tk_13_0 (i := 26) rfl
theorem o_13_55 : x_ops 13 55 = some (50, 0, 50, 1, 58, []) := x_tab tk_13_0 (i := 27) rfl
theorem o_13_58 : x_ops 13 58 = some (1, 0, 1, 0, 59, []) := x_tab tk_13_0 (i := 28) rfl
theorem o_13_59 : x_ops 13 59 = some (60, 0, 1, 0, 0, []) := x_tab tk_13_0 (i := 29) rfl
def tb_50_0 : List (Nat × XO) := [(0, (2, 0, 0, 0, 1, [])), (1, (27, 0, 8, 5, 4, [])), (4, (5, 0, 1, 0, 5, [])), (5, (2, 0, 0, 0, 6, [])), (6, (2, 0, 0, 0, 7, [])), (7, (27, 0, 8, 4, 10, [])), (10, (30, 0, 8, 5, 13, [])), (13, (2, 0, 0, 0, 14, [])), (14, (2, 0, 1, 0, 15, [])), (15, (30, 0, 8, 4, 18, [])), (18, (2, 0, 0, 0, 19, [])), (19, (27, 0, 8, 6, 22, [])), (22, (2, 0, 1, 0, 23, [])), (23, (30, 0, 3, 0, 26, [])), (26, (2, 0, 0, 0, 27, [])), (27, (27, 0, 8, 6, 30, [])), (30, (2, 0, 0, 0, 31, [])), (31, (27, 0, 8, 7, 34, [])), (34, (2, 0, 1, 0, 35, [])), (35, (50, 0, 51, 1, 38, [])), (38, (50, 0, 53, 3, 41, [])), (41, (2, 0, 0, 0, 42, [])), (42, (27, 0, 8, 8, 45, [])), (45, (50, 0, 65, 1, 48, [])), (48, (2, 0, 0, 0, 49, [])), (49, (0, 0, 0, 0, 50, [])), (50, (28, 0, 8, 10, 53, [])), (53, (2, 0, 0, 0, 54, [])), (54, (27, 0, 8, 14, 57, [])), (57, (50, 0, 66, 1, 60, [])), (60, (2, 0, 0, 0, 61, [])), (61, (50, 0, 67, 1, 64, [])), (64, (60, 0, 0, 0, 0, []))]
set_option maxRecDepth 100000 in
theorem tk_50_0 : tb_50_0.all (fun q => x_is (x_ops 50 q.1) q.2) = true := by decide +kernel
theorem o_50_0 : x_ops 50 0 = some (2, 0, 0, 0, 1, []) := x_tab tk_50_0 (i := 0) rfl
theorem o_50_1 : x_ops 50 1 = some (27, 0, 8, 5, 4, []) := x_tab tk_50_0 (i := 1) rfl
theorem o_50_4 : x_ops 50 4 = some (5, 0, 1, 0, 5, []) := x_tab tk_50_0 (i := 2) rfl
theorem o_50_5 : x_ops 50 5 = some (2, 0, 0, 0, 6, []) := x_tab tk_50_0 (i := 3) rfl
theorem o_50_6 : x_ops 50 6 = some (2, 0, 0, 0, 7, []) := x_tab tk_50_0 (i := 4) rfl
theorem o_50_7 : x_ops 50 7 = some (27, 0, 8, 4, 10, []) := x_tab tk_50_0 (i := 5) rfl
theorem o_50_10 : x_ops 50 10 = some (30, 0, 8, 5, 13, []) := x_tab tk_50_0 (i := 6) rfl
theorem o_50_13 : x_ops 50 13 = some (2, 0, 0, 0, 14, []) := x_tab tk_50_0 (i := 7) rfl
theorem o_50_14 : x_ops 50 14 = some (2, 0, 1, 0, 15, []) := x_tab tk_50_0 (i := 8) rfl
theorem o_50_15 : x_ops 50 15 = some (30, 0, 8, 4, 18, []) := x_tab tk_50_0 (i := 9) rfl
theorem o_50_18 : x_ops 50 18 = some (2, 0, 0, 0, 19, []) := x_tab tk_50_0 (i := 10) rfl
theorem o_50_19 : x_ops 50 19 = some (27, 0, 8, 6, 22, []) := x_tab tk_50_0 (i := 11) rfl
theorem o_50_22 : x_ops 50 22 = some (2, 0, 1, 0, 23, []) := x_tab tk_50_0 (i := 12) rfl
theorem o_50_23 : x_ops 50 23 = some (30, 0, 3, 0, 26, []) := x_tab tk_50_0 (i := 13) rfl
theorem o_50_26 : x_ops 50 26 = some (2, 0, 0, 0, 27, []) := x_tab tk_50_0 (i := 14) rfl
theorem o_50_27 : x_ops 50 27 = some (27, 0, 8, 6, 30, []) := x_tab tk_50_0 (i := 15) rfl
theorem o_50_30 : x_ops 50 30 = some (2, 0, 0, 0, 31, []) := x_tab tk_50_0 (i := 16) rfl
theorem o_50_31 : x_ops 50 31 = some (27, 0, 8, 7, 34, []) := x_tab tk_50_0 (i := 17) rfl
theorem o_50_34 : x_ops 50 34 = some (2, 0, 1, 0, 35, []) := x_tab tk_50_0 (i := 18) rfl
theorem o_50_35 : x_ops 50 35 = some (50, 0, 51, 1, 38, []) := x_tab tk_50_0 (i := 19) rfl
theorem o_50_38 : x_ops 50 38 = some (50, 0, 53, 3, 41, []) := x_tab tk_50_0 (i := 20) rfl
theorem o_50_41 : x_ops 50 41 = some (2, 0, 0, 0, 42, []) := x_tab tk_50_0 (i := 21) rfl
theorem o_50_42 : x_ops 50 42 = some (27, 0, 8, 8, 45, []) := x_tab tk_50_0 (i := 22) rfl
theorem o_50_45 : x_ops 50 45 = some (50, 0, 65, 1, 48, []) := x_tab tk_50_0 (i := 23) rfl
theorem o_50_48 : x_ops 50 48 = some (2, 0, 0, 0, 49, []) := x_tab tk_50_0 (i := 24) rfl
theorem o_50_49 : x_ops 50 49 = some (0, 0, 0, 0, 50, []) := x_tab tk_50_0 (i := 25) rfl
theorem o_50_50 : x_ops 50 50 = some (28, 0, 8, 10, 53, []) := x_tab tk_50_0 (i := 26) rfl
theorem o_50_53 : x_ops 50 53 = some (2, 0, 0, 0, 54, []) := x_tab tk_50_0 (i := 27) rfl
theorem o_50_54 : x_ops 50 54 = some (27, 0, 8, 14, 57, []) := x_tab tk_50_0 (i := 28) rfl
theorem o_50_57 : x_ops 50 57 = some (50, 0, 66, 1, 60, []) := x_tab tk_50_0 (i := 29) rfl
theorem o_50_60 : x_ops 50 60 = some (2, 0, 0, 0, 61, []) := x_tab tk_50_0 (i := 30) rfl
theorem o_50_61 : x_ops 50 61 = some (50, 0, 67, 1, 64, []) := x_tab tk_50_0 (i := 31) rfl
theorem o_50_64 : x_ops 50 64 = some (60, 0, 0, 0, 0, []) := x_tab tk_50_0 (i := 32) rfl
def tb_58_0 : List (Nat × XO) := [(0, (0, 0, 0, 0, 1, [])), (1, (4, 0, 1, 0, 2, [])), (2, (0, 5, 0, 0, 3, [])), (3, (4, 0, 2, 0, 4, [])), (4, (1, 0, 2, 0, 5, [])), (5, (22, 0, 25, 2, 8, [])), (8, (1, 0, 1, 0, 9, [])), (9, (0, 5, 0, 0, 10, [])), (10, (8, 0, 2, 0, 11, [])), (11, (2, 0, 0, 0, 12, [])), (12, (0, 8, 0, 0, 14, [])), (14, (1, 0, 2, 0, 15, [])), (15, (8, 0, 0, 0, 16, [])), (16, (31, 0, 0, 0, 17, [])), (17, (8, 0, 0, 0, 18, [])), (18, (4, 0, 1, 0, 19, [])), (19, (7, -1, 2, 0, 22, [])), (22, (20, 0, 4, 0, 25, [])), (25, (1, 0, 1, 0, 26, [])), (26, (60, 0, 1, 0, 0, []))]
set_option maxRecDepth 100000 in
theorem tk_58_0 : tb_58_0.all (fun q => x_is (x_ops 58 q.1) q.2) = true := by decide +kernel
theorem o_58_0 : x_ops 58 0 = some (0, 0, 0, 0, 1, []) := x_tab tk_58_0 (i := 0) rfl
theorem o_58_1 : x_ops 58 1 = some (4, 0, 1, 0, 2, []) := x_tab tk_58_0 (i := 1) rfl
theorem o_58_2 : x_ops 58 2 = some (0, 5, 0, 0, 3, []) := x_tab tk_58_0 (i := 2) rfl
theorem o_58_3 : x_ops 58 3 = some (4, 0, 2, 0, 4, []) := x_tab tk_58_0 (i := 3) rfl
theorem o_58_4 : x_ops 58 4 = some (1, 0, 2, 0, 5, []) := x_tab tk_58_0 (i := 4) rfl
theorem o_58_5 : x_ops 58 5 = some (22, 0, 25, 2, 8, []) := x_tab tk_58_0 (i := 5) rfl
theorem o_58_8 : x_ops 58 8 = some (1, 0, 1, 0, 9, []) := x_tab tk_58_0 (i := 6) rfl
theorem o_58_9 : x_ops 58 9 = some (0, 5, 0, 0, 10, []) := x_tab tk_58_0 (i := 7) rfl
theorem o_58_10 : x_ops 58 10 = some (8, 0, 2, 0, 11, []) := x_tab tk_58_0 (i := 8) rfl
theorem o_58_11 : x_ops 58 11 = some (2, 0, 0, 0, 12, []) := x_tab tk_58_0 (i := 9) rfl
theorem o_58_12 : x_ops 58 12 = some (0, 8, 0, 0, 14, []) := x_tab tk_58_0 (i := 10) rfl
theorem o_58_14 : x_ops 58 14 = some (1, 0, 2, 0, 15, []) := x_tab tk_58_0 (i := 11) rfl
theorem o_58_15 : x_ops 58 15 = some (8, 0, 0, 0, 16, []) := x_tab tk_58_0 (i := 12) rfl
theorem o_58_16 : x_ops 58 16 = some (31, 0, 0, 0, 17, []) := x_tab tk_58_0 (i := 13) rfl
theorem o_58_17 : x_ops 58 17 = some (8, 0, 0, 0, 18, []) := x_tab tk_58_0 (i := 14) rfl
theorem o_58_18 : x_ops 58 18 = some (4, 0, 1, 0, 19, []) := x_tab tk_58_0 (i := 15) rfl
theorem o_58_19 : x_ops 58 19 = some (7, -1, 2, 0, 22, []) := x_tab tk_58_0 (i := 16) rfl
theorem o_58_22 : x_ops 58 22 = some (20, 0, 4, 0, 25, []) := x_tab tk_58_0 (i := 17) rfl
theorem o_58_25 : x_ops 58 25 = some (1, 0, 1, 0, 26, []) := x_tab tk_58_0 (i := 18) rfl
theorem o_58_26 : x_ops 58 26 = some (60, 0, 1, 0, 0, []) := x_tab tk_58_0 (i := 19) rfl
def tb_62_0 : List (Nat × XO) := [(0, (1, 0, 1, 0, 1, [])), (1, (4, 0, 2, 0, 2, [])), (2, (0, 0, 0, 0, 3, [])), (3, (4, 0, 3, 0, 4, [])), (4, (1, 0, 3, 0, 5, [])), (5, (0, 6, 0, 0, 7, [])), (7, (21, 0, 29, 3, 10, [])), (10, (2, 0, 0, 0, 11, [])), (11, (0, 8, 0, 0, 13, [])), (13, (1, 0, 3, 0, 14, [])), (14, (8, 0, 0, 0, 15, [])), (15, (1, 0, 2, 0, 16, [])), (16, (0, 5, 0, 0, 17, [])), (17, (10, 0, 0, 0, 18, [])), (18, (32, 0, 0, 0, 19, [])), (19, (1, 0, 2, 0, 20, [])), (20, (0, 5, 0, 0, 21, [])), (21, (9, 0, 0, 0, 22, [])), (22, (4, 0, 2, 0, 23, [])), (23, (7, 1, 3, 0, 26, [])), (26, (20, 0, 4, 0, 29, [])), (29, (60, 0, 0, 0, 0, []))]
set_option maxRecDepth 100000 in
theorem tk_62_0 : tb_62_0.all (fun q => x_is (x_ops 62 q.1) q.2) = true := by decide +kernel
theorem o_62_0 : x_ops 62 0 = some (1, 0, 1, 0, 1, []) := x_tab tk_62_0 (i := 0) rfl
theorem o_62_1 : x_ops 62 1 = some (4, 0, 2, 0, 2, []) := x_tab tk_62_0 (i := 1) rfl
theorem o_62_2 : x_ops 62 2 = some (0, 0, 0, 0, 3, []) := x_tab tk_62_0 (i := 2) rfl
theorem o_62_3 : x_ops 62 3 = some (4, 0, 3, 0, 4, []) := x_tab tk_62_0 (i := 3) rfl
theorem o_62_4 : x_ops 62 4 = some (1, 0, 3, 0, 5, []) := x_tab tk_62_0 (i := 4) rfl
theorem o_62_5 : x_ops 62 5 = some (0, 6, 0, 0, 7, []) := x_tab tk_62_0 (i := 5) rfl
theorem o_62_7 : x_ops 62 7 = some (21, 0, 29, 3, 10, []) := x_tab tk_62_0 (i := 6) rfl
theorem o_62_10 : x_ops 62 10 = some (2, 0, 0, 0, 11, []) := x_tab tk_62_0 (i := 7) rfl
theorem o_62_11 : x_ops 62 11 = some (0, 8, 0, 0, 13, []) := x_tab tk_62_0 (i := 8) rfl
theorem o_62_13 : x_ops 62 13 = some (1, 0, 3, 0, 14, []) := x_tab tk_62_0 (i := 9) rfl
theorem o_62_14 : x_ops 62 14 = some (8, 0, 0, 0, 15, []) := x_tab tk_62_0 (i := 10) rfl
theorem o_62_15 : x_ops 62 15 = some (1, 0, 2, 0, 16, []) := x_tab tk_62_0 (i := 11) rfl
theorem o_62_16 : x_ops 62 16 = some (0, 5, 0, 0, 17, []) := x_tab tk_62_0 (i := 12) rfl
theorem o_62_17 : x_ops 62 17 = some (10, 0, 0, 0, 18, []) := x_tab tk_62_0 (i := 13) rfl
theorem o_62_18 : x_ops 62 18 = some (32, 0, 0, 0, 19, []) := x_tab tk_62_0 (i := 14) rfl
theorem o_62_19 : x_ops 62 19 = some (1, 0, 2, 0, 20, []) := x_tab tk_62_0 (i := 15) rfl
theorem o_62_20 : x_ops 62 20 = some (0, 5, 0, 0, 21, []) := x_tab tk_62_0 (i := 16) rfl
theorem o_62_21 : x_ops 62 21 = some (9, 0, 0, 0, 22, []) := x_tab tk_62_0 (i := 17) rfl
theorem o_62_22 : x_ops 62 22 = some (4, 0, 2, 0, 23, []) := x_tab tk_62_0 (i := 18) rfl
theorem o_62_23 : x_ops 62 23 = some (7, 1, 3, 0, 26, []) := x_tab tk_62_0 (i := 19) rfl
theorem o_62_26 : x_ops 62 26 = some (20, 0, 4, 0, 29, []) := x_tab tk_62_0 (i := 20) rfl
theorem o_62_29 : x_ops 62 29 = some (60, 0, 0, 0, 0, []) := x_tab tk_62_0 (i := 21) rfl
def tb_64_0 : List (Nat × XO) := [(0, (1, 0, 0, 0, 1, [])), (1, (40, 0, 1, 0, 4, [])), (4, (1, 0, 1, 0, 5, [])), (5, (31, 0, 0, 0, 6, [])), (6, (9, 0, 0, 0, 7, [])), (7, (0, 5, 0, 0, 8, [])), (8, (10, 0, 0, 0, 9, [])), (9, (60, 0, 1, 0, 0, []))]
set_option maxRecDepth 100000 in
theorem tk_64_0 : tb_64_0.all (fun q => x_is (x_ops 64 q.1) q.2) = true := by decide +kernel
theorem o_64_0 : x_ops 64 0 = some (1, 0, 0, 0, 1, []) := x_tab tk_64_0 (i := 0) rfl
theorem o_64_1 : x_ops 64 1 = some (40, 0, 1, 0, 4, []) := x_tab tk_64_0 (i := 1) rfl
theorem o_64_4 : x_ops 64 4 = some (1, 0, 1, 0, 5, []) := x_tab tk_64_0 (i := 2) rfl
theorem o_64_5 : x_ops 64 5 = some (31, 0, 0, 0, 6, []) := x_tab tk_64_0 (i := 3) rfl
theorem o_64_6 : x_ops 64 6 = some (9, 0, 0, 0, 7, []) := x_tab tk_64_0 (i := 4) rfl
theorem o_64_7 : x_ops 64 7 = some (0, 5, 0, 0, 8, []) := x_tab tk_64_0 (i := 5) rfl
theorem o_64_8 : x_ops 64 8 = some (10, 0, 0, 0, 9, []) := x_tab tk_64_0 (i := 6) rfl
theorem o_64_9 : x_ops 64 9 = some (60, 0, 1, 0, 0, []) := x_tab tk_64_0 (i := 7) rfl
def tb_67_0 : List (Nat × XO) := [(0, (2, 0, 0, 0, 1, [])), (1, (27, 0, 8, 11, 4, [])), (4, (0, 0, 0, 0, 5, [])), (5, (29, 0, 7, 0, 8, [])), (8, (2, 0, 0, 0, 9, [])), (9, (27, 0, 8, 12, 12, [])), (12, (0, 0, 0, 0, 13, [])), (13, (29, 0, 6, 0, 16, [])), (16, (2, 0, 0, 0, 17, [])), (17, (27, 0, 8, 13, 20, [])), (20, (0, -1, 0, 0, 21, [])), (21, (28, 0, 0, 0, 24, [])), (24, (60, 0, 0, 0, 0, []))]
set_option maxRecDepth 100000 in
theorem tk_67_0 : tb_67_0.all (fun q => x_is (x_ops 67 q.1) q.2) = true := by decide +kernel
theorem o_67_0 : x_ops 67 0 = some (2, 0, 0, 0, 1, []) := x_tab tk_67_0 (i := 0) rfl
theorem o_67_1 : x_ops 67 1 = some (27, 0, 8, 11, 4, []) := x_tab tk_67_0 (i := 1) rfl
theorem o_67_4 : x_ops 67 4 = some (0, 0, 0, 0, 5, []) := x_tab tk_67_0 (i := 2) rfl
theorem o_67_5 : x_ops 67 5 = some (29, 0, 7, 0, 8, []) := x_tab tk_67_0 (i := 3) rfl
theorem o_67_8 : x_ops 67 8 = some (2, 0, 0, 0, 9, []) := x_tab tk_67_0 (i := 4) rfl
theorem o_67_9 : x_ops 67 9 = some (27, 0, 8, 12, 12, []) := x_tab tk_67_0 (i := 5) rfl
theorem o_67_12 : x_ops 67 12 = some (0, 0, 0, 0, 13, []) := x_tab tk_67_0 (i := 6) rfl
theorem o_67_13 : x_ops 67 13 = some (29, 0, 6, 0, 16, []) := x_tab tk_67_0 (i := 7) rfl
theorem o_67_16 : x_ops 67 16 = some (2, 0, 0, 0, 17, []) := x_tab tk_67_0 (i := 8) rfl
theorem o_67_17 : x_ops 67 17 = some (27, 0, 8, 13, 20, []) := x_tab tk_67_0 (i := 9) rfl
theorem o_67_20 : x_ops 67 20 = some (0, -1, 0, 0, 21, []) := x_tab tk_67_0 (i := 10) rfl
theorem o_67_21 : x_ops 67 21 = some (28, 0, 0, 0, 24, []) := x_tab tk_67_0 (i := 11) rfl
theorem o_67_24 : x_ops 67 24 = some (60, 0, 0, 0, 0, []) := x_tab tk_67_0 (i := 12) rfl
def tb_68_0 : List (Nat × XO) := [(0, (2, 0, 0, 0, 1, [])), (1, (26, 0, 8, 2, 4, [])), (4, (60, 0, 1, 0, 0, []))]
set_option maxRecDepth 100000 in
theorem tk_68_0 : tb_68_0.all (fun q => x_is (x_ops 68 q.1) q.2) = true := by decide +kernel
theorem o_68_0 : x_ops 68 0 = some (2, 0, 0, 0, 1, []) := x_tab tk_68_0 (i := 0) rfl
theorem o_68_1 : x_ops 68 1 = some (26, 0, 8, 2, 4, []) := x_tab tk_68_0 (i := 1) rfl
theorem o_68_4 : x_ops 68 4 = some (60, 0, 1, 0, 0, []) := x_tab tk_68_0 (i := 2) rfl
def tb_69_0 : List (Nat × XO) := [(0, (2, 0, 0, 0, 1, [])), (1, (1, 0, 1, 0, 2, [])), (2, (50, 0, 70, 2, 5, [])), (5, (22, 0, 17, 0, 8, [])), (8, (2, 0, 0, 0, 9, [])), (9, (27, 0, 8, 7, 12, [])), (12, (1, 0, 1, 0, 13, [])), (13, (31, 0, 0, 0, 14, [])), (14, (20, 0, 18, 0, 17, [])), (17, (0, -1, 0, 0, 18, [])), (18, (60, 0, 1, 0, 0, []))]
set_option maxRecDepth 100000 in
theorem tk_69_0 : tb_69_0.all (fun q => x_is (x_ops 69 q.1) q.2) = true := by decide +kernel
theorem o_69_0 : x_ops 69 0 = some (2, 0, 0, 0, 1, []) := x_tab tk_69_0 (i := 0) rfl
theorem o_69_1 : x_ops 69 1 = some (1, 0, 1, 0, 2, []) := x_tab tk_69_0 (i := 1) rfl
theorem o_69_2 : x_ops 69 2 = some (50, 0, 70, 2, 5, []) := x_tab tk_69_0 (i := 2) rfl
theorem o_69_5 : x_ops 69 5 = some (22, 0, 17, 0, 8, []) := x_tab tk_69_0 (i := 3) rfl
theorem o_69_8 : x_ops 69 8 = some (2, 0, 0, 0, 9, []) := x_tab tk_69_0 (i := 4) rfl
theorem o_69_9 : x_ops 69 9 = some (27, 0, 8, 7, 12, []) := x_tab tk_69_0 (i := 5) rfl
theorem o_69_12 : x_ops 69 12 = some (1, 0, 1, 0, 13, []) := x_tab tk_69_0 (i := 6) rfl
theorem o_69_13 : x_ops 69 13 = some (31, 0, 0, 0, 14, []) := x_tab tk_69_0 (i := 7) rfl
theorem o_69_14 : x_ops 69 14 = some (20, 0, 18, 0, 17, []) := x_tab tk_69_0 (i := 8) rfl
theorem o_69_17 : x_ops 69 17 = some (0, -1, 0, 0, 18, []) := x_tab tk_69_0 (i := 9) rfl
theorem o_69_18 : x_ops 69 18 = some (60, 0, 1, 0, 0, []) := x_tab tk_69_0 (i := 10) rfl
def tb_70_0 : List (Nat × XO) := [(0, (1, 0, 1, 0, 1, [])), (1, (22, 0, 19, 2, 4, [])), (4, (1, 0, 1, 0, 5, [])), (5, (2, 0, 0, 0, 6, [])), (6, (27, 0, 8, 4, 9, [])), (9, (26, 0, 5, 0, 12, [])), (12, (21, 0, 19, 3, 15, [])), (15, (0, 1, 0, 0, 16, [])), (16, (20, 0, 20, 0, 19, [])), (19, (0, 0, 0, 0, 20, [])), (20, (60, 0, 2, 0, 0, []))]
set_option maxRecDepth 100000 in
theorem tk_70_0 : tb_70_0.all (fun q => x_is (x_ops 70 q.1) q.2) = true := by decide +kernel
theorem o_70_0 : x_ops 70 0 = some (1, 0, 1, 0, 1, []) := x_tab tk_70_0 (i := 0) rfl
theorem o_70_1 : x_ops 70 1 = some (22, 0, 19, 2, 4, []) := x_tab tk_70_0 (i := 1) rfl
theorem o_70_4 : x_ops 70 4 = some (1, 0, 1, 0, 5, []) := x_tab tk_70_0 (i := 2) rfl
theorem o_70_5 : x_ops 70 5 = some (2, 0, 0, 0, 6, []) := x_tab tk_70_0 (i := 3) rfl
theorem o_70_6 : x_ops 70 6 = some (27, 0, 8, 4, 9, []) := x_tab tk_70_0 (i := 4) rfl
theorem o_70_9 : x_ops 70 9 = some (26, 0, 5, 0, 12, []) := x_tab tk_70_0 (i := 5) rfl
theorem o_70_12 : x_ops 70 12 = some (21, 0, 19, 3, 15, []) := x_tab tk_70_0 (i := 6) rfl
theorem o_70_15 : x_ops 70 15 = some (0, 1, 0, 0, 16, []) := x_tab tk_70_0 (i := 7) rfl
theorem o_70_16 : x_ops 70 16 = some (20, 0, 20, 0, 19, []) := x_tab tk_70_0 (i := 8) rfl
theorem o_70_19 : x_ops 70 19 = some (0, 0, 0, 0, 20, []) := x_tab tk_70_0 (i := 9) rfl
theorem o_70_20 : x_ops 70 20 = some (60, 0, 2, 0, 0, []) := x_tab tk_70_0 (i := 10) rfl
def tb_71_0 : List (Nat × XO) := [(0, (2, 0, 0, 0, 1, [])), (1, (1, 0, 1, 0, 2, [])), (2, (50, 0, 72, 2, 5, [])), (5, (22, 0, 10, 1, 8, [])), (8, (0, -1, 0, 0, 9, [])), (9, (60, 0, 1, 0, 0, [])), (10, (1, 0, 2, 0, 11, [])), (11, (41, 0, 137, 0, 0, [(0, 52), (1, 62), (2, 74), (3, 87), (4, 97), (5, 111), (6, 125)])), (52, (2, 0, 0, 0, 53, [])), (53, (27, 0, 8, 7, 56, [])), (56, (0, 8, 0, 0, 58, [])), (58, (1, 0, 1, 0, 59, [])), (59, (8, 0, 0, 0, 60, [])), (60, (31, 0, 0, 0, 61, [])), (61, (60, 0, 1, 0, 0, [])), (62, (2, 0, 0, 0, 63, [])), (63, (27, 0, 8, 7, 66, [])), (66, (0, 16, 0, 0, 68, [])), (68, (31, 0, 0, 0, 69, [])), (69, (1, 0, 1, 0, 70, [])), (70, (8, 0, 7, 0, 71, [])), (71, (0, 1, 0, 0, 72, [])), (72, (8, 0, 3, 0, 73, [])), (73, (60, 0, 1, 0, 0, [])), (74, (2, 0, 0, 0, 75, [])), (75, (27, 0, 8, 6, 78, [])), (78, (1, 0, 1, 0, 79, [])), (79, (2, 0, 0, 0, 80, [])), (80, (27, 0, 8, 7, 83, [])), (83, (50, 0, 73, 3, 86, [])), (86, (60, 0, 1, 0, 0, [])), (87, (2, 0, 0, 0, 88, [])), (88, (27, 0, 8, 4, 91, [])), (91, (27, 0, 5, 14, 94, [])), (94, (1, 0, 1, 0, 95, [])), (95, (31, 0, 0, 0, 96, [])), (96, (60, 0, 1, 0, 0, [])), (97, (2, 0, 0, 0, 98, [])), (98, (27, 0, 8, 6, 101, [])), (101, (1, 0, 1, 0, 102, [])), (102, (2, 0, 0, 0, 103, [])), (103, (27, 0, 8, 7, 106, [])), (106, (0, 0, 0, 0, 107, [])), (107, (50, 0, 75, 4, 110, [])), (110, (60, 0, 1, 0, 0, [])), (111, (2, 0, 0, 0, 112, [])), (112, (27, 0, 8, 6, 115, [])), (115, (1, 0, 1, 0, 116, [])), (116, (2, 0, 0, 0, 117, [])), (117, (27, 0, 8, 7, 120, [])), (120, (0, 1, 0, 0, 121, [])), (121, (50, 0, 75, 4, 124, [])), (124, (60, 0, 1, 0, 0, [])), (125, (2, 0, 0, 0, 126, [])), (126, (27, 0, 8, 7, 129, [])), (129, (0, 15, 0, 0, 131, [])), (131, (31, 0, 0, 0, 132, [])), (132, (1, 0, 1, 0, 133, [])), (133, (8, 0, 7, 0, 134, [])), (134, (0, 1, 0, 0, 135, []))]
set_option maxRecDepth 100000 in
theorem tk_71_0 : tb_71_0.all (fun q => x_is (x_ops 71 q.1) q.2) = true := by decide +kernel
theorem o_71_0 : x_ops 71 0 = some (2, 0, 0, 0, 1, []) := x_tab tk_71_0 (i := 0) rfl
theorem o_71_1 : x_ops 71 1 = some (1, 0, 1, 0, 2, []) := x_tab tk_71_0 (i := 1) rfl
theorem o_71_2 : x_ops 71 2 = some (50, 0, 72, 2, 5, []) := x_tab tk_71_0 (i := 2) rfl
theorem o_71_5 : x_ops 71 5 = some (22, 0, 10, 1, 8, []) := x_tab tk_71_0 (i := 3) rfl
theorem o_71_8 : x_ops 71 8 = some (0, -1, 0, 0, 9, []) := x_tab tk_71_0 (i := 4) rfl
theorem o_71_9 : x_ops 71 9 = some (60, 0, 1, 0, 0, []) := x_tab tk_71_0 (i := 5) rfl
theorem o_71_10 : x_ops 71 10 = some (1, 0, 2, 0, 11, []) := x_tab tk_71_0 (i := 6) rfl
theorem o_71_11 : x_ops 71 11 = some (41, 0, 137, 0, 0, [(0, 52), (1, 62), (2, 74), (3, 87), (4, 97), (5, 111), (6, 125)]) := x_tab tk_71_0 (i := 7) rfl
theorem o_71_52 : x_ops 71 52 = some (2, 0, 0, 0, 53, []) := x_tab tk_71_0 (i := 8) rfl
theorem o_71_53 : x_ops 71 53 = some (27, 0, 8, 7, 56, []) := x_tab tk_71_0 (i := 9) rfl
theorem o_71_56 : x_ops 71 56 = some (0, 8, 0, 0, 58, []) := x_tab tk_71_0 (i := 10) rfl
theorem o_71_58 : x_ops 71 58 = some (1, 0, 1, 0, 59, []) := x_tab tk_71_0 (i := 11) rfl
theorem o_71_59 : x_ops 71 59 = some (8, 0, 0, 0, 60, []) := x_tab tk_71_0 (i := 12) rfl
theorem o_71_60 : x_ops 71 60 = some (31, 0, 0, 0, 61, []) := x_tab tk_71_0 (i := 13) rfl
theorem o_71_61 : x_ops 71 61 = some (60, 0, 1, 0, 0, []) := x_tab tk_71_0 (i := 14) rfl
theorem o_71_62 : x_ops 71 62 = some (2, 0, 0, 0, 63, []) := x_tab tk_71_0 (i := 15) rfl
theorem o_71_63 : x_ops 71 63 = some (27, 0, 8, 7, 66, []) := x_tab tk_71_0 (i := 16) rfl
theorem o_71_66 : x_ops 71 66 = some (0, 16, 0, 0, 68, []) := x_tab tk_71_0 (i := 17) rfl
theorem o_71_68 : x_ops 71 68 = some (31, 0, 0, 0, 69, []) := x_tab tk_71_0 (i := 18) rfl
theorem o_71_69 : x_ops 71 69 = some (1, 0, 1, 0, 70, []) := x_tab tk_71_0 (i := 19) rfl
theorem o_71_70 : x_ops 71 70 = some (8, 0, 7, 0, 71, []) := x_tab tk_71_0 (i := 20) rfl
theorem o_71_71 : x_ops 71 71 = some (0, 1, 0, 0, 72, []) := x_tab tk_71_0 (i := 21) rfl
theorem o_71_72 : x_ops 71 72 = some (8, 0, 3, 0, 73, []) := x_tab tk_71_0 (i := 22) rfl
theorem o_71_73 : x_ops 71 73 = some (60, 0, 1, 0, 0, []) := x_tab tk_71_0 (i := 23) rfl
theorem o_71_74 : x_ops 71 74 = some (2, 0, 0, 0, 75, []) := x_tab tk_71_0 (i := 24) rfl
theorem o_71_75 : x_ops 71 75 = some (27, 0, 8, 6, 78, []) := x_tab tk_71_0 (i := 25) rfl
theorem o_71_78 : x_ops 71 78 = some (1, 0, 1, 0, 79, []) := x_tab tk_71_0 (i := 26) rfl
theorem o_71_79 : x_ops 71 79 = some (2, 0, 0, 0, 80, []) := x_tab tk_71_0 (i := 27) rfl
theorem o_71_80 : x_ops 71 80 = some (27, 0, 8, 7, 83, []) := x_tab tk_71_0 (i := 28) rfl
theorem o_71_83 : x_ops 71 83 = some (50, 0, 73, 3, 86, []) := x_tab tk_71_0 (i := 29) rfl
theorem o_71_86 : x_ops 71 86 = some (60, 0, 1, 0, 0, []) := x_tab tk_71_0 (i := 30) rfl
theorem o_71_87 : x_ops 71 87 = some (2, 0, 0, 0, 88, []) := x_tab tk_71_0 (i := 31) rfl
theorem o_71_88 : x_ops 71 88 = some (27, 0, 8, 4, 91, []) := x_tab tk_71_0 (i := 32) rfl
theorem o_71_91 : x_ops 71 91 = some (27, 0, 5, 14, 94, []) := x_tab tk_71_0 (i := 33) rfl
theorem o_71_94 : x_ops 71 94 = some (1, 0, 1, 0, 95, []) := x_tab tk_71_0 (i := 34) rfl
theorem o_71_95 : x_ops 71 95 = some (31, 0, 0, 0, 96, []) := x_tab tk_71_0 (i := 35) rfl
theorem o_71_96 : x_ops 71 96 = some (60, 0, 1, 0, 0, []) := x_tab tk_71_0 (i := 36) rfl
theorem o_71_97 : x_ops 71 97 = some (2, 0, 0, 0, 98, []) := x_tab tk_71_0 (i := 37) rfl
theorem o_71_98 : x_ops 71 98 = some (27, 0, 8, 6, 101, []) := x_tab tk_71_0 (i := 38) rfl
theorem o_71_101 : x_ops 71 101 = some (1, 0, 1, 0, 102, []) := x_tab tk_71_0 (i := 39) rfl
theorem o_71_102 : x_ops 71 102 = some (2, 0, 0, 0, 103, []) := x_tab tk_71_0 (i := 40) rfl
theorem o_71_103 : x_ops 71 103 = some (27, 0, 8, 7, 106, []) := x_tab tk_71_0 (i := 41) rfl
theorem o_71_106 : x_ops 71 106 = some (0, 0, 0, 0, 107, []) := x_tab tk_71_0 (i := 42) rfl
theorem o_71_107 : x_ops 71 107 = some (50, 0, 75, 4, 110, []) := x_tab tk_71_0 (i := 43) rfl
theorem o_71_110 : x_ops 71 110 = some (60, 0, 1, 0, 0, []) := x_tab tk_71_0 (i := 44) rfl
theorem o_71_111 : x_ops 71 111 = some (2, 0, 0, 0, 112, []) := x_tab tk_71_0 (i := 45) rfl
theorem o_71_112 : x_ops 71 112 = some (27, 0, 8, 6, 115, []) := x_tab tk_71_0 (i := 46) rfl
theorem o_71_115 : x_ops 71 115 = some (1, 0, 1, 0, 116, []) := x_tab tk_71_0 (i := 47) rfl
theorem o_71_116 : x_ops 71 116 = some (2, 0, 0, 0, 117, []) := x_tab tk_71_0 (i := 48) rfl
theorem o_71_117 : x_ops 71 117 = some (27, 0, 8, 7, 120, []) := x_tab tk_71_0 (i := 49) rfl
theorem o_71_120 : x_ops 71 120 = some (0, 1, 0, 0, 121, []) := x_tab tk_71_0 (i := 50) rfl
theorem o_71_121 : x_ops 71 121 = some (50, 0, 75, 4, 124, []) := x_tab tk_71_0 (i := 51) rfl
theorem o_71_124 : x_ops 71 124 = some (60, 0, 1, 0, 0, []) := x_tab tk_71_0 (i := 52) rfl
theorem o_71_125 : x_ops 71 125 = some (2, 0, 0, 0, 126, []) := x_tab tk_71_0 (i := 53) rfl
theorem o_71_126 : x_ops 71 126 = some (27, 0, 8, 7, 129, []) := x_tab tk_71_0 (i := 54) rfl
theorem o_71_129 : x_ops 71 129 = some (0, 15, 0, 0, 131, []) := x_tab tk_71_0 (i := 55) rfl
theorem o_71_131 : x_ops 71 131 = some (31, 0, 0, 0, 132, []) := x_tab tk_71_0 (i := 56) rfl
theorem o_71_132 : x_ops 71 132 = some (1, 0, 1, 0, 133, []) := x_tab tk_71_0 (i := 57) rfl
theorem o_71_133 : x_ops 71 133 = some (8, 0, 7, 0, 134, []) := x_tab tk_71_0 (i := 58) rfl
theorem o_71_134 : x_ops 71 134 = some (0, 1, 0, 0, 135, []) := x_tab tk_71_0 (i := 59) rfl
def tb_71_1 : List (Nat × XO) := [(135, (8, 0, 3, 0, 136, [])), (136, (60, 0, 1, 0, 0, [])), (137, (0, -1, 0, 0, 138, [])), (138, (60, 0, 1, 0, 0, []))]
set_option maxRecDepth 100000 in
theorem tk_71_1 : tb_71_1.all (fun q => x_is (x_ops 71 q.1) q.2) = true := by decide +kernel
theorem o_71_135 : x_ops 71 135 = some (8, 0, 3, 0, 136, []) := x_tab tk_71_1 (i := 0) rfl
theorem o_71_136 : x_ops 71 136 = some (60, 0, 1, 0, 0, []) := x_tab tk_71_1 (i := 1) rfl
theorem o_71_137 : x_ops 71 137 = some (0, -1, 0, 0, 138, []) := x_tab tk_71_1 (i := 2) rfl
theorem o_71_138 : x_ops 71 138 = some (60, 0, 1, 0, 0, []) := x_tab tk_71_1 (i := 3) rfl
def tb_72_0 : List (Nat × XO) := [(0, (1, 0, 1, 0, 1, [])), (1, (22, 0, 19, 2, 4, [])), (4, (1, 0, 1, 0, 5, [])), (5, (2, 0, 0, 0, 6, [])), (6, (27, 0, 8, 4, 9, [])), (9, (26, 0, 5, 1, 12, [])), (12, (21, 0, 19, 3, 15, [])), (15, (0, 1, 0, 0, 16, [])), (16, (20, 0, 20, 0, 19, [])), (19, (0, 0, 0, 0, 20, [])), (20, (60, 0, 2, 0, 0, []))]
set_option maxRecDepth 100000 in
theorem tk_72_0 : tb_72_0.all (fun q => x_is (x_ops 72 q.1) q.2) = true := by decide +kernel
theorem o_72_0 : x_ops 72 0 = some (1, 0, 1, 0, 1, []) := x_tab tk_72_0 (i := 0) rfl
theorem o_72_1 : x_ops 72 1 = some (22, 0, 19, 2, 4, []) := x_tab tk_72_0 (i := 1) rfl
theorem o_72_4 : x_ops 72 4 = some (1, 0, 1, 0, 5, []) := x_tab tk_72_0 (i := 2) rfl
theorem o_72_5 : x_ops 72 5 = some (2, 0, 0, 0, 6, []) := x_tab tk_72_0 (i := 3) rfl
theorem o_72_6 : x_ops 72 6 = some (27, 0, 8, 4, 9, []) := x_tab tk_72_0 (i := 4) rfl
theorem o_72_9 : x_ops 72 9 = some (26, 0, 5, 1, 12, []) := x_tab tk_72_0 (i := 5) rfl
theorem o_72_12 : x_ops 72 12 = some (21, 0, 19, 3, 15, []) := x_tab tk_72_0 (i := 6) rfl
theorem o_72_15 : x_ops 72 15 = some (0, 1, 0, 0, 16, []) := x_tab tk_72_0 (i := 7) rfl
theorem o_72_16 : x_ops 72 16 = some (20, 0, 20, 0, 19, []) := x_tab tk_72_0 (i := 8) rfl
theorem o_72_19 : x_ops 72 19 = some (0, 0, 0, 0, 20, []) := x_tab tk_72_0 (i := 9) rfl
theorem o_72_20 : x_ops 72 20 = some (60, 0, 2, 0, 0, []) := x_tab tk_72_0 (i := 10) rfl
def tb_76_0 : List (Nat × XO) := [(0, (1, 0, 1, 0, 1, [])), (1, (41, 0, 52, 0, 0, [(0, 28), (1, 36), (2, 44)])), (28, (2, 0, 0, 0, 29, [])), (29, (27, 0, 8, 7, 32, [])), (32, (0, 17, 0, 0, 34, [])), (34, (31, 0, 0, 0, 35, [])), (35, (60, 0, 1, 0, 0, [])), (36, (2, 0, 0, 0, 37, [])), (37, (27, 0, 8, 7, 40, [])), (40, (0, 18, 0, 0, 42, [])), (42, (31, 0, 0, 0, 43, [])), (43, (60, 0, 1, 0, 0, [])), (44, (2, 0, 0, 0, 45, [])), (45, (27, 0, 8, 7, 48, [])), (48, (0, 19, 0, 0, 50, [])), (50, (31, 0, 0, 0, 51, [])), (51, (60, 0, 1, 0, 0, [])), (52, (0, -1, 0, 0, 53, [])), (53, (60, 0, 1, 0, 0, []))]
set_option maxRecDepth 100000 in
theorem tk_76_0 : tb_76_0.all (fun q => x_is (x_ops 76 q.1) q.2) = true := by decide +kernel
theorem o_76_0 : x_ops 76 0 = some (1, 0, 1, 0, 1, []) := x_tab tk_76_0 (i := 0) rfl
theorem o_76_1 : x_ops 76 1 = some (41, 0, 52, 0, 0, [(0, 28), (1, 36), (2, 44)]) := x_tab tk_76_0 (i := 1) rfl
theorem o_76_28 : x_ops 76 28 = some (2, 0, 0, 0, 29, []) := x_tab tk_76_0 (i := 2) rfl
theorem o_76_29 : x_ops 76 29 = some (27, 0, 8, 7, 32, []) := x_tab tk_76_0 (i := 3) rfl
theorem o_76_32 : x_ops 76 32 = some (0, 17, 0, 0, 34, []) := x_tab tk_76_0 (i := 4) rfl
theorem o_76_34 : x_ops 76 34 = some (31, 0, 0, 0, 35, []) := x_tab tk_76_0 (i := 5) rfl
theorem o_76_35 : x_ops 76 35 = some (60, 0, 1, 0, 0, []) := x_tab tk_76_0 (i := 6) rfl
theorem o_76_36 : x_ops 76 36 = some (2, 0, 0, 0, 37, []) := x_tab tk_76_0 (i := 7) rfl
theorem o_76_37 : x_ops 76 37 = some (27, 0, 8, 7, 40, []) := x_tab tk_76_0 (i := 8) rfl
theorem o_76_40 : x_ops 76 40 = some (0, 18, 0, 0, 42, []) := x_tab tk_76_0 (i := 9) rfl
theorem o_76_42 : x_ops 76 42 = some (31, 0, 0, 0, 43, []) := x_tab tk_76_0 (i := 10) rfl
theorem o_76_43 : x_ops 76 43 = some (60, 0, 1, 0, 0, []) := x_tab tk_76_0 (i := 11) rfl
theorem o_76_44 : x_ops 76 44 = some (2, 0, 0, 0, 45, []) := x_tab tk_76_0 (i := 12) rfl
theorem o_76_45 : x_ops 76 45 = some (27, 0, 8, 7, 48, []) := x_tab tk_76_0 (i := 13) rfl
theorem o_76_48 : x_ops 76 48 = some (0, 19, 0, 0, 50, []) := x_tab tk_76_0 (i := 14) rfl
theorem o_76_50 : x_ops 76 50 = some (31, 0, 0, 0, 51, []) := x_tab tk_76_0 (i := 15) rfl
theorem o_76_51 : x_ops 76 51 = some (60, 0, 1, 0, 0, []) := x_tab tk_76_0 (i := 16) rfl
theorem o_76_52 : x_ops 76 52 = some (0, -1, 0, 0, 53, []) := x_tab tk_76_0 (i := 17) rfl
theorem o_76_53 : x_ops 76 53 = some (60, 0, 1, 0, 0, []) := x_tab tk_76_0 (i := 18) rfl
def tb_77_0 : List (Nat × XO) := [(0, (1, 0, 1, 0, 1, [])), (1, (22, 0, 10, 2, 4, [])), (4, (1, 0, 1, 0, 5, [])), (5, (0, 100, 0, 0, 7, [])), (7, (21, 0, 12, 5, 10, [])), (10, (0, -1, 0, 0, 11, [])), (11, (60, 0, 1, 0, 0, [])), (12, (1, 0, 1, 0, 13, [])), (13, (22, 0, 62, 5, 16, [])), (16, (2, 0, 0, 0, 17, [])), (17, (27, 0, 8, 8, 20, [])), (20, (2, 0, 0, 0, 21, [])), (21, (27, 0, 8, 7, 24, [])), (24, (50, 0, 78, 2, 27, [])), (27, (0, 0, 0, 0, 28, [])), (28, (4, 0, 2, 0, 29, [])), (29, (1, 0, 2, 0, 30, [])), (30, (1, 0, 1, 0, 31, [])), (31, (21, 0, 58, 3, 34, [])), (34, (2, 0, 0, 0, 35, [])), (35, (27, 0, 8, 6, 38, [])), (38, (2, 0, 0, 0, 39, [])), (39, (27, 0, 8, 7, 42, [])), (42, (2, 0, 0, 0, 43, [])), (43, (27, 0, 8, 4, 46, [])), (46, (26, 0, 5, 3, 49, [])), (49, (50, 0, 79, 3, 52, [])), (52, (7, 1, 2, 0, 55, [])), (55, (20, 0, 29, 0, 58, [])), (58, (2, 0, 0, 0, 59, [])), (59, (50, 0, 67, 1, 62, [])), (62, (2, 0, 0, 0, 63, [])), (63, (27, 0, 8, 7, 66, [])), (66, (0, 14, 0, 0, 68, [])), (68, (31, 0, 0, 0, 69, [])), (69, (60, 0, 1, 0, 0, []))]
set_option maxRecDepth 100000 in
theorem tk_77_0 : tb_77_0.all (fun q => x_is (x_ops 77 q.1) q.2) = true := by decide +kernel
theorem o_77_0 : x_ops 77 0 = some (1, 0, 1, 0, 1, []) := x_tab tk_77_0 (i := 0) rfl
theorem o_77_1 : x_ops 77 1 = some (22, 0, 10, 2, 4, []) := x_tab tk_77_0 (i := 1) rfl
theorem o_77_4 : x_ops 77 4 = some (1, 0, 1, 0, 5, []) := x_tab tk_77_0 (i := 2) rfl
theorem o_77_5 : x_ops 77 5 = some (0, 100, 0, 0, 7, []) := x_tab tk_77_0 (i := 3) rfl
theorem o_77_7 : x_ops 77 7 = some (21, 0, 12, 5, 10, []) := x_tab tk_77_0 (i := 4) rfl
theorem o_77_10 : x_ops 77 10 = some (0, -1, 0, 0, 11, []) := x_tab tk_77_0 (i := 5) rfl
theorem o_77_11 : x_ops 77 11 = some (60, 0, 1, 0, 0, []) := x_tab tk_77_0 (i := 6) rfl
theorem o_77_12 : x_ops 77 12 = some (1, 0, 1, 0, 13, []) := x_tab tk_77_0 (i := 7) rfl
theorem o_77_13 : x_ops 77 13 = some (22, 0, 62, 5, 16, []) := x_tab tk_77_0 (i := 8) rfl
theorem o_77_16 : x_ops 77 16 = some (2, 0, 0, 0, 17, []) := x_tab tk_77_0 (i := 9) rfl
theorem o_77_17 : x_ops 77 17 = some (27, 0, 8, 8, 20, []) := x_tab tk_77_0 (i := 10) rfl
theorem o_77_20 : x_ops 77 20 = some (2, 0, 0, 0, 21, []) := x_tab tk_77_0 (i := 11) rfl
theorem o_77_21 : x_ops 77 21 = some (27, 0, 8, 7, 24, []) := x_tab tk_77_0 (i := 12) rfl
theorem o_77_24 : x_ops 77 24 = some (50, 0, 78, 2, 27, []) := x_tab tk_77_0 (i := 13) rfl
theorem o_77_27 : x_ops 77 27 = some (0, 0, 0, 0, 28, []) := x_tab tk_77_0 (i := 14) rfl
theorem o_77_28 : x_ops 77 28 = some (4, 0, 2, 0, 29, []) := x_tab tk_77_0 (i := 15) rfl
theorem o_77_29 : x_ops 77 29 = some (1, 0, 2, 0, 30, []) := x_tab tk_77_0 (i := 16) rfl
theorem o_77_30 : x_ops 77 30 = some (1, 0, 1, 0, 31, []) := x_tab tk_77_0 (i := 17) rfl
theorem o_77_31 : x_ops 77 31 = some (21, 0, 58, 3, 34, []) := x_tab tk_77_0 (i := 18) rfl
theorem o_77_34 : x_ops 77 34 = some (2, 0, 0, 0, 35, []) := x_tab tk_77_0 (i := 19) rfl
theorem o_77_35 : x_ops 77 35 = some (27, 0, 8, 6, 38, []) := x_tab tk_77_0 (i := 20) rfl
theorem o_77_38 : x_ops 77 38 = some (2, 0, 0, 0, 39, []) := x_tab tk_77_0 (i := 21) rfl
theorem o_77_39 : x_ops 77 39 = some (27, 0, 8, 7, 42, []) := x_tab tk_77_0 (i := 22) rfl
theorem o_77_42 : x_ops 77 42 = some (2, 0, 0, 0, 43, []) := x_tab tk_77_0 (i := 23) rfl
theorem o_77_43 : x_ops 77 43 = some (27, 0, 8, 4, 46, []) := x_tab tk_77_0 (i := 24) rfl
theorem o_77_46 : x_ops 77 46 = some (26, 0, 5, 3, 49, []) := x_tab tk_77_0 (i := 25) rfl
theorem o_77_49 : x_ops 77 49 = some (50, 0, 79, 3, 52, []) := x_tab tk_77_0 (i := 26) rfl
theorem o_77_52 : x_ops 77 52 = some (7, 1, 2, 0, 55, []) := x_tab tk_77_0 (i := 27) rfl
theorem o_77_55 : x_ops 77 55 = some (20, 0, 29, 0, 58, []) := x_tab tk_77_0 (i := 28) rfl
theorem o_77_58 : x_ops 77 58 = some (2, 0, 0, 0, 59, []) := x_tab tk_77_0 (i := 29) rfl
theorem o_77_59 : x_ops 77 59 = some (50, 0, 67, 1, 62, []) := x_tab tk_77_0 (i := 30) rfl
theorem o_77_62 : x_ops 77 62 = some (2, 0, 0, 0, 63, []) := x_tab tk_77_0 (i := 31) rfl
theorem o_77_63 : x_ops 77 63 = some (27, 0, 8, 7, 66, []) := x_tab tk_77_0 (i := 32) rfl
theorem o_77_66 : x_ops 77 66 = some (0, 14, 0, 0, 68, []) := x_tab tk_77_0 (i := 33) rfl
theorem o_77_68 : x_ops 77 68 = some (31, 0, 0, 0, 69, []) := x_tab tk_77_0 (i := 34) rfl
theorem o_77_69 : x_ops 77 69 = some (60, 0, 1, 0, 0, []) := x_tab tk_77_0 (i := 35) rfl
def tb_82_0 : List (Nat × XO) := [(0, (2, 0, 0, 0, 1, [])), (1, (1, 0, 1, 0, 2, [])), (2, (50, 0, 70, 2, 5, [])), (5, (22, 0, 35, 0, 8, [])), (8, (1, 0, 2, 0, 9, [])), (9, (22, 0, 35, 2, 12, [])), (12, (1, 0, 2, 0, 13, [])), (13, (2, 0, 0, 0, 14, [])), (14, (27, 0, 8, 4, 17, [])), (17, (27, 0, 5, 9, 20, [])), (20, (1, 0, 1, 0, 21, [])), (21, (31, 0, 0, 0, 22, [])), (22, (21, 0, 35, 4, 25, [])), (25, (1, 0, 2, 0, 26, [])), (26, (2, 0, 0, 0, 27, [])), (27, (27, 0, 8, 7, 30, [])), (30, (1, 0, 1, 0, 31, [])), (31, (31, 0, 0, 0, 32, [])), (32, (21, 0, 37, 1, 35, [])), (35, (0, 0, 0, 0, 36, [])), (36, (60, 0, 2, 0, 0, [])), (37, (2, 0, 0, 0, 38, [])), (38, (27, 0, 8, 8, 41, [])), (41, (2, 0, 0, 0, 42, [])), (42, (27, 0, 8, 7, 45, [])), (45, (50, 0, 78, 2, 48, [])), (48, (2, 0, 0, 0, 49, [])), (49, (27, 0, 8, 7, 52, [])), (52, (1, 0, 1, 0, 53, [])), (53, (1, 0, 2, 0, 54, [])), (54, (32, 0, 0, 0, 55, [])), (55, (2, 0, 0, 0, 56, [])), (56, (27, 0, 8, 6, 59, [])), (59, (2, 0, 0, 0, 60, [])), (60, (27, 0, 8, 7, 63, [])), (63, (50, 0, 55, 2, 66, [])), (66, (2, 0, 0, 0, 67, [])), (67, (50, 0, 67, 1, 70, [])), (70, (0, 1, 0, 0, 71, [])), (71, (60, 0, 2, 0, 0, []))]
set_option maxRecDepth 100000 in
theorem tk_82_0 : tb_82_0.all (fun q => x_is (x_ops 82 q.1) q.2) = true := by decide +kernel
theorem o_82_0 : x_ops 82 0 = some (2, 0, 0, 0, 1, []) := x_tab tk_82_0 (i := 0) rfl
theorem o_82_1 : x_ops 82 1 = some (1, 0, 1, 0, 2, []) := x_tab tk_82_0 (i := 1) rfl
theorem o_82_2 : x_ops 82 2 = some (50, 0, 70, 2, 5, []) := x_tab tk_82_0 (i := 2) rfl
theorem o_82_5 : x_ops 82 5 = some (22, 0, 35, 0, 8, []) := x_tab tk_82_0 (i := 3) rfl
theorem o_82_8 : x_ops 82 8 = some (1, 0, 2, 0, 9, []) := x_tab tk_82_0 (i := 4) rfl
theorem o_82_9 : x_ops 82 9 = some (22, 0, 35, 2, 12, []) := x_tab tk_82_0 (i := 5) rfl
theorem o_82_12 : x_ops 82 12 = some (1, 0, 2, 0, 13, []) := x_tab tk_82_0 (i := 6) rfl
theorem o_82_13 : x_ops 82 13 = some (2, 0, 0, 0, 14, []) := x_tab tk_82_0 (i := 7) rfl
theorem o_82_14 : x_ops 82 14 = some (27, 0, 8, 4, 17, []) := x_tab tk_82_0 (i := 8) rfl
theorem o_82_17 : x_ops 82 17 = some (27, 0, 5, 9, 20, []) := x_tab tk_82_0 (i := 9) rfl
theorem o_82_20 : x_ops 82 20 = some (1, 0, 1, 0, 21, []) := x_tab tk_82_0 (i := 10) rfl
theorem o_82_21 : x_ops 82 21 = some (31, 0, 0, 0, 22, []) := x_tab tk_82_0 (i := 11) rfl
theorem o_82_22 : x_ops 82 22 = some (21, 0, 35, 4, 25, []) := x_tab tk_82_0 (i := 12) rfl
theorem o_82_25 : x_ops 82 25 = some (1, 0, 2, 0, 26, []) := x_tab tk_82_0 (i := 13) rfl
theorem o_82_26 : x_ops 82 26 = some (2, 0, 0, 0, 27, []) := x_tab tk_82_0 (i := 14) rfl
theorem o_82_27 : x_ops 82 27 = some (27, 0, 8, 7, 30, []) := x_tab tk_82_0 (i := 15) rfl
theorem o_82_30 : x_ops 82 30 = some (1, 0, 1, 0, 31, []) := x_tab tk_82_0 (i := 16) rfl
theorem o_82_31 : x_ops 82 31 = some (31, 0, 0, 0, 32, []) := x_tab tk_82_0 (i := 17) rfl
theorem o_82_32 : x_ops 82 32 = some (21, 0, 37, 1, 35, []) := x_tab tk_82_0 (i := 18) rfl
theorem o_82_35 : x_ops 82 35 = some (0, 0, 0, 0, 36, []) := x_tab tk_82_0 (i := 19) rfl
theorem o_82_36 : x_ops 82 36 = some (60, 0, 2, 0, 0, []) := x_tab tk_82_0 (i := 20) rfl
theorem o_82_37 : x_ops 82 37 = some (2, 0, 0, 0, 38, []) := x_tab tk_82_0 (i := 21) rfl
theorem o_82_38 : x_ops 82 38 = some (27, 0, 8, 8, 41, []) := x_tab tk_82_0 (i := 22) rfl
theorem o_82_41 : x_ops 82 41 = some (2, 0, 0, 0, 42, []) := x_tab tk_82_0 (i := 23) rfl
theorem o_82_42 : x_ops 82 42 = some (27, 0, 8, 7, 45, []) := x_tab tk_82_0 (i := 24) rfl
theorem o_82_45 : x_ops 82 45 = some (50, 0, 78, 2, 48, []) := x_tab tk_82_0 (i := 25) rfl
theorem o_82_48 : x_ops 82 48 = some (2, 0, 0, 0, 49, []) := x_tab tk_82_0 (i := 26) rfl
theorem o_82_49 : x_ops 82 49 = some (27, 0, 8, 7, 52, []) := x_tab tk_82_0 (i := 27) rfl
theorem o_82_52 : x_ops 82 52 = some (1, 0, 1, 0, 53, []) := x_tab tk_82_0 (i := 28) rfl
theorem o_82_53 : x_ops 82 53 = some (1, 0, 2, 0, 54, []) := x_tab tk_82_0 (i := 29) rfl
theorem o_82_54 : x_ops 82 54 = some (32, 0, 0, 0, 55, []) := x_tab tk_82_0 (i := 30) rfl
theorem o_82_55 : x_ops 82 55 = some (2, 0, 0, 0, 56, []) := x_tab tk_82_0 (i := 31) rfl
theorem o_82_56 : x_ops 82 56 = some (27, 0, 8, 6, 59, []) := x_tab tk_82_0 (i := 32) rfl
theorem o_82_59 : x_ops 82 59 = some (2, 0, 0, 0, 60, []) := x_tab tk_82_0 (i := 33) rfl
theorem o_82_60 : x_ops 82 60 = some (27, 0, 8, 7, 63, []) := x_tab tk_82_0 (i := 34) rfl
theorem o_82_63 : x_ops 82 63 = some (50, 0, 55, 2, 66, []) := x_tab tk_82_0 (i := 35) rfl
theorem o_82_66 : x_ops 82 66 = some (2, 0, 0, 0, 67, []) := x_tab tk_82_0 (i := 36) rfl
theorem o_82_67 : x_ops 82 67 = some (50, 0, 67, 1, 70, []) := x_tab tk_82_0 (i := 37) rfl
theorem o_82_70 : x_ops 82 70 = some (0, 1, 0, 0, 71, []) := x_tab tk_82_0 (i := 38) rfl
theorem o_82_71 : x_ops 82 71 = some (60, 0, 2, 0, 0, []) := x_tab tk_82_0 (i := 39) rfl
def tb_83_0 : List (Nat × XO) := [(0, (2, 0, 0, 0, 1, [])), (1, (1, 0, 1, 0, 2, [])), (2, (50, 0, 72, 2, 5, [])), (5, (22, 0, 31, 0, 8, [])), (8, (2, 0, 0, 0, 9, [])), (9, (27, 0, 8, 7, 12, [])), (12, (0, 15, 0, 0, 14, [])), (14, (31, 0, 0, 0, 15, [])), (15, (1, 0, 1, 0, 16, [])), (16, (8, 0, 7, 0, 17, [])), (17, (0, 1, 0, 0, 18, [])), (18, (8, 0, 3, 0, 19, [])), (19, (1, 0, 2, 0, 20, [])), (20, (22, 0, 27, 0, 23, [])), (23, (0, 1, 0, 0, 24, [])), (24, (20, 0, 28, 0, 27, [])), (27, (0, 0, 0, 0, 28, [])), (28, (21, 0, 33, 1, 31, [])), (31, (0, 0, 0, 0, 32, [])), (32, (60, 0, 2, 0, 0, [])), (33, (2, 0, 0, 0, 34, [])), (34, (27, 0, 8, 8, 37, [])), (37, (2, 0, 0, 0, 38, [])), (38, (27, 0, 8, 7, 41, [])), (41, (50, 0, 78, 2, 44, [])), (44, (2, 0, 0, 0, 45, [])), (45, (27, 0, 8, 7, 48, [])), (48, (0, 15, 0, 0, 50, [])), (50, (24, 0, 0, 0, 51, [])), (51, (31, 0, 0, 0, 52, [])), (52, (0, 1, 0, 0, 53, [])), (53, (1, 0, 1, 0, 54, [])), (54, (8, 0, 6, 0, 55, [])), (55, (8, 0, 5, 0, 56, [])), (56, (32, 0, 0, 0, 57, [])), (57, (2, 0, 0, 0, 58, [])), (58, (27, 0, 8, 6, 61, [])), (61, (2, 0, 0, 0, 62, [])), (62, (27, 0, 8, 7, 65, [])), (65, (50, 0, 55, 2, 68, [])), (68, (2, 0, 0, 0, 69, [])), (69, (50, 0, 67, 1, 72, [])), (72, (0, 1, 0, 0, 73, [])), (73, (60, 0, 2, 0, 0, []))]
set_option maxRecDepth 100000 in
theorem tk_83_0 : tb_83_0.all (fun q => x_is (x_ops 83 q.1) q.2) = true := by decide +kernel
theorem o_83_0 : x_ops 83 0 = some (2, 0, 0, 0, 1, []) := x_tab tk_83_0 (i := 0) rfl
theorem o_83_1 : x_ops 83 1 = some (1, 0, 1, 0, 2, []) := x_tab tk_83_0 (i := 1) rfl
theorem o_83_2 : x_ops 83 2 = some (50, 0, 72, 2, 5, []) := x_tab tk_83_0 (i := 2) rfl
theorem o_83_5 : x_ops 83 5 = some (22, 0, 31, 0, 8, []) := x_tab tk_83_0 (i := 3) rfl
theorem o_83_8 : x_ops 83 8 = some (2, 0, 0, 0, 9, []) := x_tab tk_83_0 (i := 4) rfl
theorem o_83_9 : x_ops 83 9 = some (27, 0, 8, 7, 12, []) := x_tab tk_83_0 (i := 5) rfl
theorem o_83_12 : x_ops 83 12 = some (0, 15, 0, 0, 14, []) := x_tab tk_83_0 (i := 6) rfl
theorem o_83_14 : x_ops 83 14 = some (31, 0, 0, 0, 15, []) := x_tab tk_83_0 (i := 7) rfl
theorem o_83_15 : x_ops 83 15 = some (1, 0, 1, 0, 16, []) := x_tab tk_83_0 (i := 8) rfl
theorem o_83_16 : x_ops 83 16 = some (8, 0, 7, 0, 17, []) := x_tab tk_83_0 (i := 9) rfl
theorem o_83_17 : x_ops 83 17 = some (0, 1, 0, 0, 18, []) := x_tab tk_83_0 (i := 10) rfl
theorem o_83_18 : x_ops 83 18 = some (8, 0, 3, 0, 19, []) := x_tab tk_83_0 (i := 11) rfl
theorem o_83_19 : x_ops 83 19 = some (1, 0, 2, 0, 20, []) := x_tab tk_83_0 (i := 12) rfl
theorem o_83_20 : x_ops 83 20 = some (22, 0, 27, 0, 23, []) := x_tab tk_83_0 (i := 13) rfl
theorem o_83_23 : x_ops 83 23 = some (0, 1, 0, 0, 24, []) := x_tab tk_83_0 (i := 14) rfl
theorem o_83_24 : x_ops 83 24 = some (20, 0, 28, 0, 27, []) := x_tab tk_83_0 (i := 15) rfl
theorem o_83_27 : x_ops 83 27 = some (0, 0, 0, 0, 28, []) := x_tab tk_83_0 (i := 16) rfl
theorem o_83_28 : x_ops 83 28 = some (21, 0, 33, 1, 31, []) := x_tab tk_83_0 (i := 17) rfl
theorem o_83_31 : x_ops 83 31 = some (0, 0, 0, 0, 32, []) := x_tab tk_83_0 (i := 18) rfl
theorem o_83_32 : x_ops 83 32 = some (60, 0, 2, 0, 0, []) := x_tab tk_83_0 (i := 19) rfl
theorem o_83_33 : x_ops 83 33 = some (2, 0, 0, 0, 34, []) := x_tab tk_83_0 (i := 20) rfl
theorem o_83_34 : x_ops 83 34 = some (27, 0, 8, 8, 37, []) := x_tab tk_83_0 (i := 21) rfl
theorem o_83_37 : x_ops 83 37 = some (2, 0, 0, 0, 38, []) := x_tab tk_83_0 (i := 22) rfl
theorem o_83_38 : x_ops 83 38 = some (27, 0, 8, 7, 41, []) := x_tab tk_83_0 (i := 23) rfl
theorem o_83_41 : x_ops 83 41 = some (50, 0, 78, 2, 44, []) := x_tab tk_83_0 (i := 24) rfl
theorem o_83_44 : x_ops 83 44 = some (2, 0, 0, 0, 45, []) := x_tab tk_83_0 (i := 25) rfl
theorem o_83_45 : x_ops 83 45 = some (27, 0, 8, 7, 48, []) := x_tab tk_83_0 (i := 26) rfl
theorem o_83_48 : x_ops 83 48 = some (0, 15, 0, 0, 50, []) := x_tab tk_83_0 (i := 27) rfl
theorem o_83_50 : x_ops 83 50 = some (24, 0, 0, 0, 51, []) := x_tab tk_83_0 (i := 28) rfl
theorem o_83_51 : x_ops 83 51 = some (31, 0, 0, 0, 52, []) := x_tab tk_83_0 (i := 29) rfl
theorem o_83_52 : x_ops 83 52 = some (0, 1, 0, 0, 53, []) := x_tab tk_83_0 (i := 30) rfl
theorem o_83_53 : x_ops 83 53 = some (1, 0, 1, 0, 54, []) := x_tab tk_83_0 (i := 31) rfl
theorem o_83_54 : x_ops 83 54 = some (8, 0, 6, 0, 55, []) := x_tab tk_83_0 (i := 32) rfl
theorem o_83_55 : x_ops 83 55 = some (8, 0, 5, 0, 56, []) := x_tab tk_83_0 (i := 33) rfl
theorem o_83_56 : x_ops 83 56 = some (32, 0, 0, 0, 57, []) := x_tab tk_83_0 (i := 34) rfl
theorem o_83_57 : x_ops 83 57 = some (2, 0, 0, 0, 58, []) := x_tab tk_83_0 (i := 35) rfl
theorem o_83_58 : x_ops 83 58 = some (27, 0, 8, 6, 61, []) := x_tab tk_83_0 (i := 36) rfl
theorem o_83_61 : x_ops 83 61 = some (2, 0, 0, 0, 62, []) := x_tab tk_83_0 (i := 37) rfl
theorem o_83_62 : x_ops 83 62 = some (27, 0, 8, 7, 65, []) := x_tab tk_83_0 (i := 38) rfl
theorem o_83_65 : x_ops 83 65 = some (50, 0, 55, 2, 68, []) := x_tab tk_83_0 (i := 39) rfl
theorem o_83_68 : x_ops 83 68 = some (2, 0, 0, 0, 69, []) := x_tab tk_83_0 (i := 40) rfl
theorem o_83_69 : x_ops 83 69 = some (50, 0, 67, 1, 72, []) := x_tab tk_83_0 (i := 41) rfl
theorem o_83_72 : x_ops 83 72 = some (0, 1, 0, 0, 73, []) := x_tab tk_83_0 (i := 42) rfl
theorem o_83_73 : x_ops 83 73 = some (60, 0, 2, 0, 0, []) := x_tab tk_83_0 (i := 43) rfl
def tb_84_0 : List (Nat × XO) := [(0, (2, 0, 0, 0, 1, [])), (1, (27, 0, 8, 8, 4, [])), (4, (2, 0, 0, 0, 5, [])), (5, (27, 0, 8, 7, 8, [])), (8, (50, 0, 85, 2, 11, [])), (11, (22, 0, 16, 1, 14, [])), (14, (0, 0, 0, 0, 15, [])), (15, (60, 0, 2, 0, 0, [])), (16, (2, 0, 0, 0, 17, [])), (17, (50, 0, 67, 1, 20, [])), (20, (0, 1, 0, 0, 21, [])), (21, (60, 0, 2, 0, 0, []))]
set_option maxRecDepth 100000 in
theorem tk_84_0 : tb_84_0.all (fun q => x_is (x_ops 84 q.1) q.2) = true := by decide +kernel
theorem o_84_0 : x_ops 84 0 = some (2, 0, 0, 0, 1, []) := x_tab tk_84_0 (i := 0) rfl
theorem o_84_1 : x_ops 84 1 = some (27, 0, 8, 8, 4, []) := x_tab tk_84_0 (i := 1) rfl
theorem o_84_4 : x_ops 84 4 = some (2, 0, 0, 0, 5, []) := x_tab tk_84_0 (i := 2) rfl
theorem o_84_5 : x_ops 84 5 = some (27, 0, 8, 7, 8, []) := x_tab tk_84_0 (i := 3) rfl
theorem o_84_8 : x_ops 84 8 = some (50, 0, 85, 2, 11, []) := x_tab tk_84_0 (i := 4) rfl
theorem o_84_11 : x_ops 84 11 = some (22, 0, 16, 1, 14, []) := x_tab tk_84_0 (i := 5) rfl
theorem o_84_14 : x_ops 84 14 = some (0, 0, 0, 0, 15, []) := x_tab tk_84_0 (i := 6) rfl
theorem o_84_15 : x_ops 84 15 = some (60, 0, 2, 0, 0, []) := x_tab tk_84_0 (i := 7) rfl
theorem o_84_16 : x_ops 84 16 = some (2, 0, 0, 0, 17, []) := x_tab tk_84_0 (i := 8) rfl
theorem o_84_17 : x_ops 84 17 = some (50, 0, 67, 1, 20, []) := x_tab tk_84_0 (i := 9) rfl
theorem o_84_20 : x_ops 84 20 = some (0, 1, 0, 0, 21, []) := x_tab tk_84_0 (i := 10) rfl
theorem o_84_21 : x_ops 84 21 = some (60, 0, 2, 0, 0, []) := x_tab tk_84_0 (i := 11) rfl
def tb_86_0 : List (Nat × XO) := [(0, (1, 0, 1, 0, 1, [])), (1, (41, 0, 48, 0, 0, [(0, 28), (1, 40)])), (28, (2, 0, 0, 0, 29, [])), (29, (27, 0, 8, 4, 32, [])), (32, (2, 0, 0, 0, 33, [])), (33, (27, 0, 8, 7, 36, [])), (36, (50, 0, 52, 2, 39, [])), (39, (60, 0, 1, 0, 0, [])), (40, (2, 0, 0, 0, 41, [])), (41, (27, 0, 8, 4, 44, [])), (44, (26, 0, 5, 6, 47, [])), (47, (60, 0, 1, 0, 0, [])), (48, (0, -1, 0, 0, 49, [])), (49, (60, 0, 1, 0, 0, []))]
set_option maxRecDepth 100000 in
theorem tk_86_0 : tb_86_0.all (fun q => x_is (x_ops 86 q.1) q.2) = true := by decide +kernel
theorem o_86_0 : x_ops 86 0 = some (1, 0, 1, 0, 1, []) := x_tab tk_86_0 (i := 0) rfl
theorem o_86_1 : x_ops 86 1 = some (41, 0, 48, 0, 0, [(0, 28), (1, 40)]) := x_tab tk_86_0 (i := 1) rfl
theorem o_86_28 : x_ops 86 28 = some (2, 0, 0, 0, 29, []) := x_tab tk_86_0 (i := 2) rfl
theorem o_86_29 : x_ops 86 29 = some (27, 0, 8, 4, 32, []) := x_tab tk_86_0 (i := 3) rfl
theorem o_86_32 : x_ops 86 32 = some (2, 0, 0, 0, 33, []) := x_tab tk_86_0 (i := 4) rfl
theorem o_86_33 : x_ops 86 33 = some (27, 0, 8, 7, 36, []) := x_tab tk_86_0 (i := 5) rfl
theorem o_86_36 : x_ops 86 36 = some (50, 0, 52, 2, 39, []) := x_tab tk_86_0 (i := 6) rfl
theorem o_86_39 : x_ops 86 39 = some (60, 0, 1, 0, 0, []) := x_tab tk_86_0 (i := 7) rfl
theorem o_86_40 : x_ops 86 40 = some (2, 0, 0, 0, 41, []) := x_tab tk_86_0 (i := 8) rfl
theorem o_86_41 : x_ops 86 41 = some (27, 0, 8, 4, 44, []) := x_tab tk_86_0 (i := 9) rfl
theorem o_86_44 : x_ops 86 44 = some (26, 0, 5, 6, 47, []) := x_tab tk_86_0 (i := 10) rfl
theorem o_86_47 : x_ops 86 47 = some (60, 0, 1, 0, 0, []) := x_tab tk_86_0 (i := 11) rfl
theorem o_86_48 : x_ops 86 48 = some (0, -1, 0, 0, 49, []) := x_tab tk_86_0 (i := 12) rfl
theorem o_86_49 : x_ops 86 49 = some (60, 0, 1, 0, 0, []) := x_tab tk_86_0 (i := 13) rfl
def tb_87_0 : List (Nat × XO) := [(0, (1, 0, 1, 0, 1, [])), (1, (0, -1, 0, 0, 2, [])), (2, (21, 0, 7, 3, 5, [])), (5, (0, -1, 0, 0, 6, [])), (6, (60, 0, 1, 0, 0, [])), (7, (2, 0, 0, 0, 8, [])), (8, (27, 0, 8, 12, 11, [])), (11, (2, 0, 0, 0, 12, [])), (12, (27, 0, 8, 7, 15, [])), (15, (50, 0, 88, 2, 18, [])), (18, (1, 0, 1, 0, 19, [])), (19, (0, -1, 0, 0, 20, [])), (20, (21, 0, 33, 1, 23, [])), (23, (2, 0, 0, 0, 24, [])), (24, (27, 0, 8, 12, 27, [])), (27, (26, 0, 6, 1, 30, [])), (30, (20, 0, 41, 0, 33, [])), (33, (2, 0, 0, 0, 34, [])), (34, (27, 0, 8, 12, 37, [])), (37, (1, 0, 1, 0, 38, [])), (38, (50, 0, 94, 2, 41, [])), (41, (60, 0, 1, 0, 0, []))]
set_option maxRecDepth 100000 in
theorem tk_87_0 : tb_87_0.all (fun q => x_is (x_ops 87 q.1) q.2) = true := by decide +kernel
theorem o_87_0 : x_ops 87 0 = some (1, 0, 1, 0, 1, []) := x_tab tk_87_0 (i := 0) rfl
theorem o_87_1 : x_ops 87 1 = some (0, -1, 0, 0, 2, []) := x_tab tk_87_0 (i := 1) rfl
theorem o_87_2 : x_ops 87 2 = some (21, 0, 7, 3, 5, []) := x_tab tk_87_0 (i := 2) rfl
theorem o_87_5 : x_ops 87 5 = some (0, -1, 0, 0, 6, []) := x_tab tk_87_0 (i := 3) rfl
theorem o_87_6 : x_ops 87 6 = some (60, 0, 1, 0, 0, []) := x_tab tk_87_0 (i := 4) rfl
theorem o_87_7 : x_ops 87 7 = some (2, 0, 0, 0, 8, []) := x_tab tk_87_0 (i := 5) rfl
theorem o_87_8 : x_ops 87 8 = some (27, 0, 8, 12, 11, []) := x_tab tk_87_0 (i := 6) rfl
theorem o_87_11 : x_ops 87 11 = some (2, 0, 0, 0, 12, []) := x_tab tk_87_0 (i := 7) rfl
theorem o_87_12 : x_ops 87 12 = some (27, 0, 8, 7, 15, []) := x_tab tk_87_0 (i := 8) rfl
theorem o_87_15 : x_ops 87 15 = some (50, 0, 88, 2, 18, []) := x_tab tk_87_0 (i := 9) rfl
theorem o_87_18 : x_ops 87 18 = some (1, 0, 1, 0, 19, []) := x_tab tk_87_0 (i := 10) rfl
theorem o_87_19 : x_ops 87 19 = some (0, -1, 0, 0, 20, []) := x_tab tk_87_0 (i := 11) rfl
theorem o_87_20 : x_ops 87 20 = some (21, 0, 33, 1, 23, []) := x_tab tk_87_0 (i := 12) rfl
theorem o_87_23 : x_ops 87 23 = some (2, 0, 0, 0, 24, []) := x_tab tk_87_0 (i := 13) rfl
theorem o_87_24 : x_ops 87 24 = some (27, 0, 8, 12, 27, []) := x_tab tk_87_0 (i := 14) rfl
theorem o_87_27 : x_ops 87 27 = some (26, 0, 6, 1, 30, []) := x_tab tk_87_0 (i := 15) rfl
theorem o_87_30 : x_ops 87 30 = some (20, 0, 41, 0, 33, []) := x_tab tk_87_0 (i := 16) rfl
theorem o_87_33 : x_ops 87 33 = some (2, 0, 0, 0, 34, []) := x_tab tk_87_0 (i := 17) rfl
theorem o_87_34 : x_ops 87 34 = some (27, 0, 8, 12, 37, []) := x_tab tk_87_0 (i := 18) rfl
theorem o_87_37 : x_ops 87 37 = some (1, 0, 1, 0, 38, []) := x_tab tk_87_0 (i := 19) rfl
theorem o_87_38 : x_ops 87 38 = some (50, 0, 94, 2, 41, []) := x_tab tk_87_0 (i := 20) rfl
theorem o_87_41 : x_ops 87 41 = some (60, 0, 1, 0, 0, []) := x_tab tk_87_0 (i := 21) rfl
def tb_97_0 : List (Nat × XO) := [(0, (2, 0, 0, 0, 1, [])), (1, (1, 0, 1, 0, 2, [])), (2, (50, 0, 72, 2, 5, [])), (5, (22, 0, 15, 0, 8, [])), (8, (1, 0, 2, 0, 9, [])), (9, (50, 1, 98, 1, 12, [])), (12, (22, 0, 17, 1, 15, [])), (15, (0, -1, 0, 0, 16, [])), (16, (60, 0, 1, 0, 0, [])), (17, (2, 0, 0, 0, 18, [])), (18, (27, 0, 8, 11, 21, [])), (21, (1, 0, 1, 0, 22, [])), (22, (2, 0, 0, 0, 23, [])), (23, (27, 0, 8, 7, 26, [])), (26, (50, 0, 99, 3, 29, [])), (29, (4, 0, 3, 0, 30, [])), (30, (1, 0, 3, 0, 31, [])), (31, (22, 0, 39, 2, 34, [])), (34, (1, 0, 2, 0, 35, [])), (35, (0, 1, 0, 0, 36, [])), (36, (21, 0, 43, 1, 39, [])), (39, (1, 0, 3, 0, 40, [])), (40, (20, 0, 55, 0, 43, [])), (43, (2, 0, 0, 0, 44, [])), (44, (27, 0, 8, 4, 47, [])), (47, (1, 0, 3, 0, 48, [])), (48, (2, 0, 0, 0, 49, [])), (49, (27, 0, 8, 7, 52, [])), (52, (50, 0, 102, 3, 55, [])), (55, (60, 0, 1, 0, 0, []))]
set_option maxRecDepth 100000 in
theorem tk_97_0 : tb_97_0.all (fun q => x_is (x_ops 97 q.1) q.2) = true := by decide +kernel
theorem o_97_0 : x_ops 97 0 = some (2, 0, 0, 0, 1, []) := x_tab tk_97_0 (i := 0) rfl
theorem o_97_1 : x_ops 97 1 = some (1, 0, 1, 0, 2, []) := x_tab tk_97_0 (i := 1) rfl
theorem o_97_2 : x_ops 97 2 = some (50, 0, 72, 2, 5, []) := x_tab tk_97_0 (i := 2) rfl
theorem o_97_5 : x_ops 97 5 = some (22, 0, 15, 0, 8, []) := x_tab tk_97_0 (i := 3) rfl
theorem o_97_8 : x_ops 97 8 = some (1, 0, 2, 0, 9, []) := x_tab tk_97_0 (i := 4) rfl
theorem o_97_9 : x_ops 97 9 = some (50, 1, 98, 1, 12, []) := x_tab tk_97_0 (i := 5) rfl
theorem o_97_12 : x_ops 97 12 = some (22, 0, 17, 1, 15, []) := x_tab tk_97_0 (i := 6) rfl
theorem o_97_15 : x_ops 97 15 = some (0, -1, 0, 0, 16, []) := x_tab tk_97_0 (i := 7) rfl
theorem o_97_16 : x_ops 97 16 = some (60, 0, 1, 0, 0, []) := x_tab tk_97_0 (i := 8) rfl
theorem o_97_17 : x_ops 97 17 = some (2, 0, 0, 0, 18, []) := x_tab tk_97_0 (i := 9) rfl
theorem o_97_18 : x_ops 97 18 = some (27, 0, 8, 11, 21, []) := x_tab tk_97_0 (i := 10) rfl
theorem o_97_21 : x_ops 97 21 = some (1, 0, 1, 0, 22, []) := x_tab tk_97_0 (i := 11) rfl
theorem o_97_22 : x_ops 97 22 = some (2, 0, 0, 0, 23, []) := x_tab tk_97_0 (i := 12) rfl
theorem o_97_23 : x_ops 97 23 = some (27, 0, 8, 7, 26, []) := x_tab tk_97_0 (i := 13) rfl
theorem o_97_26 : x_ops 97 26 = some (50, 0, 99, 3, 29, []) := x_tab tk_97_0 (i := 14) rfl
theorem o_97_29 : x_ops 97 29 = some (4, 0, 3, 0, 30, []) := x_tab tk_97_0 (i := 15) rfl
theorem o_97_30 : x_ops 97 30 = some (1, 0, 3, 0, 31, []) := x_tab tk_97_0 (i := 16) rfl
theorem o_97_31 : x_ops 97 31 = some (22, 0, 39, 2, 34, []) := x_tab tk_97_0 (i := 17) rfl
theorem o_97_34 : x_ops 97 34 = some (1, 0, 2, 0, 35, []) := x_tab tk_97_0 (i := 18) rfl
theorem o_97_35 : x_ops 97 35 = some (0, 1, 0, 0, 36, []) := x_tab tk_97_0 (i := 19) rfl
theorem o_97_36 : x_ops 97 36 = some (21, 0, 43, 1, 39, []) := x_tab tk_97_0 (i := 20) rfl
theorem o_97_39 : x_ops 97 39 = some (1, 0, 3, 0, 40, []) := x_tab tk_97_0 (i := 21) rfl
theorem o_97_40 : x_ops 97 40 = some (20, 0, 55, 0, 43, []) := x_tab tk_97_0 (i := 22) rfl
theorem o_97_43 : x_ops 97 43 = some (2, 0, 0, 0, 44, []) := x_tab tk_97_0 (i := 23) rfl
theorem o_97_44 : x_ops 97 44 = some (27, 0, 8, 4, 47, []) := x_tab tk_97_0 (i := 24) rfl
theorem o_97_47 : x_ops 97 47 = some (1, 0, 3, 0, 48, []) := x_tab tk_97_0 (i := 25) rfl
theorem o_97_48 : x_ops 97 48 = some (2, 0, 0, 0, 49, []) := x_tab tk_97_0 (i := 26) rfl
theorem o_97_49 : x_ops 97 49 = some (27, 0, 8, 7, 52, []) := x_tab tk_97_0 (i := 27) rfl
theorem o_97_52 : x_ops 97 52 = some (50, 0, 102, 3, 55, []) := x_tab tk_97_0 (i := 28) rfl
theorem o_97_55 : x_ops 97 55 = some (60, 0, 1, 0, 0, []) := x_tab tk_97_0 (i := 29) rfl
def tb_98_0 : List (Nat × XO) := [(0, (1, 0, 0, 0, 1, [])), (1, (22, 0, 9, 0, 4, [])), (4, (1, 0, 0, 0, 5, [])), (5, (0, 1, 0, 0, 6, [])), (6, (21, 0, 13, 1, 9, [])), (9, (0, 1, 0, 0, 10, [])), (10, (20, 0, 14, 0, 13, [])), (13, (0, 0, 0, 0, 14, [])), (14, (60, 0, 2, 0, 0, []))]
set_option maxRecDepth 100000 in
theorem tk_98_0 : tb_98_0.all (fun q => x_is (x_ops 98 q.1) q.2) = true := by decide +kernel
theorem o_98_0 : x_ops 98 0 = some (1, 0, 0, 0, 1, []) := x_tab tk_98_0 (i := 0) rfl
theorem o_98_1 : x_ops 98 1 = some (22, 0, 9, 0, 4, []) := x_tab tk_98_0 (i := 1) rfl
theorem o_98_4 : x_ops 98 4 = some (1, 0, 0, 0, 5, []) := x_tab tk_98_0 (i := 2) rfl
theorem o_98_5 : x_ops 98 5 = some (0, 1, 0, 0, 6, []) := x_tab tk_98_0 (i := 3) rfl
theorem o_98_6 : x_ops 98 6 = some (21, 0, 13, 1, 9, []) := x_tab tk_98_0 (i := 4) rfl
theorem o_98_9 : x_ops 98 9 = some (0, 1, 0, 0, 10, []) := x_tab tk_98_0 (i := 5) rfl
theorem o_98_10 : x_ops 98 10 = some (20, 0, 14, 0, 13, []) := x_tab tk_98_0 (i := 6) rfl
theorem o_98_13 : x_ops 98 13 = some (0, 0, 0, 0, 14, []) := x_tab tk_98_0 (i := 7) rfl
theorem o_98_14 : x_ops 98 14 = some (60, 0, 2, 0, 0, []) := x_tab tk_98_0 (i := 8) rfl
def tb_101_0 : List (Nat × XO) := [(0, (2, 0, 0, 0, 1, [])), (1, (37, 0, 0, 0, 2, [])), (2, (1, 0, 1, 0, 3, [])), (3, (21, 0, 8, 2, 6, [])), (6, (2, 0, 0, 0, 7, [])), (7, (60, 0, 4, 0, 0, [])), (8, (0, 1, 0, 0, 9, [])), (9, (4, 0, 2, 0, 10, [])), (10, (0, 0, 0, 0, 11, [])), (11, (4, 0, 3, 0, 12, [])), (12, (1, 0, 3, 0, 13, [])), (13, (0, 20, 0, 0, 15, [])), (15, (21, 0, 33, 3, 18, [])), (18, (1, 0, 2, 0, 19, [])), (19, (1, 0, 1, 0, 20, [])), (20, (21, 0, 33, 3, 23, [])), (23, (1, 0, 2, 0, 24, [])), (24, (0, 2, 0, 0, 25, [])), (25, (8, 0, 2, 0, 26, [])), (26, (4, 0, 2, 0, 27, [])), (27, (7, 1, 3, 0, 30, [])), (30, (20, 0, 12, 0, 33, [])), (33, (1, 0, 2, 0, 34, [])), (34, (38, 0, 1, 0, 36, [])), (36, (60, 0, 4, 0, 0, []))]
set_option maxRecDepth 100000 in
theorem tk_101_0 : tb_101_0.all (fun q => x_is (x_ops 101 q.1) q.2) = true := by decide +kernel
theorem o_101_0 : x_ops 101 0 = some (2, 0, 0, 0, 1, []) := x_tab tk_101_0 (i := 0) rfl
theorem o_101_1 : x_ops 101 1 = some (37, 0, 0, 0, 2, []) := x_tab tk_101_0 (i := 1) rfl
theorem o_101_2 : x_ops 101 2 = some (1, 0, 1, 0, 3, []) := x_tab tk_101_0 (i := 2) rfl
theorem o_101_3 : x_ops 101 3 = some (21, 0, 8, 2, 6, []) := x_tab tk_101_0 (i := 3) rfl
theorem o_101_6 : x_ops 101 6 = some (2, 0, 0, 0, 7, []) := x_tab tk_101_0 (i := 4) rfl
theorem o_101_7 : x_ops 101 7 = some (60, 0, 4, 0, 0, []) := x_tab tk_101_0 (i := 5) rfl
theorem o_101_8 : x_ops 101 8 = some (0, 1, 0, 0, 9, []) := x_tab tk_101_0 (i := 6) rfl
theorem o_101_9 : x_ops 101 9 = some (4, 0, 2, 0, 10, []) := x_tab tk_101_0 (i := 7) rfl
theorem o_101_10 : x_ops 101 10 = some (0, 0, 0, 0, 11, []) := x_tab tk_101_0 (i := 8) rfl
theorem o_101_11 : x_ops 101 11 = some (4, 0, 3, 0, 12, []) := x_tab tk_101_0 (i := 9) rfl
theorem o_101_12 : x_ops 101 12 = some (1, 0, 3, 0, 13, []) := x_tab tk_101_0 (i := 10) rfl
theorem o_101_13 : x_ops 101 13 = some (0, 20, 0, 0, 15, []) := x_tab tk_101_0 (i := 11) rfl
theorem o_101_15 : x_ops 101 15 = some (21, 0, 33, 3, 18, []) := x_tab tk_101_0 (i := 12) rfl
theorem o_101_18 : x_ops 101 18 = some (1, 0, 2, 0, 19, []) := x_tab tk_101_0 (i := 13) rfl
theorem o_101_19 : x_ops 101 19 = some (1, 0, 1, 0, 20, []) := x_tab tk_101_0 (i := 14) rfl
theorem o_101_20 : x_ops 101 20 = some (21, 0, 33, 3, 23, []) := x_tab tk_101_0 (i := 15) rfl
theorem o_101_23 : x_ops 101 23 = some (1, 0, 2, 0, 24, []) := x_tab tk_101_0 (i := 16) rfl
theorem o_101_24 : x_ops 101 24 = some (0, 2, 0, 0, 25, []) := x_tab tk_101_0 (i := 17) rfl
theorem o_101_25 : x_ops 101 25 = some (8, 0, 2, 0, 26, []) := x_tab tk_101_0 (i := 18) rfl
theorem o_101_26 : x_ops 101 26 = some (4, 0, 2, 0, 27, []) := x_tab tk_101_0 (i := 19) rfl
theorem o_101_27 : x_ops 101 27 = some (7, 1, 3, 0, 30, []) := x_tab tk_101_0 (i := 20) rfl
theorem o_101_30 : x_ops 101 30 = some (20, 0, 12, 0, 33, []) := x_tab tk_101_0 (i := 21) rfl
theorem o_101_33 : x_ops 101 33 = some (1, 0, 2, 0, 34, []) := x_tab tk_101_0 (i := 22) rfl
theorem o_101_34 : x_ops 101 34 = some (38, 0, 1, 0, 36, []) := x_tab tk_101_0 (i := 23) rfl
theorem o_101_36 : x_ops 101 36 = some (60, 0, 4, 0, 0, []) := x_tab tk_101_0 (i := 24) rfl
def tb_103_0 : List (Nat × XO) := [(0, (2, 0, 0, 0, 1, [])), (1, (1, 0, 1, 0, 2, [])), (2, (50, 0, 72, 2, 5, [])), (5, (22, 0, 10, 1, 8, [])), (8, (0, -1, 0, 0, 9, [])), (9, (60, 0, 1, 0, 0, [])), (10, (0, 0, 0, 0, 11, [])), (11, (4, 0, 2, 0, 12, [])), (12, (1, 0, 2, 0, 13, [])), (13, (0, 300, 0, 0, 16, [])), (16, (21, 0, 47, 4, 19, [])), (19, (2, 0, 0, 0, 20, [])), (20, (27, 0, 8, 13, 23, [])), (23, (1, 0, 2, 0, 24, [])), (24, (2, 0, 0, 0, 25, [])), (25, (27, 0, 8, 7, 28, [])), (28, (50, 0, 104, 3, 31, [])), (31, (1, 0, 1, 0, 32, [])), (32, (50, 1, 64, 2, 35, [])), (35, (0, 4, 0, 0, 36, [])), (36, (21, 0, 41, 1, 39, [])), (39, (1, 0, 2, 0, 40, [])), (40, (60, 0, 1, 0, 0, [])), (41, (7, 1, 2, 0, 44, [])), (44, (20, 0, 12, 0, 47, [])), (47, (0, -2, 0, 0, 49, [])), (49, (60, 0, 1, 0, 0, []))]
set_option maxRecDepth 100000 in
theorem tk_103_0 : tb_103_0.all (fun q => x_is (x_ops 103 q.1) q.2) = true := by decide +kernel
theorem o_103_0 : x_ops 103 0 = some (2, 0, 0, 0, 1, []) := x_tab tk_103_0 (i := 0) rfl
theorem o_103_1 : x_ops 103 1 = some (1, 0, 1, 0, 2, []) := x_tab tk_103_0 (i := 1) rfl
theorem o_103_2 : x_ops 103 2 = some (50, 0, 72, 2, 5, []) := x_tab tk_103_0 (i := 2) rfl
theorem o_103_5 : x_ops 103 5 = some (22, 0, 10, 1, 8, []) := x_tab tk_103_0 (i := 3) rfl
theorem o_103_8 : x_ops 103 8 = some (0, -1, 0, 0, 9, []) := x_tab tk_103_0 (i := 4) rfl
theorem o_103_9 : x_ops 103 9 = some (60, 0, 1, 0, 0, []) := x_tab tk_103_0 (i := 5) rfl
theorem o_103_10 : x_ops 103 10 = some (0, 0, 0, 0, 11, []) := x_tab tk_103_0 (i := 6) rfl
theorem o_103_11 : x_ops 103 11 = some (4, 0, 2, 0, 12, []) := x_tab tk_103_0 (i := 7) rfl
theorem o_103_12 : x_ops 103 12 = some (1, 0, 2, 0, 13, []) := x_tab tk_103_0 (i := 8) rfl
theorem o_103_13 : x_ops 103 13 = some (0, 300, 0, 0, 16, []) := x_tab tk_103_0 (i := 9) rfl
theorem o_103_16 : x_ops 103 16 = some (21, 0, 47, 4, 19, []) := x_tab tk_103_0 (i := 10) rfl
theorem o_103_19 : x_ops 103 19 = some (2, 0, 0, 0, 20, []) := x_tab tk_103_0 (i := 11) rfl
theorem o_103_20 : x_ops 103 20 = some (27, 0, 8, 13, 23, []) := x_tab tk_103_0 (i := 12) rfl
theorem o_103_23 : x_ops 103 23 = some (1, 0, 2, 0, 24, []) := x_tab tk_103_0 (i := 13) rfl
theorem o_103_24 : x_ops 103 24 = some (2, 0, 0, 0, 25, []) := x_tab tk_103_0 (i := 14) rfl
theorem o_103_25 : x_ops 103 25 = some (27, 0, 8, 7, 28, []) := x_tab tk_103_0 (i := 15) rfl
theorem o_103_28 : x_ops 103 28 = some (50, 0, 104, 3, 31, []) := x_tab tk_103_0 (i := 16) rfl
theorem o_103_31 : x_ops 103 31 = some (1, 0, 1, 0, 32, []) := x_tab tk_103_0 (i := 17) rfl
theorem o_103_32 : x_ops 103 32 = some (50, 1, 64, 2, 35, []) := x_tab tk_103_0 (i := 18) rfl
theorem o_103_35 : x_ops 103 35 = some (0, 4, 0, 0, 36, []) := x_tab tk_103_0 (i := 19) rfl
theorem o_103_36 : x_ops 103 36 = some (21, 0, 41, 1, 39, []) := x_tab tk_103_0 (i := 20) rfl
theorem o_103_39 : x_ops 103 39 = some (1, 0, 2, 0, 40, []) := x_tab tk_103_0 (i := 21) rfl
theorem o_103_40 : x_ops 103 40 = some (60, 0, 1, 0, 0, []) := x_tab tk_103_0 (i := 22) rfl
theorem o_103_41 : x_ops 103 41 = some (7, 1, 2, 0, 44, []) := x_tab tk_103_0 (i := 23) rfl
theorem o_103_44 : x_ops 103 44 = some (20, 0, 12, 0, 47, []) := x_tab tk_103_0 (i := 24) rfl
theorem o_103_47 : x_ops 103 47 = some (0, -2, 0, 0, 49, []) := x_tab tk_103_0 (i := 25) rfl
theorem o_103_49 : x_ops 103 49 = some (60, 0, 1, 0, 0, []) := x_tab tk_103_0 (i := 26) rfl
def tb_105_0 : List (Nat × XO) := [(0, (2, 0, 0, 0, 1, [])), (1, (1, 0, 1, 0, 2, [])), (2, (50, 0, 72, 2, 5, [])), (5, (22, 0, 10, 1, 8, [])), (8, (0, -1, 0, 0, 9, [])), (9, (60, 0, 1, 0, 0, [])), (10, (0, 0, 0, 0, 11, [])), (11, (4, 0, 2, 0, 12, [])), (12, (1, 0, 2, 0, 13, [])), (13, (0, 300, 0, 0, 16, [])), (16, (21, 0, 47, 3, 19, [])), (19, (2, 0, 0, 0, 20, [])), (20, (27, 0, 8, 13, 23, [])), (23, (1, 0, 2, 0, 24, [])), (24, (2, 0, 0, 0, 25, [])), (25, (27, 0, 8, 7, 28, [])), (28, (50, 0, 104, 3, 31, [])), (31, (1, 0, 1, 0, 32, [])), (32, (50, 1, 64, 2, 35, [])), (35, (0, 4, 0, 0, 36, [])), (36, (21, 0, 41, 0, 39, [])), (39, (1, 0, 2, 0, 40, [])), (40, (60, 0, 1, 0, 0, [])), (41, (7, 1, 2, 0, 44, [])), (44, (20, 0, 12, 0, 47, [])), (47, (0, 300, 0, 0, 50, [])), (50, (60, 0, 1, 0, 0, []))]
set_option maxRecDepth 100000 in
theorem tk_105_0 : tb_105_0.all (fun q => x_is (x_ops 105 q.1) q.2) = true := by decide +kernel
theorem o_105_0 : x_ops 105 0 = some (2, 0, 0, 0, 1, []) := x_tab tk_105_0 (i := 0) rfl
theorem o_105_1 : x_ops 105 1 = some (1, 0, 1, 0, 2, []) := x_tab tk_105_0 (i := 1) rfl
theorem o_105_2 : x_ops 105 2 = some (50, 0, 72, 2, 5, []) := x_tab tk_105_0 (i := 2) rfl
theorem o_105_5 : x_ops 105 5 = some (22, 0, 10, 1, 8, []) := x_tab tk_105_0 (i := 3) rfl
theorem o_105_8 : x_ops 105 8 = some (0, -1, 0, 0, 9, []) := x_tab tk_105_0 (i := 4) rfl
theorem o_105_9 : x_ops 105 9 = some (60, 0, 1, 0, 0, []) := x_tab tk_105_0 (i := 5) rfl
theorem o_105_10 : x_ops 105 10 = some (0, 0, 0, 0, 11, []) := x_tab tk_105_0 (i := 6) rfl
theorem o_105_11 : x_ops 105 11 = some (4, 0, 2, 0, 12, []) := x_tab tk_105_0 (i := 7) rfl
theorem o_105_12 : x_ops 105 12 = some (1, 0, 2, 0, 13, []) := x_tab tk_105_0 (i := 8) rfl
theorem o_105_13 : x_ops 105 13 = some (0, 300, 0, 0, 16, []) := x_tab tk_105_0 (i := 9) rfl
theorem o_105_16 : x_ops 105 16 = some (21, 0, 47, 3, 19, []) := x_tab tk_105_0 (i := 10) rfl
theorem o_105_19 : x_ops 105 19 = some (2, 0, 0, 0, 20, []) := x_tab tk_105_0 (i := 11) rfl
theorem o_105_20 : x_ops 105 20 = some (27, 0, 8, 13, 23, []) := x_tab tk_105_0 (i := 12) rfl
theorem o_105_23 : x_ops 105 23 = some (1, 0, 2, 0, 24, []) := x_tab tk_105_0 (i := 13) rfl
theorem o_105_24 : x_ops 105 24 = some (2, 0, 0, 0, 25, []) := x_tab tk_105_0 (i := 14) rfl
theorem o_105_25 : x_ops 105 25 = some (27, 0, 8, 7, 28, []) := x_tab tk_105_0 (i := 15) rfl
theorem o_105_28 : x_ops 105 28 = some (50, 0, 104, 3, 31, []) := x_tab tk_105_0 (i := 16) rfl
theorem o_105_31 : x_ops 105 31 = some (1, 0, 1, 0, 32, []) := x_tab tk_105_0 (i := 17) rfl
theorem o_105_32 : x_ops 105 32 = some (50, 1, 64, 2, 35, []) := x_tab tk_105_0 (i := 18) rfl
theorem o_105_35 : x_ops 105 35 = some (0, 4, 0, 0, 36, []) := x_tab tk_105_0 (i := 19) rfl
theorem o_105_36 : x_ops 105 36 = some (21, 0, 41, 0, 39, []) := x_tab tk_105_0 (i := 20) rfl
theorem o_105_39 : x_ops 105 39 = some (1, 0, 2, 0, 40, []) := x_tab tk_105_0 (i := 21) rfl
theorem o_105_40 : x_ops 105 40 = some (60, 0, 1, 0, 0, []) := x_tab tk_105_0 (i := 22) rfl
theorem o_105_41 : x_ops 105 41 = some (7, 1, 2, 0, 44, []) := x_tab tk_105_0 (i := 23) rfl
theorem o_105_44 : x_ops 105 44 = some (20, 0, 12, 0, 47, []) := x_tab tk_105_0 (i := 24) rfl
theorem o_105_47 : x_ops 105 47 = some (0, 300, 0, 0, 50, []) := x_tab tk_105_0 (i := 25) rfl
theorem o_105_50 : x_ops 105 50 = some (60, 0, 1, 0, 0, []) := x_tab tk_105_0 (i := 26) rfl
def tb_106_0 : List (Nat × XO) := [(0, (2, 0, 0, 0, 1, [])), (1, (1, 0, 1, 0, 2, [])), (2, (50, 0, 72, 2, 5, [])), (5, (22, 0, 15, 0, 8, [])), (8, (1, 0, 2, 0, 9, [])), (9, (50, 1, 107, 1, 12, [])), (12, (22, 0, 17, 1, 15, [])), (15, (0, -1, 0, 0, 16, [])), (16, (60, 0, 1, 0, 0, [])), (17, (0, 0, 0, 0, 18, [])), (18, (4, 0, 3, 0, 19, [])), (19, (0, 0, 0, 0, 20, [])), (20, (4, 0, 4, 0, 22, [])), (22, (0, 0, 0, 0, 23, [])), (23, (4, 0, 5, 0, 25, [])), (25, (1, 0, 5, 0, 27, [])), (27, (1, 0, 2, 0, 28, [])), (28, (21, 0, 87, 4, 31, [])), (31, (2, 0, 0, 0, 32, [])), (32, (27, 0, 8, 13, 35, [])), (35, (1, 0, 5, 0, 37, [])), (37, (2, 0, 0, 0, 38, [])), (38, (27, 0, 8, 7, 41, [])), (41, (50, 0, 104, 3, 44, [])), (44, (1, 0, 1, 0, 45, [])), (45, (50, 1, 64, 2, 48, [])), (48, (0, 4, 0, 0, 49, [])), (49, (21, 0, 56, 1, 52, [])), (52, (0, 1, 0, 0, 53, [])), (53, (20, 0, 57, 0, 56, [])), (56, (0, 0, 0, 0, 57, [])), (57, (4, 0, 6, 0, 59, [])), (59, (1, 0, 6, 0, 61, [])), (61, (22, 0, 71, 0, 64, [])), (64, (1, 0, 4, 0, 66, [])), (66, (0, 1, 0, 0, 67, [])), (67, (8, 0, 0, 0, 68, [])), (68, (20, 0, 72, 0, 71, [])), (71, (0, 0, 0, 0, 72, [])), (72, (4, 0, 4, 0, 74, [])), (74, (1, 0, 3, 0, 75, [])), (75, (1, 0, 4, 0, 77, [])), (77, (43, 0, 0, 0, 80, [])), (80, (4, 0, 3, 0, 81, [])), (81, (7, 1, 5, 0, 84, [])), (84, (20, 0, 25, 0, 87, [])), (87, (1, 0, 3, 0, 88, [])), (88, (60, 0, 1, 0, 0, []))]
set_option maxRecDepth 100000 in
theorem tk_106_0 : tb_106_0.all (fun q => x_is (x_ops 106 q.1) q.2) = true := by decide +kernel
theorem o_106_0 : x_ops 106 0 = some (2, 0, 0, 0, 1, []) := x_tab tk_106_0 (i := 0) rfl
theorem o_106_1 : x_ops 106 1 = some (1, 0, 1, 0, 2, []) := x_tab tk_106_0 (i := 1) rfl
theorem o_106_2 : x_ops 106 2 = some (50, 0, 72, 2, 5, []) := x_tab tk_106_0 (i := 2) rfl
theorem o_106_5 : x_ops 106 5 = some (22, 0, 15, 0, 8, []) := x_tab tk_106_0 (i := 3) rfl
theorem o_106_8 : x_ops 106 8 = some (1, 0, 2, 0, 9, []) := x_tab tk_106_0 (i := 4) rfl
theorem o_106_9 : x_ops 106 9 = some (50, 1, 107, 1, 12, []) := x_tab tk_106_0 (i := 5) rfl
theorem o_106_12 : x_ops 106 12 = some (22, 0, 17, 1, 15, []) := x_tab tk_106_0 (i := 6) rfl
theorem o_106_15 : x_ops 106 15 = some (0, -1, 0, 0, 16, []) := x_tab tk_106_0 (i := 7) rfl
theorem o_106_16 : x_ops 106 16 = some (60, 0, 1, 0, 0, []) := x_tab tk_106_0 (i := 8) rfl
theorem o_106_17 : x_ops 106 17 = some (0, 0, 0, 0, 18, []) := x_tab tk_106_0 (i := 9) rfl
theorem o_106_18 : x_ops 106 18 = some (4, 0, 3, 0, 19, []) := x_tab tk_106_0 (i := 10) rfl
theorem o_106_19 : x_ops 106 19 = some (0, 0, 0, 0, 20, []) := x_tab tk_106_0 (i := 11) rfl
theorem o_106_20 : x_ops 106 20 = some (4, 0, 4, 0, 22, []) := x_tab tk_106_0 (i := 12) rfl
theorem o_106_22 : x_ops 106 22 = some (0, 0, 0, 0, 23, []) := x_tab tk_106_0 (i := 13) rfl
theorem o_106_23 : x_ops 106 23 = some (4, 0, 5, 0, 25, []) := x_tab tk_106_0 (i := 14) rfl
theorem o_106_25 : x_ops 106 25 = some (1, 0, 5, 0, 27, []) := x_tab tk_106_0 (i := 15) rfl
theorem o_106_27 : x_ops 106 27 = some (1, 0, 2, 0, 28, []) := x_tab tk_106_0 (i := 16) rfl
theorem o_106_28 : x_ops 106 28 = some (21, 0, 87, 4, 31, []) := x_tab tk_106_0 (i := 17) rfl
theorem o_106_31 : x_ops 106 31 = some (2, 0, 0, 0, 32, []) := x_tab tk_106_0 (i := 18) rfl
theorem o_106_32 : x_ops 106 32 = some (27, 0, 8, 13, 35, []) := x_tab tk_106_0 (i := 19) rfl
theorem o_106_35 : x_ops 106 35 = some (1, 0, 5, 0, 37, []) := x_tab tk_106_0 (i := 20) rfl
theorem o_106_37 : x_ops 106 37 = some (2, 0, 0, 0, 38, []) := x_tab tk_106_0 (i := 21) rfl
theorem o_106_38 : x_ops 106 38 = some (27, 0, 8, 7, 41, []) := x_tab tk_106_0 (i := 22) rfl
theorem o_106_41 : x_ops 106 41 = some (50, 0, 104, 3, 44, []) := x_tab tk_106_0 (i := 23) rfl
theorem o_106_44 : x_ops 106 44 = some (1, 0, 1, 0, 45, []) := x_tab tk_106_0 (i := 24) rfl
theorem o_106_45 : x_ops 106 45 = some (50, 1, 64, 2, 48, []) := x_tab tk_106_0 (i := 25) rfl
theorem o_106_48 : x_ops 106 48 = some (0, 4, 0, 0, 49, []) := x_tab tk_106_0 (i := 26) rfl
theorem o_106_49 : x_ops 106 49 = some (21, 0, 56, 1, 52, []) := x_tab tk_106_0 (i := 27) rfl
theorem o_106_52 : x_ops 106 52 = some (0, 1, 0, 0, 53, []) := x_tab tk_106_0 (i := 28) rfl
theorem o_106_53 : x_ops 106 53 = some (20, 0, 57, 0, 56, []) := x_tab tk_106_0 (i := 29) rfl
theorem o_106_56 : x_ops 106 56 = some (0, 0, 0, 0, 57, []) := x_tab tk_106_0 (i := 30) rfl
theorem o_106_57 : x_ops 106 57 = some (4, 0, 6, 0, 59, []) := x_tab tk_106_0 (i := 31) rfl
theorem o_106_59 : x_ops 106 59 = some (1, 0, 6, 0, 61, []) := x_tab tk_106_0 (i := 32) rfl
theorem o_106_61 : x_ops 106 61 = some (22, 0, 71, 0, 64, []) := x_tab tk_106_0 (i := 33) rfl
theorem o_106_64 : x_ops 106 64 = some (1, 0, 4, 0, 66, []) := x_tab tk_106_0 (i := 34) rfl
theorem o_106_66 : x_ops 106 66 = some (0, 1, 0, 0, 67, []) := x_tab tk_106_0 (i := 35) rfl
theorem o_106_67 : x_ops 106 67 = some (8, 0, 0, 0, 68, []) := x_tab tk_106_0 (i := 36) rfl
theorem o_106_68 : x_ops 106 68 = some (20, 0, 72, 0, 71, []) := x_tab tk_106_0 (i := 37) rfl
theorem o_106_71 : x_ops 106 71 = some (0, 0, 0, 0, 72, []) := x_tab tk_106_0 (i := 38) rfl
theorem o_106_72 : x_ops 106 72 = some (4, 0, 4, 0, 74, []) := x_tab tk_106_0 (i := 39) rfl
theorem o_106_74 : x_ops 106 74 = some (1, 0, 3, 0, 75, []) := x_tab tk_106_0 (i := 40) rfl
theorem o_106_75 : x_ops 106 75 = some (1, 0, 4, 0, 77, []) := x_tab tk_106_0 (i := 41) rfl
theorem o_106_77 : x_ops 106 77 = some (43, 0, 0, 0, 80, []) := x_tab tk_106_0 (i := 42) rfl
theorem o_106_80 : x_ops 106 80 = some (4, 0, 3, 0, 81, []) := x_tab tk_106_0 (i := 43) rfl
theorem o_106_81 : x_ops 106 81 = some (7, 1, 5, 0, 84, []) := x_tab tk_106_0 (i := 44) rfl
theorem o_106_84 : x_ops 106 84 = some (20, 0, 25, 0, 87, []) := x_tab tk_106_0 (i := 45) rfl
theorem o_106_87 : x_ops 106 87 = some (1, 0, 3, 0, 88, []) := x_tab tk_106_0 (i := 46) rfl
theorem o_106_88 : x_ops 106 88 = some (60, 0, 1, 0, 0, []) := x_tab tk_106_0 (i := 47) rfl
def tb_107_0 : List (Nat × XO) := [(0, (1, 0, 0, 0, 1, [])), (1, (22, 0, 15, 2, 4, [])), (4, (1, 0, 0, 0, 5, [])), (5, (0, 300, 0, 0, 8, [])), (8, (21, 0, 15, 4, 11, [])), (11, (0, 1, 0, 0, 12, [])), (12, (20, 0, 16, 0, 15, [])), (15, (0, 0, 0, 0, 16, [])), (16, (60, 0, 2, 0, 0, []))]
set_option maxRecDepth 100000 in
theorem tk_107_0 : tb_107_0.all (fun q => x_is (x_ops 107 q.1) q.2) = true := by decide +kernel
theorem o_107_0 : x_ops 107 0 = some (1, 0, 0, 0, 1, []) := x_tab tk_107_0 (i := 0) rfl
theorem o_107_1 : x_ops 107 1 = some (22, 0, 15, 2, 4, []) := x_tab tk_107_0 (i := 1) rfl
theorem o_107_4 : x_ops 107 4 = some (1, 0, 0, 0, 5, []) := x_tab tk_107_0 (i := 2) rfl
theorem o_107_5 : x_ops 107 5 = some (0, 300, 0, 0, 8, []) := x_tab tk_107_0 (i := 3) rfl
theorem o_107_8 : x_ops 107 8 = some (21, 0, 15, 4, 11, []) := x_tab tk_107_0 (i := 4) rfl
theorem o_107_11 : x_ops 107 11 = some (0, 1, 0, 0, 12, []) := x_tab tk_107_0 (i := 5) rfl
theorem o_107_12 : x_ops 107 12 = some (20, 0, 16, 0, 15, []) := x_tab tk_107_0 (i := 6) rfl
theorem o_107_15 : x_ops 107 15 = some (0, 0, 0, 0, 16, []) := x_tab tk_107_0 (i := 7) rfl
theorem o_107_16 : x_ops 107 16 = some (60, 0, 2, 0, 0, []) := x_tab tk_107_0 (i := 8) rfl
def tb_108_0 : List (Nat × XO) := [(0, (1, 0, 1, 0, 1, [])), (1, (50, 1, 107, 1, 4, [])), (4, (22, 0, 9, 1, 7, [])), (7, (0, -1, 0, 0, 8, [])), (8, (60, 0, 1, 0, 0, [])), (9, (2, 0, 0, 0, 10, [])), (10, (27, 0, 8, 13, 13, [])), (13, (1, 0, 1, 0, 14, [])), (14, (2, 0, 0, 0, 15, [])), (15, (27, 0, 8, 7, 18, [])), (18, (50, 0, 104, 3, 21, [])), (21, (4, 0, 2, 0, 22, [])), (22, (0, 0, 0, 0, 23, [])), (23, (4, 0, 3, 0, 24, [])), (24, (0, 0, 0, 0, 25, [])), (25, (4, 0, 4, 0, 27, [])), (27, (1, 0, 4, 0, 29, [])), (29, (2, 0, 0, 0, 30, [])), (30, (27, 0, 8, 4, 33, [])), (33, (26, 0, 5, 1, 36, [])), (36, (21, 0, 71, 3, 39, [])), (39, (1, 0, 2, 0, 40, [])), (40, (1, 0, 4, 0, 42, [])), (42, (50, 1, 64, 2, 45, [])), (45, (2, 0, 0, 0, 46, [])), (46, (27, 0, 8, 7, 49, [])), (49, (0, 8, 0, 0, 51, [])), (51, (1, 0, 4, 0, 53, [])), (53, (8, 0, 0, 0, 54, [])), (54, (31, 0, 0, 0, 55, [])), (55, (21, 0, 65, 0, 58, [])), (58, (1, 0, 3, 0, 59, [])), (59, (0, 1, 0, 0, 60, [])), (60, (1, 0, 4, 0, 62, [])), (62, (8, 0, 6, 0, 63, [])), (63, (8, 0, 4, 0, 64, [])), (64, (4, 0, 3, 0, 65, [])), (65, (7, 1, 4, 0, 68, [])), (68, (20, 0, 27, 0, 71, [])), (71, (1, 0, 3, 0, 72, [])), (72, (60, 0, 1, 0, 0, []))]
set_option maxRecDepth 100000 in
theorem tk_108_0 : tb_108_0.all (fun q => x_is (x_ops 108 q.1) q.2) = true := by decide +kernel
theorem o_108_0 : x_ops 108 0 = some (1, 0, 1, 0, 1, []) := x_tab tk_108_0 (i := 0) rfl
theorem o_108_1 : x_ops 108 1 = some (50, 1, 107, 1, 4, []) := x_tab tk_108_0 (i := 1) rfl
theorem o_108_4 : x_ops 108 4 = some (22, 0, 9, 1, 7, []) := x_tab tk_108_0 (i := 2) rfl
theorem o_108_7 : x_ops 108 7 = some (0, -1, 0, 0, 8, []) := x_tab tk_108_0 (i := 3) rfl
theorem o_108_8 : x_ops 108 8 = some (60, 0, 1, 0, 0, []) := x_tab tk_108_0 (i := 4) rfl
theorem o_108_9 : x_ops 108 9 = some (2, 0, 0, 0, 10, []) := x_tab tk_108_0 (i := 5) rfl
theorem o_108_10 : x_ops 108 10 = some (27, 0, 8, 13, 13, []) := x_tab tk_108_0 (i := 6) rfl
theorem o_108_13 : x_ops 108 13 = some (1, 0, 1, 0, 14, []) := x_tab tk_108_0 (i := 7) rfl
theorem o_108_14 : x_ops 108 14 = some (2, 0, 0, 0, 15, []) := x_tab tk_108_0 (i := 8) rfl
theorem o_108_15 : x_ops 108 15 = some (27, 0, 8, 7, 18, []) := x_tab tk_108_0 (i := 9) rfl
theorem o_108_18 : x_ops 108 18 = some (50, 0, 104, 3, 21, []) := x_tab tk_108_0 (i := 10) rfl
theorem o_108_21 : x_ops 108 21 = some (4, 0, 2, 0, 22, []) := x_tab tk_108_0 (i := 11) rfl
theorem o_108_22 : x_ops 108 22 = some (0, 0, 0, 0, 23, []) := x_tab tk_108_0 (i := 12) rfl
theorem o_108_23 : x_ops 108 23 = some (4, 0, 3, 0, 24, []) := x_tab tk_108_0 (i := 13) rfl
theorem o_108_24 : x_ops 108 24 = some (0, 0, 0, 0, 25, []) := x_tab tk_108_0 (i := 14) rfl
theorem o_108_25 : x_ops 108 25 = some (4, 0, 4, 0, 27, []) := x_tab tk_108_0 (i := 15) rfl
theorem o_108_27 : x_ops 108 27 = some (1, 0, 4, 0, 29, []) := x_tab tk_108_0 (i := 16) rfl
theorem o_108_29 : x_ops 108 29 = some (2, 0, 0, 0, 30, []) := x_tab tk_108_0 (i := 17) rfl
theorem o_108_30 : x_ops 108 30 = some (27, 0, 8, 4, 33, []) := x_tab tk_108_0 (i := 18) rfl
theorem o_108_33 : x_ops 108 33 = some (26, 0, 5, 1, 36, []) := x_tab tk_108_0 (i := 19) rfl
theorem o_108_36 : x_ops 108 36 = some (21, 0, 71, 3, 39, []) := x_tab tk_108_0 (i := 20) rfl
theorem o_108_39 : x_ops 108 39 = some (1, 0, 2, 0, 40, []) := x_tab tk_108_0 (i := 21) rfl
theorem o_108_40 : x_ops 108 40 = some (1, 0, 4, 0, 42, []) := x_tab tk_108_0 (i := 22) rfl
theorem o_108_42 : x_ops 108 42 = some (50, 1, 64, 2, 45, []) := x_tab tk_108_0 (i := 23) rfl
theorem o_108_45 : x_ops 108 45 = some (2, 0, 0, 0, 46, []) := x_tab tk_108_0 (i := 24) rfl
theorem o_108_46 : x_ops 108 46 = some (27, 0, 8, 7, 49, []) := x_tab tk_108_0 (i := 25) rfl
theorem o_108_49 : x_ops 108 49 = some (0, 8, 0, 0, 51, []) := x_tab tk_108_0 (i := 26) rfl
theorem o_108_51 : x_ops 108 51 = some (1, 0, 4, 0, 53, []) := x_tab tk_108_0 (i := 27) rfl
theorem o_108_53 : x_ops 108 53 = some (8, 0, 0, 0, 54, []) := x_tab tk_108_0 (i := 28) rfl
theorem o_108_54 : x_ops 108 54 = some (31, 0, 0, 0, 55, []) := x_tab tk_108_0 (i := 29) rfl
theorem o_108_55 : x_ops 108 55 = some (21, 0, 65, 0, 58, []) := x_tab tk_108_0 (i := 30) rfl
theorem o_108_58 : x_ops 108 58 = some (1, 0, 3, 0, 59, []) := x_tab tk_108_0 (i := 31) rfl
theorem o_108_59 : x_ops 108 59 = some (0, 1, 0, 0, 60, []) := x_tab tk_108_0 (i := 32) rfl
theorem o_108_60 : x_ops 108 60 = some (1, 0, 4, 0, 62, []) := x_tab tk_108_0 (i := 33) rfl
theorem o_108_62 : x_ops 108 62 = some (8, 0, 6, 0, 63, []) := x_tab tk_108_0 (i := 34) rfl
theorem o_108_63 : x_ops 108 63 = some (8, 0, 4, 0, 64, []) := x_tab tk_108_0 (i := 35) rfl
theorem o_108_64 : x_ops 108 64 = some (4, 0, 3, 0, 65, []) := x_tab tk_108_0 (i := 36) rfl
theorem o_108_65 : x_ops 108 65 = some (7, 1, 4, 0, 68, []) := x_tab tk_108_0 (i := 37) rfl
theorem o_108_68 : x_ops 108 68 = some (20, 0, 27, 0, 71, []) := x_tab tk_108_0 (i := 38) rfl
theorem o_108_71 : x_ops 108 71 = some (1, 0, 3, 0, 72, []) := x_tab tk_108_0 (i := 39) rfl
theorem o_108_72 : x_ops 108 72 = some (60, 0, 1, 0, 0, []) := x_tab tk_108_0 (i := 40) rfl
def tb_109_0 : List (Nat × XO) := [(0, (2, 0, 0, 0, 1, [])), (1, (1, 0, 1, 0, 2, [])), (2, (50, 0, 72, 2, 5, [])), (5, (22, 0, 34, 0, 8, [])), (8, (1, 0, 2, 0, 9, [])), (9, (50, 1, 107, 1, 12, [])), (12, (22, 0, 34, 0, 15, [])), (15, (2, 0, 0, 0, 16, [])), (16, (27, 0, 8, 13, 19, [])), (19, (1, 0, 2, 0, 20, [])), (20, (2, 0, 0, 0, 21, [])), (21, (27, 0, 8, 7, 24, [])), (24, (50, 0, 104, 3, 27, [])), (27, (1, 0, 1, 0, 28, [])), (28, (50, 1, 64, 2, 31, [])), (31, (20, 0, 35, 0, 34, [])), (34, (0, -1, 0, 0, 35, [])), (35, (60, 0, 1, 0, 0, []))]
set_option maxRecDepth 100000 in
theorem tk_109_0 : tb_109_0.all (fun q => x_is (x_ops 109 q.1) q.2) = true := by decide +kernel
theorem o_109_0 : x_ops 109 0 = some (2, 0, 0, 0, 1, []) := x_tab tk_109_0 (i := 0) rfl
theorem o_109_1 : x_ops 109 1 = some (1, 0, 1, 0, 2, []) := x_tab tk_109_0 (i := 1) rfl
theorem o_109_2 : x_ops 109 2 = some (50, 0, 72, 2, 5, []) := x_tab tk_109_0 (i := 2) rfl
theorem o_109_5 : x_ops 109 5 = some (22, 0, 34, 0, 8, []) := x_tab tk_109_0 (i := 3) rfl
theorem o_109_8 : x_ops 109 8 = some (1, 0, 2, 0, 9, []) := x_tab tk_109_0 (i := 4) rfl
theorem o_109_9 : x_ops 109 9 = some (50, 1, 107, 1, 12, []) := x_tab tk_109_0 (i := 5) rfl
theorem o_109_12 : x_ops 109 12 = some (22, 0, 34, 0, 15, []) := x_tab tk_109_0 (i := 6) rfl
theorem o_109_15 : x_ops 109 15 = some (2, 0, 0, 0, 16, []) := x_tab tk_109_0 (i := 7) rfl
theorem o_109_16 : x_ops 109 16 = some (27, 0, 8, 13, 19, []) := x_tab tk_109_0 (i := 8) rfl
theorem o_109_19 : x_ops 109 19 = some (1, 0, 2, 0, 20, []) := x_tab tk_109_0 (i := 9) rfl
theorem o_109_20 : x_ops 109 20 = some (2, 0, 0, 0, 21, []) := x_tab tk_109_0 (i := 10) rfl
theorem o_109_21 : x_ops 109 21 = some (27, 0, 8, 7, 24, []) := x_tab tk_109_0 (i := 11) rfl
theorem o_109_24 : x_ops 109 24 = some (50, 0, 104, 3, 27, []) := x_tab tk_109_0 (i := 12) rfl
theorem o_109_27 : x_ops 109 27 = some (1, 0, 1, 0, 28, []) := x_tab tk_109_0 (i := 13) rfl
theorem o_109_28 : x_ops 109 28 = some (50, 1, 64, 2, 31, []) := x_tab tk_109_0 (i := 14) rfl
theorem o_109_31 : x_ops 109 31 = some (20, 0, 35, 0, 34, []) := x_tab tk_109_0 (i := 15) rfl
theorem o_109_34 : x_ops 109 34 = some (0, -1, 0, 0, 35, []) := x_tab tk_109_0 (i := 16) rfl
theorem o_109_35 : x_ops 109 35 = some (60, 0, 1, 0, 0, []) := x_tab tk_109_0 (i := 17) rfl
def tb_110_0 : List (Nat × XO) := [(0, (2, 0, 0, 0, 1, [])), (1, (1, 0, 1, 0, 2, [])), (2, (50, 0, 72, 2, 5, [])), (5, (22, 0, 23, 0, 8, [])), (8, (2, 0, 0, 0, 9, [])), (9, (27, 0, 8, 11, 12, [])), (12, (1, 0, 1, 0, 13, [])), (13, (2, 0, 0, 0, 14, [])), (14, (27, 0, 8, 7, 17, [])), (17, (50, 0, 111, 3, 20, [])), (20, (20, 0, 24, 0, 23, [])), (23, (0, -1, 0, 0, 24, [])), (24, (60, 0, 1, 0, 0, []))]
set_option maxRecDepth 100000 in
theorem tk_110_0 : tb_110_0.all (fun q => x_is (x_ops 110 q.1) q.2) = true := by decide +kernel
theorem o_110_0 : x_ops 110 0 = some (2, 0, 0, 0, 1, []) := x_tab tk_110_0 (i := 0) rfl
theorem o_110_1 : x_ops 110 1 = some (1, 0, 1, 0, 2, []) := x_tab tk_110_0 (i := 1) rfl
theorem o_110_2 : x_ops 110 2 = some (50, 0, 72, 2, 5, []) := x_tab tk_110_0 (i := 2) rfl
theorem o_110_5 : x_ops 110 5 = some (22, 0, 23, 0, 8, []) := x_tab tk_110_0 (i := 3) rfl
theorem o_110_8 : x_ops 110 8 = some (2, 0, 0, 0, 9, []) := x_tab tk_110_0 (i := 4) rfl
theorem o_110_9 : x_ops 110 9 = some (27, 0, 8, 11, 12, []) := x_tab tk_110_0 (i := 5) rfl
theorem o_110_12 : x_ops 110 12 = some (1, 0, 1, 0, 13, []) := x_tab tk_110_0 (i := 6) rfl
theorem o_110_13 : x_ops 110 13 = some (2, 0, 0, 0, 14, []) := x_tab tk_110_0 (i := 7) rfl
theorem o_110_14 : x_ops 110 14 = some (27, 0, 8, 7, 17, []) := x_tab tk_110_0 (i := 8) rfl
theorem o_110_17 : x_ops 110 17 = some (50, 0, 111, 3, 20, []) := x_tab tk_110_0 (i := 9) rfl
theorem o_110_20 : x_ops 110 20 = some (20, 0, 24, 0, 23, []) := x_tab tk_110_0 (i := 10) rfl
theorem o_110_23 : x_ops 110 23 = some (0, -1, 0, 0, 24, []) := x_tab tk_110_0 (i := 11) rfl
theorem o_110_24 : x_ops 110 24 = some (60, 0, 1, 0, 0, []) := x_tab tk_110_0 (i := 12) rfl
def tb_112_0 : List (Nat × XO) := [(0, (2, 0, 0, 0, 1, [])), (1, (1, 0, 1, 0, 2, [])), (2, (50, 0, 72, 2, 5, [])), (5, (22, 0, 10, 1, 8, [])), (8, (0, -1, 0, 0, 9, [])), (9, (60, 0, 1, 0, 0, [])), (10, (2, 0, 0, 0, 11, [])), (11, (27, 0, 8, 11, 14, [])), (14, (1, 0, 1, 0, 15, [])), (15, (2, 0, 0, 0, 16, [])), (16, (27, 0, 8, 7, 19, [])), (19, (50, 0, 113, 3, 22, [])), (22, (4, 0, 3, 0, 23, [])), (23, (0, 4, 0, 0, 24, [])), (24, (2, 0, 0, 0, 25, [])), (25, (27, 0, 8, 4, 28, [])), (28, (26, 0, 5, 6, 31, [])), (31, (8, 0, 2, 0, 32, [])), (32, (4, 0, 4, 0, 34, [])), (34, (1, 0, 3, 0, 35, [])), (35, (1, 0, 4, 0, 37, [])), (37, (50, 1, 114, 2, 40, [])), (40, (4, 0, 5, 0, 42, [])), (42, (1, 0, 5, 0, 44, [])), (44, (22, 0, 51, 1, 47, [])), (47, (0, 0, 0, 0, 48, [])), (48, (20, 0, 64, 0, 51, [])), (51, (1, 0, 2, 0, 52, [])), (52, (22, 0, 60, 0, 55, [])), (55, (1, 0, 4, 0, 57, [])), (57, (20, 0, 61, 0, 60, [])), (60, (1, 0, 3, 0, 61, [])), (61, (1, 0, 5, 0, 63, [])), (63, (9, 0, 0, 0, 64, [])), (64, (60, 0, 1, 0, 0, []))]
set_option maxRecDepth 100000 in
theorem tk_112_0 : tb_112_0.all (fun q => x_is (x_ops 112 q.1) q.2) = true := by decide +kernel
theorem o_112_0 : x_ops 112 0 = some (2, 0, 0, 0, 1, []) := x_tab tk_112_0 (i := 0) rfl
theorem o_112_1 : x_ops 112 1 = some (1, 0, 1, 0, 2, []) := x_tab tk_112_0 (i := 1) rfl
theorem o_112_2 : x_ops 112 2 = some (50, 0, 72, 2, 5, []) := x_tab tk_112_0 (i := 2) rfl
theorem o_112_5 : x_ops 112 5 = some (22, 0, 10, 1, 8, []) := x_tab tk_112_0 (i := 3) rfl
theorem o_112_8 : x_ops 112 8 = some (0, -1, 0, 0, 9, []) := x_tab tk_112_0 (i := 4) rfl
theorem o_112_9 : x_ops 112 9 = some (60, 0, 1, 0, 0, []) := x_tab tk_112_0 (i := 5) rfl
theorem o_112_10 : x_ops 112 10 = some (2, 0, 0, 0, 11, []) := x_tab tk_112_0 (i := 6) rfl
theorem o_112_11 : x_ops 112 11 = some (27, 0, 8, 11, 14, []) := x_tab tk_112_0 (i := 7) rfl
theorem o_112_14 : x_ops 112 14 = some (1, 0, 1, 0, 15, []) := x_tab tk_112_0 (i := 8) rfl
theorem o_112_15 : x_ops 112 15 = some (2, 0, 0, 0, 16, []) := x_tab tk_112_0 (i := 9) rfl
theorem o_112_16 : x_ops 112 16 = some (27, 0, 8, 7, 19, []) := x_tab tk_112_0 (i := 10) rfl
theorem o_112_19 : x_ops 112 19 = some (50, 0, 113, 3, 22, []) := x_tab tk_112_0 (i := 11) rfl
theorem o_112_22 : x_ops 112 22 = some (4, 0, 3, 0, 23, []) := x_tab tk_112_0 (i := 12) rfl
theorem o_112_23 : x_ops 112 23 = some (0, 4, 0, 0, 24, []) := x_tab tk_112_0 (i := 13) rfl
theorem o_112_24 : x_ops 112 24 = some (2, 0, 0, 0, 25, []) := x_tab tk_112_0 (i := 14) rfl
theorem o_112_25 : x_ops 112 25 = some (27, 0, 8, 4, 28, []) := x_tab tk_112_0 (i := 15) rfl
theorem o_112_28 : x_ops 112 28 = some (26, 0, 5, 6, 31, []) := x_tab tk_112_0 (i := 16) rfl
theorem o_112_31 : x_ops 112 31 = some (8, 0, 2, 0, 32, []) := x_tab tk_112_0 (i := 17) rfl
theorem o_112_32 : x_ops 112 32 = some (4, 0, 4, 0, 34, []) := x_tab tk_112_0 (i := 18) rfl
theorem o_112_34 : x_ops 112 34 = some (1, 0, 3, 0, 35, []) := x_tab tk_112_0 (i := 19) rfl
theorem o_112_35 : x_ops 112 35 = some (1, 0, 4, 0, 37, []) := x_tab tk_112_0 (i := 20) rfl
theorem o_112_37 : x_ops 112 37 = some (50, 1, 114, 2, 40, []) := x_tab tk_112_0 (i := 21) rfl
theorem o_112_40 : x_ops 112 40 = some (4, 0, 5, 0, 42, []) := x_tab tk_112_0 (i := 22) rfl
theorem o_112_42 : x_ops 112 42 = some (1, 0, 5, 0, 44, []) := x_tab tk_112_0 (i := 23) rfl
theorem o_112_44 : x_ops 112 44 = some (22, 0, 51, 1, 47, []) := x_tab tk_112_0 (i := 24) rfl
theorem o_112_47 : x_ops 112 47 = some (0, 0, 0, 0, 48, []) := x_tab tk_112_0 (i := 25) rfl
theorem o_112_48 : x_ops 112 48 = some (20, 0, 64, 0, 51, []) := x_tab tk_112_0 (i := 26) rfl
theorem o_112_51 : x_ops 112 51 = some (1, 0, 2, 0, 52, []) := x_tab tk_112_0 (i := 27) rfl
theorem o_112_52 : x_ops 112 52 = some (22, 0, 60, 0, 55, []) := x_tab tk_112_0 (i := 28) rfl
theorem o_112_55 : x_ops 112 55 = some (1, 0, 4, 0, 57, []) := x_tab tk_112_0 (i := 29) rfl
theorem o_112_57 : x_ops 112 57 = some (20, 0, 61, 0, 60, []) := x_tab tk_112_0 (i := 30) rfl
theorem o_112_60 : x_ops 112 60 = some (1, 0, 3, 0, 61, []) := x_tab tk_112_0 (i := 31) rfl
theorem o_112_61 : x_ops 112 61 = some (1, 0, 5, 0, 63, []) := x_tab tk_112_0 (i := 32) rfl
theorem o_112_63 : x_ops 112 63 = some (9, 0, 0, 0, 64, []) := x_tab tk_112_0 (i := 33) rfl
theorem o_112_64 : x_ops 112 64 = some (60, 0, 1, 0, 0, []) := x_tab tk_112_0 (i := 34) rfl
def tb_114_0 : List (Nat × XO) := [(0, (1, 0, 0, 0, 1, [])), (1, (4, 0, 2, 0, 2, [])), (2, (1, 0, 1, 0, 3, [])), (3, (4, 0, 3, 0, 4, [])), (4, (0, 0, 0, 0, 5, [])), (5, (4, 0, 4, 0, 7, [])), (7, (1, 0, 4, 0, 9, [])), (9, (0, 64, 0, 0, 11, [])), (11, (21, 0, 34, 3, 14, [])), (14, (1, 0, 3, 0, 15, [])), (15, (22, 0, 34, 0, 18, [])), (18, (1, 0, 2, 0, 19, [])), (19, (1, 0, 3, 0, 20, [])), (20, (10, 0, 0, 0, 21, [])), (21, (4, 0, 5, 0, 23, [])), (23, (1, 0, 3, 0, 24, [])), (24, (4, 0, 2, 0, 25, [])), (25, (1, 0, 5, 0, 27, [])), (27, (4, 0, 3, 0, 28, [])), (28, (7, 1, 4, 0, 31, [])), (31, (20, 0, 7, 0, 34, [])), (34, (1, 0, 2, 0, 35, [])), (35, (60, 0, 1, 0, 0, []))]
set_option maxRecDepth 100000 in
theorem tk_114_0 : tb_114_0.all (fun q => x_is (x_ops 114 q.1) q.2) = true := by decide +kernel
theorem o_114_0 : x_ops 114 0 = some (1, 0, 0, 0, 1, []) := x_tab tk_114_0 (i := 0) rfl
theorem o_114_1 : x_ops 114 1 = some (4, 0, 2, 0, 2, []) := x_tab tk_114_0 (i := 1) rfl
theorem o_114_2 : x_ops 114 2 = some (1, 0, 1, 0, 3, []) := x_tab tk_114_0 (i := 2) rfl
theorem o_114_3 : x_ops 114 3 = some (4, 0, 3, 0, 4, []) := x_tab tk_114_0 (i := 3) rfl
theorem o_114_4 : x_ops 114 4 = some (0, 0, 0, 0, 5, []) := x_tab tk_114_0 (i := 4) rfl
theorem o_114_5 : x_ops 114 5 = some (4, 0, 4, 0, 7, []) := x_tab tk_114_0 (i := 5) rfl
theorem o_114_7 : x_ops 114 7 = some (1, 0, 4, 0, 9, []) := x_tab tk_114_0 (i := 6) rfl
theorem o_114_9 : x_ops 114 9 = some (0, 64, 0, 0, 11, []) := x_tab tk_114_0 (i := 7) rfl
theorem o_114_11 : x_ops 114 11 = some (21, 0, 34, 3, 14, []) := x_tab tk_114_0 (i := 8) rfl
theorem o_114_14 : x_ops 114 14 = some (1, 0, 3, 0, 15, []) := x_tab tk_114_0 (i := 9) rfl
theorem o_114_15 : x_ops 114 15 = some (22, 0, 34, 0, 18, []) := x_tab tk_114_0 (i := 10) rfl
theorem o_114_18 : x_ops 114 18 = some (1, 0, 2, 0, 19, []) := x_tab tk_114_0 (i := 11) rfl
theorem o_114_19 : x_ops 114 19 = some (1, 0, 3, 0, 20, []) := x_tab tk_114_0 (i := 12) rfl
theorem o_114_20 : x_ops 114 20 = some (10, 0, 0, 0, 21, []) := x_tab tk_114_0 (i := 13) rfl
theorem o_114_21 : x_ops 114 21 = some (4, 0, 5, 0, 23, []) := x_tab tk_114_0 (i := 14) rfl
theorem o_114_23 : x_ops 114 23 = some (1, 0, 3, 0, 24, []) := x_tab tk_114_0 (i := 15) rfl
theorem o_114_24 : x_ops 114 24 = some (4, 0, 2, 0, 25, []) := x_tab tk_114_0 (i := 16) rfl
theorem o_114_25 : x_ops 114 25 = some (1, 0, 5, 0, 27, []) := x_tab tk_114_0 (i := 17) rfl
theorem o_114_27 : x_ops 114 27 = some (4, 0, 3, 0, 28, []) := x_tab tk_114_0 (i := 18) rfl
theorem o_114_28 : x_ops 114 28 = some (7, 1, 4, 0, 31, []) := x_tab tk_114_0 (i := 19) rfl
theorem o_114_31 : x_ops 114 31 = some (20, 0, 7, 0, 34, []) := x_tab tk_114_0 (i := 20) rfl
theorem o_114_34 : x_ops 114 34 = some (1, 0, 2, 0, 35, []) := x_tab tk_114_0 (i := 21) rfl
theorem o_114_35 : x_ops 114 35 = some (60, 0, 1, 0, 0, []) := x_tab tk_114_0 (i := 22) rfl
def tb_115_0 : List (Nat × XO) := [(0, (2, 0, 0, 0, 1, [])), (1, (1, 0, 1, 0, 2, [])), (2, (50, 0, 72, 2, 5, [])), (5, (22, 0, 32, 0, 8, [])), (8, (2, 0, 0, 0, 9, [])), (9, (1, 0, 2, 0, 10, [])), (10, (50, 0, 70, 2, 13, [])), (13, (22, 0, 32, 0, 16, [])), (16, (2, 0, 0, 0, 17, [])), (17, (27, 0, 8, 11, 20, [])), (20, (1, 0, 1, 0, 21, [])), (21, (1, 0, 2, 0, 22, [])), (22, (2, 0, 0, 0, 23, [])), (23, (27, 0, 8, 7, 26, [])), (26, (50, 0, 116, 4, 29, [])), (29, (20, 0, 33, 0, 32, [])), (32, (0, -1, 0, 0, 33, [])), (33, (60, 0, 1, 0, 0, []))]
set_option maxRecDepth 100000 in
theorem tk_115_0 : tb_115_0.all (fun q => x_is (x_ops 115 q.1) q.2) = true := by decide +kernel
theorem o_115_0 : x_ops 115 0 = some (2, 0, 0, 0, 1, []) := x_tab tk_115_0 (i := 0) rfl
theorem o_115_1 : x_ops 115 1 = some (1, 0, 1, 0, 2, []) := x_tab tk_115_0 (i := 1) rfl
theorem o_115_2 : x_ops 115 2 = some (50, 0, 72, 2, 5, []) := x_tab tk_115_0 (i := 2) rfl
theorem o_115_5 : x_ops 115 5 = some (22, 0, 32, 0, 8, []) := x_tab tk_115_0 (i := 3) rfl
theorem o_115_8 : x_ops 115 8 = some (2, 0, 0, 0, 9, []) := x_tab tk_115_0 (i := 4) rfl
theorem o_115_9 : x_ops 115 9 = some (1, 0, 2, 0, 10, []) := x_tab tk_115_0 (i := 5) rfl
theorem o_115_10 : x_ops 115 10 = some (50, 0, 70, 2, 13, []) := x_tab tk_115_0 (i := 6) rfl
theorem o_115_13 : x_ops 115 13 = some (22, 0, 32, 0, 16, []) := x_tab tk_115_0 (i := 7) rfl
theorem o_115_16 : x_ops 115 16 = some (2, 0, 0, 0, 17, []) := x_tab tk_115_0 (i := 8) rfl
theorem o_115_17 : x_ops 115 17 = some (27, 0, 8, 11, 20, []) := x_tab tk_115_0 (i := 9) rfl
theorem o_115_20 : x_ops 115 20 = some (1, 0, 1, 0, 21, []) := x_tab tk_115_0 (i := 10) rfl
theorem o_115_21 : x_ops 115 21 = some (1, 0, 2, 0, 22, []) := x_tab tk_115_0 (i := 11) rfl
theorem o_115_22 : x_ops 115 22 = some (2, 0, 0, 0, 23, []) := x_tab tk_115_0 (i := 12) rfl
theorem o_115_23 : x_ops 115 23 = some (27, 0, 8, 7, 26, []) := x_tab tk_115_0 (i := 13) rfl
theorem o_115_26 : x_ops 115 26 = some (50, 0, 116, 4, 29, []) := x_tab tk_115_0 (i := 14) rfl
theorem o_115_29 : x_ops 115 29 = some (20, 0, 33, 0, 32, []) := x_tab tk_115_0 (i := 15) rfl
theorem o_115_32 : x_ops 115 32 = some (0, -1, 0, 0, 33, []) := x_tab tk_115_0 (i := 16) rfl
theorem o_115_33 : x_ops 115 33 = some (60, 0, 1, 0, 0, []) := x_tab tk_115_0 (i := 17) rfl
def tb_118_0 : List (Nat × XO) := [(0, (2, 0, 0, 0, 1, [])), (1, (1, 0, 1, 0, 2, [])), (2, (50, 0, 72, 2, 5, [])), (5, (22, 0, 31, 0, 8, [])), (8, (1, 0, 2, 0, 9, [])), (9, (50, 1, 98, 1, 12, [])), (12, (22, 0, 31, 0, 15, [])), (15, (2, 0, 0, 0, 16, [])), (16, (27, 0, 8, 11, 19, [])), (19, (1, 0, 1, 0, 20, [])), (20, (1, 0, 2, 0, 21, [])), (21, (2, 0, 0, 0, 22, [])), (22, (27, 0, 8, 7, 25, [])), (25, (50, 0, 119, 4, 28, [])), (28, (20, 0, 32, 0, 31, [])), (31, (0, -1, 0, 0, 32, [])), (32, (60, 0, 1, 0, 0, []))]
set_option maxRecDepth 100000 in
theorem tk_118_0 : tb_118_0.all (fun q => x_is (x_ops 118 q.1) q.2) = true := by decide +kernel
theorem o_118_0 : x_ops 118 0 = some (2, 0, 0, 0, 1, []) := x_tab tk_118_0 (i := 0) rfl
theorem o_118_1 : x_ops 118 1 = some (1, 0, 1, 0, 2, []) := x_tab tk_118_0 (i := 1) rfl
theorem o_118_2 : x_ops 118 2 = some (50, 0, 72, 2, 5, []) := x_tab tk_118_0 (i := 2) rfl
theorem o_118_5 : x_ops 118 5 = some (22, 0, 31, 0, 8, []) := x_tab tk_118_0 (i := 3) rfl
theorem o_118_8 : x_ops 118 8 = some (1, 0, 2, 0, 9, []) := x_tab tk_118_0 (i := 4) rfl
theorem o_118_9 : x_ops 118 9 = some (50, 1, 98, 1, 12, []) := x_tab tk_118_0 (i := 5) rfl
theorem o_118_12 : x_ops 118 12 = some (22, 0, 31, 0, 15, []) := x_tab tk_118_0 (i := 6) rfl
theorem o_118_15 : x_ops 118 15 = some (2, 0, 0, 0, 16, []) := x_tab tk_118_0 (i := 7) rfl
theorem o_118_16 : x_ops 118 16 = some (27, 0, 8, 11, 19, []) := x_tab tk_118_0 (i := 8) rfl
theorem o_118_19 : x_ops 118 19 = some (1, 0, 1, 0, 20, []) := x_tab tk_118_0 (i := 9) rfl
theorem o_118_20 : x_ops 118 20 = some (1, 0, 2, 0, 21, []) := x_tab tk_118_0 (i := 10) rfl
theorem o_118_21 : x_ops 118 21 = some (2, 0, 0, 0, 22, []) := x_tab tk_118_0 (i := 11) rfl
theorem o_118_22 : x_ops 118 22 = some (27, 0, 8, 7, 25, []) := x_tab tk_118_0 (i := 12) rfl
theorem o_118_25 : x_ops 118 25 = some (50, 0, 119, 4, 28, []) := x_tab tk_118_0 (i := 13) rfl
theorem o_118_28 : x_ops 118 28 = some (20, 0, 32, 0, 31, []) := x_tab tk_118_0 (i := 14) rfl
theorem o_118_31 : x_ops 118 31 = some (0, -1, 0, 0, 32, []) := x_tab tk_118_0 (i := 15) rfl
theorem o_118_32 : x_ops 118 32 = some (60, 0, 1, 0, 0, []) := x_tab tk_118_0 (i := 16) rfl
def tb_120_0 : List (Nat × XO) := [(0, (1, 0, 1, 0, 1, [])), (1, (22, 0, 9, 2, 4, [])), (4, (1, 0, 1, 0, 5, [])), (5, (0, 2, 0, 0, 6, [])), (6, (21, 0, 11, 5, 9, [])), (9, (0, -1, 0, 0, 10, [])), (10, (60, 0, 1, 0, 0, [])), (11, (2, 0, 0, 0, 12, [])), (12, (27, 0, 8, 11, 15, [])), (15, (2, 0, 0, 0, 16, [])), (16, (27, 0, 8, 7, 19, [])), (19, (50, 0, 121, 2, 22, [])), (22, (4, 0, 2, 0, 23, [])), (23, (1, 0, 1, 0, 24, [])), (24, (41, 0, 63, 0, 0, [(0, 52), (1, 54)])), (52, (1, 0, 2, 0, 53, [])), (53, (60, 0, 1, 0, 0, [])), (54, (2, 0, 0, 0, 55, [])), (55, (27, 0, 8, 11, 58, [])), (58, (1, 0, 2, 0, 59, [])), (59, (50, 0, 122, 2, 62, [])), (62, (60, 0, 1, 0, 0, [])), (63, (2, 0, 0, 0, 64, [])), (64, (27, 0, 8, 4, 67, [])), (67, (1, 0, 2, 0, 68, [])), (68, (2, 0, 0, 0, 69, [])), (69, (27, 0, 8, 7, 72, [])), (72, (50, 0, 102, 3, 75, [])), (75, (60, 0, 1, 0, 0, []))]
set_option maxRecDepth 100000 in
theorem tk_120_0 : tb_120_0.all (fun q => x_is (x_ops 120 q.1) q.2) = true := by decide +kernel
theorem o_120_0 : x_ops 120 0 = some (1, 0, 1, 0, 1, []) := x_tab tk_120_0 (i := 0) rfl
theorem o_120_1 : x_ops 120 1 = some (22, 0, 9, 2, 4, []) := x_tab tk_120_0 (i := 1) rfl
theorem o_120_4 : x_ops 120 4 = some (1, 0, 1, 0, 5, []) := x_tab tk_120_0 (i := 2) rfl
theorem o_120_5 : x_ops 120 5 = some (0, 2, 0, 0, 6, []) := x_tab tk_120_0 (i := 3) rfl
theorem o_120_6 : x_ops 120 6 = some (21, 0, 11, 5, 9, []) := x_tab tk_120_0 (i := 4) rfl
theorem o_120_9 : x_ops 120 9 = some (0, -1, 0, 0, 10, []) := x_tab tk_120_0 (i := 5) rfl
theorem o_120_10 : x_ops 120 10 = some (60, 0, 1, 0, 0, []) := x_tab tk_120_0 (i := 6) rfl
theorem o_120_11 : x_ops 120 11 = some (2, 0, 0, 0, 12, []) := x_tab tk_120_0 (i := 7) rfl
theorem o_120_12 : x_ops 120 12 = some (27, 0, 8, 11, 15, []) := x_tab tk_120_0 (i := 8) rfl
theorem o_120_15 : x_ops 120 15 = some (2, 0, 0, 0, 16, []) := x_tab tk_120_0 (i := 9) rfl
theorem o_120_16 : x_ops 120 16 = some (27, 0, 8, 7, 19, []) := x_tab tk_120_0 (i := 10) rfl
theorem o_120_19 : x_ops 120 19 = some (50, 0, 121, 2, 22, []) := x_tab tk_120_0 (i := 11) rfl
theorem o_120_22 : x_ops 120 22 = some (4, 0, 2, 0, 23, []) := x_tab tk_120_0 (i := 12) rfl
theorem o_120_23 : x_ops 120 23 = some (1, 0, 1, 0, 24, []) := x_tab tk_120_0 (i := 13) rfl
theorem o_120_24 : x_ops 120 24 = some (41, 0, 63, 0, 0, [(0, 52), (1, 54)]) := x_tab tk_120_0 (i := 14) rfl
theorem o_120_52 : x_ops 120 52 = some (1, 0, 2, 0, 53, []) := x_tab tk_120_0 (i := 15) rfl
theorem o_120_53 : x_ops 120 53 = some (60, 0, 1, 0, 0, []) := x_tab tk_120_0 (i := 16) rfl
theorem o_120_54 : x_ops 120 54 = some (2, 0, 0, 0, 55, []) := x_tab tk_120_0 (i := 17) rfl
theorem o_120_55 : x_ops 120 55 = some (27, 0, 8, 11, 58, []) := x_tab tk_120_0 (i := 18) rfl
theorem o_120_58 : x_ops 120 58 = some (1, 0, 2, 0, 59, []) := x_tab tk_120_0 (i := 19) rfl
theorem o_120_59 : x_ops 120 59 = some (50, 0, 122, 2, 62, []) := x_tab tk_120_0 (i := 20) rfl
theorem o_120_62 : x_ops 120 62 = some (60, 0, 1, 0, 0, []) := x_tab tk_120_0 (i := 21) rfl
theorem o_120_63 : x_ops 120 63 = some (2, 0, 0, 0, 64, []) := x_tab tk_120_0 (i := 22) rfl
theorem o_120_64 : x_ops 120 64 = some (27, 0, 8, 4, 67, []) := x_tab tk_120_0 (i := 23) rfl
theorem o_120_67 : x_ops 120 67 = some (1, 0, 2, 0, 68, []) := x_tab tk_120_0 (i := 24) rfl
theorem o_120_68 : x_ops 120 68 = some (2, 0, 0, 0, 69, []) := x_tab tk_120_0 (i := 25) rfl
theorem o_120_69 : x_ops 120 69 = some (27, 0, 8, 7, 72, []) := x_tab tk_120_0 (i := 26) rfl
theorem o_120_72 : x_ops 120 72 = some (50, 0, 102, 3, 75, []) := x_tab tk_120_0 (i := 27) rfl
theorem o_120_75 : x_ops 120 75 = some (60, 0, 1, 0, 0, []) := x_tab tk_120_0 (i := 28) rfl
def tb_123_0 : List (Nat × XO) := [(0, (1, 0, 1, 0, 1, [])), (1, (50, 1, 98, 1, 4, [])), (4, (22, 0, 9, 1, 7, [])), (7, (0, -1, 0, 0, 8, [])), (8, (60, 0, 1, 0, 0, [])), (9, (0, 1, 0, 0, 10, [])), (10, (4, 0, 2, 0, 11, [])), (11, (1, 0, 2, 0, 12, [])), (12, (0, 300, 0, 0, 15, [])), (15, (21, 0, 60, 4, 18, [])), (18, (2, 0, 0, 0, 19, [])), (19, (27, 0, 8, 13, 22, [])), (22, (1, 0, 2, 0, 23, [])), (23, (2, 0, 0, 0, 24, [])), (24, (27, 0, 8, 7, 27, [])), (27, (50, 0, 104, 3, 30, [])), (30, (25, 0, 0, 0, 31, [])), (31, (2, 0, 0, 0, 32, [])), (32, (27, 0, 8, 13, 35, [])), (35, (1, 0, 2, 0, 36, [])), (36, (50, 0, 124, 2, 39, [])), (39, (4, 0, 3, 0, 40, [])), (40, (1, 0, 3, 0, 41, [])), (41, (22, 0, 54, 2, 44, [])), (44, (1, 0, 1, 0, 45, [])), (45, (22, 0, 52, 1, 48, [])), (48, (1, 0, 2, 0, 49, [])), (49, (20, 0, 53, 0, 52, [])), (52, (1, 0, 3, 0, 53, [])), (53, (60, 0, 1, 0, 0, [])), (54, (7, 1, 2, 0, 57, [])), (57, (20, 0, 11, 0, 60, [])), (60, (0, -2, 0, 0, 62, [])), (62, (60, 0, 1, 0, 0, []))]
set_option maxRecDepth 100000 in
theorem tk_123_0 : tb_123_0.all (fun q => x_is (x_ops 123 q.1) q.2) = true := by decide +kernel
theorem o_123_0 : x_ops 123 0 = some (1, 0, 1, 0, 1, []) := x_tab tk_123_0 (i := 0) rfl
theorem o_123_1 : x_ops 123 1 = some (50, 1, 98, 1, 4, []) := x_tab tk_123_0 (i := 1) rfl
theorem o_123_4 : x_ops 123 4 = some (22, 0, 9, 1, 7, []) := x_tab tk_123_0 (i := 2) rfl
theorem o_123_7 : x_ops 123 7 = some (0, -1, 0, 0, 8, []) := x_tab tk_123_0 (i := 3) rfl
theorem o_123_8 : x_ops 123 8 = some (60, 0, 1, 0, 0, []) := x_tab tk_123_0 (i := 4) rfl
theorem o_123_9 : x_ops 123 9 = some (0, 1, 0, 0, 10, []) := x_tab tk_123_0 (i := 5) rfl
theorem o_123_10 : x_ops 123 10 = some (4, 0, 2, 0, 11, []) := x_tab tk_123_0 (i := 6) rfl
theorem o_123_11 : x_ops 123 11 = some (1, 0, 2, 0, 12, []) := x_tab tk_123_0 (i := 7) rfl
theorem o_123_12 : x_ops 123 12 = some (0, 300, 0, 0, 15, []) := x_tab tk_123_0 (i := 8) rfl
theorem o_123_15 : x_ops 123 15 = some (21, 0, 60, 4, 18, []) := x_tab tk_123_0 (i := 9) rfl
theorem o_123_18 : x_ops 123 18 = some (2, 0, 0, 0, 19, []) := x_tab tk_123_0 (i := 10) rfl
theorem o_123_19 : x_ops 123 19 = some (27, 0, 8, 13, 22, []) := x_tab tk_123_0 (i := 11) rfl
theorem o_123_22 : x_ops 123 22 = some (1, 0, 2, 0, 23, []) := x_tab tk_123_0 (i := 12) rfl
theorem o_123_23 : x_ops 123 23 = some (2, 0, 0, 0, 24, []) := x_tab tk_123_0 (i := 13) rfl
theorem o_123_24 : x_ops 123 24 = some (27, 0, 8, 7, 27, []) := x_tab tk_123_0 (i := 14) rfl
theorem o_123_27 : x_ops 123 27 = some (50, 0, 104, 3, 30, []) := x_tab tk_123_0 (i := 15) rfl
theorem o_123_30 : x_ops 123 30 = some (25, 0, 0, 0, 31, []) := x_tab tk_123_0 (i := 16) rfl
theorem o_123_31 : x_ops 123 31 = some (2, 0, 0, 0, 32, []) := x_tab tk_123_0 (i := 17) rfl
theorem o_123_32 : x_ops 123 32 = some (27, 0, 8, 13, 35, []) := x_tab tk_123_0 (i := 18) rfl
theorem o_123_35 : x_ops 123 35 = some (1, 0, 2, 0, 36, []) := x_tab tk_123_0 (i := 19) rfl
theorem o_123_36 : x_ops 123 36 = some (50, 0, 124, 2, 39, []) := x_tab tk_123_0 (i := 20) rfl
theorem o_123_39 : x_ops 123 39 = some (4, 0, 3, 0, 40, []) := x_tab tk_123_0 (i := 21) rfl
theorem o_123_40 : x_ops 123 40 = some (1, 0, 3, 0, 41, []) := x_tab tk_123_0 (i := 22) rfl
theorem o_123_41 : x_ops 123 41 = some (22, 0, 54, 2, 44, []) := x_tab tk_123_0 (i := 23) rfl
theorem o_123_44 : x_ops 123 44 = some (1, 0, 1, 0, 45, []) := x_tab tk_123_0 (i := 24) rfl
theorem o_123_45 : x_ops 123 45 = some (22, 0, 52, 1, 48, []) := x_tab tk_123_0 (i := 25) rfl
theorem o_123_48 : x_ops 123 48 = some (1, 0, 2, 0, 49, []) := x_tab tk_123_0 (i := 26) rfl
theorem o_123_49 : x_ops 123 49 = some (20, 0, 53, 0, 52, []) := x_tab tk_123_0 (i := 27) rfl
theorem o_123_52 : x_ops 123 52 = some (1, 0, 3, 0, 53, []) := x_tab tk_123_0 (i := 28) rfl
theorem o_123_53 : x_ops 123 53 = some (60, 0, 1, 0, 0, []) := x_tab tk_123_0 (i := 29) rfl
theorem o_123_54 : x_ops 123 54 = some (7, 1, 2, 0, 57, []) := x_tab tk_123_0 (i := 30) rfl
theorem o_123_57 : x_ops 123 57 = some (20, 0, 11, 0, 60, []) := x_tab tk_123_0 (i := 31) rfl
theorem o_123_60 : x_ops 123 60 = some (0, -2, 0, 0, 62, []) := x_tab tk_123_0 (i := 32) rfl
theorem o_123_62 : x_ops 123 62 = some (60, 0, 1, 0, 0, []) := x_tab tk_123_0 (i := 33) rfl
def tb_125_0 : List (Nat × XO) := [(0, (1, 0, 1, 0, 1, [])), (1, (50, 1, 126, 1, 4, [])), (4, (22, 0, 14, 0, 7, [])), (7, (1, 0, 2, 0, 8, [])), (8, (50, 1, 98, 1, 11, [])), (11, (22, 0, 16, 1, 14, [])), (14, (0, -1, 0, 0, 15, [])), (15, (60, 0, 1, 0, 0, [])), (16, (2, 0, 0, 0, 17, [])), (17, (27, 0, 8, 14, 20, [])), (20, (1, 0, 1, 0, 21, [])), (21, (50, 0, 127, 2, 24, [])), (24, (2, 0, 0, 0, 25, [])), (25, (27, 0, 8, 14, 28, [])), (28, (1, 0, 1, 0, 29, [])), (29, (1, 0, 2, 0, 30, [])), (30, (50, 0, 130, 3, 33, [])), (33, (60, 0, 1, 0, 0, []))]
set_option maxRecDepth 100000 in
theorem tk_125_0 : tb_125_0.all (fun q => x_is (x_ops 125 q.1) q.2) = true := by decide +kernel
theorem o_125_0 : x_ops 125 0 = some (1, 0, 1, 0, 1, []) := x_tab tk_125_0 (i := 0) rfl
theorem o_125_1 : x_ops 125 1 = some (50, 1, 126, 1, 4, []) := x_tab tk_125_0 (i := 1) rfl
theorem o_125_4 : x_ops 125 4 = some (22, 0, 14, 0, 7, []) := x_tab tk_125_0 (i := 2) rfl
theorem o_125_7 : x_ops 125 7 = some (1, 0, 2, 0, 8, []) := x_tab tk_125_0 (i := 3) rfl
theorem o_125_8 : x_ops 125 8 = some (50, 1, 98, 1, 11, []) := x_tab tk_125_0 (i := 4) rfl
theorem o_125_11 : x_ops 125 11 = some (22, 0, 16, 1, 14, []) := x_tab tk_125_0 (i := 5) rfl
theorem o_125_14 : x_ops 125 14 = some (0, -1, 0, 0, 15, []) := x_tab tk_125_0 (i := 6) rfl
theorem o_125_15 : x_ops 125 15 = some (60, 0, 1, 0, 0, []) := x_tab tk_125_0 (i := 7) rfl
theorem o_125_16 : x_ops 125 16 = some (2, 0, 0, 0, 17, []) := x_tab tk_125_0 (i := 8) rfl
theorem o_125_17 : x_ops 125 17 = some (27, 0, 8, 14, 20, []) := x_tab tk_125_0 (i := 9) rfl
theorem o_125_20 : x_ops 125 20 = some (1, 0, 1, 0, 21, []) := x_tab tk_125_0 (i := 10) rfl
theorem o_125_21 : x_ops 125 21 = some (50, 0, 127, 2, 24, []) := x_tab tk_125_0 (i := 11) rfl
theorem o_125_24 : x_ops 125 24 = some (2, 0, 0, 0, 25, []) := x_tab tk_125_0 (i := 12) rfl
theorem o_125_25 : x_ops 125 25 = some (27, 0, 8, 14, 28, []) := x_tab tk_125_0 (i := 13) rfl
theorem o_125_28 : x_ops 125 28 = some (1, 0, 1, 0, 29, []) := x_tab tk_125_0 (i := 14) rfl
theorem o_125_29 : x_ops 125 29 = some (1, 0, 2, 0, 30, []) := x_tab tk_125_0 (i := 15) rfl
theorem o_125_30 : x_ops 125 30 = some (50, 0, 130, 3, 33, []) := x_tab tk_125_0 (i := 16) rfl
theorem o_125_33 : x_ops 125 33 = some (60, 0, 1, 0, 0, []) := x_tab tk_125_0 (i := 17) rfl
def tb_126_0 : List (Nat × XO) := [(0, (1, 0, 0, 0, 1, [])), (1, (22, 0, 14, 2, 4, [])), (4, (1, 0, 0, 0, 5, [])), (5, (0, 30, 0, 0, 7, [])), (7, (21, 0, 14, 4, 10, [])), (10, (0, 1, 0, 0, 11, [])), (11, (20, 0, 15, 0, 14, [])), (14, (0, 0, 0, 0, 15, [])), (15, (60, 0, 2, 0, 0, []))]
set_option maxRecDepth 100000 in
theorem tk_126_0 : tb_126_0.all (fun q => x_is (x_ops 126 q.1) q.2) = true := by decide +kernel
theorem o_126_0 : x_ops 126 0 = some (1, 0, 0, 0, 1, []) := x_tab tk_126_0 (i := 0) rfl
theorem o_126_1 : x_ops 126 1 = some (22, 0, 14, 2, 4, []) := x_tab tk_126_0 (i := 1) rfl
theorem o_126_4 : x_ops 126 4 = some (1, 0, 0, 0, 5, []) := x_tab tk_126_0 (i := 2) rfl
theorem o_126_5 : x_ops 126 5 = some (0, 30, 0, 0, 7, []) := x_tab tk_126_0 (i := 3) rfl
theorem o_126_7 : x_ops 126 7 = some (21, 0, 14, 4, 10, []) := x_tab tk_126_0 (i := 4) rfl
theorem o_126_10 : x_ops 126 10 = some (0, 1, 0, 0, 11, []) := x_tab tk_126_0 (i := 5) rfl
theorem o_126_11 : x_ops 126 11 = some (20, 0, 15, 0, 14, []) := x_tab tk_126_0 (i := 6) rfl
theorem o_126_14 : x_ops 126 14 = some (0, 0, 0, 0, 15, []) := x_tab tk_126_0 (i := 7) rfl
theorem o_126_15 : x_ops 126 15 = some (60, 0, 2, 0, 0, []) := x_tab tk_126_0 (i := 8) rfl
def tb_131_0 : List (Nat × XO) := [(0, (2, 0, 0, 0, 1, [])), (1, (1, 0, 1, 0, 2, [])), (2, (50, 0, 72, 2, 5, [])), (5, (22, 0, 26, 0, 8, [])), (8, (2, 0, 0, 0, 9, [])), (9, (1, 0, 2, 0, 10, [])), (10, (50, 0, 72, 2, 13, [])), (13, (22, 0, 26, 0, 16, [])), (16, (1, 0, 1, 0, 17, [])), (17, (1, 0, 2, 0, 18, [])), (18, (21, 0, 26, 0, 21, [])), (21, (1, 0, 3, 0, 22, [])), (22, (0, -1, 0, 0, 23, [])), (23, (21, 0, 28, 3, 26, [])), (26, (0, -1, 0, 0, 27, [])), (27, (60, 0, 1, 0, 0, [])), (28, (2, 0, 0, 0, 29, [])), (29, (27, 0, 8, 11, 32, [])), (32, (1, 0, 1, 0, 33, [])), (33, (1, 0, 2, 0, 34, [])), (34, (1, 0, 3, 0, 35, [])), (35, (2, 0, 0, 0, 36, [])), (36, (27, 0, 8, 7, 39, [])), (39, (50, 0, 132, 5, 42, [])), (42, (60, 0, 1, 0, 0, []))]
set_option maxRecDepth 100000 in
theorem tk_131_0 : tb_131_0.all (fun q => x_is (x_ops 131 q.1) q.2) = true := by decide +kernel
theorem o_131_0 : x_ops 131 0 = some (2, 0, 0, 0, 1, []) := x_tab tk_131_0 (i := 0) rfl
theorem o_131_1 : x_ops 131 1 = some (1, 0, 1, 0, 2, []) := x_tab tk_131_0 (i := 1) rfl
theorem o_131_2 : x_ops 131 2 = some (50, 0, 72, 2, 5, []) := x_tab tk_131_0 (i := 2) rfl
theorem o_131_5 : x_ops 131 5 = some (22, 0, 26, 0, 8, []) := x_tab tk_131_0 (i := 3) rfl
theorem o_131_8 : x_ops 131 8 = some (2, 0, 0, 0, 9, []) := x_tab tk_131_0 (i := 4) rfl
theorem o_131_9 : x_ops 131 9 = some (1, 0, 2, 0, 10, []) := x_tab tk_131_0 (i := 5) rfl
theorem o_131_10 : x_ops 131 10 = some (50, 0, 72, 2, 13, []) := x_tab tk_131_0 (i := 6) rfl
theorem o_131_13 : x_ops 131 13 = some (22, 0, 26, 0, 16, []) := x_tab tk_131_0 (i := 7) rfl
theorem o_131_16 : x_ops 131 16 = some (1, 0, 1, 0, 17, []) := x_tab tk_131_0 (i := 8) rfl
theorem o_131_17 : x_ops 131 17 = some (1, 0, 2, 0, 18, []) := x_tab tk_131_0 (i := 9) rfl
theorem o_131_18 : x_ops 131 18 = some (21, 0, 26, 0, 21, []) := x_tab tk_131_0 (i := 10) rfl
theorem o_131_21 : x_ops 131 21 = some (1, 0, 3, 0, 22, []) := x_tab tk_131_0 (i := 11) rfl
theorem o_131_22 : x_ops 131 22 = some (0, -1, 0, 0, 23, []) := x_tab tk_131_0 (i := 12) rfl
theorem o_131_23 : x_ops 131 23 = some (21, 0, 28, 3, 26, []) := x_tab tk_131_0 (i := 13) rfl
theorem o_131_26 : x_ops 131 26 = some (0, -1, 0, 0, 27, []) := x_tab tk_131_0 (i := 14) rfl
theorem o_131_27 : x_ops 131 27 = some (60, 0, 1, 0, 0, []) := x_tab tk_131_0 (i := 15) rfl
theorem o_131_28 : x_ops 131 28 = some (2, 0, 0, 0, 29, []) := x_tab tk_131_0 (i := 16) rfl
theorem o_131_29 : x_ops 131 29 = some (27, 0, 8, 11, 32, []) := x_tab tk_131_0 (i := 17) rfl
theorem o_131_32 : x_ops 131 32 = some (1, 0, 1, 0, 33, []) := x_tab tk_131_0 (i := 18) rfl
theorem o_131_33 : x_ops 131 33 = some (1, 0, 2, 0, 34, []) := x_tab tk_131_0 (i := 19) rfl
theorem o_131_34 : x_ops 131 34 = some (1, 0, 3, 0, 35, []) := x_tab tk_131_0 (i := 20) rfl
theorem o_131_35 : x_ops 131 35 = some (2, 0, 0, 0, 36, []) := x_tab tk_131_0 (i := 21) rfl
theorem o_131_36 : x_ops 131 36 = some (27, 0, 8, 7, 39, []) := x_tab tk_131_0 (i := 22) rfl
theorem o_131_39 : x_ops 131 39 = some (50, 0, 132, 5, 42, []) := x_tab tk_131_0 (i := 23) rfl
theorem o_131_42 : x_ops 131 42 = some (60, 0, 1, 0, 0, []) := x_tab tk_131_0 (i := 24) rfl
def tb_135_0 : List (Nat × XO) := [(0, (2, 0, 0, 0, 1, [])), (1, (1, 0, 1, 0, 2, [])), (2, (50, 0, 72, 2, 5, [])), (5, (22, 0, 29, 0, 8, [])), (8, (1, 0, 2, 0, 9, [])), (9, (22, 0, 29, 2, 12, [])), (12, (1, 0, 2, 0, 13, [])), (13, (0, 100, 0, 0, 15, [])), (15, (21, 0, 29, 4, 18, [])), (18, (1, 0, 3, 0, 19, [])), (19, (0, 1, 0, 0, 20, [])), (20, (21, 0, 29, 2, 23, [])), (23, (1, 0, 3, 0, 24, [])), (24, (0, 20, 0, 0, 26, [])), (26, (21, 0, 31, 5, 29, [])), (29, (0, -1, 0, 0, 30, [])), (30, (60, 0, 1, 0, 0, [])), (31, (2, 0, 0, 0, 32, [])), (32, (27, 0, 8, 13, 35, [])), (35, (1, 0, 1, 0, 36, [])), (36, (1, 0, 2, 0, 37, [])), (37, (1, 0, 3, 0, 38, [])), (38, (2, 0, 0, 0, 39, [])), (39, (27, 0, 8, 7, 42, [])), (42, (50, 0, 136, 5, 45, [])), (45, (60, 0, 1, 0, 0, []))]
set_option maxRecDepth 100000 in
theorem tk_135_0 : tb_135_0.all (fun q => x_is (x_ops 135 q.1) q.2) = true := by decide +kernel
theorem o_135_0 : x_ops 135 0 = some (2, 0, 0, 0, 1, []) := x_tab tk_135_0 (i := 0) rfl
theorem o_135_1 : x_ops 135 1 = some (1, 0, 1, 0, 2, []) := x_tab tk_135_0 (i := 1) rfl
theorem o_135_2 : x_ops 135 2 = some (50, 0, 72, 2, 5, []) := x_tab tk_135_0 (i := 2) rfl
theorem o_135_5 : x_ops 135 5 = some (22, 0, 29, 0, 8, []) := x_tab tk_135_0 (i := 3) rfl
theorem o_135_8 : x_ops 135 8 = some (1, 0, 2, 0, 9, []) := x_tab tk_135_0 (i := 4) rfl
theorem o_135_9 : x_ops 135 9 = some (22, 0, 29, 2, 12, []) := x_tab tk_135_0 (i := 5) rfl
theorem o_135_12 : x_ops 135 12 = some (1, 0, 2, 0, 13, []) := x_tab tk_135_0 (i := 6) rfl
theorem o_135_13 : x_ops 135 13 = some (0, 100, 0, 0, 15, []) := x_tab tk_135_0 (i := 7) rfl
theorem o_135_15 : x_ops 135 15 = some (21, 0, 29, 4, 18, []) := x_tab tk_135_0 (i := 8) rfl
theorem o_135_18 : x_ops 135 18 = some (1, 0, 3, 0, 19, []) := x_tab tk_135_0 (i := 9) rfl
theorem o_135_19 : x_ops 135 19 = some (0, 1, 0, 0, 20, []) := x_tab tk_135_0 (i := 10) rfl
theorem o_135_20 : x_ops 135 20 = some (21, 0, 29, 2, 23, []) := x_tab tk_135_0 (i := 11) rfl
theorem o_135_23 : x_ops 135 23 = some (1, 0, 3, 0, 24, []) := x_tab tk_135_0 (i := 12) rfl
theorem o_135_24 : x_ops 135 24 = some (0, 20, 0, 0, 26, []) := x_tab tk_135_0 (i := 13) rfl
theorem o_135_26 : x_ops 135 26 = some (21, 0, 31, 5, 29, []) := x_tab tk_135_0 (i := 14) rfl
theorem o_135_29 : x_ops 135 29 = some (0, -1, 0, 0, 30, []) := x_tab tk_135_0 (i := 15) rfl
theorem o_135_30 : x_ops 135 30 = some (60, 0, 1, 0, 0, []) := x_tab tk_135_0 (i := 16) rfl
theorem o_135_31 : x_ops 135 31 = some (2, 0, 0, 0, 32, []) := x_tab tk_135_0 (i := 17) rfl
theorem o_135_32 : x_ops 135 32 = some (27, 0, 8, 13, 35, []) := x_tab tk_135_0 (i := 18) rfl
theorem o_135_35 : x_ops 135 35 = some (1, 0, 1, 0, 36, []) := x_tab tk_135_0 (i := 19) rfl
theorem o_135_36 : x_ops 135 36 = some (1, 0, 2, 0, 37, []) := x_tab tk_135_0 (i := 20) rfl
theorem o_135_37 : x_ops 135 37 = some (1, 0, 3, 0, 38, []) := x_tab tk_135_0 (i := 21) rfl
theorem o_135_38 : x_ops 135 38 = some (2, 0, 0, 0, 39, []) := x_tab tk_135_0 (i := 22) rfl
theorem o_135_39 : x_ops 135 39 = some (27, 0, 8, 7, 42, []) := x_tab tk_135_0 (i := 23) rfl
theorem o_135_42 : x_ops 135 42 = some (50, 0, 136, 5, 45, []) := x_tab tk_135_0 (i := 24) rfl
theorem o_135_45 : x_ops 135 45 = some (60, 0, 1, 0, 0, []) := x_tab tk_135_0 (i := 25) rfl
def tb_137_0 : List (Nat × XO) := [(0, (2, 0, 0, 0, 1, [])), (1, (1, 0, 1, 0, 2, [])), (2, (50, 0, 72, 2, 5, [])), (5, (22, 0, 24, 0, 8, [])), (8, (1, 0, 2, 0, 9, [])), (9, (50, 1, 126, 1, 12, [])), (12, (22, 0, 24, 0, 15, [])), (15, (1, 0, 3, 0, 16, [])), (16, (22, 0, 24, 2, 19, [])), (19, (1, 0, 3, 0, 20, [])), (20, (0, 4, 0, 0, 21, [])), (21, (21, 0, 26, 5, 24, [])), (24, (0, -1, 0, 0, 25, [])), (25, (60, 0, 1, 0, 0, [])), (26, (2, 0, 0, 0, 27, [])), (27, (27, 0, 8, 14, 30, [])), (30, (1, 0, 1, 0, 31, [])), (31, (1, 0, 2, 0, 32, [])), (32, (1, 0, 3, 0, 33, [])), (33, (50, 0, 138, 4, 36, [])), (36, (60, 0, 1, 0, 0, []))]
set_option maxRecDepth 100000 in
theorem tk_137_0 : tb_137_0.all (fun q => x_is (x_ops 137 q.1) q.2) = true := by decide +kernel
theorem o_137_0 : x_ops 137 0 = some (2, 0, 0, 0, 1, []) := x_tab tk_137_0 (i := 0) rfl
theorem o_137_1 : x_ops 137 1 = some (1, 0, 1, 0, 2, []) := x_tab tk_137_0 (i := 1) rfl
theorem o_137_2 : x_ops 137 2 = some (50, 0, 72, 2, 5, []) := x_tab tk_137_0 (i := 2) rfl
theorem o_137_5 : x_ops 137 5 = some (22, 0, 24, 0, 8, []) := x_tab tk_137_0 (i := 3) rfl
theorem o_137_8 : x_ops 137 8 = some (1, 0, 2, 0, 9, []) := x_tab tk_137_0 (i := 4) rfl
theorem o_137_9 : x_ops 137 9 = some (50, 1, 126, 1, 12, []) := x_tab tk_137_0 (i := 5) rfl
theorem o_137_12 : x_ops 137 12 = some (22, 0, 24, 0, 15, []) := x_tab tk_137_0 (i := 6) rfl
theorem o_137_15 : x_ops 137 15 = some (1, 0, 3, 0, 16, []) := x_tab tk_137_0 (i := 7) rfl
theorem o_137_16 : x_ops 137 16 = some (22, 0, 24, 2, 19, []) := x_tab tk_137_0 (i := 8) rfl
theorem o_137_19 : x_ops 137 19 = some (1, 0, 3, 0, 20, []) := x_tab tk_137_0 (i := 9) rfl
theorem o_137_20 : x_ops 137 20 = some (0, 4, 0, 0, 21, []) := x_tab tk_137_0 (i := 10) rfl
theorem o_137_21 : x_ops 137 21 = some (21, 0, 26, 5, 24, []) := x_tab tk_137_0 (i := 11) rfl
theorem o_137_24 : x_ops 137 24 = some (0, -1, 0, 0, 25, []) := x_tab tk_137_0 (i := 12) rfl
theorem o_137_25 : x_ops 137 25 = some (60, 0, 1, 0, 0, []) := x_tab tk_137_0 (i := 13) rfl
theorem o_137_26 : x_ops 137 26 = some (2, 0, 0, 0, 27, []) := x_tab tk_137_0 (i := 14) rfl
theorem o_137_27 : x_ops 137 27 = some (27, 0, 8, 14, 30, []) := x_tab tk_137_0 (i := 15) rfl
theorem o_137_30 : x_ops 137 30 = some (1, 0, 1, 0, 31, []) := x_tab tk_137_0 (i := 16) rfl
theorem o_137_31 : x_ops 137 31 = some (1, 0, 2, 0, 32, []) := x_tab tk_137_0 (i := 17) rfl
theorem o_137_32 : x_ops 137 32 = some (1, 0, 3, 0, 33, []) := x_tab tk_137_0 (i := 18) rfl
theorem o_137_33 : x_ops 137 33 = some (50, 0, 138, 4, 36, []) := x_tab tk_137_0 (i := 19) rfl
theorem o_137_36 : x_ops 137 36 = some (60, 0, 1, 0, 0, []) := x_tab tk_137_0 (i := 20) rfl
def tb_139_0 : List (Nat × XO) := [(0, (2, 0, 0, 0, 1, [])), (1, (27, 0, 8, 14, 4, [])), (4, (26, 0, 1, 0, 7, [])), (7, (4, 0, 1, 0, 8, [])), (8, (2, 0, 0, 0, 9, [])), (9, (27, 0, 8, 14, 12, [])), (12, (0, 0, 0, 0, 13, [])), (13, (28, 0, 1, 0, 16, [])), (16, (1, 0, 1, 0, 17, [])), (17, (60, 0, 1, 0, 0, []))]
set_option maxRecDepth 100000 in
theorem tk_139_0 : tb_139_0.all (fun q => x_is (x_ops 139 q.1) q.2) = true := by decide +kernel
theorem o_139_0 : x_ops 139 0 = some (2, 0, 0, 0, 1, []) := x_tab tk_139_0 (i := 0) rfl
theorem o_139_1 : x_ops 139 1 = some (27, 0, 8, 14, 4, []) := x_tab tk_139_0 (i := 1) rfl
theorem o_139_4 : x_ops 139 4 = some (26, 0, 1, 0, 7, []) := x_tab tk_139_0 (i := 2) rfl
theorem o_139_7 : x_ops 139 7 = some (4, 0, 1, 0, 8, []) := x_tab tk_139_0 (i := 3) rfl
theorem o_139_8 : x_ops 139 8 = some (2, 0, 0, 0, 9, []) := x_tab tk_139_0 (i := 4) rfl
theorem o_139_9 : x_ops 139 9 = some (27, 0, 8, 14, 12, []) := x_tab tk_139_0 (i := 5) rfl
theorem o_139_12 : x_ops 139 12 = some (0, 0, 0, 0, 13, []) := x_tab tk_139_0 (i := 6) rfl
theorem o_139_13 : x_ops 139 13 = some (28, 0, 1, 0, 16, []) := x_tab tk_139_0 (i := 7) rfl
theorem o_139_16 : x_ops 139 16 = some (1, 0, 1, 0, 17, []) := x_tab tk_139_0 (i := 8) rfl
theorem o_139_17 : x_ops 139 17 = some (60, 0, 1, 0, 0, []) := x_tab tk_139_0 (i := 9) rfl
def tb_140_0 : List (Nat × XO) := [(0, (2, 0, 0, 0, 1, [])), (1, (27, 0, 8, 14, 4, [])), (4, (1, 0, 1, 0, 5, [])), (5, (50, 0, 141, 2, 8, [])), (8, (22, 0, 16, 0, 11, [])), (11, (1, 0, 2, 0, 12, [])), (12, (0, -1, 0, 0, 13, [])), (13, (21, 0, 18, 3, 16, [])), (16, (0, -1, 0, 0, 17, [])), (17, (60, 0, 1, 0, 0, [])), (18, (2, 0, 0, 0, 19, [])), (19, (27, 0, 8, 14, 22, [])), (22, (2, 0, 0, 0, 23, [])), (23, (27, 0, 8, 14, 26, [])), (26, (1, 0, 1, 0, 27, [])), (27, (50, 0, 142, 2, 30, [])), (30, (50, 0, 127, 2, 33, [])), (33, (2, 0, 0, 0, 34, [])), (34, (27, 0, 8, 14, 37, [])), (37, (1, 0, 1, 0, 38, [])), (38, (1, 0, 2, 0, 39, [])), (39, (50, 0, 143, 3, 42, [])), (42, (60, 0, 1, 0, 0, []))]
set_option maxRecDepth 100000 in
theorem tk_140_0 : tb_140_0.all (fun q => x_is (x_ops 140 q.1) q.2) = true := by decide +kernel
theorem o_140_0 : x_ops 140 0 = some (2, 0, 0, 0, 1, []) := x_tab tk_140_0 (i := 0) rfl
theorem o_140_1 : x_ops 140 1 = some (27, 0, 8, 14, 4, []) := x_tab tk_140_0 (i := 1) rfl
theorem o_140_4 : x_ops 140 4 = some (1, 0, 1, 0, 5, []) := x_tab tk_140_0 (i := 2) rfl
theorem o_140_5 : x_ops 140 5 = some (50, 0, 141, 2, 8, []) := x_tab tk_140_0 (i := 3) rfl
theorem o_140_8 : x_ops 140 8 = some (22, 0, 16, 0, 11, []) := x_tab tk_140_0 (i := 4) rfl
theorem o_140_11 : x_ops 140 11 = some (1, 0, 2, 0, 12, []) := x_tab tk_140_0 (i := 5) rfl
theorem o_140_12 : x_ops 140 12 = some (0, -1, 0, 0, 13, []) := x_tab tk_140_0 (i := 6) rfl
theorem o_140_13 : x_ops 140 13 = some (21, 0, 18, 3, 16, []) := x_tab tk_140_0 (i := 7) rfl
theorem o_140_16 : x_ops 140 16 = some (0, -1, 0, 0, 17, []) := x_tab tk_140_0 (i := 8) rfl
theorem o_140_17 : x_ops 140 17 = some (60, 0, 1, 0, 0, []) := x_tab tk_140_0 (i := 9) rfl
theorem o_140_18 : x_ops 140 18 = some (2, 0, 0, 0, 19, []) := x_tab tk_140_0 (i := 10) rfl
theorem o_140_19 : x_ops 140 19 = some (27, 0, 8, 14, 22, []) := x_tab tk_140_0 (i := 11) rfl
theorem o_140_22 : x_ops 140 22 = some (2, 0, 0, 0, 23, []) := x_tab tk_140_0 (i := 12) rfl
theorem o_140_23 : x_ops 140 23 = some (27, 0, 8, 14, 26, []) := x_tab tk_140_0 (i := 13) rfl
theorem o_140_26 : x_ops 140 26 = some (1, 0, 1, 0, 27, []) := x_tab tk_140_0 (i := 14) rfl
theorem o_140_27 : x_ops 140 27 = some (50, 0, 142, 2, 30, []) := x_tab tk_140_0 (i := 15) rfl
theorem o_140_30 : x_ops 140 30 = some (50, 0, 127, 2, 33, []) := x_tab tk_140_0 (i := 16) rfl
theorem o_140_33 : x_ops 140 33 = some (2, 0, 0, 0, 34, []) := x_tab tk_140_0 (i := 17) rfl
theorem o_140_34 : x_ops 140 34 = some (27, 0, 8, 14, 37, []) := x_tab tk_140_0 (i := 18) rfl
theorem o_140_37 : x_ops 140 37 = some (1, 0, 1, 0, 38, []) := x_tab tk_140_0 (i := 19) rfl
theorem o_140_38 : x_ops 140 38 = some (1, 0, 2, 0, 39, []) := x_tab tk_140_0 (i := 20) rfl
theorem o_140_39 : x_ops 140 39 = some (50, 0, 143, 3, 42, []) := x_tab tk_140_0 (i := 21) rfl
theorem o_140_42 : x_ops 140 42 = some (60, 0, 1, 0, 0, []) := x_tab tk_140_0 (i := 22) rfl
def tb_145_0 : List (Nat × XO) := [(0, (2, 0, 0, 0, 1, [])), (1, (27, 0, 8, 14, 4, [])), (4, (1, 0, 1, 0, 5, [])), (5, (50, 0, 141, 2, 8, [])), (8, (22, 0, 13, 1, 11, [])), (11, (0, -1, 0, 0, 12, [])), (12, (60, 0, 1, 0, 0, [])), (13, (2, 0, 0, 0, 14, [])), (14, (27, 0, 8, 14, 17, [])), (17, (2, 0, 0, 0, 18, [])), (18, (27, 0, 8, 14, 21, [])), (21, (1, 0, 1, 0, 22, [])), (22, (50, 0, 142, 2, 25, [])), (25, (50, 0, 127, 2, 28, [])), (28, (2, 0, 0, 0, 29, [])), (29, (27, 0, 8, 14, 32, [])), (32, (1, 0, 1, 0, 33, [])), (33, (50, 0, 146, 2, 36, [])), (36, (60, 0, 1, 0, 0, []))]
set_option maxRecDepth 100000 in
theorem tk_145_0 : tb_145_0.all (fun q => x_is (x_ops 145 q.1) q.2) = true := by decide +kernel
theorem o_145_0 : x_ops 145 0 = some (2, 0, 0, 0, 1, []) := x_tab tk_145_0 (i := 0) rfl
theorem o_145_1 : x_ops 145 1 = some (27, 0, 8, 14, 4, []) := x_tab tk_145_0 (i := 1) rfl
theorem o_145_4 : x_ops 145 4 = some (1, 0, 1, 0, 5, []) := x_tab tk_145_0 (i := 2) rfl
theorem o_145_5 : x_ops 145 5 = some (50, 0, 141, 2, 8, []) := x_tab tk_145_0 (i := 3) rfl
theorem o_145_8 : x_ops 145 8 = some (22, 0, 13, 1, 11, []) := x_tab tk_145_0 (i := 4) rfl
theorem o_145_11 : x_ops 145 11 = some (0, -1, 0, 0, 12, []) := x_tab tk_145_0 (i := 5) rfl
theorem o_145_12 : x_ops 145 12 = some (60, 0, 1, 0, 0, []) := x_tab tk_145_0 (i := 6) rfl
theorem o_145_13 : x_ops 145 13 = some (2, 0, 0, 0, 14, []) := x_tab tk_145_0 (i := 7) rfl
theorem o_145_14 : x_ops 145 14 = some (27, 0, 8, 14, 17, []) := x_tab tk_145_0 (i := 8) rfl
theorem o_145_17 : x_ops 145 17 = some (2, 0, 0, 0, 18, []) := x_tab tk_145_0 (i := 9) rfl
theorem o_145_18 : x_ops 145 18 = some (27, 0, 8, 14, 21, []) := x_tab tk_145_0 (i := 10) rfl
theorem o_145_21 : x_ops 145 21 = some (1, 0, 1, 0, 22, []) := x_tab tk_145_0 (i := 11) rfl
theorem o_145_22 : x_ops 145 22 = some (50, 0, 142, 2, 25, []) := x_tab tk_145_0 (i := 12) rfl
theorem o_145_25 : x_ops 145 25 = some (50, 0, 127, 2, 28, []) := x_tab tk_145_0 (i := 13) rfl
theorem o_145_28 : x_ops 145 28 = some (2, 0, 0, 0, 29, []) := x_tab tk_145_0 (i := 14) rfl
theorem o_145_29 : x_ops 145 29 = some (27, 0, 8, 14, 32, []) := x_tab tk_145_0 (i := 15) rfl
theorem o_145_32 : x_ops 145 32 = some (1, 0, 1, 0, 33, []) := x_tab tk_145_0 (i := 16) rfl
theorem o_145_33 : x_ops 145 33 = some (50, 0, 146, 2, 36, []) := x_tab tk_145_0 (i := 17) rfl
theorem o_145_36 : x_ops 145 36 = some (60, 0, 1, 0, 0, []) := x_tab tk_145_0 (i := 18) rfl
def tb_148_0 : List (Nat × XO) := [(0, (2, 0, 0, 0, 1, [])), (1, (27, 0, 8, 14, 4, [])), (4, (1, 0, 1, 0, 5, [])), (5, (50, 0, 141, 2, 8, [])), (8, (22, 0, 25, 0, 11, [])), (11, (1, 0, 2, 0, 12, [])), (12, (50, 1, 126, 1, 15, [])), (15, (22, 0, 25, 0, 18, [])), (18, (1, 0, 3, 0, 19, [])), (19, (50, 1, 98, 1, 22, [])), (22, (22, 0, 27, 1, 25, [])), (25, (0, -1, 0, 0, 26, [])), (26, (60, 0, 1, 0, 0, [])), (27, (2, 0, 0, 0, 28, [])), (28, (27, 0, 8, 14, 31, [])), (31, (1, 0, 2, 0, 32, [])), (32, (2, 0, 0, 0, 33, [])), (33, (27, 0, 8, 14, 36, [])), (36, (1, 0, 1, 0, 37, [])), (37, (50, 0, 142, 2, 40, [])), (40, (43, 0, 0, 0, 43, [])), (43, (50, 0, 127, 2, 46, [])), (46, (2, 0, 0, 0, 47, [])), (47, (27, 0, 8, 14, 50, [])), (50, (1, 0, 1, 0, 51, [])), (51, (1, 0, 2, 0, 52, [])), (52, (1, 0, 3, 0, 53, [])), (53, (50, 0, 149, 4, 56, [])), (56, (60, 0, 1, 0, 0, []))]
set_option maxRecDepth 100000 in
theorem tk_148_0 : tb_148_0.all (fun q => x_is (x_ops 148 q.1) q.2) = true := by decide +kernel
theorem o_148_0 : x_ops 148 0 = some (2, 0, 0, 0, 1, []) := x_tab tk_148_0 (i := 0) rfl
theorem o_148_1 : x_ops 148 1 = some (27, 0, 8, 14, 4, []) := x_tab tk_148_0 (i := 1) rfl
theorem o_148_4 : x_ops 148 4 = some (1, 0, 1, 0, 5, []) := x_tab tk_148_0 (i := 2) rfl
theorem o_148_5 : x_ops 148 5 = some (50, 0, 141, 2, 8, []) := x_tab tk_148_0 (i := 3) rfl
theorem o_148_8 : x_ops 148 8 = some (22, 0, 25, 0, 11, []) := x_tab tk_148_0 (i := 4) rfl
theorem o_148_11 : x_ops 148 11 = some (1, 0, 2, 0, 12, []) := x_tab tk_148_0 (i := 5) rfl
theorem o_148_12 : x_ops 148 12 = some (50, 1, 126, 1, 15, []) := x_tab tk_148_0 (i := 6) rfl
theorem o_148_15 : x_ops 148 15 = some (22, 0, 25, 0, 18, []) := x_tab tk_148_0 (i := 7) rfl
theorem o_148_18 : x_ops 148 18 = some (1, 0, 3, 0, 19, []) := x_tab tk_148_0 (i := 8) rfl
theorem o_148_19 : x_ops 148 19 = some (50, 1, 98, 1, 22, []) := x_tab tk_148_0 (i := 9) rfl
theorem o_148_22 : x_ops 148 22 = some (22, 0, 27, 1, 25, []) := x_tab tk_148_0 (i := 10) rfl
theorem o_148_25 : x_ops 148 25 = some (0, -1, 0, 0, 26, []) := x_tab tk_148_0 (i := 11) rfl
theorem o_148_26 : x_ops 148 26 = some (60, 0, 1, 0, 0, []) := x_tab tk_148_0 (i := 12) rfl
theorem o_148_27 : x_ops 148 27 = some (2, 0, 0, 0, 28, []) := x_tab tk_148_0 (i := 13) rfl
theorem o_148_28 : x_ops 148 28 = some (27, 0, 8, 14, 31, []) := x_tab tk_148_0 (i := 14) rfl
theorem o_148_31 : x_ops 148 31 = some (1, 0, 2, 0, 32, []) := x_tab tk_148_0 (i := 15) rfl
theorem o_148_32 : x_ops 148 32 = some (2, 0, 0, 0, 33, []) := x_tab tk_148_0 (i := 16) rfl
theorem o_148_33 : x_ops 148 33 = some (27, 0, 8, 14, 36, []) := x_tab tk_148_0 (i := 17) rfl
theorem o_148_36 : x_ops 148 36 = some (1, 0, 1, 0, 37, []) := x_tab tk_148_0 (i := 18) rfl
theorem o_148_37 : x_ops 148 37 = some (50, 0, 142, 2, 40, []) := x_tab tk_148_0 (i := 19) rfl
theorem o_148_40 : x_ops 148 40 = some (43, 0, 0, 0, 43, []) := x_tab tk_148_0 (i := 20) rfl
theorem o_148_43 : x_ops 148 43 = some (50, 0, 127, 2, 46, []) := x_tab tk_148_0 (i := 21) rfl
theorem o_148_46 : x_ops 148 46 = some (2, 0, 0, 0, 47, []) := x_tab tk_148_0 (i := 22) rfl
theorem o_148_47 : x_ops 148 47 = some (27, 0, 8, 14, 50, []) := x_tab tk_148_0 (i := 23) rfl
theorem o_148_50 : x_ops 148 50 = some (1, 0, 1, 0, 51, []) := x_tab tk_148_0 (i := 24) rfl
theorem o_148_51 : x_ops 148 51 = some (1, 0, 2, 0, 52, []) := x_tab tk_148_0 (i := 25) rfl
theorem o_148_52 : x_ops 148 52 = some (1, 0, 3, 0, 53, []) := x_tab tk_148_0 (i := 26) rfl
theorem o_148_53 : x_ops 148 53 = some (50, 0, 149, 4, 56, []) := x_tab tk_148_0 (i := 27) rfl
theorem o_148_56 : x_ops 148 56 = some (60, 0, 1, 0, 0, []) := x_tab tk_148_0 (i := 28) rfl
def tb_151_0 : List (Nat × XO) := [(0, (1, 0, 1, 0, 1, [])), (1, (50, 1, 126, 1, 4, [])), (4, (22, 0, 14, 0, 7, [])), (7, (1, 0, 2, 0, 8, [])), (8, (50, 1, 98, 1, 11, [])), (11, (22, 0, 16, 1, 14, [])), (14, (0, -1, 0, 0, 15, [])), (15, (60, 0, 1, 0, 0, [])), (16, (2, 0, 0, 0, 17, [])), (17, (27, 0, 8, 14, 20, [])), (20, (1, 0, 1, 0, 21, [])), (21, (50, 0, 127, 2, 24, [])), (24, (2, 0, 0, 0, 25, [])), (25, (27, 0, 8, 14, 28, [])), (28, (1, 0, 1, 0, 29, [])), (29, (50, 0, 152, 2, 32, [])), (32, (4, 0, 3, 0, 33, [])), (33, (1, 0, 3, 0, 34, [])), (34, (22, 0, 42, 2, 37, [])), (37, (1, 0, 2, 0, 38, [])), (38, (0, 1, 0, 0, 39, [])), (39, (21, 0, 46, 1, 42, [])), (42, (1, 0, 3, 0, 43, [])), (43, (20, 0, 50, 0, 46, [])), (46, (1, 0, 3, 0, 47, [])), (47, (50, 1, 91, 1, 50, [])), (50, (60, 0, 1, 0, 0, []))]
set_option maxRecDepth 100000 in
theorem tk_151_0 : tb_151_0.all (fun q => x_is (x_ops 151 q.1) q.2) = true := by decide +kernel
theorem o_151_0 : x_ops 151 0 = some (1, 0, 1, 0, 1, []) := x_tab tk_151_0 (i := 0) rfl
theorem o_151_1 : x_ops 151 1 = some (50, 1, 126, 1, 4, []) := x_tab tk_151_0 (i := 1) rfl
theorem o_151_4 : x_ops 151 4 = some (22, 0, 14, 0, 7, []) := x_tab tk_151_0 (i := 2) rfl
theorem o_151_7 : x_ops 151 7 = some (1, 0, 2, 0, 8, []) := x_tab tk_151_0 (i := 3) rfl
theorem o_151_8 : x_ops 151 8 = some (50, 1, 98, 1, 11, []) := x_tab tk_151_0 (i := 4) rfl
theorem o_151_11 : x_ops 151 11 = some (22, 0, 16, 1, 14, []) := x_tab tk_151_0 (i := 5) rfl
theorem o_151_14 : x_ops 151 14 = some (0, -1, 0, 0, 15, []) := x_tab tk_151_0 (i := 6) rfl
theorem o_151_15 : x_ops 151 15 = some (60, 0, 1, 0, 0, []) := x_tab tk_151_0 (i := 7) rfl
theorem o_151_16 : x_ops 151 16 = some (2, 0, 0, 0, 17, []) := x_tab tk_151_0 (i := 8) rfl
theorem o_151_17 : x_ops 151 17 = some (27, 0, 8, 14, 20, []) := x_tab tk_151_0 (i := 9) rfl
theorem o_151_20 : x_ops 151 20 = some (1, 0, 1, 0, 21, []) := x_tab tk_151_0 (i := 10) rfl
theorem o_151_21 : x_ops 151 21 = some (50, 0, 127, 2, 24, []) := x_tab tk_151_0 (i := 11) rfl
theorem o_151_24 : x_ops 151 24 = some (2, 0, 0, 0, 25, []) := x_tab tk_151_0 (i := 12) rfl
theorem o_151_25 : x_ops 151 25 = some (27, 0, 8, 14, 28, []) := x_tab tk_151_0 (i := 13) rfl
theorem o_151_28 : x_ops 151 28 = some (1, 0, 1, 0, 29, []) := x_tab tk_151_0 (i := 14) rfl
theorem o_151_29 : x_ops 151 29 = some (50, 0, 152, 2, 32, []) := x_tab tk_151_0 (i := 15) rfl
theorem o_151_32 : x_ops 151 32 = some (4, 0, 3, 0, 33, []) := x_tab tk_151_0 (i := 16) rfl
theorem o_151_33 : x_ops 151 33 = some (1, 0, 3, 0, 34, []) := x_tab tk_151_0 (i := 17) rfl
theorem o_151_34 : x_ops 151 34 = some (22, 0, 42, 2, 37, []) := x_tab tk_151_0 (i := 18) rfl
theorem o_151_37 : x_ops 151 37 = some (1, 0, 2, 0, 38, []) := x_tab tk_151_0 (i := 19) rfl
theorem o_151_38 : x_ops 151 38 = some (0, 1, 0, 0, 39, []) := x_tab tk_151_0 (i := 20) rfl
theorem o_151_39 : x_ops 151 39 = some (21, 0, 46, 1, 42, []) := x_tab tk_151_0 (i := 21) rfl
theorem o_151_42 : x_ops 151 42 = some (1, 0, 3, 0, 43, []) := x_tab tk_151_0 (i := 22) rfl
theorem o_151_43 : x_ops 151 43 = some (20, 0, 50, 0, 46, []) := x_tab tk_151_0 (i := 23) rfl
theorem o_151_46 : x_ops 151 46 = some (1, 0, 3, 0, 47, []) := x_tab tk_151_0 (i := 24) rfl
theorem o_151_47 : x_ops 151 47 = some (50, 1, 91, 1, 50, []) := x_tab tk_151_0 (i := 25) rfl
theorem o_151_50 : x_ops 151 50 = some (60, 0, 1, 0, 0, []) := x_tab tk_151_0 (i := 26) rfl
def tb_154_0 : List (Nat × XO) := [(0, (1, 0, 1, 0, 1, [])), (1, (22, 0, 9, 2, 4, [])), (4, (1, 0, 1, 0, 5, [])), (5, (0, 3, 0, 0, 6, [])), (6, (21, 0, 11, 2, 9, [])), (9, (0, 0, 0, 0, 10, [])), (10, (60, 0, 2, 0, 0, [])), (11, (2, 0, 0, 0, 12, [])), (12, (27, 0, 8, 7, 15, [])), (15, (0, 0, 0, 0, 16, [])), (16, (2, 0, 0, 0, 17, [])), (17, (27, 0, 8, 9, 20, [])), (20, (1, 0, 1, 0, 21, [])), (21, (0, 20, 0, 0, 23, [])), (23, (8, 0, 2, 0, 24, [])), (24, (0, 20, 0, 0, 26, [])), (26, (42, 0, 0, 0, 29, [])), (29, (2, 0, 0, 0, 30, [])), (30, (23, 0, 0, 0, 31, [])), (31, (26, 0, 8, 10, 34, [])), (34, (0, 1, 0, 0, 35, [])), (35, (1, 0, 1, 0, 36, [])), (36, (8, 0, 6, 0, 37, [])), (37, (8, 0, 4, 0, 38, [])), (38, (28, 0, 8, 10, 41, [])), (41, (0, 1, 0, 0, 42, [])), (42, (60, 0, 2, 0, 0, []))]
set_option maxRecDepth 100000 in
theorem tk_154_0 : tb_154_0.all (fun q => x_is (x_ops 154 q.1) q.2) = true := by decide +kernel
theorem o_154_0 : x_ops 154 0 = some (1, 0, 1, 0, 1, []) := x_tab tk_154_0 (i := 0) rfl
theorem o_154_1 : x_ops 154 1 = some (22, 0, 9, 2, 4, []) := x_tab tk_154_0 (i := 1) rfl
theorem o_154_4 : x_ops 154 4 = some (1, 0, 1, 0, 5, []) := x_tab tk_154_0 (i := 2) rfl
theorem o_154_5 : x_ops 154 5 = some (0, 3, 0, 0, 6, []) := x_tab tk_154_0 (i := 3) rfl
theorem o_154_6 : x_ops 154 6 = some (21, 0, 11, 2, 9, []) := x_tab tk_154_0 (i := 4) rfl
theorem o_154_9 : x_ops 154 9 = some (0, 0, 0, 0, 10, []) := x_tab tk_154_0 (i := 5) rfl
theorem o_154_10 : x_ops 154 10 = some (60, 0, 2, 0, 0, []) := x_tab tk_154_0 (i := 6) rfl
theorem o_154_11 : x_ops 154 11 = some (2, 0, 0, 0, 12, []) := x_tab tk_154_0 (i := 7) rfl
theorem o_154_12 : x_ops 154 12 = some (27, 0, 8, 7, 15, []) := x_tab tk_154_0 (i := 8) rfl
theorem o_154_15 : x_ops 154 15 = some (0, 0, 0, 0, 16, []) := x_tab tk_154_0 (i := 9) rfl
theorem o_154_16 : x_ops 154 16 = some (2, 0, 0, 0, 17, []) := x_tab tk_154_0 (i := 10) rfl
theorem o_154_17 : x_ops 154 17 = some (27, 0, 8, 9, 20, []) := x_tab tk_154_0 (i := 11) rfl
theorem o_154_20 : x_ops 154 20 = some (1, 0, 1, 0, 21, []) := x_tab tk_154_0 (i := 12) rfl
theorem o_154_21 : x_ops 154 21 = some (0, 20, 0, 0, 23, []) := x_tab tk_154_0 (i := 13) rfl
theorem o_154_23 : x_ops 154 23 = some (8, 0, 2, 0, 24, []) := x_tab tk_154_0 (i := 14) rfl
theorem o_154_24 : x_ops 154 24 = some (0, 20, 0, 0, 26, []) := x_tab tk_154_0 (i := 15) rfl
theorem o_154_26 : x_ops 154 26 = some (42, 0, 0, 0, 29, []) := x_tab tk_154_0 (i := 16) rfl
theorem o_154_29 : x_ops 154 29 = some (2, 0, 0, 0, 30, []) := x_tab tk_154_0 (i := 17) rfl
theorem o_154_30 : x_ops 154 30 = some (23, 0, 0, 0, 31, []) := x_tab tk_154_0 (i := 18) rfl
theorem o_154_31 : x_ops 154 31 = some (26, 0, 8, 10, 34, []) := x_tab tk_154_0 (i := 19) rfl
theorem o_154_34 : x_ops 154 34 = some (0, 1, 0, 0, 35, []) := x_tab tk_154_0 (i := 20) rfl
theorem o_154_35 : x_ops 154 35 = some (1, 0, 1, 0, 36, []) := x_tab tk_154_0 (i := 21) rfl
theorem o_154_36 : x_ops 154 36 = some (8, 0, 6, 0, 37, []) := x_tab tk_154_0 (i := 22) rfl
theorem o_154_37 : x_ops 154 37 = some (8, 0, 4, 0, 38, []) := x_tab tk_154_0 (i := 23) rfl
theorem o_154_38 : x_ops 154 38 = some (28, 0, 8, 10, 41, []) := x_tab tk_154_0 (i := 24) rfl
theorem o_154_41 : x_ops 154 41 = some (0, 1, 0, 0, 42, []) := x_tab tk_154_0 (i := 25) rfl
theorem o_154_42 : x_ops 154 42 = some (60, 0, 2, 0, 0, []) := x_tab tk_154_0 (i := 26) rfl
def tb_155_0 : List (Nat × XO) := [(0, (1, 0, 1, 0, 1, [])), (1, (22, 0, 20, 2, 4, [])), (4, (1, 0, 1, 0, 5, [])), (5, (0, 3, 0, 0, 6, [])), (6, (21, 0, 20, 3, 9, [])), (9, (2, 0, 0, 0, 10, [])), (10, (26, 0, 8, 10, 13, [])), (13, (1, 0, 1, 0, 14, [])), (14, (8, 0, 7, 0, 15, [])), (15, (0, 1, 0, 0, 16, [])), (16, (8, 0, 3, 0, 17, [])), (17, (22, 0, 22, 1, 20, [])), (20, (0, 0, 0, 0, 21, [])), (21, (60, 0, 2, 0, 0, [])), (22, (2, 0, 0, 0, 23, [])), (23, (27, 0, 8, 9, 26, [])), (26, (1, 0, 1, 0, 27, [])), (27, (0, 20, 0, 0, 29, [])), (29, (8, 0, 2, 0, 30, [])), (30, (2, 0, 0, 0, 31, [])), (31, (27, 0, 8, 7, 34, [])), (34, (0, 0, 0, 0, 35, [])), (35, (0, 20, 0, 0, 37, [])), (37, (42, 0, 0, 0, 40, [])), (40, (2, 0, 0, 0, 41, [])), (41, (27, 0, 8, 8, 44, [])), (44, (50, 0, 65, 1, 47, [])), (47, (2, 0, 0, 0, 48, [])), (48, (50, 0, 67, 1, 51, [])), (51, (0, 1, 0, 0, 52, [])), (52, (60, 0, 2, 0, 0, []))]
set_option maxRecDepth 100000 in
theorem tk_155_0 : tb_155_0.all (fun q => x_is (x_ops 155 q.1) q.2) = true := by decide +kernel
theorem o_155_0 : x_ops 155 0 = some (1, 0, 1, 0, 1, []) := x_tab tk_155_0 (i := 0) rfl
theorem o_155_1 : x_ops 155 1 = some (22, 0, 20, 2, 4, []) := x_tab tk_155_0 (i := 1) rfl
theorem o_155_4 : x_ops 155 4 = some (1, 0, 1, 0, 5, []) := x_tab tk_155_0 (i := 2) rfl
theorem o_155_5 : x_ops 155 5 = some (0, 3, 0, 0, 6, []) := x_tab tk_155_0 (i := 3) rfl
theorem o_155_6 : x_ops 155 6 = some (21, 0, 20, 3, 9, []) := x_tab tk_155_0 (i := 4) rfl
theorem o_155_9 : x_ops 155 9 = some (2, 0, 0, 0, 10, []) := x_tab tk_155_0 (i := 5) rfl
theorem o_155_10 : x_ops 155 10 = some (26, 0, 8, 10, 13, []) := x_tab tk_155_0 (i := 6) rfl
theorem o_155_13 : x_ops 155 13 = some (1, 0, 1, 0, 14, []) := x_tab tk_155_0 (i := 7) rfl
theorem o_155_14 : x_ops 155 14 = some (8, 0, 7, 0, 15, []) := x_tab tk_155_0 (i := 8) rfl
theorem o_155_15 : x_ops 155 15 = some (0, 1, 0, 0, 16, []) := x_tab tk_155_0 (i := 9) rfl
theorem o_155_16 : x_ops 155 16 = some (8, 0, 3, 0, 17, []) := x_tab tk_155_0 (i := 10) rfl
theorem o_155_17 : x_ops 155 17 = some (22, 0, 22, 1, 20, []) := x_tab tk_155_0 (i := 11) rfl
theorem o_155_20 : x_ops 155 20 = some (0, 0, 0, 0, 21, []) := x_tab tk_155_0 (i := 12) rfl
theorem o_155_21 : x_ops 155 21 = some (60, 0, 2, 0, 0, []) := x_tab tk_155_0 (i := 13) rfl
theorem o_155_22 : x_ops 155 22 = some (2, 0, 0, 0, 23, []) := x_tab tk_155_0 (i := 14) rfl
theorem o_155_23 : x_ops 155 23 = some (27, 0, 8, 9, 26, []) := x_tab tk_155_0 (i := 15) rfl
theorem o_155_26 : x_ops 155 26 = some (1, 0, 1, 0, 27, []) := x_tab tk_155_0 (i := 16) rfl
theorem o_155_27 : x_ops 155 27 = some (0, 20, 0, 0, 29, []) := x_tab tk_155_0 (i := 17) rfl
theorem o_155_29 : x_ops 155 29 = some (8, 0, 2, 0, 30, []) := x_tab tk_155_0 (i := 18) rfl
theorem o_155_30 : x_ops 155 30 = some (2, 0, 0, 0, 31, []) := x_tab tk_155_0 (i := 19) rfl
theorem o_155_31 : x_ops 155 31 = some (27, 0, 8, 7, 34, []) := x_tab tk_155_0 (i := 20) rfl
theorem o_155_34 : x_ops 155 34 = some (0, 0, 0, 0, 35, []) := x_tab tk_155_0 (i := 21) rfl
theorem o_155_35 : x_ops 155 35 = some (0, 20, 0, 0, 37, []) := x_tab tk_155_0 (i := 22) rfl
theorem o_155_37 : x_ops 155 37 = some (42, 0, 0, 0, 40, []) := x_tab tk_155_0 (i := 23) rfl
theorem o_155_40 : x_ops 155 40 = some (2, 0, 0, 0, 41, []) := x_tab tk_155_0 (i := 24) rfl
theorem o_155_41 : x_ops 155 41 = some (27, 0, 8, 8, 44, []) := x_tab tk_155_0 (i := 25) rfl
theorem o_155_44 : x_ops 155 44 = some (50, 0, 65, 1, 47, []) := x_tab tk_155_0 (i := 26) rfl
theorem o_155_47 : x_ops 155 47 = some (2, 0, 0, 0, 48, []) := x_tab tk_155_0 (i := 27) rfl
theorem o_155_48 : x_ops 155 48 = some (50, 0, 67, 1, 51, []) := x_tab tk_155_0 (i := 28) rfl
theorem o_155_51 : x_ops 155 51 = some (0, 1, 0, 0, 52, []) := x_tab tk_155_0 (i := 29) rfl
theorem o_155_52 : x_ops 155 52 = some (60, 0, 2, 0, 0, []) := x_tab tk_155_0 (i := 30) rfl
def tb_156_0 : List (Nat × XO) := [(0, (1, 0, 1, 0, 1, [])), (1, (41, 0, 166, 0, 0, [(0, 68), (1, 76), (2, 84), (3, 92), (4, 100), (5, 105), (6, 113), (7, 121), (8, 126), (9, 134), (10, 142), (11, 150), (12, 158)])), (68, (2, 0, 0, 0, 69, [])), (69, (27, 0, 8, 4, 72, [])), (72, (26, 0, 5, 0, 75, [])), (75, (60, 0, 1, 0, 0, [])), (76, (2, 0, 0, 0, 77, [])), (77, (27, 0, 8, 4, 80, [])), (80, (26, 0, 5, 1, 83, [])), (83, (60, 0, 1, 0, 0, [])), (84, (2, 0, 0, 0, 85, [])), (85, (27, 0, 8, 7, 88, [])), (88, (0, 14, 0, 0, 90, [])), (90, (31, 0, 0, 0, 91, [])), (91, (60, 0, 1, 0, 0, [])), (92, (2, 0, 0, 0, 93, [])), (93, (27, 0, 8, 4, 96, [])), (96, (26, 0, 5, 2, 99, [])), (99, (60, 0, 1, 0, 0, [])), (100, (2, 0, 0, 0, 101, [])), (101, (50, 0, 157, 1, 104, [])), (104, (60, 0, 1, 0, 0, [])), (105, (2, 0, 0, 0, 106, [])), (106, (27, 0, 8, 7, 109, [])), (109, (0, 16, 0, 0, 111, [])), (111, (31, 0, 0, 0, 112, [])), (112, (60, 0, 1, 0, 0, [])), (113, (2, 0, 0, 0, 114, [])), (114, (27, 0, 8, 7, 117, [])), (117, (0, 15, 0, 0, 119, [])), (119, (31, 0, 0, 0, 120, [])), (120, (60, 0, 1, 0, 0, [])), (121, (2, 0, 0, 0, 122, [])), (122, (26, 0, 8, 1, 125, [])), (125, (60, 0, 1, 0, 0, [])), (126, (2, 0, 0, 0, 127, [])), (127, (27, 0, 8, 8, 130, [])), (130, (26, 0, 2, 0, 133, [])), (133, (60, 0, 1, 0, 0, [])), (134, (2, 0, 0, 0, 135, [])), (135, (27, 0, 8, 14, 138, [])), (138, (26, 0, 1, 0, 141, [])), (141, (60, 0, 1, 0, 0, [])), (142, (2, 0, 0, 0, 143, [])), (143, (26, 0, 8, 10, 146, [])), (146, (50, 1, 91, 1, 149, [])), (149, (60, 0, 1, 0, 0, [])), (150, (2, 0, 0, 0, 151, [])), (151, (27, 0, 8, 4, 154, [])), (154, (26, 0, 5, 4, 157, [])), (157, (60, 0, 1, 0, 0, [])), (158, (2, 0, 0, 0, 159, [])), (159, (27, 0, 8, 4, 162, [])), (162, (26, 0, 5, 5, 165, [])), (165, (60, 0, 1, 0, 0, [])), (166, (0, -1, 0, 0, 167, [])), (167, (60, 0, 1, 0, 0, []))]
set_option maxRecDepth 100000 in
theorem tk_156_0 : tb_156_0.all (fun q => x_is (x_ops 156 q.1) q.2) = true := by decide +kernel
theorem o_156_0 : x_ops 156 0 = some (1, 0, 1, 0, 1, []) := x_tab tk_156_0 (i := 0) rfl
theorem o_156_1 : x_ops 156 1 = some (41, 0, 166, 0, 0, [(0, 68), (1, 76), (2, 84), (3, 92), (4, 100), (5, 105), (6, 113), (7, 121), (8, 126), (9, 134), (10, 142), (11, 150), (12, 158)]) := x_tab tk_156_0 (i := 1) rfl
theorem o_156_68 : x_ops 156 68 = some (2, 0, 0, 0, 69, []) := x_tab tk_156_0 (i := 2) rfl
theorem o_156_69 : x_ops 156 69 = some (27, 0, 8, 4, 72, []) := x_tab tk_156_0 (i := 3) rfl
theorem o_156_72 : x_ops 156 72 = some (26, 0, 5, 0, 75, []) := x_tab tk_156_0 (i := 4) rfl
theorem o_156_75 : x_ops 156 75 = some (60, 0, 1, 0, 0, []) := x_tab tk_156_0 (i := 5) rfl
theorem o_156_76 : x_ops 156 76 = some (2, 0, 0, 0, 77, []) := x_tab tk_156_0 (i := 6) rfl
theorem o_156_77 : x_ops 156 77 = some (27, 0, 8, 4, 80, []) := x_tab tk_156_0 (i := 7) rfl
theorem o_156_80 : x_ops 156 80 = some (26, 0, 5, 1, 83, []) := x_tab tk_156_0 (i := 8) rfl
theorem o_156_83 : x_ops 156 83 = some (60, 0, 1, 0, 0, []) := x_tab tk_156_0 (i := 9) rfl
theorem o_156_84 : x_ops 156 84 = some (2, 0, 0, 0, 85, []) := x_tab tk_156_0 (i := 10) rfl
theorem o_156_85 : x_ops 156 85 = some (27, 0, 8, 7, 88, []) := x_tab tk_156_0 (i := 11) rfl
theorem o_156_88 : x_ops 156 88 = some (0, 14, 0, 0, 90, []) := x_tab tk_156_0 (i := 12) rfl
theorem o_156_90 : x_ops 156 90 = some (31, 0, 0, 0, 91, []) := x_tab tk_156_0 (i := 13) rfl
theorem o_156_91 : x_ops 156 91 = some (60, 0, 1, 0, 0, []) := x_tab tk_156_0 (i := 14) rfl
theorem o_156_92 : x_ops 156 92 = some (2, 0, 0, 0, 93, []) := x_tab tk_156_0 (i := 15) rfl
theorem o_156_93 : x_ops 156 93 = some (27, 0, 8, 4, 96, []) := x_tab tk_156_0 (i := 16) rfl
theorem o_156_96 : x_ops 156 96 = some (26, 0, 5, 2, 99, []) := x_tab tk_156_0 (i := 17) rfl
theorem o_156_99 : x_ops 156 99 = some (60, 0, 1, 0, 0, []) := x_tab tk_156_0 (i := 18) rfl
theorem o_156_100 : x_ops 156 100 = some (2, 0, 0, 0, 101, []) := x_tab tk_156_0 (i := 19) rfl
theorem o_156_101 : x_ops 156 101 = some (50, 0, 157, 1, 104, []) := x_tab tk_156_0 (i := 20) rfl
theorem o_156_104 : x_ops 156 104 = some (60, 0, 1, 0, 0, []) := x_tab tk_156_0 (i := 21) rfl
theorem o_156_105 : x_ops 156 105 = some (2, 0, 0, 0, 106, []) := x_tab tk_156_0 (i := 22) rfl
theorem o_156_106 : x_ops 156 106 = some (27, 0, 8, 7, 109, []) := x_tab tk_156_0 (i := 23) rfl
theorem o_156_109 : x_ops 156 109 = some (0, 16, 0, 0, 111, []) := x_tab tk_156_0 (i := 24) rfl
theorem o_156_111 : x_ops 156 111 = some (31, 0, 0, 0, 112, []) := x_tab tk_156_0 (i := 25) rfl
theorem o_156_112 : x_ops 156 112 = some (60, 0, 1, 0, 0, []) := x_tab tk_156_0 (i := 26) rfl
theorem o_156_113 : x_ops 156 113 = some (2, 0, 0, 0, 114, []) := x_tab tk_156_0 (i := 27) rfl
theorem o_156_114 : x_ops 156 114 = some (27, 0, 8, 7, 117, []) := x_tab tk_156_0 (i := 28) rfl
theorem o_156_117 : x_ops 156 117 = some (0, 15, 0, 0, 119, []) := x_tab tk_156_0 (i := 29) rfl
theorem o_156_119 : x_ops 156 119 = some (31, 0, 0, 0, 120, []) := x_tab tk_156_0 (i := 30) rfl
theorem o_156_120 : x_ops 156 120 = some (60, 0, 1, 0, 0, []) := x_tab tk_156_0 (i := 31) rfl
theorem o_156_121 : x_ops 156 121 = some (2, 0, 0, 0, 122, []) := x_tab tk_156_0 (i := 32) rfl
theorem o_156_122 : x_ops 156 122 = some (26, 0, 8, 1, 125, []) := x_tab tk_156_0 (i := 33) rfl
theorem o_156_125 : x_ops 156 125 = some (60, 0, 1, 0, 0, []) := x_tab tk_156_0 (i := 34) rfl
theorem o_156_126 : x_ops 156 126 = some (2, 0, 0, 0, 127, []) := x_tab tk_156_0 (i := 35) rfl
theorem o_156_127 : x_ops 156 127 = some (27, 0, 8, 8, 130, []) := x_tab tk_156_0 (i := 36) rfl
theorem o_156_130 : x_ops 156 130 = some (26, 0, 2, 0, 133, []) := x_tab tk_156_0 (i := 37) rfl
theorem o_156_133 : x_ops 156 133 = some (60, 0, 1, 0, 0, []) := x_tab tk_156_0 (i := 38) rfl
theorem o_156_134 : x_ops 156 134 = some (2, 0, 0, 0, 135, []) := x_tab tk_156_0 (i := 39) rfl
theorem o_156_135 : x_ops 156 135 = some (27, 0, 8, 14, 138, []) := x_tab tk_156_0 (i := 40) rfl
theorem o_156_138 : x_ops 156 138 = some (26, 0, 1, 0, 141, []) := x_tab tk_156_0 (i := 41) rfl
theorem o_156_141 : x_ops 156 141 = some (60, 0, 1, 0, 0, []) := x_tab tk_156_0 (i := 42) rfl
theorem o_156_142 : x_ops 156 142 = some (2, 0, 0, 0, 143, []) := x_tab tk_156_0 (i := 43) rfl
theorem o_156_143 : x_ops 156 143 = some (26, 0, 8, 10, 146, []) := x_tab tk_156_0 (i := 44) rfl
theorem o_156_146 : x_ops 156 146 = some (50, 1, 91, 1, 149, []) := x_tab tk_156_0 (i := 45) rfl
theorem o_156_149 : x_ops 156 149 = some (60, 0, 1, 0, 0, []) := x_tab tk_156_0 (i := 46) rfl
theorem o_156_150 : x_ops 156 150 = some (2, 0, 0, 0, 151, []) := x_tab tk_156_0 (i := 47) rfl
theorem o_156_151 : x_ops 156 151 = some (27, 0, 8, 4, 154, []) := x_tab tk_156_0 (i := 48) rfl
theorem o_156_154 : x_ops 156 154 = some (26, 0, 5, 4, 157, []) := x_tab tk_156_0 (i := 49) rfl
theorem o_156_157 : x_ops 156 157 = some (60, 0, 1, 0, 0, []) := x_tab tk_156_0 (i := 50) rfl
theorem o_156_158 : x_ops 156 158 = some (2, 0, 0, 0, 159, []) := x_tab tk_156_0 (i := 51) rfl
theorem o_156_159 : x_ops 156 159 = some (27, 0, 8, 4, 162, []) := x_tab tk_156_0 (i := 52) rfl
theorem o_156_162 : x_ops 156 162 = some (26, 0, 5, 5, 165, []) := x_tab tk_156_0 (i := 53) rfl
theorem o_156_165 : x_ops 156 165 = some (60, 0, 1, 0, 0, []) := x_tab tk_156_0 (i := 54) rfl
theorem o_156_166 : x_ops 156 166 = some (0, -1, 0, 0, 167, []) := x_tab tk_156_0 (i := 55) rfl
theorem o_156_167 : x_ops 156 167 = some (60, 0, 1, 0, 0, []) := x_tab tk_156_0 (i := 56) rfl
def tb_157_0 : List (Nat × XO) := [(0, (0, 0, 0, 0, 1, [])), (1, (4, 0, 1, 0, 2, [])), (2, (0, 0, 0, 0, 3, [])), (3, (4, 0, 2, 0, 4, [])), (4, (1, 0, 2, 0, 5, [])), (5, (2, 0, 0, 0, 6, [])), (6, (27, 0, 8, 4, 9, [])), (9, (26, 0, 5, 1, 12, [])), (12, (21, 0, 40, 3, 15, [])), (15, (2, 0, 0, 0, 16, [])), (16, (27, 0, 8, 7, 19, [])), (19, (0, 8, 0, 0, 21, [])), (21, (1, 0, 2, 0, 22, [])), (22, (8, 0, 0, 0, 23, [])), (23, (31, 0, 0, 0, 24, [])), (24, (0, 4, 0, 0, 25, [])), (25, (21, 0, 34, 1, 28, [])), (28, (1, 0, 1, 0, 29, [])), (29, (0, 1, 0, 0, 30, [])), (30, (1, 0, 2, 0, 31, [])), (31, (8, 0, 6, 0, 32, [])), (32, (8, 0, 4, 0, 33, [])), (33, (4, 0, 1, 0, 34, [])), (34, (7, 1, 2, 0, 37, [])), (37, (20, 0, 4, 0, 40, [])), (40, (1, 0, 1, 0, 41, [])), (41, (60, 0, 1, 0, 0, []))]
set_option maxRecDepth 100000 in
theorem tk_157_0 : tb_157_0.all (fun q => x_is (x_ops 157 q.1) q.2) = true := by decide +kernel
theorem o_157_0 : x_ops 157 0 = some (0, 0, 0, 0, 1, []) := x_tab tk_157_0 (i := 0) rfl
theorem o_157_1 : x_ops 157 1 = some (4, 0, 1, 0, 2, []) := x_tab tk_157_0 (i := 1) rfl
theorem o_157_2 : x_ops 157 2 = some (0, 0, 0, 0, 3, []) := x_tab tk_157_0 (i := 2) rfl
theorem o_157_3 : x_ops 157 3 = some (4, 0, 2, 0, 4, []) := x_tab tk_157_0 (i := 3) rfl
theorem o_157_4 : x_ops 157 4 = some (1, 0, 2, 0, 5, []) := x_tab tk_157_0 (i := 4) rfl
theorem o_157_5 : x_ops 157 5 = some (2, 0, 0, 0, 6, []) := x_tab tk_157_0 (i := 5) rfl
theorem o_157_6 : x_ops 157 6 = some (27, 0, 8, 4, 9, []) := x_tab tk_157_0 (i := 6) rfl
theorem o_157_9 : x_ops 157 9 = some (26, 0, 5, 1, 12, []) := x_tab tk_157_0 (i := 7) rfl
theorem o_157_12 : x_ops 157 12 = some (21, 0, 40, 3, 15, []) := x_tab tk_157_0 (i := 8) rfl
theorem o_157_15 : x_ops 157 15 = some (2, 0, 0, 0, 16, []) := x_tab tk_157_0 (i := 9) rfl
theorem o_157_16 : x_ops 157 16 = some (27, 0, 8, 7, 19, []) := x_tab tk_157_0 (i := 10) rfl
theorem o_157_19 : x_ops 157 19 = some (0, 8, 0, 0, 21, []) := x_tab tk_157_0 (i := 11) rfl
theorem o_157_21 : x_ops 157 21 = some (1, 0, 2, 0, 22, []) := x_tab tk_157_0 (i := 12) rfl
theorem o_157_22 : x_ops 157 22 = some (8, 0, 0, 0, 23, []) := x_tab tk_157_0 (i := 13) rfl
theorem o_157_23 : x_ops 157 23 = some (31, 0, 0, 0, 24, []) := x_tab tk_157_0 (i := 14) rfl
theorem o_157_24 : x_ops 157 24 = some (0, 4, 0, 0, 25, []) := x_tab tk_157_0 (i := 15) rfl
theorem o_157_25 : x_ops 157 25 = some (21, 0, 34, 1, 28, []) := x_tab tk_157_0 (i := 16) rfl
theorem o_157_28 : x_ops 157 28 = some (1, 0, 1, 0, 29, []) := x_tab tk_157_0 (i := 17) rfl
theorem o_157_29 : x_ops 157 29 = some (0, 1, 0, 0, 30, []) := x_tab tk_157_0 (i := 18) rfl
theorem o_157_30 : x_ops 157 30 = some (1, 0, 2, 0, 31, []) := x_tab tk_157_0 (i := 19) rfl
theorem o_157_31 : x_ops 157 31 = some (8, 0, 6, 0, 32, []) := x_tab tk_157_0 (i := 20) rfl
theorem o_157_32 : x_ops 157 32 = some (8, 0, 4, 0, 33, []) := x_tab tk_157_0 (i := 21) rfl
theorem o_157_33 : x_ops 157 33 = some (4, 0, 1, 0, 34, []) := x_tab tk_157_0 (i := 22) rfl
theorem o_157_34 : x_ops 157 34 = some (7, 1, 2, 0, 37, []) := x_tab tk_157_0 (i := 23) rfl
theorem o_157_37 : x_ops 157 37 = some (20, 0, 4, 0, 40, []) := x_tab tk_157_0 (i := 24) rfl
theorem o_157_40 : x_ops 157 40 = some (1, 0, 1, 0, 41, []) := x_tab tk_157_0 (i := 25) rfl
theorem o_157_41 : x_ops 157 41 = some (60, 0, 1, 0, 0, []) := x_tab tk_157_0 (i := 26) rfl
