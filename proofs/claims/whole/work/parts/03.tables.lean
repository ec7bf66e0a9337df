-- written by wip/whole/gen.py: the numbers of the methods, and their tables
abbrev n_X0_empty : Nat := 0
abbrev n_X0_copyFrom : Nat := 1
abbrev n_X0_sitter : Nat := 2
abbrev n_X0_seat : Nat := 3
abbrev n_X1_bitsOf : Nat := 4
abbrev n_X2_empty : Nat := 5
abbrev n_X2_copyFrom : Nat := 6
abbrev n_X2_hasRoom : Nat := 7
abbrev n_X2_has : Nat := 8
abbrev n_X2_add : Nat := 9
abbrev n_X2_lowerTo : Nat := 10
abbrev n_X2_takeOut : Nat := 11
abbrev n_X2_joinAll : Nat := 12
abbrev n_X2_settleAll : Nat := 13
abbrev n_X2_findPair : Nat := 14
abbrev n_X2_linkTwo : Nat := 15
abbrev n_X2_cutOff : Nat := 16
abbrev n_X2_freeChildren : Nat := 17
abbrev n_X2_makeRoot : Nat := 18
abbrev n_X2_besideBefore : Nat := 19
abbrev n_X2_isSooner : Nat := 20
abbrev n_X2_isRoot : Nat := 21
abbrev n_X2_count : Nat := 22
abbrev n_X2_links : Nat := 23
abbrev n_X2_cuts : Nat := 24
abbrev n_X2_kindOf : Nat := 25
abbrev n_X2_keyOf : Nat := 26
abbrev n_X2_aboveOf : Nat := 27
abbrev n_X2_rankOf : Nat := 28
abbrev n_X2_isStanding : Nat := 29
abbrev n_X2_isLoose : Nat := 30
abbrev n_X2_soonest : Nat := 31
abbrev n_X2_standingCount : Nat := 32
abbrev n_X2_standingAt : Nat := 33
abbrev n_X2_rootCount : Nat := 34
abbrev n_X2_looseCount : Nat := 35
abbrev n_X2_looseOfRank : Nat := 36
abbrev n_X2_greatestRank : Nat := 37
abbrev n_X2_longestRow : Nat := 38
abbrev n_X2_depthOf : Nat := 39
abbrev n_X2_sizeOf : Nat := 40
abbrev n_X2_isWithin : Nat := 41
abbrev n_X2_childAt : Nat := 42
abbrev n_X2_sumOfKeys : Nat := 43
abbrev n_X3_isKept : Nat := 44
abbrev n_X3_store : Nat := 45
abbrev n_X3_restore : Nat := 46
abbrev n_X4_begin : Nat := 47
abbrev n_X4_draw : Nat := 48
abbrev n_X5_layOut : Nat := 49
abbrev n_X5_hasRoom : Nat := 50
abbrev n_X5_hasPlace : Nat := 51
abbrev n_X5_add : Nat := 52
abbrev n_X5_places : Nat := 53
abbrev n_X5_count : Nat := 54
abbrev n_X5_grow : Nat := 55
abbrev n_X5_begin : Nat := 56
abbrev n_X5_spread : Nat := 57
abbrev n_X5_acrossFrom : Nat := 58
abbrev n_X5_isReached : Nat := 59
abbrev n_X5_weightOfTree : Nat := 60
abbrev n_X5_roadsOfTree : Nat := 61
abbrev n_X5_links : Nat := 62
abbrev n_X5_cuts : Nat := 63
abbrev n_X5_lowerings : Nat := 64
abbrev n_X5_distanceTo : Nat := 65
abbrev n_X5_reachedCount : Nat := 66
abbrev n_X6_put : Nat := 67
abbrev n_X6_lower : Nat := 68
abbrev n_X6_take : Nat := 69
abbrev n_X6_drop : Nat := 70
abbrev n_X6_join : Nat := 71
abbrev n_X6_clear : Nat := 72
abbrev n_X6_drift : Nat := 73
abbrev n_X6_told : Nat := 74
abbrev n_X6_job : Nat := 75
abbrev n_X6_child : Nat := 76
abbrev n_X6_loose : Nat := 77
abbrev n_X6_bits : Nat := 78
abbrev n_X6_sit : Nat := 79
abbrev n_X6_sits : Nat := 80
abbrev n_X6_net : Nat := 81
abbrev n_X6_road : Nat := 82
abbrev n_X6_tree : Nat := 83
abbrev n_X6_way : Nat := 84
abbrev n_X6_ways : Nat := 85
abbrev n_X6_keep : Nat := 86
abbrev n_X6_goBack : Nat := 87
abbrev n_X6_driftOnce : Nat := 88
abbrev n_X6_putByLots : Nat := 89
abbrev n_X6_lowerByLots : Nat := 90
abbrev n_X6_takeByLots : Nat := 91
abbrev n_X6_between : Nat := 92
abbrev n_X6_isKey : Nat := 93
abbrev n_X6_flag : Nat := 94
abbrev n_X7_in : Nat := 95
abbrev n_X7_own : Nat := 96
abbrev n_X7_isSooner : Nat := 97
abbrev n_X7_rank : Nat := 98
abbrev n_X7_link : Nat := 99
abbrev n_X7_cut : Nat := 100
abbrev n_X7_isOf : Nat := 101
abbrev n_X7_ofRank : Nat := 102
abbrev n_X7_twice : Nat := 103
abbrev n_X7_settle : Nat := 104
abbrev n_X7_joinAll : Nat := 105
abbrev n_X7_add : Nat := 106
abbrev n_X7_lowerTo : Nat := 107
abbrev n_X7_remove : Nat := 108
abbrev n_X7_soonest : Nat := 109
abbrev n_X7_standing : Nat := 110
abbrev n_X7_isJob : Nat := 111
abbrev n_X7_put : Nat := 112
abbrev n_X7_lower : Nat := 113
abbrev n_X7_take : Nat := 114
abbrev n_X7_drop : Nat := 115
abbrev n_X7_join : Nat := 116
abbrev n_X7_clear : Nat := 117
abbrev n_X7_standingAt : Nat := 118
abbrev n_X7_drawn : Nat := 119
abbrev n_X7_lot : Nat := 120
abbrev n_X7_drift : Nat := 121
abbrev n_X7_depth : Nat := 122
abbrev n_X7_isUnder : Nat := 123
abbrev n_X7_many : Nat := 124
abbrev n_X7_told : Nat := 125
abbrev n_X7_under : Nat := 126
abbrev n_X7_power : Nat := 127
abbrev n_X7_bitsOf : Nat := 128
abbrev n_X7_job : Nat := 129
abbrev n_X7_child : Nat := 130
abbrev n_X7_loose : Nat := 131
abbrev n_X7_bits : Nat := 132
abbrev n_X7_sit : Nat := 133
abbrev n_X7_sits : Nat := 134
abbrev n_X7_net : Nat := 135
abbrev n_X7_isPlace : Nat := 136
abbrev n_X7_road : Nat := 137
abbrev n_X7_goFrom : Nat := 138
abbrev n_X7_lay : Nat := 139
abbrev n_X7_hanging : Nat := 140
abbrev n_X7_tree : Nat := 141
abbrev n_X7_way : Nat := 142
abbrev n_X7_ways : Nat := 143
abbrev n_X7_keep : Nat := 144
abbrev n_X7_goBack : Nat := 145
abbrev n_J7_fill_53178 : Nat := 146
def tb_X0_empty : List (Nat × Ins) := [
  (0, i_la 0 1), (1, i_gR 0 (fun t => (12, t)) 4), (4, i_c (-1) 5), (5, i_cs n_J7_fill_53178 2 8),
  (8, i_rv)]
def tb_X0_copyFrom : List (Nat × Ins) := [
  (0, i_la 1 1), (1, i_gR 0 (fun t => (12, t)) 4), (4, i_c 0 5), (5, i_la 0 6),
  (6, i_gR 0 (fun t => (12, t)) 9), (9, i_c 0 10), (10, i_c 16 12), (12, i_acp 15),
  (15, i_rv)]
def tb_X0_sitter : List (Nat × Ins) := [
  (0, i_la 0 1), (1, i_gR 0 (fun t => (12, t)) 4), (4, i_li 1 5), (5, i_c 8 7),
  (7, i_mul 8), (8, i_li 2 9), (9, i_add 10), (10, i_ia 11),
  (11, i_ri)]
def tb_X0_seat : List (Nat × Ins) := [
  (0, i_la 0 1), (1, i_li 1 2), (2, i_li 2 3), (3, i_cv n_X0_sitter 3 0 6),
  (6, i_st 4 8), (8, i_c 0 9), (9, i_st 5 11), (11, i_li 5 13),
  (13, i_c 16 15), (15, i_ic_ge 43 18), (18, i_la 0 19), (19, i_gR 0 (fun t => (12, t)) 22),
  (22, i_li 5 24), (24, i_ia 25), (25, i_li 3 26), (26, i_ic_ne 37 29),
  (29, i_la 0 30), (30, i_gR 0 (fun t => (12, t)) 33), (33, i_li 5 35), (35, i_c (-1) 36),
  (36, i_is 37), (37, i_inc 5 1 40), (40, i_go 11), (43, i_la 0 44),
  (44, i_gR 0 (fun t => (12, t)) 47), (47, i_li 1 48), (48, i_c 8 50), (50, i_mul 51),
  (51, i_li 2 52), (52, i_add 53), (53, i_li 3 54), (54, i_is 55),
  (55, i_li 4 57), (57, i_ri)]
def tb_X1_bitsOf : List (Nat × Ins) := [
  (0, i_li 0 1), (1, i_if_ne 6 4), (4, i_cl 0 5), (5, i_rl),
  (6, i_li 0 7), (7, i_2l 8), (8, l_abs 11), (11, i_st2 3 12),
  (12, i_c 0 13), (13, i_st 5 15), (15, i_c 0 16), (16, i_st 6 18),
  (18, i_li 6 20), (20, i_c 20 22), (22, i_ic_ge 44 25), (25, i_ll 3 26),
  (26, i_li 6 28), (28, l_shr 29), (29, i_cl 0 30), (30, l_cmp 31),
  (31, i_if_eq 38 34), (34, i_li 6 36), (36, i_st 5 38), (38, i_inc 6 1 41),
  (41, i_go 18), (44, i_li 0 45), (45, i_if_ge 52 48), (48, i_cl 1 49),
  (49, i_go 53), (52, i_cl 0 53), (53, i_st2 6 55), (55, i_li 5 57),
  (57, i_c (-4) 59), (59, i_add 60), (60, i_2l 61), (61, i_cl 1 62),
  (62, i_li 1 63), (63, i_c 1 64), (64, i_sub 65), (65, l_shl 66),
  (66, l_add 67), (67, i_cl 1 68), (68, l_sub 69), (69, i_st2 8 71),
  (71, i_ll 3 72), (72, i_cl 1 73), (73, i_li 5 75), (75, l_shl 76),
  (76, l_sub 77), (77, i_li 2 78), (78, i_li 5 80), (80, i_sub 81),
  (81, l_shl 82), (82, i_st2 10 84), (84, i_ll 6 86), (86, i_li 1 87),
  (87, i_li 2 88), (88, i_add 89), (89, l_shl 90), (90, i_ll 8 92),
  (92, i_li 2 93), (93, l_shl 94), (94, l_or 95), (95, i_ll 10 97),
  (97, l_or 98), (98, i_rl)]
def tb_X2_empty : List (Nat × Ins) := [
  (0, i_la 0 1), (1, i_c 0 2), (2, i_pI 1 10 5), (5, i_la 0 6),
  (6, i_c 0 7), (7, i_pI 1 11 10), (10, i_la 0 11), (11, i_c 0 12),
  (12, i_pI 1 12 15), (15, i_rv)]
def tb_X2_copyFrom : List (Nat × Ins) := [
  (0, i_la 1 1), (1, i_gI 1 10 4), (4, i_la 0 5), (5, i_gI 1 0 8),
  (8, i_min 11), (11, i_st 2 12), (12, i_la 0 13), (13, i_li 2 14),
  (14, i_pI 1 10 17), (17, i_la 0 18), (18, i_la 1 19), (19, i_gI 1 11 22),
  (22, i_pI 1 11 25), (25, i_la 0 26), (26, i_la 1 27), (27, i_gI 1 12 30),
  (30, i_pI 1 12 33), (33, i_c 0 34), (34, i_st 3 35), (35, i_li 3 36),
  (36, i_li 2 37), (37, i_ic_ge 142 40), (40, i_la 0 41), (41, i_gR 1 (fun t => (2, t)) 44),
  (44, i_li 3 45), (45, i_la 1 46), (46, i_gR 1 (fun t => (2, t)) 49), (49, i_li 3 50),
  (50, i_ia 51), (51, i_is 52), (52, i_la 0 53), (53, i_gR 1 (fun t => (3, t)) 56),
  (56, i_li 3 57), (57, i_la 1 58), (58, i_gR 1 (fun t => (3, t)) 61), (61, i_li 3 62),
  (62, i_ia 63), (63, i_is 64), (64, i_la 0 65), (65, i_gR 1 (fun t => (4, t)) 68),
  (68, i_li 3 69), (69, i_la 1 70), (70, i_gR 1 (fun t => (4, t)) 73), (73, i_li 3 74),
  (74, i_ia 75), (75, i_is 76), (76, i_la 0 77), (77, i_gR 1 (fun t => (5, t)) 80),
  (80, i_li 3 81), (81, i_la 1 82), (82, i_gR 1 (fun t => (5, t)) 85), (85, i_li 3 86),
  (86, i_ia 87), (87, i_is 88), (88, i_la 0 89), (89, i_gR 1 (fun t => (6, t)) 92),
  (92, i_li 3 93), (93, i_la 1 94), (94, i_gR 1 (fun t => (6, t)) 97), (97, i_li 3 98),
  (98, i_ia 99), (99, i_is 100), (100, i_la 0 101), (101, i_gR 1 (fun t => (7, t)) 104),
  (104, i_li 3 105), (105, i_la 1 106), (106, i_gR 1 (fun t => (7, t)) 109), (109, i_li 3 110),
  (110, i_ia 111), (111, i_is 112), (112, i_la 0 113), (113, i_gR 1 (fun t => (8, t)) 116),
  (116, i_li 3 117), (117, i_la 1 118), (118, i_gR 1 (fun t => (8, t)) 121), (121, i_li 3 122),
  (122, i_ba 123), (123, i_bs 124), (124, i_la 0 125), (125, i_gR 1 (fun t => (9, t)) 128),
  (128, i_li 3 129), (129, i_la 1 130), (130, i_gR 1 (fun t => (9, t)) 133), (133, i_li 3 134),
  (134, i_ba 135), (135, i_bs 136), (136, i_inc 3 1 139), (139, i_go 35),
  (142, i_rv)]
def tb_X2_hasRoom : List (Nat × Ins) := [
  (0, i_la 0 1), (1, i_gI 1 10 4), (4, i_la 0 5), (5, i_gI 1 0 8),
  (8, i_ic_ge 15 11), (11, i_c 1 12), (12, i_go 16), (15, i_c 0 16),
  (16, i_rz)]
def tb_X2_has : List (Nat × Ins) := [
  (0, i_li 1 1), (1, i_if_lt 16 4), (4, i_li 1 5), (5, i_la 0 6),
  (6, i_gI 1 10 9), (9, i_ic_ge 16 12), (12, i_c 1 13), (13, i_go 17),
  (16, i_c 0 17), (17, i_rz)]
def tb_X2_add : List (Nat × Ins) := [
  (0, i_la 0 1), (1, i_cv n_X2_hasRoom 1 1 4), (4, i_if_ne 10 7), (7, i_c (-1000000004) 9),
  (9, i_ri), (10, i_la 0 11), (11, i_gI 1 10 14), (14, i_st 3 15),
  (15, i_la 0 16), (16, i_dup 17), (17, i_gI 1 10 20), (20, i_c 1 21),
  (21, i_add 22), (22, i_pI 1 10 25), (25, i_la 0 26), (26, i_gR 1 (fun t => (2, t)) 29),
  (29, i_li 3 30), (30, i_li 1 31), (31, i_is 32), (32, i_la 0 33),
  (33, i_gR 1 (fun t => (3, t)) 36), (36, i_li 3 37), (37, i_li 2 38), (38, i_is 39),
  (39, i_la 0 40), (40, i_gR 1 (fun t => (4, t)) 43), (43, i_li 3 44), (44, i_c (-1) 45),
  (45, i_is 46), (46, i_la 0 47), (47, i_gR 1 (fun t => (5, t)) 50), (50, i_li 3 51),
  (51, i_c 0 52), (52, i_is 53), (53, i_la 0 54), (54, i_gR 1 (fun t => (6, t)) 57),
  (57, i_li 3 58), (58, i_c (-1) 59), (59, i_is 60), (60, i_la 0 61),
  (61, i_gR 1 (fun t => (8, t)) 64), (64, i_li 3 65), (65, i_c 1 66), (66, i_bs 67),
  (67, i_la 0 68), (68, i_gR 1 (fun t => (9, t)) 71), (71, i_li 3 72), (72, i_c 0 73),
  (73, i_bs 74), (74, i_li 3 75), (75, i_ri)]
def tb_X2_lowerTo : List (Nat × Ins) := [
  (0, i_la 0 1), (1, i_gR 1 (fun t => (3, t)) 4), (4, i_li 1 5), (5, i_li 2 6),
  (6, i_is 7), (7, i_la 0 8), (8, i_gR 1 (fun t => (4, t)) 11), (11, i_li 1 12),
  (12, i_ia 13), (13, i_c (-1) 14), (14, i_ic_eq 42 17), (17, i_la 0 18),
  (18, i_li 1 19), (19, i_la 0 20), (20, i_gR 1 (fun t => (4, t)) 23), (23, i_li 1 24),
  (24, i_ia 25), (25, i_cv n_X2_isSooner 3 1 28), (28, i_if_eq 42 31), (31, i_la 0 32),
  (32, i_gR 1 (fun t => (9, t)) 35), (35, i_li 1 36), (36, i_c 1 37), (37, i_bs 38),
  (38, i_la 0 39), (39, i_cv n_X2_settleAll 1 1 42), (42, i_rv)]
def tb_X2_takeOut : List (Nat × Ins) := [
  (0, i_la 0 1), (1, i_gR 1 (fun t => (4, t)) 4), (4, i_li 1 5), (5, i_ia 6),
  (6, i_c (-1) 7), (7, i_ic_eq 15 10), (10, i_la 0 11), (11, i_li 1 12),
  (12, i_cv n_X2_cutOff 2 1 15), (15, i_la 0 16), (16, i_li 1 17), (17, i_cv n_X2_freeChildren 2 1 20),
  (20, i_la 0 21), (21, i_gR 1 (fun t => (8, t)) 24), (24, i_li 1 25), (25, i_c 0 26),
  (26, i_bs 27), (27, i_la 0 28), (28, i_cv n_X2_settleAll 1 1 31), (31, i_la 0 32),
  (32, i_cv n_X2_joinAll 1 1 35), (35, i_pop 36), (36, i_rv)]
def tb_X2_joinAll : List (Nat × Ins) := [
  (0, i_la 0 1), (1, i_gI 1 11 4), (4, i_st 1 5), (5, i_c 0 6),
  (6, i_st 2 7), (7, i_li 2 8), (8, i_la 0 9), (9, i_gI 1 0 12),
  (12, i_ic_ge 41 15), (15, i_la 0 16), (16, i_c 0 17), (17, i_cv n_X2_findPair 2 1 20),
  (20, i_if_eq 41 23), (23, i_la 0 24), (24, i_la 0 25), (25, i_gI 1 13 28),
  (28, i_la 0 29), (29, i_gI 1 14 32), (32, i_cv n_X2_linkTwo 3 1 35), (35, i_inc 2 1 38),
  (38, i_go 7), (41, i_la 0 42), (42, i_gI 1 11 45), (45, i_li 1 46),
  (46, i_sub 47), (47, i_ri)]
def tb_X2_settleAll : List (Nat × Ins) := [
  (0, i_c 0 1), (1, i_st 1 2), (2, i_li 1 3), (3, i_la 0 4),
  (4, i_gI 1 0 7), (7, i_ic_ge 52 10), (10, i_la 0 11), (11, i_c 1 12),
  (12, i_cv n_X2_findPair 2 1 15), (15, i_if_eq 52 18), (18, i_la 0 19), (19, i_la 0 20),
  (20, i_gI 1 13 23), (23, i_cv n_X2_cutOff 2 1 26), (26, i_la 0 27), (27, i_la 0 28),
  (28, i_gI 1 14 31), (31, i_cv n_X2_cutOff 2 1 34), (34, i_la 0 35), (35, i_la 0 36),
  (36, i_gI 1 13 39), (39, i_la 0 40), (40, i_gI 1 14 43), (43, i_cv n_X2_linkTwo 3 1 46),
  (46, i_inc 1 1 49), (49, i_go 2), (52, i_rv)]
def tb_X2_findPair : List (Nat × Ins) := [
  (0, i_la 0 1), (1, i_gR 1 (fun t => (10, t)) 4), (4, i_c (-1) 5), (5, i_cs n_J7_fill_53178 2 8),
  (8, i_la 0 9), (9, i_gI 1 0 12), (12, i_st 2 13), (13, i_c 0 14),
  (14, i_st 3 15), (15, i_li 3 16), (16, i_la 0 17), (17, i_gI 1 10 20),
  (20, i_ic_ge 108 23), (23, i_li 1 24), (24, i_if_eq 39 27), (27, i_la 0 28),
  (28, i_gR 1 (fun t => (9, t)) 31), (31, i_li 3 32), (32, i_ba 33), (33, i_if_eq 102 36),
  (36, i_go 47), (39, i_la 0 40), (40, i_li 3 41), (41, i_cv n_X2_isRoot 2 1 44),
  (44, i_if_eq 102 47), (47, i_la 0 48), (48, i_gR 1 (fun t => (5, t)) 51), (51, i_li 3 52),
  (52, i_ia 53), (53, i_st 4 55), (55, i_la 0 56), (56, i_gR 1 (fun t => (10, t)) 59),
  (59, i_li 4 61), (61, i_ia 62), (62, i_c (-1) 63), (63, i_ic_ne 77 66),
  (66, i_la 0 67), (67, i_gR 1 (fun t => (10, t)) 70), (70, i_li 4 72), (72, i_li 3 73),
  (73, i_is 74), (74, i_go 102), (77, i_li 4 79), (79, i_li 2 80),
  (80, i_ic_ge 102 83), (83, i_li 4 85), (85, i_st 2 86), (86, i_la 0 87),
  (87, i_la 0 88), (88, i_gR 1 (fun t => (10, t)) 91), (91, i_li 4 93), (93, i_ia 94),
  (94, i_pI 1 13 97), (97, i_la 0 98), (98, i_li 3 99), (99, i_pI 1 14 102),
  (102, i_inc 3 1 105), (105, i_go 15), (108, i_li 2 109), (109, i_la 0 110),
  (110, i_gI 1 0 113), (113, i_ic_ge 120 116), (116, i_c 1 117), (117, i_go 121),
  (120, i_c 0 121), (121, i_rz)]
def tb_X2_linkTwo : List (Nat × Ins) := [
  (0, i_la 0 1), (1, i_li 1 2), (2, i_li 2 3), (3, i_cv n_X2_isSooner 3 1 6),
  (6, i_if_eq 13 9), (9, i_li 1 10), (10, i_go 14), (13, i_li 2 14),
  (14, i_st 3 15), (15, i_li 3 16), (16, i_li 1 17), (17, i_ic_ne 24 20),
  (20, i_li 2 21), (21, i_go 25), (24, i_li 1 25), (25, i_st 4 27),
  (27, i_la 0 28), (28, i_li 3 29), (29, i_c (-1) 30), (30, i_cv n_X2_besideBefore 3 1 33),
  (33, i_st 5 35), (35, i_li 5 37), (37, i_c (-1) 38), (38, i_ic_ne 52 41),
  (41, i_la 0 42), (42, i_gR 1 (fun t => (6, t)) 45), (45, i_li 3 46), (46, i_li 4 48),
  (48, i_is 49), (49, i_go 61), (52, i_la 0 53), (53, i_gR 1 (fun t => (7, t)) 56),
  (56, i_li 5 58), (58, i_li 4 60), (60, i_is 61), (61, i_la 0 62),
  (62, i_gR 1 (fun t => (7, t)) 65), (65, i_li 4 67), (67, i_c (-1) 68), (68, i_is 69),
  (69, i_la 0 70), (70, i_gR 1 (fun t => (4, t)) 73), (73, i_li 4 75), (75, i_li 3 76),
  (76, i_is 77), (77, i_la 0 78), (78, i_gR 1 (fun t => (5, t)) 81), (81, i_li 3 82),
  (82, i_dup2 83), (83, i_ia 84), (84, i_c 1 85), (85, i_add 86),
  (86, i_is 87), (87, i_la 0 88), (88, i_dup 89), (89, i_gI 1 11 92),
  (92, i_c 1 93), (93, i_add 94), (94, i_pI 1 11 97), (97, i_rv)]
def tb_X2_cutOff : List (Nat × Ins) := [
  (0, i_la 0 1), (1, i_gR 1 (fun t => (4, t)) 4), (4, i_li 1 5), (5, i_ia 6),
  (6, i_st 2 7), (7, i_li 2 8), (8, i_c (-1) 9), (9, i_ic_ne 13 12),
  (12, i_rv), (13, i_la 0 14), (14, i_li 2 15), (15, i_li 1 16),
  (16, i_cv n_X2_besideBefore 3 1 19), (19, i_st 3 20), (20, i_li 3 21), (21, i_c (-1) 22),
  (22, i_ic_ne 40 25), (25, i_la 0 26), (26, i_gR 1 (fun t => (6, t)) 29), (29, i_li 2 30),
  (30, i_la 0 31), (31, i_gR 1 (fun t => (7, t)) 34), (34, i_li 1 35), (35, i_ia 36),
  (36, i_is 37), (37, i_go 52), (40, i_la 0 41), (41, i_gR 1 (fun t => (7, t)) 44),
  (44, i_li 3 45), (45, i_la 0 46), (46, i_gR 1 (fun t => (7, t)) 49), (49, i_li 1 50),
  (50, i_ia 51), (51, i_is 52), (52, i_la 0 53), (53, i_gR 1 (fun t => (5, t)) 56),
  (56, i_li 2 57), (57, i_dup2 58), (58, i_ia 59), (59, i_c 1 60),
  (60, i_sub 61), (61, i_is 62), (62, i_la 0 63), (63, i_li 1 64),
  (64, i_cv n_X2_makeRoot 2 1 67), (67, i_la 0 68), (68, i_dup 69), (69, i_gI 1 12 72),
  (72, i_c 1 73), (73, i_add 74), (74, i_pI 1 12 77), (77, i_rv)]
def tb_X2_freeChildren : List (Nat × Ins) := [
  (0, i_la 0 1), (1, i_gR 1 (fun t => (6, t)) 4), (4, i_li 1 5), (5, i_ia 6),
  (6, i_st 2 7), (7, i_c 0 8), (8, i_st 3 9), (9, i_li 3 10),
  (10, i_la 0 11), (11, i_gI 1 0 14), (14, i_ic_ge 44 17), (17, i_li 2 18),
  (18, i_c (-1) 19), (19, i_ic_eq 44 22), (22, i_la 0 23), (23, i_gR 1 (fun t => (7, t)) 26),
  (26, i_li 2 27), (27, i_ia 28), (28, i_st 4 30), (30, i_la 0 31),
  (31, i_li 2 32), (32, i_cv n_X2_makeRoot 2 1 35), (35, i_li 4 37), (37, i_st 2 38),
  (38, i_inc 3 1 41), (41, i_go 9), (44, i_la 0 45), (45, i_gR 1 (fun t => (6, t)) 48),
  (48, i_li 1 49), (49, i_c (-1) 50), (50, i_is 51), (51, i_la 0 52),
  (52, i_gR 1 (fun t => (5, t)) 55), (55, i_li 1 56), (56, i_c 0 57), (57, i_is 58),
  (58, i_rv)]
def tb_X2_makeRoot : List (Nat × Ins) := [
  (0, i_la 0 1), (1, i_gR 1 (fun t => (4, t)) 4), (4, i_li 1 5), (5, i_c (-1) 6),
  (6, i_is 7), (7, i_la 0 8), (8, i_gR 1 (fun t => (9, t)) 11), (11, i_li 1 12),
  (12, i_c 0 13), (13, i_bs 14), (14, i_rv)]
def tb_X2_besideBefore : List (Nat × Ins) := [
  (0, i_c (-1) 1), (1, i_st 3 2), (2, i_la 0 3), (3, i_gR 1 (fun t => (6, t)) 6),
  (6, i_li 1 7), (7, i_ia 8), (8, i_st 4 10), (10, i_c 0 11),
  (11, i_st 5 13), (13, i_li 5 15), (15, i_la 0 16), (16, i_gI 1 0 19),
  (19, i_ic_ge 52 22), (22, i_li 4 24), (24, i_c (-1) 25), (25, i_ic_eq 52 28),
  (28, i_li 4 30), (30, i_li 2 31), (31, i_ic_eq 52 34), (34, i_li 4 36),
  (36, i_st 3 37), (37, i_la 0 38), (38, i_gR 1 (fun t => (7, t)) 41), (41, i_li 4 43),
  (43, i_ia 44), (44, i_st 4 46), (46, i_inc 5 1 49), (49, i_go 13),
  (52, i_li 3 53), (53, i_ri)]
def tb_X2_isSooner : List (Nat × Ins) := [
  (0, i_la 0 1), (1, i_gR 1 (fun t => (3, t)) 4), (4, i_li 1 5), (5, i_ia 6),
  (6, i_la 0 7), (7, i_gR 1 (fun t => (3, t)) 10), (10, i_li 2 11), (11, i_ia 12),
  (12, i_ic_lt 35 15), (15, i_la 0 16), (16, i_gR 1 (fun t => (3, t)) 19), (19, i_li 1 20),
  (20, i_ia 21), (21, i_la 0 22), (22, i_gR 1 (fun t => (3, t)) 25), (25, i_li 2 26),
  (26, i_ia 27), (27, i_ic_ne 39 30), (30, i_li 1 31), (31, i_li 2 32),
  (32, i_ic_ge 39 35), (35, i_c 1 36), (36, i_go 40), (39, i_c 0 40),
  (40, i_rz)]
def tb_X2_isRoot : List (Nat × Ins) := [
  (0, i_la 0 1), (1, i_gR 1 (fun t => (8, t)) 4), (4, i_li 1 5), (5, i_ba 6),
  (6, i_if_eq 23 9), (9, i_la 0 10), (10, i_gR 1 (fun t => (4, t)) 13), (13, i_li 1 14),
  (14, i_ia 15), (15, i_c (-1) 16), (16, i_ic_ne 23 19), (19, i_c 1 20),
  (20, i_go 24), (23, i_c 0 24), (24, i_rz)]
def tb_X2_count : List (Nat × Ins) := [
  (0, i_la 0 1), (1, i_gI 1 10 4), (4, i_ri)]
def tb_X2_links : List (Nat × Ins) := [
  (0, i_la 0 1), (1, i_gI 1 11 4), (4, i_ri)]
def tb_X2_cuts : List (Nat × Ins) := [
  (0, i_la 0 1), (1, i_gI 1 12 4), (4, i_ri)]
def tb_X2_kindOf : List (Nat × Ins) := [
  (0, i_la 0 1), (1, i_gR 1 (fun t => (2, t)) 4), (4, i_li 1 5), (5, i_ia 6),
  (6, i_ri)]
def tb_X2_keyOf : List (Nat × Ins) := [
  (0, i_la 0 1), (1, i_gR 1 (fun t => (3, t)) 4), (4, i_li 1 5), (5, i_ia 6),
  (6, i_ri)]
def tb_X2_aboveOf : List (Nat × Ins) := [
  (0, i_la 0 1), (1, i_gR 1 (fun t => (4, t)) 4), (4, i_li 1 5), (5, i_ia 6),
  (6, i_ri)]
def tb_X2_rankOf : List (Nat × Ins) := [
  (0, i_la 0 1), (1, i_gR 1 (fun t => (5, t)) 4), (4, i_li 1 5), (5, i_ia 6),
  (6, i_ri)]
def tb_X2_isStanding : List (Nat × Ins) := [
  (0, i_la 0 1), (1, i_gR 1 (fun t => (8, t)) 4), (4, i_li 1 5), (5, i_ba 6),
  (6, i_rz)]
def tb_X2_isLoose : List (Nat × Ins) := [
  (0, i_la 0 1), (1, i_gR 1 (fun t => (9, t)) 4), (4, i_li 1 5), (5, i_ba 6),
  (6, i_rz)]
def tb_X2_soonest : List (Nat × Ins) := [
  (0, i_c (-1) 1), (1, i_st 1 2), (2, i_c 0 3), (3, i_st 2 4),
  (4, i_li 2 5), (5, i_la 0 6), (6, i_gI 1 10 9), (9, i_ic_ge 43 12),
  (12, i_la 0 13), (13, i_gR 1 (fun t => (8, t)) 16), (16, i_li 2 17), (17, i_ba 18),
  (18, i_if_eq 37 21), (21, i_li 1 22), (22, i_c (-1) 23), (23, i_ic_eq 35 26),
  (26, i_la 0 27), (27, i_li 2 28), (28, i_li 1 29), (29, i_cv n_X2_isSooner 3 1 32),
  (32, i_if_eq 37 35), (35, i_li 2 36), (36, i_st 1 37), (37, i_inc 2 1 40),
  (40, i_go 4), (43, i_li 1 44), (44, i_ri)]
def tb_X2_standingCount : List (Nat × Ins) := [
  (0, i_c 0 1), (1, i_st 1 2), (2, i_c 0 3), (3, i_st 2 4),
  (4, i_li 2 5), (5, i_la 0 6), (6, i_gI 1 10 9), (9, i_ic_ge 30 12),
  (12, i_la 0 13), (13, i_gR 1 (fun t => (8, t)) 16), (16, i_li 2 17), (17, i_ba 18),
  (18, i_if_eq 24 21), (21, i_inc 1 1 24), (24, i_inc 2 1 27), (27, i_go 4),
  (30, i_li 1 31), (31, i_ri)]
def tb_X2_standingAt : List (Nat × Ins) := [
  (0, i_li 1 1), (1, i_st 2 2), (2, i_c 0 3), (3, i_st 3 4),
  (4, i_li 3 5), (5, i_la 0 6), (6, i_gI 1 10 9), (9, i_ic_ge 36 12),
  (12, i_la 0 13), (13, i_gR 1 (fun t => (8, t)) 16), (16, i_li 3 17), (17, i_ba 18),
  (18, i_if_eq 30 21), (21, i_li 2 22), (22, i_if_ne 27 25), (25, i_li 3 26),
  (26, i_ri), (27, i_inc 2 (-1) 30), (30, i_inc 3 1 33), (33, i_go 4),
  (36, i_c (-1) 37), (37, i_ri)]
def tb_X2_rootCount : List (Nat × Ins) := [
  (0, i_c 0 1), (1, i_st 1 2), (2, i_c 0 3), (3, i_st 2 4),
  (4, i_li 2 5), (5, i_la 0 6), (6, i_gI 1 10 9), (9, i_ic_ge 29 12),
  (12, i_la 0 13), (13, i_li 2 14), (14, i_cv n_X2_isRoot 2 1 17), (17, i_if_eq 23 20),
  (20, i_inc 1 1 23), (23, i_inc 2 1 26), (26, i_go 4), (29, i_li 1 30),
  (30, i_ri)]
def tb_X2_looseCount : List (Nat × Ins) := [
  (0, i_c 0 1), (1, i_st 1 2), (2, i_c 0 3), (3, i_st 2 4),
  (4, i_li 2 5), (5, i_la 0 6), (6, i_gI 1 10 9), (9, i_ic_ge 30 12),
  (12, i_la 0 13), (13, i_gR 1 (fun t => (9, t)) 16), (16, i_li 2 17), (17, i_ba 18),
  (18, i_if_eq 24 21), (21, i_inc 1 1 24), (24, i_inc 2 1 27), (27, i_go 4),
  (30, i_li 1 31), (31, i_ri)]
def tb_X2_looseOfRank : List (Nat × Ins) := [
  (0, i_c 0 1), (1, i_st 2 2), (2, i_li 2 3), (3, i_la 0 4),
  (4, i_gI 1 10 7), (7, i_ic_ge 37 10), (10, i_la 0 11), (11, i_gR 1 (fun t => (9, t)) 14),
  (14, i_li 2 15), (15, i_ba 16), (16, i_if_eq 31 19), (19, i_la 0 20),
  (20, i_gR 1 (fun t => (5, t)) 23), (23, i_li 2 24), (24, i_ia 25), (25, i_li 1 26),
  (26, i_ic_ne 31 29), (29, i_li 2 30), (30, i_ri), (31, i_inc 2 1 34),
  (34, i_go 2), (37, i_c (-1) 38), (38, i_ri)]
def tb_X2_greatestRank : List (Nat × Ins) := [
  (0, i_c (-1) 1), (1, i_st 1 2), (2, i_c 0 3), (3, i_st 2 4),
  (4, i_li 2 5), (5, i_la 0 6), (6, i_gI 1 10 9), (9, i_ic_ge 38 12),
  (12, i_la 0 13), (13, i_gR 1 (fun t => (8, t)) 16), (16, i_li 2 17), (17, i_ba 18),
  (18, i_if_eq 32 21), (21, i_li 1 22), (22, i_la 0 23), (23, i_gR 1 (fun t => (5, t)) 26),
  (26, i_li 2 27), (27, i_ia 28), (28, i_max 31), (31, i_st 1 32),
  (32, i_inc 2 1 35), (35, i_go 4), (38, i_li 1 39), (39, i_ri)]
def tb_X2_longestRow : List (Nat × Ins) := [
  (0, i_c 0 1), (1, i_st 1 2), (2, i_c 0 3), (3, i_st 2 4),
  (4, i_li 2 5), (5, i_la 0 6), (6, i_gI 1 10 9), (9, i_ic_ge 39 12),
  (12, i_la 0 13), (13, i_gR 1 (fun t => (8, t)) 16), (16, i_li 2 17), (17, i_ba 18),
  (18, i_if_eq 33 21), (21, i_li 1 22), (22, i_la 0 23), (23, i_li 2 24),
  (24, i_cv n_X2_depthOf 2 1 27), (27, i_c 1 28), (28, i_add 29), (29, i_max 32),
  (32, i_st 1 33), (33, i_inc 2 1 36), (36, i_go 4), (39, i_li 1 40),
  (40, i_ri)]
def tb_X2_depthOf : List (Nat × Ins) := [
  (0, i_c 0 1), (1, i_st 2 2), (2, i_la 0 3), (3, i_gR 1 (fun t => (4, t)) 6),
  (6, i_li 1 7), (7, i_ia 8), (8, i_st 3 9), (9, i_li 2 10),
  (10, i_la 0 11), (11, i_gI 1 0 14), (14, i_ic_ge 35 17), (17, i_li 3 18),
  (18, i_c (-1) 19), (19, i_ic_eq 35 22), (22, i_inc 2 1 25), (25, i_la 0 26),
  (26, i_gR 1 (fun t => (4, t)) 29), (29, i_li 3 30), (30, i_ia 31), (31, i_st 3 32),
  (32, i_go 9), (35, i_li 2 36), (36, i_ri)]
def tb_X2_sizeOf : List (Nat × Ins) := [
  (0, i_c 0 1), (1, i_st 2 2), (2, i_c 0 3), (3, i_st 3 4),
  (4, i_li 3 5), (5, i_la 0 6), (6, i_gI 1 10 9), (9, i_ic_ge 39 12),
  (12, i_la 0 13), (13, i_gR 1 (fun t => (8, t)) 16), (16, i_li 3 17), (17, i_ba 18),
  (18, i_if_eq 33 21), (21, i_la 0 22), (22, i_li 3 23), (23, i_li 1 24),
  (24, i_cv n_X2_isWithin 3 1 27), (27, i_if_eq 33 30), (30, i_inc 2 1 33), (33, i_inc 3 1 36),
  (36, i_go 4), (39, i_li 2 40), (40, i_ri)]
def tb_X2_isWithin : List (Nat × Ins) := [
  (0, i_li 1 1), (1, i_st 3 2), (2, i_c 0 3), (3, i_st 4 5),
  (5, i_li 4 7), (7, i_la 0 8), (8, i_gI 1 0 11), (11, i_ic_ge 37 14),
  (14, i_li 3 15), (15, i_c (-1) 16), (16, i_ic_eq 37 19), (19, i_li 3 20),
  (20, i_li 2 21), (21, i_ic_eq 37 24), (24, i_la 0 25), (25, i_gR 1 (fun t => (4, t)) 28),
  (28, i_li 3 29), (29, i_ia 30), (30, i_st 3 31), (31, i_inc 4 1 34),
  (34, i_go 5), (37, i_li 3 38), (38, i_li 2 39), (39, i_ic_ne 46 42),
  (42, i_c 1 43), (43, i_go 47), (46, i_c 0 47), (47, i_rz)]
def tb_X2_childAt : List (Nat × Ins) := [
  (0, i_li 2 1), (1, i_la 0 2), (2, i_gR 1 (fun t => (5, t)) 5), (5, i_li 1 6),
  (6, i_ia 7), (7, i_ic_lt 12 10), (10, i_c (-1) 11), (11, i_ri),
  (12, i_la 0 13), (13, i_gR 1 (fun t => (6, t)) 16), (16, i_li 1 17), (17, i_ia 18),
  (18, i_st 3 19), (19, i_c 0 20), (20, i_st 4 22), (22, i_li 4 24),
  (24, i_li 2 25), (25, i_ic_ge 46 28), (28, i_li 3 29), (29, i_c (-1) 30),
  (30, i_ic_eq 46 33), (33, i_la 0 34), (34, i_gR 1 (fun t => (7, t)) 37), (37, i_li 3 38),
  (38, i_ia 39), (39, i_st 3 40), (40, i_inc 4 1 43), (43, i_go 22),
  (46, i_li 3 47), (47, i_ri)]
def tb_X2_sumOfKeys : List (Nat × Ins) := [
  (0, i_c 0 1), (1, i_st 1 2), (2, i_c 0 3), (3, i_st 2 4),
  (4, i_li 2 5), (5, i_la 0 6), (6, i_gI 1 10 9), (9, i_ic_ge 36 12),
  (12, i_la 0 13), (13, i_gR 1 (fun t => (8, t)) 16), (16, i_li 2 17), (17, i_ba 18),
  (18, i_if_eq 30 21), (21, i_li 1 22), (22, i_la 0 23), (23, i_gR 1 (fun t => (3, t)) 26),
  (26, i_li 2 27), (27, i_ia 28), (28, i_add 29), (29, i_st 1 30),
  (30, i_inc 2 1 33), (33, i_go 4), (36, i_li 1 37), (37, i_ri)]
def tb_X3_isKept : List (Nat × Ins) := [
  (0, i_la 0 1), (1, i_gI 2 2 4), (4, i_rz)]
def tb_X3_store : List (Nat × Ins) := [
  (0, i_la 0 1), (1, i_gR 2 (fun t => (1, t + 1)) 4), (4, i_la 1 5), (5, i_cv n_X2_copyFrom 2 1 8),
  (8, i_la 0 9), (9, i_gR 2 (fun t => (11, t + 1)) 12), (12, i_la 2 13), (13, i_cv n_X0_copyFrom 2 0 16),
  (16, i_la 0 17), (17, i_c 1 18), (18, i_pZ 2 2 21), (21, i_rv)]
def tb_X3_restore : List (Nat × Ins) := [
  (0, i_la 1 1), (1, i_la 0 2), (2, i_gR 2 (fun t => (1, t + 1)) 5), (5, i_cv n_X2_copyFrom 2 1 8),
  (8, i_la 2 9), (9, i_la 0 10), (10, i_gR 2 (fun t => (11, t + 1)) 13), (13, i_cv n_X0_copyFrom 2 0 16),
  (16, i_rv)]
def tb_X4_begin : List (Nat × Ins) := [
  (0, i_la 0 1), (1, i_li 1 2), (2, i_2l 3), (3, i_pL 3 0 6),
  (6, i_rv)]
def tb_X4_draw : List (Nat × Ins) := [
  (0, i_la 0 1), (1, i_la 0 2), (2, i_gL 3 0 5), (5, i_cl 16807 8),
  (8, l_mul 9), (9, i_cl 2147483647 12), (12, l_rem 13), (13, i_pL 3 0 16),
  (16, i_li 1 17), (17, i_c 1 18), (18, i_ic_ge 25 21), (21, i_c 0 22),
  (22, i_go 33), (25, i_la 0 26), (26, i_gL 3 0 29), (29, i_li 1 30),
  (30, i_2l 31), (31, l_rem 32), (32, l_2i 33), (33, i_ri)]
def tb_X5_layOut : List (Nat × Ins) := [
  (0, i_la 0 1), (1, i_li 1 2), (2, i_pI 4 5 5), (5, i_la 0 6),
  (6, i_c 0 7), (7, i_pI 4 6 10), (10, i_rv)]
def tb_X5_hasRoom : List (Nat × Ins) := [
  (0, i_la 0 1), (1, i_gI 4 6 4), (4, i_c 14 6), (6, i_ic_ge 13 9),
  (9, i_c 1 10), (10, i_go 14), (13, i_c 0 14), (14, i_rz)]
def tb_X5_hasPlace : List (Nat × Ins) := [
  (0, i_li 1 1), (1, i_if_lt 16 4), (4, i_li 1 5), (5, i_la 0 6),
  (6, i_gI 4 5 9), (9, i_ic_ge 16 12), (12, i_c 1 13), (13, i_go 17),
  (16, i_c 0 17), (17, i_rz)]
def tb_X5_add : List (Nat × Ins) := [
  (0, i_la 0 1), (1, i_cv n_X5_hasRoom 1 4 4), (4, i_if_ne 10 7), (7, i_c (-1000000004) 9),
  (9, i_ri), (10, i_la 0 11), (11, i_gI 4 6 14), (14, i_st 4 16),
  (16, i_la 0 17), (17, i_dup 18), (18, i_gI 4 6 21), (21, i_c 1 22),
  (22, i_add 23), (23, i_pI 4 6 26), (26, i_la 0 27), (27, i_gR 4 (fun _ => (14, 0)) 30),
  (30, i_li 4 32), (32, i_li 1 33), (33, i_is 34), (34, i_la 0 35),
  (35, i_gR 4 (fun _ => (15, 0)) 38), (38, i_li 4 40), (40, i_li 2 41), (41, i_is 42),
  (42, i_la 0 43), (43, i_gR 4 (fun _ => (16, 0)) 46), (46, i_li 4 48), (48, i_li 3 49),
  (49, i_is 50), (50, i_li 4 52), (52, i_ri)]
def tb_X5_places : List (Nat × Ins) := [
  (0, i_la 0 1), (1, i_gI 4 5 4), (4, i_ri)]
def tb_X5_count : List (Nat × Ins) := [
  (0, i_la 0 1), (1, i_gI 4 6 4), (4, i_ri)]
def tb_X5_grow : List (Nat × Ins) := [
  (0, i_la 0 1), (1, i_li 1 2), (2, i_cv n_X5_begin 2 4 5), (5, i_c 0 6),
  (6, i_st 3 7), (7, i_li 3 8), (8, i_la 0 9), (9, i_gI 4 5 12),
  (12, i_ic_ge 78 15), (15, i_la 0 16), (16, i_gR 4 (fun _ => (1, 3)) 19), (19, i_cv n_X2_soonest 1 1 22),
  (22, i_st 4 24), (24, i_li 4 26), (26, i_c (-1) 27), (27, i_ic_ne 31 30),
  (30, i_rv), (31, i_la 0 32), (32, i_gR 4 (fun _ => (1, 3)) 35), (35, i_li 4 37),
  (37, i_cv n_X2_takeOut 2 1 40), (40, i_la 0 41), (41, i_li 4 43), (43, i_cv n_X5_isReached 2 4 46),
  (46, i_if_eq 72 49), (49, i_la 0 50), (50, i_li 4 52), (52, i_li 2 53),
  (53, i_if_eq 68 56), (56, i_la 0 57), (57, i_gR 4 (fun _ => (1, 3)) 60), (60, i_li 4 62),
  (62, i_cv n_X2_keyOf 2 1 65), (65, i_go 69), (68, i_c 0 69), (69, i_cv n_X5_spread 3 4 72),
  (72, i_inc 3 1 75), (75, i_go 7), (78, i_rv)]
def tb_X5_begin : List (Nat × Ins) := [
  (0, i_la 0 1), (1, i_c 0 2), (2, i_pI 4 7 5), (5, i_la 0 6),
  (6, i_gR 4 (fun _ => (1, 3)) 9), (9, i_cv n_X2_empty 1 1 12), (12, i_la 0 13), (13, i_gR 4 (fun _ => (17, 0)) 16),
  (16, i_c (-1) 17), (17, i_cs n_J7_fill_53178 2 20), (20, i_c 0 21), (21, i_st 2 22),
  (22, i_li 2 23), (23, i_la 0 24), (24, i_gI 4 5 27), (27, i_ic_ge 57 30),
  (30, i_la 0 31), (31, i_gR 4 (fun _ => (1, 3)) 34), (34, i_c 0 35), (35, i_li 2 36),
  (36, i_li 1 37), (37, i_ic_ne 44 40), (40, i_c 0 41), (41, i_go 47),
  (44, i_c 9999 47), (47, i_cv n_X2_add 3 1 50), (50, i_pop 51), (51, i_inc 2 1 54),
  (54, i_go 22), (57, i_rv)]
def tb_X5_spread : List (Nat × Ins) := [
  (0, i_c 0 1), (1, i_st 3 2), (2, i_li 3 3), (3, i_la 0 4),
  (4, i_gI 4 6 7), (7, i_ic_ge 95 10), (10, i_la 0 11), (11, i_li 3 12),
  (12, i_li 1 13), (13, i_cv n_X5_acrossFrom 3 4 16), (16, i_st 4 18), (18, i_li 2 19),
  (19, i_la 0 20), (20, i_gR 4 (fun _ => (16, 0)) 23), (23, i_li 3 24), (24, i_ia 25),
  (25, i_add 26), (26, i_st 5 28), (28, i_li 4 30), (30, i_c (-1) 31),
  (31, i_ic_eq 89 34), (34, i_la 0 35), (35, i_gR 4 (fun _ => (1, 3)) 38), (38, i_li 4 40),
  (40, i_cv n_X2_isStanding 2 1 43), (43, i_if_eq 89 46), (46, i_li 5 48), (48, i_la 0 49),
  (49, i_gR 4 (fun _ => (1, 3)) 52), (52, i_li 4 54), (54, i_cv n_X2_keyOf 2 1 57), (57, i_ic_ge 89 60),
  (60, i_la 0 61), (61, i_gR 4 (fun _ => (1, 3)) 64), (64, i_li 4 66), (66, i_li 5 68),
  (68, i_cv n_X2_lowerTo 3 1 71), (71, i_la 0 72), (72, i_gR 4 (fun _ => (17, 0)) 75), (75, i_li 4 77),
  (77, i_li 3 78), (78, i_is 79), (79, i_la 0 80), (80, i_dup 81),
  (81, i_gI 4 7 84), (84, i_c 1 85), (85, i_add 86), (86, i_pI 4 7 89),
  (89, i_inc 3 1 92), (92, i_go 2), (95, i_rv)]
def tb_X5_acrossFrom : List (Nat × Ins) := [
  (0, i_la 0 1), (1, i_gR 4 (fun _ => (14, 0)) 4), (4, i_li 1 5), (5, i_ia 6),
  (6, i_li 2 7), (7, i_ic_ne 17 10), (10, i_la 0 11), (11, i_gR 4 (fun _ => (15, 0)) 14),
  (14, i_li 1 15), (15, i_ia 16), (16, i_ri), (17, i_la 0 18),
  (18, i_gR 4 (fun _ => (15, 0)) 21), (21, i_li 1 22), (22, i_ia 23), (23, i_li 2 24),
  (24, i_ic_ne 36 27), (27, i_la 0 28), (28, i_gR 4 (fun _ => (14, 0)) 31), (31, i_li 1 32),
  (32, i_ia 33), (33, i_go 37), (36, i_c (-1) 37), (37, i_ri)]
def tb_X5_isReached : List (Nat × Ins) := [
  (0, i_la 0 1), (1, i_gR 4 (fun _ => (1, 3)) 4), (4, i_li 1 5), (5, i_cv n_X2_keyOf 2 1 8),
  (8, i_c 9999 11), (11, i_ic_ge 18 14), (14, i_c 1 15), (15, i_go 19),
  (18, i_c 0 19), (19, i_rz)]
def tb_X5_weightOfTree : List (Nat × Ins) := [
  (0, i_c 0 1), (1, i_st 1 2), (2, i_c 0 3), (3, i_st 2 4),
  (4, i_li 2 5), (5, i_la 0 6), (6, i_gI 4 5 9), (9, i_ic_ge 42 12),
  (12, i_la 0 13), (13, i_gR 4 (fun _ => (17, 0)) 16), (16, i_li 2 17), (17, i_ia 18),
  (18, i_c (-1) 19), (19, i_ic_eq 36 22), (22, i_li 1 23), (23, i_la 0 24),
  (24, i_gR 4 (fun _ => (16, 0)) 27), (27, i_la 0 28), (28, i_gR 4 (fun _ => (17, 0)) 31), (31, i_li 2 32),
  (32, i_ia 33), (33, i_ia 34), (34, i_add 35), (35, i_st 1 36),
  (36, i_inc 2 1 39), (39, i_go 4), (42, i_li 1 43), (43, i_ri)]
def tb_X5_roadsOfTree : List (Nat × Ins) := [
  (0, i_c 0 1), (1, i_st 1 2), (2, i_c 0 3), (3, i_st 2 4),
  (4, i_li 2 5), (5, i_la 0 6), (6, i_gI 4 5 9), (9, i_ic_ge 39 12),
  (12, i_la 0 13), (13, i_gR 4 (fun _ => (17, 0)) 16), (16, i_li 2 17), (17, i_ia 18),
  (18, i_c (-1) 19), (19, i_ic_eq 33 22), (22, i_li 1 23), (23, i_c 1 24),
  (24, i_la 0 25), (25, i_gR 4 (fun _ => (17, 0)) 28), (28, i_li 2 29), (29, i_ia 30),
  (30, i_shl 31), (31, i_or 32), (32, i_st 1 33), (33, i_inc 2 1 36),
  (36, i_go 4), (39, i_li 1 40), (40, i_ri)]
def tb_X5_links : List (Nat × Ins) := [
  (0, i_la 0 1), (1, i_gR 4 (fun _ => (1, 3)) 4), (4, i_cv n_X2_links 1 1 7), (7, i_ri)]
def tb_X5_cuts : List (Nat × Ins) := [
  (0, i_la 0 1), (1, i_gR 4 (fun _ => (1, 3)) 4), (4, i_cv n_X2_cuts 1 1 7), (7, i_ri)]
def tb_X5_lowerings : List (Nat × Ins) := [
  (0, i_la 0 1), (1, i_gI 4 7 4), (4, i_ri)]
def tb_X5_distanceTo : List (Nat × Ins) := [
  (0, i_la 0 1), (1, i_li 1 2), (2, i_cv n_X5_isReached 2 4 5), (5, i_if_eq 19 8),
  (8, i_la 0 9), (9, i_gR 4 (fun _ => (1, 3)) 12), (12, i_li 1 13), (13, i_cv n_X2_keyOf 2 1 16),
  (16, i_go 20), (19, i_c (-1) 20), (20, i_ri)]
def tb_X5_reachedCount : List (Nat × Ins) := [
  (0, i_c 0 1), (1, i_st 1 2), (2, i_c 0 3), (3, i_st 2 4),
  (4, i_li 2 5), (5, i_la 0 6), (6, i_gI 4 5 9), (9, i_ic_ge 29 12),
  (12, i_la 0 13), (13, i_li 2 14), (14, i_cv n_X5_isReached 2 4 17), (17, i_if_eq 23 20),
  (20, i_inc 1 1 23), (23, i_inc 2 1 26), (26, i_go 4), (29, i_li 1 30),
  (30, i_ri)]
def tb_X6_put : List (Nat × Ins) := [
  (0, i_li 1 1), (1, i_c 0 2), (2, i_c 1 3), (3, i_cs n_X6_between 3 6),
  (6, i_if_eq 16 9), (9, i_li 2 10), (10, i_cs n_X6_isKey 1 13), (13, i_if_ne 19 16),
  (16, i_c (-1000000002) 18), (18, i_ri), (19, i_la 0 20), (20, i_gR 5 (fun _ => (1, 0)) 23),
  (23, i_cv n_X2_hasRoom 1 1 26), (26, i_if_ne 32 29), (29, i_c (-1000000004) 31), (31, i_ri),
  (32, i_la 0 33), (33, i_gR 5 (fun _ => (1, 0)) 36), (36, i_li 1 37), (37, i_li 2 38),
  (38, i_cv n_X2_add 3 1 41), (41, i_ri)]
def tb_X6_lower : List (Nat × Ins) := [
  (0, i_la 0 1), (1, i_gR 5 (fun _ => (1, 0)) 4), (4, i_li 1 5), (5, i_cv n_X2_has 2 1 8),
  (8, i_if_ne 14 11), (11, i_c (-1000000001) 13), (13, i_ri), (14, i_li 2 15),
  (15, i_cs n_X6_isKey 1 18), (18, i_if_ne 24 21), (21, i_c (-1000000002) 23), (23, i_ri),
  (24, i_la 0 25), (25, i_gR 5 (fun _ => (1, 0)) 28), (28, i_li 1 29), (29, i_cv n_X2_isStanding 2 1 32),
  (32, i_if_eq 47 35), (35, i_li 2 36), (36, i_la 0 37), (37, i_gR 5 (fun _ => (1, 0)) 40),
  (40, i_li 1 41), (41, i_cv n_X2_keyOf 2 1 44), (44, i_ic_lt 50 47), (47, i_c (-1000000003) 49),
  (49, i_ri), (50, i_la 0 51), (51, i_gR 5 (fun _ => (1, 0)) 54), (54, i_li 1 55),
  (55, i_li 2 56), (56, i_cv n_X2_lowerTo 3 1 59), (59, i_la 0 60), (60, i_gR 5 (fun _ => (1, 0)) 63),
  (63, i_li 1 64), (64, i_cv n_X2_isLoose 2 1 67), (67, i_cs n_X6_flag 1 70), (70, i_ri)]
def tb_X6_take : List (Nat × Ins) := [
  (0, i_la 0 1), (1, i_gR 5 (fun _ => (1, 0)) 4), (4, i_cv n_X2_soonest 1 1 7), (7, i_st 1 8),
  (8, i_li 1 9), (9, i_c (-1) 10), (10, i_ic_ne 16 13), (13, i_c (-1000000003) 15),
  (15, i_ri), (16, i_la 0 17), (17, i_gR 5 (fun _ => (1, 0)) 20), (20, i_li 1 21),
  (21, i_cv n_X2_takeOut 2 1 24), (24, i_li 1 25), (25, i_ri)]
def tb_X6_drop : List (Nat × Ins) := [
  (0, i_la 0 1), (1, i_gR 5 (fun _ => (1, 0)) 4), (4, i_li 1 5), (5, i_cv n_X2_has 2 1 8),
  (8, i_if_ne 14 11), (11, i_c (-1000000001) 13), (13, i_ri), (14, i_la 0 15),
  (15, i_gR 5 (fun _ => (1, 0)) 18), (18, i_li 1 19), (19, i_cv n_X2_isStanding 2 1 22), (22, i_if_ne 28 25),
  (25, i_c (-1000000003) 27), (27, i_ri), (28, i_la 0 29), (29, i_gR 5 (fun _ => (1, 0)) 32),
  (32, i_li 1 33), (33, i_cv n_X2_takeOut 2 1 36), (36, i_la 0 37), (37, i_gR 5 (fun _ => (1, 0)) 40),
  (40, i_cv n_X2_standingCount 1 1 43), (43, i_ri)]
def tb_X6_join : List (Nat × Ins) := [
  (0, i_la 0 1), (1, i_gR 5 (fun _ => (1, 0)) 4), (4, i_cv n_X2_joinAll 1 1 7), (7, i_ri)]
def tb_X6_clear : List (Nat × Ins) := [
  (0, i_la 0 1), (1, i_gR 5 (fun _ => (1, 0)) 4), (4, i_cv n_X2_count 1 1 7), (7, i_st 1 8),
  (8, i_la 0 9), (9, i_gR 5 (fun _ => (1, 0)) 12), (12, i_cv n_X2_empty 1 1 15), (15, i_la 0 16),
  (16, i_gR 5 (fun _ => (11, 0)) 19), (19, i_cv n_X0_empty 1 0 22), (22, i_li 1 23), (23, i_ri)]
def tb_X6_drift : List (Nat × Ins) := [
  (0, i_li 1 1), (1, i_c 1 2), (2, i_c 40 4), (4, i_cs n_X6_between 3 7),
  (7, i_if_eq 20 10), (10, i_li 2 11), (11, i_c 1 12), (12, i_c 999999 14),
  (14, i_cs n_X6_between 3 17), (17, i_if_ne 23 20), (20, i_c (-1000000002) 22), (22, i_ri),
  (23, i_la 0 24), (24, i_gR 5 (fun _ => (18, 0)) 27), (27, i_li 2 28), (28, i_cv n_X4_begin 2 3 31),
  (31, i_c 0 32), (32, i_st 3 33), (33, i_li 3 34), (34, i_li 1 35),
  (35, i_ic_ge 48 38), (38, i_la 0 39), (39, i_cv n_X6_driftOnce 1 5 42), (42, i_inc 3 1 45),
  (45, i_go 33), (48, i_la 0 49), (49, i_gR 5 (fun _ => (1, 0)) 52), (52, i_cv n_X2_standingCount 1 1 55),
  (55, i_ri)]
def tb_X6_told : List (Nat × Ins) := [
  (0, i_li 1 1), (1, i_sw [(0, 60), (1, 68), (2, 76), (3, 84), (4, 92), (5, 100), (6, 108), (7, 116), (8, 124), (9, 132), (10, 140)] 148), (60, i_la 0 61), (61, i_gR 5 (fun _ => (1, 0)) 64),
  (64, i_cv n_X2_count 1 1 67), (67, i_ri), (68, i_la 0 69), (69, i_gR 5 (fun _ => (1, 0)) 72),
  (72, i_cv n_X2_standingCount 1 1 75), (75, i_ri), (76, i_la 0 77), (77, i_gR 5 (fun _ => (1, 0)) 80),
  (80, i_cv n_X2_soonest 1 1 83), (83, i_ri), (84, i_la 0 85), (85, i_gR 5 (fun _ => (1, 0)) 88),
  (88, i_cv n_X2_rootCount 1 1 91), (91, i_ri), (92, i_la 0 93), (93, i_gR 5 (fun _ => (1, 0)) 96),
  (96, i_cv n_X2_looseCount 1 1 99), (99, i_ri), (100, i_la 0 101), (101, i_gR 5 (fun _ => (1, 0)) 104),
  (104, i_cv n_X2_greatestRank 1 1 107), (107, i_ri), (108, i_la 0 109), (109, i_gR 5 (fun _ => (1, 0)) 112),
  (112, i_cv n_X2_links 1 1 115), (115, i_ri), (116, i_la 0 117), (117, i_gR 5 (fun _ => (1, 0)) 120),
  (120, i_cv n_X2_cuts 1 1 123), (123, i_ri), (124, i_la 0 125), (125, i_gR 5 (fun _ => (1, 0)) 128),
  (128, i_cv n_X2_longestRow 1 1 131), (131, i_ri), (132, i_la 0 133), (133, i_gR 5 (fun _ => (13, 0)) 136),
  (136, i_cv n_X5_places 1 4 139), (139, i_ri), (140, i_la 0 141), (141, i_gR 5 (fun _ => (13, 0)) 144),
  (144, i_cv n_X5_count 1 4 147), (147, i_ri), (148, i_c (-1000000002) 150), (150, i_ri)]
def tb_X6_job : List (Nat × Ins) := [
  (0, i_la 0 1), (1, i_gR 5 (fun _ => (1, 0)) 4), (4, i_li 1 5), (5, i_cv n_X2_has 2 1 8),
  (8, i_if_ne 14 11), (11, i_c (-1000000001) 13), (13, i_ri), (14, i_li 2 15),
  (15, i_sw [(0, 64), (1, 73), (2, 82), (3, 94), (4, 103), (5, 112), (6, 124), (7, 133), (8, 142)] 159), (64, i_la 0 65), (65, i_gR 5 (fun _ => (1, 0)) 68), (68, i_li 1 69),
  (69, i_cv n_X2_kindOf 2 1 72), (72, i_ri), (73, i_la 0 74), (74, i_gR 5 (fun _ => (1, 0)) 77),
  (77, i_li 1 78), (78, i_cv n_X2_keyOf 2 1 81), (81, i_ri), (82, i_la 0 83),
  (83, i_gR 5 (fun _ => (1, 0)) 86), (86, i_li 1 87), (87, i_cv n_X2_isStanding 2 1 90), (90, i_cs n_X6_flag 1 93),
  (93, i_ri), (94, i_la 0 95), (95, i_gR 5 (fun _ => (1, 0)) 98), (98, i_li 1 99),
  (99, i_cv n_X2_aboveOf 2 1 102), (102, i_ri), (103, i_la 0 104), (104, i_gR 5 (fun _ => (1, 0)) 107),
  (107, i_li 1 108), (108, i_cv n_X2_rankOf 2 1 111), (111, i_ri), (112, i_la 0 113),
  (113, i_gR 5 (fun _ => (1, 0)) 116), (116, i_li 1 117), (117, i_cv n_X2_isLoose 2 1 120), (120, i_cs n_X6_flag 1 123),
  (123, i_ri), (124, i_la 0 125), (125, i_gR 5 (fun _ => (1, 0)) 128), (128, i_li 1 129),
  (129, i_cv n_X2_depthOf 2 1 132), (132, i_ri), (133, i_la 0 134), (134, i_gR 5 (fun _ => (1, 0)) 137),
  (137, i_li 1 138), (138, i_cv n_X2_sizeOf 2 1 141), (141, i_ri), (142, i_la 0 143),
  (143, i_gR 5 (fun _ => (1, 0)) 146), (146, i_li 1 147), (147, i_cv n_X2_keyOf 2 1 150), (150, i_c 8 152),
  (152, i_c 23 154), (154, i_cs n_X1_bitsOf 3 157), (157, l_2i 158), (158, i_ri),
  (159, i_c (-1000000002) 161), (161, i_ri)]
def tb_X6_child : List (Nat × Ins) := [
  (0, i_la 0 1), (1, i_gR 5 (fun _ => (1, 0)) 4), (4, i_li 1 5), (5, i_cv n_X2_has 2 1 8),
  (8, i_if_ne 14 11), (11, i_c (-1000000001) 13), (13, i_ri), (14, i_li 2 15),
  (15, i_if_ge 21 18), (18, i_c (-1000000002) 20), (20, i_ri), (21, i_la 0 22),
  (22, i_gR 5 (fun _ => (1, 0)) 25), (25, i_li 1 26), (26, i_li 2 27), (27, i_cv n_X2_childAt 3 1 30),
  (30, i_ri)]
def tb_X6_loose : List (Nat × Ins) := [
  (0, i_li 1 1), (1, i_if_ge 7 4), (4, i_c (-1000000002) 6), (6, i_ri),
  (7, i_la 0 8), (8, i_gR 5 (fun _ => (1, 0)) 11), (11, i_li 1 12), (12, i_cv n_X2_looseOfRank 2 1 15),
  (15, i_ri)]
def tb_X6_bits : List (Nat × Ins) := [
  (0, i_la 0 1), (1, i_gR 5 (fun _ => (1, 0)) 4), (4, i_cv n_X2_sumOfKeys 1 1 7), (7, i_c 11 9),
  (9, i_c 52 11), (11, i_cs n_X1_bitsOf 3 14), (14, i_rl)]
def tb_X6_sit : List (Nat × Ins) := [
  (0, i_li 1 1), (1, i_c 0 2), (2, i_c 1 3), (3, i_cs n_X6_between 3 6),
  (6, i_if_eq 20 9), (9, i_la 0 10), (10, i_gR 5 (fun _ => (1, 0)) 13), (13, i_li 3 14),
  (14, i_cv n_X2_has 2 1 17), (17, i_if_ne 23 20), (20, i_c (-1000000001) 22), (22, i_ri),
  (23, i_la 0 24), (24, i_gR 5 (fun _ => (1, 0)) 27), (27, i_li 3 28), (28, i_cv n_X2_isStanding 2 1 31),
  (31, i_if_eq 37 34), (34, i_c (-1000000003) 36), (36, i_ri), (37, i_li 2 38),
  (38, i_c 0 39), (39, i_c 7 41), (41, i_cs n_X6_between 3 44), (44, i_if_ne 50 47),
  (47, i_c (-1000000011) 49), (49, i_ri), (50, i_li 1 51), (51, i_c 1 52),
  (52, i_ic_ne 70 55), (55, i_la 0 56), (56, i_gR 5 (fun _ => (1, 0)) 59), (59, i_li 3 60),
  (60, i_cv n_X2_kindOf 2 1 63), (63, i_c 1 64), (64, i_ic_eq 70 67), (67, i_c (-1000000012) 69),
  (69, i_ri), (70, i_la 0 71), (71, i_gR 5 (fun _ => (11, 0)) 74), (74, i_li 1 75),
  (75, i_li 2 76), (76, i_li 3 77), (77, i_cv n_X0_seat 4 0 80), (80, i_ri)]
def tb_X6_sits : List (Nat × Ins) := [
  (0, i_li 1 1), (1, i_c 0 2), (2, i_c 1 3), (3, i_cs n_X6_between 3 6),
  (6, i_if_ne 12 9), (9, i_c (-1000000001) 11), (11, i_ri), (12, i_li 2 13),
  (13, i_c 0 14), (14, i_c 7 16), (16, i_cs n_X6_between 3 19), (19, i_if_ne 25 22),
  (22, i_c (-1000000011) 24), (24, i_ri), (25, i_la 0 26), (26, i_gR 5 (fun _ => (11, 0)) 29),
  (29, i_li 1 30), (30, i_li 2 31), (31, i_cv n_X0_sitter 3 0 34), (34, i_ri)]
def tb_X6_net : List (Nat × Ins) := [
  (0, i_li 1 1), (1, i_c 2 2), (2, i_c 8 4), (4, i_cs n_X6_between 3 7),
  (7, i_if_ne 13 10), (10, i_c (-1000000002) 12), (12, i_ri), (13, i_la 0 14),
  (14, i_gR 5 (fun _ => (13, 0)) 17), (17, i_cv n_X5_count 1 4 20), (20, i_st 2 21), (21, i_la 0 22),
  (22, i_gR 5 (fun _ => (13, 0)) 25), (25, i_li 1 26), (26, i_cv n_X5_layOut 2 4 29), (29, i_li 2 30),
  (30, i_ri)]
def tb_X6_road : List (Nat × Ins) := [
  (0, i_la 0 1), (1, i_gR 5 (fun _ => (13, 0)) 4), (4, i_li 1 5), (5, i_cv n_X5_hasPlace 2 4 8),
  (8, i_if_eq 27 11), (11, i_la 0 12), (12, i_gR 5 (fun _ => (13, 0)) 15), (15, i_li 2 16),
  (16, i_cv n_X5_hasPlace 2 4 19), (19, i_if_eq 27 22), (22, i_li 1 23), (23, i_li 2 24),
  (24, i_ic_ne 30 27), (27, i_c (-1000000001) 29), (29, i_ri), (30, i_li 3 31),
  (31, i_c 0 32), (32, i_c 9999 35), (35, i_cs n_X6_between 3 38), (38, i_if_ne 44 41),
  (41, i_c (-1000000002) 43), (43, i_ri), (44, i_la 0 45), (45, i_gR 5 (fun _ => (13, 0)) 48),
  (48, i_cv n_X5_hasRoom 1 4 51), (51, i_if_ne 57 54), (54, i_c (-1000000004) 56), (56, i_ri),
  (57, i_la 0 58), (58, i_gR 5 (fun _ => (13, 0)) 61), (61, i_li 1 62), (62, i_li 2 63),
  (63, i_li 3 64), (64, i_cv n_X5_add 4 4 67), (67, i_ri)]
def tb_X6_tree : List (Nat × Ins) := [
  (0, i_la 0 1), (1, i_gR 5 (fun _ => (13, 0)) 4), (4, i_li 1 5), (5, i_cv n_X5_hasPlace 2 4 8),
  (8, i_if_ne 14 11), (11, i_c (-1000000001) 13), (13, i_ri), (14, i_li 2 15),
  (15, i_c 0 16), (16, i_c 4 17), (17, i_cs n_X6_between 3 20), (20, i_if_ne 26 23),
  (23, i_c (-1000000002) 25), (25, i_ri), (26, i_la 0 27), (27, i_gR 5 (fun _ => (13, 0)) 30),
  (30, i_li 1 31), (31, i_c 0 32), (32, i_cv n_X5_grow 3 4 35), (35, i_li 2 36),
  (36, i_sw [(0, 68), (1, 76), (2, 84), (3, 92)] 100), (68, i_la 0 69), (69, i_gR 5 (fun _ => (13, 0)) 72), (72, i_cv n_X5_weightOfTree 1 4 75),
  (75, i_ri), (76, i_la 0 77), (77, i_gR 5 (fun _ => (13, 0)) 80), (80, i_cv n_X5_roadsOfTree 1 4 83),
  (83, i_ri), (84, i_la 0 85), (85, i_gR 5 (fun _ => (13, 0)) 88), (88, i_cv n_X5_links 1 4 91),
  (91, i_ri), (92, i_la 0 93), (93, i_gR 5 (fun _ => (13, 0)) 96), (96, i_cv n_X5_cuts 1 4 99),
  (99, i_ri), (100, i_la 0 101), (101, i_gR 5 (fun _ => (13, 0)) 104), (104, i_cv n_X5_lowerings 1 4 107),
  (107, i_ri)]
def tb_X6_way : List (Nat × Ins) := [
  (0, i_la 0 1), (1, i_gR 5 (fun _ => (13, 0)) 4), (4, i_li 1 5), (5, i_cv n_X5_hasPlace 2 4 8),
  (8, i_if_eq 22 11), (11, i_la 0 12), (12, i_gR 5 (fun _ => (13, 0)) 15), (15, i_li 2 16),
  (16, i_cv n_X5_hasPlace 2 4 19), (19, i_if_ne 25 22), (22, i_c (-1000000001) 24), (24, i_ri),
  (25, i_la 0 26), (26, i_gR 5 (fun _ => (13, 0)) 29), (29, i_li 1 30), (30, i_c 1 31),
  (31, i_cv n_X5_grow 3 4 34), (34, i_la 0 35), (35, i_gR 5 (fun _ => (13, 0)) 38), (38, i_li 2 39),
  (39, i_cv n_X5_distanceTo 2 4 42), (42, i_ri)]
def tb_X6_ways : List (Nat × Ins) := [
  (0, i_la 0 1), (1, i_gR 5 (fun _ => (13, 0)) 4), (4, i_li 1 5), (5, i_cv n_X5_hasPlace 2 4 8),
  (8, i_if_ne 14 11), (11, i_c (-1000000001) 13), (13, i_ri), (14, i_li 2 15),
  (15, i_c 0 16), (16, i_c 3 17), (17, i_cs n_X6_between 3 20), (20, i_if_ne 26 23),
  (23, i_c (-1000000002) 25), (25, i_ri), (26, i_la 0 27), (27, i_gR 5 (fun _ => (13, 0)) 30),
  (30, i_li 1 31), (31, i_c 1 32), (32, i_cv n_X5_grow 3 4 35), (35, i_li 2 36),
  (36, i_sw [(0, 64), (1, 72), (2, 80)] 88), (64, i_la 0 65), (65, i_gR 5 (fun _ => (13, 0)) 68), (68, i_cv n_X5_links 1 4 71),
  (71, i_ri), (72, i_la 0 73), (73, i_gR 5 (fun _ => (13, 0)) 76), (76, i_cv n_X5_cuts 1 4 79),
  (79, i_ri), (80, i_la 0 81), (81, i_gR 5 (fun _ => (13, 0)) 84), (84, i_cv n_X5_lowerings 1 4 87),
  (87, i_ri), (88, i_la 0 89), (89, i_gR 5 (fun _ => (13, 0)) 92), (92, i_cv n_X5_reachedCount 1 4 95),
  (95, i_ri)]
def tb_X6_keep : List (Nat × Ins) := [
  (0, i_li 1 1), (1, i_c 0 2), (2, i_c 1 3), (3, i_cs n_X6_between 3 6),
  (6, i_if_ne 12 9), (9, i_c (-1000000001) 11), (11, i_ri), (12, i_la 0 13),
  (13, i_gR 5 (fun _ => (19, 0)) 16), (16, i_li 1 17), (17, i_aa 18), (18, i_la 0 19),
  (19, i_gR 5 (fun _ => (1, 0)) 22), (22, i_la 0 23), (23, i_gR 5 (fun _ => (11, 0)) 26), (26, i_cv n_X3_store 3 2 29),
  (29, i_la 0 30), (30, i_gR 5 (fun _ => (1, 0)) 33), (33, i_cv n_X2_count 1 1 36), (36, i_ri)]
def tb_X6_goBack : List (Nat × Ins) := [
  (0, i_li 1 1), (1, i_c 0 2), (2, i_c 1 3), (3, i_cs n_X6_between 3 6),
  (6, i_if_ne 12 9), (9, i_c (-1000000001) 11), (11, i_ri), (12, i_la 0 13),
  (13, i_gR 5 (fun _ => (19, 0)) 16), (16, i_li 1 17), (17, i_aa 18), (18, i_cv n_X3_isKept 1 2 21),
  (21, i_if_ne 27 24), (24, i_c (-1000000003) 26), (26, i_ri), (27, i_la 0 28),
  (28, i_gR 5 (fun _ => (19, 0)) 31), (31, i_li 1 32), (32, i_aa 33), (33, i_la 0 34),
  (34, i_gR 5 (fun _ => (1, 0)) 37), (37, i_la 0 38), (38, i_gR 5 (fun _ => (11, 0)) 41), (41, i_cv n_X3_restore 3 2 44),
  (44, i_la 0 45), (45, i_gR 5 (fun _ => (1, 0)) 48), (48, i_cv n_X2_count 1 1 51), (51, i_ri)]
def tb_X6_driftOnce : List (Nat × Ins) := [
  (0, i_la 0 1), (1, i_gR 5 (fun _ => (18, 0)) 4), (4, i_c 4 5), (5, i_cv n_X4_draw 2 3 8),
  (8, i_st 1 9), (9, i_li 1 10), (10, i_c 2 11), (11, i_ic_ge 21 14),
  (14, i_la 0 15), (15, i_cv n_X6_putByLots 1 5 18), (18, i_go 37), (21, i_li 1 22),
  (22, i_c 2 23), (23, i_ic_ne 33 26), (26, i_la 0 27), (27, i_cv n_X6_lowerByLots 1 5 30),
  (30, i_go 37), (33, i_la 0 34), (34, i_cv n_X6_takeByLots 1 5 37), (37, i_rv)]
def tb_X6_putByLots : List (Nat × Ins) := [
  (0, i_la 0 1), (1, i_gR 5 (fun _ => (1, 0)) 4), (4, i_cv n_X2_hasRoom 1 1 7), (7, i_if_eq 40 10),
  (10, i_la 0 11), (11, i_gR 5 (fun _ => (18, 0)) 14), (14, i_c 2 15), (15, i_cv n_X4_draw 2 3 18),
  (18, i_st 1 19), (19, i_la 0 20), (20, i_gR 5 (fun _ => (18, 0)) 23), (23, i_c 1000 26),
  (26, i_cv n_X4_draw 2 3 29), (29, i_st 2 30), (30, i_la 0 31), (31, i_gR 5 (fun _ => (1, 0)) 34),
  (34, i_li 1 35), (35, i_li 2 36), (36, i_cv n_X2_add 3 1 39), (39, i_pop 40),
  (40, i_rv)]
def tb_X6_lowerByLots : List (Nat × Ins) := [
  (0, i_la 0 1), (1, i_gR 5 (fun _ => (1, 0)) 4), (4, i_cv n_X2_standingCount 1 1 7), (7, i_st 1 8),
  (8, i_li 1 9), (9, i_if_le 81 12), (12, i_la 0 13), (13, i_gR 5 (fun _ => (1, 0)) 16),
  (16, i_la 0 17), (17, i_gR 5 (fun _ => (18, 0)) 20), (20, i_li 1 21), (21, i_cv n_X4_draw 2 3 24),
  (24, i_cv n_X2_standingAt 2 1 27), (27, i_st 2 28), (28, i_la 0 29), (29, i_gR 5 (fun _ => (18, 0)) 32),
  (32, i_c 100 34), (34, i_cv n_X4_draw 2 3 37), (37, i_st 3 38), (38, i_li 2 39),
  (39, i_c (-1) 40), (40, i_ic_eq 81 43), (43, i_li 3 44), (44, i_if_le 81 47),
  (47, i_la 0 48), (48, i_gR 5 (fun _ => (1, 0)) 51), (51, i_li 2 52), (52, i_cv n_X2_keyOf 2 1 55),
  (55, i_li 3 56), (56, i_sub 57), (57, i_cs n_X6_isKey 1 60), (60, i_if_eq 81 63),
  (63, i_la 0 64), (64, i_gR 5 (fun _ => (1, 0)) 67), (67, i_li 2 68), (68, i_la 0 69),
  (69, i_gR 5 (fun _ => (1, 0)) 72), (72, i_li 2 73), (73, i_cv n_X2_keyOf 2 1 76), (76, i_li 3 77),
  (77, i_sub 78), (78, i_cv n_X2_lowerTo 3 1 81), (81, i_rv)]
def tb_X6_takeByLots : List (Nat × Ins) := [
  (0, i_la 0 1), (1, i_gR 5 (fun _ => (1, 0)) 4), (4, i_cv n_X2_soonest 1 1 7), (7, i_st 1 8),
  (8, i_li 1 9), (9, i_c (-1) 10), (10, i_ic_eq 21 13), (13, i_la 0 14),
  (14, i_gR 5 (fun _ => (1, 0)) 17), (17, i_li 1 18), (18, i_cv n_X2_takeOut 2 1 21), (21, i_rv)]
def tb_X6_between : List (Nat × Ins) := [
  (0, i_li 0 1), (1, i_li 1 2), (2, i_ic_lt 14 5), (5, i_li 0 6),
  (6, i_li 2 7), (7, i_ic_gt 14 10), (10, i_c 1 11), (11, i_go 15),
  (14, i_c 0 15), (15, i_rz)]
def tb_X6_isKey : List (Nat × Ins) := [
  (0, i_li 0 1), (1, i_c (-9999) 4), (4, i_c 9999 7), (7, i_cs n_X6_between 3 10),
  (10, i_rz)]
def tb_X6_flag : List (Nat × Ins) := [
  (0, i_li 0 1), (1, i_if_eq 8 4), (4, i_c 1 5), (5, i_go 9),
  (8, i_c 0 9), (9, i_ri)]
def tb_X7_in : List (Nat × Ins) := [
  (0, i_li 0 1), (1, i_li 1 2), (2, i_ic_lt 14 5), (5, i_li 0 6),
  (6, i_li 2 7), (7, i_ic_gt 14 10), (10, i_c 1 11), (11, i_go 15),
  (14, i_c 0 15), (15, i_rz)]
def tb_X7_own : List (Nat × Ins) := [
  (0, i_la 0 1), (1, i_c 0 2), (2, i_pI 6 10 5), (5, i_la 0 6),
  (6, i_la 0 7), (7, i_gI 6 0 10), (10, i_pI 6 11 13), (13, i_rv)]
def tb_X7_isSooner : List (Nat × Ins) := [
  (0, i_la 0 1), (1, i_gR 6 (fun _ => (23, 0)) 4), (4, i_li 1 5), (5, i_ia 6),
  (6, i_la 0 7), (7, i_gR 6 (fun _ => (23, 0)) 10), (10, i_li 2 11), (11, i_ia 12),
  (12, i_ic_lt 35 15), (15, i_la 0 16), (16, i_gR 6 (fun _ => (23, 0)) 19), (19, i_li 1 20),
  (20, i_ia 21), (21, i_la 0 22), (22, i_gR 6 (fun _ => (23, 0)) 25), (25, i_li 2 26),
  (26, i_ia 27), (27, i_ic_ne 39 30), (30, i_li 1 31), (31, i_li 2 32),
  (32, i_ic_ge 39 35), (35, i_c 1 36), (36, i_go 40), (39, i_c 0 40),
  (40, i_rz)]
def tb_X7_rank : List (Nat × Ins) := [
  (0, i_c 0 1), (1, i_st 2 2), (2, i_la 0 3), (3, i_gI 6 10 6),
  (6, i_st 3 7), (7, i_li 3 8), (8, i_la 0 9), (9, i_gI 6 11 12),
  (12, i_ic_ge 48 15), (15, i_li 2 16), (16, i_la 0 17), (17, i_gR 6 (fun _ => (24, 0)) 20),
  (20, i_li 3 21), (21, i_ba 22), (22, i_if_eq 39 25), (25, i_la 0 26),
  (26, i_gR 6 (fun _ => (25, 0)) 29), (29, i_li 3 30), (30, i_ia 31), (31, i_li 1 32),
  (32, i_ic_ne 39 35), (35, i_c 1 36), (36, i_go 40), (39, i_c 0 40),
  (40, i_add 41), (41, i_st 2 42), (42, i_inc 3 1 45), (45, i_go 7),
  (48, i_li 2 49), (49, i_ri)]
def tb_X7_link : List (Nat × Ins) := [
  (0, i_la 0 1), (1, i_li 1 2), (2, i_li 2 3), (3, i_cv n_X7_isSooner 3 6 6),
  (6, i_if_eq 13 9), (9, i_li 1 10), (10, i_go 14), (13, i_li 2 14),
  (14, i_st 3 15), (15, i_li 1 16), (16, i_li 2 17), (17, i_add 18),
  (18, i_li 3 19), (19, i_sub 20), (20, i_st 4 22), (22, i_la 0 23),
  (23, i_gR 6 (fun _ => (25, 0)) 26), (26, i_li 4 28), (28, i_li 3 29), (29, i_is 30),
  (30, i_la 0 31), (31, i_gR 6 (fun _ => (27, 0)) 34), (34, i_li 4 36), (36, i_la 0 37),
  (37, i_gI 6 7 40), (40, i_is 41), (41, i_la 0 42), (42, i_dup 43),
  (43, i_gI 6 7 46), (46, i_c 1 47), (47, i_add 48), (48, i_pI 6 7 51),
  (51, i_la 0 52), (52, i_dup 53), (53, i_gI 6 8 56), (56, i_c 1 57),
  (57, i_add 58), (58, i_pI 6 8 61), (61, i_rv)]
def tb_X7_cut : List (Nat × Ins) := [
  (0, i_la 0 1), (1, i_gR 6 (fun _ => (25, 0)) 4), (4, i_li 1 5), (5, i_c (-1) 6),
  (6, i_is 7), (7, i_la 0 8), (8, i_gR 6 (fun _ => (26, 0)) 11), (11, i_li 1 12),
  (12, i_c 0 13), (13, i_bs 14), (14, i_la 0 15), (15, i_dup 16),
  (16, i_gI 6 9 19), (19, i_c 1 20), (20, i_add 21), (21, i_pI 6 9 24),
  (24, i_rv)]
def tb_X7_isOf : List (Nat × Ins) := [
  (0, i_la 0 1), (1, i_gR 6 (fun _ => (24, 0)) 4), (4, i_li 1 5), (5, i_ba 6),
  (6, i_if_eq 39 9), (9, i_li 2 10), (10, i_if_eq 25 13), (13, i_la 0 14),
  (14, i_gR 6 (fun _ => (26, 0)) 17), (17, i_li 1 18), (18, i_ba 19), (19, i_if_eq 39 22),
  (22, i_go 35), (25, i_la 0 26), (26, i_gR 6 (fun _ => (25, 0)) 29), (29, i_li 1 30),
  (30, i_ia 31), (31, i_c (-1) 32), (32, i_ic_ne 39 35), (35, i_c 1 36),
  (36, i_go 40), (39, i_c 0 40), (40, i_rz)]
def tb_X7_ofRank : List (Nat × Ins) := [
  (0, i_c (-1) 1), (1, i_st 4 3), (3, i_la 0 4), (4, i_gI 6 11 7),
  (7, i_c 1 8), (8, i_sub 9), (9, i_st 5 11), (11, i_li 5 13),
  (13, i_li 2 14), (14, i_ic_le 52 17), (17, i_la 0 18), (18, i_li 5 20),
  (20, i_li 3 21), (21, i_cv n_X7_isOf 3 6 24), (24, i_if_eq 42 27), (27, i_la 0 28),
  (28, i_li 5 30), (30, i_cv n_X7_rank 2 6 33), (33, i_li 1 34), (34, i_ic_ne 42 37),
  (37, i_li 5 39), (39, i_go 44), (42, i_li 4 44), (44, i_st 4 46),
  (46, i_inc 5 (-1) 49), (49, i_go 11), (52, i_li 4 54), (54, i_ri)]
def tb_X7_twice : List (Nat × Ins) := [
  (0, i_c (-1) 1), (1, i_st 2 2), (2, i_la 0 3), (3, i_gI 6 11 6),
  (6, i_la 0 7), (7, i_gI 6 10 10), (10, i_sub 11), (11, i_st 3 12),
  (12, i_li 3 13), (13, i_if_lt 68 16), (16, i_la 0 17), (17, i_li 3 18),
  (18, i_la 0 19), (19, i_gI 6 10 22), (22, i_c 1 23), (23, i_sub 24),
  (24, i_li 1 25), (25, i_cv n_X7_ofRank 4 6 28), (28, i_st 4 30), (30, i_li 4 32),
  (32, i_c (-1) 33), (33, i_ic_ne 40 36), (36, i_c (-1) 37), (37, i_go 48),
  (40, i_la 0 41), (41, i_li 3 42), (42, i_li 4 44), (44, i_li 1 45),
  (45, i_cv n_X7_ofRank 4 6 48), (48, i_st 5 50), (50, i_li 5 52), (52, i_c (-1) 53),
  (53, i_ic_ne 60 56), (56, i_li 2 57), (57, i_go 61), (60, i_li 3 61),
  (61, i_st 2 62), (62, i_inc 3 (-1) 65), (65, i_go 12), (68, i_li 2 69),
  (69, i_ri)]
def tb_X7_settle : List (Nat × Ins) := [
  (0, i_la 0 1), (1, i_c 1 2), (2, i_cv n_X7_twice 2 6 5), (5, i_st 1 6),
  (6, i_li 1 7), (7, i_c (-1) 8), (8, i_ic_eq 57 11), (11, i_la 0 12),
  (12, i_li 1 13), (13, i_la 0 14), (14, i_gI 6 10 17), (17, i_c 1 18),
  (18, i_sub 19), (19, i_c 1 20), (20, i_cv n_X7_ofRank 4 6 23), (23, i_st 2 24),
  (24, i_la 0 25), (25, i_li 1 26), (26, i_li 2 27), (27, i_c 1 28),
  (28, i_cv n_X7_ofRank 4 6 31), (31, i_st 3 32), (32, i_la 0 33), (33, i_li 2 34),
  (34, i_cv n_X7_cut 2 6 37), (37, i_la 0 38), (38, i_li 3 39), (39, i_cv n_X7_cut 2 6 42),
  (42, i_la 0 43), (43, i_li 2 44), (44, i_li 3 45), (45, i_cv n_X7_link 3 6 48),
  (48, i_la 0 49), (49, i_c 1 50), (50, i_cv n_X7_twice 2 6 53), (53, i_st 1 54),
  (54, i_go 6), (57, i_rv)]
def tb_X7_joinAll : List (Nat × Ins) := [
  (0, i_la 0 1), (1, i_c 0 2), (2, i_cv n_X7_twice 2 6 5), (5, i_st 1 6),
  (6, i_li 1 7), (7, i_c (-1) 8), (8, i_ic_eq 45 11), (11, i_la 0 12),
  (12, i_li 1 13), (13, i_la 0 14), (14, i_gI 6 10 17), (17, i_c 1 18),
  (18, i_sub 19), (19, i_c 0 20), (20, i_cv n_X7_ofRank 4 6 23), (23, i_st 2 24),
  (24, i_la 0 25), (25, i_li 2 26), (26, i_la 0 27), (27, i_li 1 28),
  (28, i_li 2 29), (29, i_c 0 30), (30, i_cv n_X7_ofRank 4 6 33), (33, i_cv n_X7_link 3 6 36),
  (36, i_la 0 37), (37, i_c 0 38), (38, i_cv n_X7_twice 2 6 41), (41, i_st 1 42),
  (42, i_go 6), (45, i_rv)]
def tb_X7_add : List (Nat × Ins) := [
  (0, i_la 0 1), (1, i_gR 6 (fun _ => (22, 0)) 4), (4, i_li 1 5), (5, i_li 2 6),
  (6, i_is 7), (7, i_la 0 8), (8, i_gR 6 (fun _ => (23, 0)) 11), (11, i_li 1 12),
  (12, i_li 3 13), (13, i_is 14), (14, i_la 0 15), (15, i_gR 6 (fun _ => (24, 0)) 18),
  (18, i_li 1 19), (19, i_c 1 20), (20, i_bs 21), (21, i_la 0 22),
  (22, i_gR 6 (fun _ => (25, 0)) 25), (25, i_li 1 26), (26, i_c (-1) 27), (27, i_is 28),
  (28, i_la 0 29), (29, i_gR 6 (fun _ => (26, 0)) 32), (32, i_li 1 33), (33, i_c 0 34),
  (34, i_bs 35), (35, i_la 0 36), (36, i_gR 6 (fun _ => (27, 0)) 39), (39, i_li 1 40),
  (40, i_c 0 41), (41, i_is 42), (42, i_la 0 43), (43, i_li 1 44),
  (44, i_c 1 45), (45, i_add 46), (46, i_pI 6 11 49), (49, i_rv)]
def tb_X7_lowerTo : List (Nat × Ins) := [
  (0, i_la 0 1), (1, i_gR 6 (fun _ => (23, 0)) 4), (4, i_li 1 5), (5, i_li 2 6),
  (6, i_is 7), (7, i_la 0 8), (8, i_gR 6 (fun _ => (25, 0)) 11), (11, i_li 1 12),
  (12, i_ia 13), (13, i_c (-1) 14), (14, i_ic_eq 42 17), (17, i_la 0 18),
  (18, i_li 1 19), (19, i_la 0 20), (20, i_gR 6 (fun _ => (25, 0)) 23), (23, i_li 1 24),
  (24, i_ia 25), (25, i_cv n_X7_isSooner 3 6 28), (28, i_if_eq 42 31), (31, i_la 0 32),
  (32, i_gR 6 (fun _ => (26, 0)) 35), (35, i_li 1 36), (36, i_c 1 37), (37, i_bs 38),
  (38, i_la 0 39), (39, i_cv n_X7_settle 1 6 42), (42, i_rv)]
def tb_X7_remove : List (Nat × Ins) := [
  (0, i_la 0 1), (1, i_gR 6 (fun _ => (25, 0)) 4), (4, i_li 1 5), (5, i_ia 6),
  (6, i_c (-1) 7), (7, i_ic_eq 15 10), (10, i_la 0 11), (11, i_li 1 12),
  (12, i_cv n_X7_cut 2 6 15), (15, i_la 0 16), (16, i_gI 6 10 19), (19, i_st 2 20),
  (20, i_li 2 21), (21, i_la 0 22), (22, i_gI 6 11 25), (25, i_ic_ge 103 28),
  (28, i_la 0 29), (29, i_gR 6 (fun _ => (24, 0)) 32), (32, i_li 2 33), (33, i_ba 34),
  (34, i_if_eq 51 37), (37, i_la 0 38), (38, i_gR 6 (fun _ => (25, 0)) 41), (41, i_li 2 42),
  (42, i_ia 43), (43, i_li 1 44), (44, i_ic_ne 51 47), (47, i_c 1 48),
  (48, i_go 52), (51, i_c 0 52), (52, i_st 3 53), (53, i_la 0 54),
  (54, i_gR 6 (fun _ => (25, 0)) 57), (57, i_li 2 58), (58, i_li 3 59), (59, i_if_eq 66 62),
  (62, i_c (-1) 63), (63, i_go 72), (66, i_la 0 67), (67, i_gR 6 (fun _ => (25, 0)) 70),
  (70, i_li 2 71), (71, i_ia 72), (72, i_is 73), (73, i_la 0 74),
  (74, i_gR 6 (fun _ => (26, 0)) 77), (77, i_li 2 78), (78, i_li 3 79), (79, i_if_ne 95 82),
  (82, i_la 0 83), (83, i_gR 6 (fun _ => (26, 0)) 86), (86, i_li 2 87), (87, i_ba 88),
  (88, i_if_eq 95 91), (91, i_c 1 92), (92, i_go 96), (95, i_c 0 96),
  (96, i_bs 97), (97, i_inc 2 1 100), (100, i_go 20), (103, i_la 0 104),
  (104, i_gR 6 (fun _ => (24, 0)) 107), (107, i_li 1 108), (108, i_c 0 109), (109, i_bs 110),
  (110, i_la 0 111), (111, i_cv n_X7_settle 1 6 114), (114, i_la 0 115), (115, i_cv n_X7_joinAll 1 6 118),
  (118, i_rv)]
def tb_X7_soonest : List (Nat × Ins) := [
  (0, i_c (-1) 1), (1, i_st 1 2), (2, i_la 0 3), (3, i_gI 6 10 6),
  (6, i_st 2 7), (7, i_li 2 8), (8, i_la 0 9), (9, i_gI 6 11 12),
  (12, i_ic_ge 50 15), (15, i_la 0 16), (16, i_gR 6 (fun _ => (24, 0)) 19), (19, i_li 2 20),
  (20, i_ba 21), (21, i_if_eq 42 24), (24, i_li 1 25), (25, i_c (-1) 26),
  (26, i_ic_eq 38 29), (29, i_la 0 30), (30, i_li 2 31), (31, i_li 1 32),
  (32, i_cv n_X7_isSooner 3 6 35), (35, i_if_eq 42 38), (38, i_li 2 39), (39, i_go 43),
  (42, i_li 1 43), (43, i_st 1 44), (44, i_inc 2 1 47), (47, i_go 7),
  (50, i_li 1 51), (51, i_ri)]
def tb_X7_standing : List (Nat × Ins) := [
  (0, i_c 0 1), (1, i_st 1 2), (2, i_la 0 3), (3, i_gI 6 10 6),
  (6, i_st 2 7), (7, i_li 2 8), (8, i_la 0 9), (9, i_gI 6 11 12),
  (12, i_ic_ge 38 15), (15, i_li 1 16), (16, i_la 0 17), (17, i_gR 6 (fun _ => (24, 0)) 20),
  (20, i_li 2 21), (21, i_ba 22), (22, i_if_eq 29 25), (25, i_c 1 26),
  (26, i_go 30), (29, i_c 0 30), (30, i_add 31), (31, i_st 1 32),
  (32, i_inc 2 1 35), (35, i_go 7), (38, i_li 1 39), (39, i_ri)]
def tb_X7_isJob : List (Nat × Ins) := [
  (0, i_la 0 1), (1, i_cv n_X7_own 1 6 4), (4, i_li 1 5), (5, i_c 0 6),
  (6, i_la 0 7), (7, i_gI 6 0 10), (10, i_c 1 11), (11, i_sub 12),
  (12, i_cs n_X7_in 3 15), (15, i_rz)]
def tb_X7_put : List (Nat × Ins) := [
  (0, i_la 0 1), (1, i_cv n_X7_own 1 6 4), (4, i_li 1 5), (5, i_c 0 6),
  (6, i_c 1 7), (7, i_cs n_X7_in 3 10), (10, i_if_eq 26 13), (13, i_li 2 14),
  (14, i_c (-9999) 17), (17, i_c 9999 20), (20, i_cs n_X7_in 3 23), (23, i_if_ne 29 26),
  (26, i_c (-1000000002) 28), (28, i_ri), (29, i_la 0 30), (30, i_gI 6 0 33),
  (33, i_c 40 35), (35, i_ic_ne 41 38), (38, i_c (-1000000004) 40), (40, i_ri),
  (41, i_la 0 42), (42, i_la 0 43), (43, i_gI 6 0 46), (46, i_li 1 47),
  (47, i_li 2 48), (48, i_cv n_X7_add 4 6 51), (51, i_la 0 52), (52, i_dup 53),
  (53, i_gI 6 0 56), (56, i_c 1 57), (57, i_add 58), (58, i_pI 6 0 61),
  (61, i_la 0 62), (62, i_gI 6 0 65), (65, i_c 1 66), (66, i_sub 67),
  (67, i_ri)]
def tb_X7_lower : List (Nat × Ins) := [
  (0, i_la 0 1), (1, i_li 1 2), (2, i_cv n_X7_isJob 2 6 5), (5, i_if_ne 11 8),
  (8, i_c (-1000000001) 10), (10, i_ri), (11, i_li 2 12), (12, i_c (-9999) 15),
  (15, i_c 9999 18), (18, i_cs n_X7_in 3 21), (21, i_if_ne 27 24), (24, i_c (-1000000002) 26),
  (26, i_ri), (27, i_la 0 28), (28, i_gR 6 (fun _ => (24, 0)) 31), (31, i_li 1 32),
  (32, i_ba 33), (33, i_if_eq 46 36), (36, i_li 2 37), (37, i_la 0 38),
  (38, i_gR 6 (fun _ => (23, 0)) 41), (41, i_li 1 42), (42, i_ia 43), (43, i_ic_lt 49 46),
  (46, i_c (-1000000003) 48), (48, i_ri), (49, i_la 0 50), (50, i_li 1 51),
  (51, i_li 2 52), (52, i_cv n_X7_lowerTo 3 6 55), (55, i_la 0 56), (56, i_gR 6 (fun _ => (26, 0)) 59),
  (59, i_li 1 60), (60, i_ba 61), (61, i_if_eq 68 64), (64, i_c 1 65),
  (65, i_go 69), (68, i_c 0 69), (69, i_ri)]
def tb_X7_take : List (Nat × Ins) := [
  (0, i_la 0 1), (1, i_cv n_X7_own 1 6 4), (4, i_la 0 5), (5, i_cv n_X7_soonest 1 6 8),
  (8, i_st 1 9), (9, i_li 1 10), (10, i_c (-1) 11), (11, i_ic_ne 17 14),
  (14, i_c (-1000000003) 16), (16, i_ri), (17, i_la 0 18), (18, i_li 1 19),
  (19, i_cv n_X7_remove 2 6 22), (22, i_li 1 23), (23, i_ri)]
def tb_X7_drop : List (Nat × Ins) := [
  (0, i_la 0 1), (1, i_li 1 2), (2, i_cv n_X7_isJob 2 6 5), (5, i_if_ne 11 8),
  (8, i_c (-1000000001) 10), (10, i_ri), (11, i_la 0 12), (12, i_gR 6 (fun _ => (24, 0)) 15),
  (15, i_li 1 16), (16, i_ba 17), (17, i_if_ne 23 20), (20, i_c (-1000000003) 22),
  (22, i_ri), (23, i_la 0 24), (24, i_li 1 25), (25, i_cv n_X7_remove 2 6 28),
  (28, i_la 0 29), (29, i_cv n_X7_standing 1 6 32), (32, i_ri)]
def tb_X7_join : List (Nat × Ins) := [
  (0, i_la 0 1), (1, i_cv n_X7_own 1 6 4), (4, i_la 0 5), (5, i_gI 6 8 8),
  (8, i_st 1 9), (9, i_la 0 10), (10, i_cv n_X7_joinAll 1 6 13), (13, i_la 0 14),
  (14, i_gI 6 8 17), (17, i_li 1 18), (18, i_sub 19), (19, i_ri)]
def tb_X7_clear : List (Nat × Ins) := [
  (0, i_la 0 1), (1, i_gI 6 0 4), (4, i_st 1 5), (5, i_la 0 6),
  (6, i_c 0 7), (7, i_pI 6 0 10), (10, i_la 0 11), (11, i_c 0 12),
  (12, i_pI 6 7 15), (15, i_la 0 16), (16, i_c 0 17), (17, i_pI 6 8 20),
  (20, i_la 0 21), (21, i_c 0 22), (22, i_pI 6 9 25), (25, i_c 0 26),
  (26, i_st 2 27), (27, i_li 2 28), (28, i_c 16 30), (30, i_ic_ge 46 33),
  (33, i_la 0 34), (34, i_gR 6 (fun _ => (28, 0)) 37), (37, i_li 2 38), (38, i_c (-1) 39),
  (39, i_is 40), (40, i_inc 2 1 43), (43, i_go 27), (46, i_li 1 47),
  (47, i_ri)]
def tb_X7_standingAt : List (Nat × Ins) := [
  (0, i_li 1 1), (1, i_st 2 2), (2, i_la 0 3), (3, i_gI 6 10 6),
  (6, i_st 3 7), (7, i_la 0 8), (8, i_gR 6 (fun _ => (24, 0)) 11), (11, i_li 3 12),
  (12, i_ba 13), (13, i_if_eq 20 16), (16, i_li 2 17), (17, i_if_le 43 20),
  (20, i_li 2 21), (21, i_la 0 22), (22, i_gR 6 (fun _ => (24, 0)) 25), (25, i_li 3 26),
  (26, i_ba 27), (27, i_if_eq 34 30), (30, i_c 1 31), (31, i_go 35),
  (34, i_c 0 35), (35, i_sub 36), (36, i_st 2 37), (37, i_inc 3 1 40),
  (40, i_go 7), (43, i_li 3 44), (44, i_ri)]
def tb_X7_drawn : List (Nat × Ins) := [
  (0, i_la 0 1), (1, i_la 0 2), (2, i_gL 6 1 5), (5, i_cl 16807 8),
  (8, l_mul 9), (9, i_cl 2147483647 12), (12, l_rem 13), (13, i_pL 6 1 16),
  (16, i_la 0 17), (17, i_gL 6 1 20), (20, i_li 1 21), (21, i_2l 22),
  (22, l_rem 23), (23, l_2i 24), (24, i_ri)]
def tb_X7_lot : List (Nat × Ins) := [
  (0, i_la 0 1), (1, i_cv n_X7_own 1 6 4), (4, i_la 0 5), (5, i_c 4 6),
  (6, i_cv n_X7_drawn 2 6 9), (9, i_st 1 10), (10, i_li 1 11), (11, i_c 2 12),
  (12, i_ic_ge 56 15), (15, i_la 0 16), (16, i_gI 6 0 19), (19, i_c 40 21),
  (21, i_ic_ge 56 24), (24, i_la 0 25), (25, i_c 2 26), (26, i_cv n_X7_drawn 2 6 29),
  (29, i_st 2 30), (30, i_la 0 31), (31, i_la 0 32), (32, i_gI 6 0 35),
  (35, i_li 2 36), (36, i_la 0 37), (37, i_c 1000 40), (40, i_cv n_X7_drawn 2 6 43),
  (43, i_cv n_X7_add 4 6 46), (46, i_la 0 47), (47, i_dup 48), (48, i_gI 6 0 51),
  (51, i_c 1 52), (52, i_add 53), (53, i_pI 6 0 56), (56, i_li 1 57),
  (57, i_c 2 58), (58, i_ic_ne 119 61), (61, i_la 0 62), (62, i_cv n_X7_standing 1 6 65),
  (65, i_if_le 119 68), (68, i_la 0 69), (69, i_la 0 70), (70, i_la 0 71),
  (71, i_cv n_X7_standing 1 6 74), (74, i_cv n_X7_drawn 2 6 77), (77, i_cv n_X7_standingAt 2 6 80), (80, i_st 2 81),
  (81, i_la 0 82), (82, i_c 100 84), (84, i_cv n_X7_drawn 2 6 87), (87, i_st 3 88),
  (88, i_li 3 89), (89, i_if_le 119 92), (92, i_la 0 93), (93, i_gR 6 (fun _ => (23, 0)) 96),
  (96, i_li 2 97), (97, i_ia 98), (98, i_li 3 99), (99, i_sub 100),
  (100, i_c (-9999) 103), (103, i_ic_lt 119 106), (106, i_la 0 107), (107, i_li 2 108),
  (108, i_la 0 109), (109, i_gR 6 (fun _ => (23, 0)) 112), (112, i_li 2 113), (113, i_ia 114),
  (114, i_li 3 115), (115, i_sub 116), (116, i_cv n_X7_lowerTo 3 6 119), (119, i_li 1 120),
  (120, i_c 3 121), (121, i_ic_ne 139 124), (124, i_la 0 125), (125, i_cv n_X7_standing 1 6 128),
  (128, i_if_le 139 131), (131, i_la 0 132), (132, i_la 0 133), (133, i_cv n_X7_soonest 1 6 136),
  (136, i_cv n_X7_remove 2 6 139), (139, i_rv)]
def tb_X7_drift : List (Nat × Ins) := [
  (0, i_li 1 1), (1, i_c 1 2), (2, i_c 40 4), (4, i_cs n_X7_in 3 7),
  (7, i_if_eq 20 10), (10, i_li 2 11), (11, i_c 1 12), (12, i_c 999999 14),
  (14, i_cs n_X7_in 3 17), (17, i_if_ne 23 20), (20, i_c (-1000000002) 22), (22, i_ri),
  (23, i_la 0 24), (24, i_li 2 25), (25, i_2l 26), (26, i_pL 6 1 29),
  (29, i_c 0 30), (30, i_st 3 31), (31, i_li 3 32), (32, i_li 1 33),
  (33, i_ic_ge 46 36), (36, i_la 0 37), (37, i_cv n_X7_lot 1 6 40), (40, i_inc 3 1 43),
  (43, i_go 31), (46, i_la 0 47), (47, i_cv n_X7_own 1 6 50), (50, i_la 0 51),
  (51, i_cv n_X7_standing 1 6 54), (54, i_ri)]
def tb_X7_depth : List (Nat × Ins) := [
  (0, i_c 0 1), (1, i_st 2 2), (2, i_la 0 3), (3, i_gR 6 (fun _ => (25, 0)) 6),
  (6, i_li 1 7), (7, i_ia 8), (8, i_st 3 9), (9, i_li 3 10),
  (10, i_c (-1) 11), (11, i_ic_eq 27 14), (14, i_inc 2 1 17), (17, i_la 0 18),
  (18, i_gR 6 (fun _ => (25, 0)) 21), (21, i_li 3 22), (22, i_ia 23), (23, i_st 3 24),
  (24, i_go 9), (27, i_li 2 28), (28, i_ri)]
def tb_X7_isUnder : List (Nat × Ins) := [
  (0, i_li 1 1), (1, i_st 3 2), (2, i_li 3 3), (3, i_c (-1) 4),
  (4, i_ic_eq 22 7), (7, i_li 3 8), (8, i_li 2 9), (9, i_ic_eq 22 12),
  (12, i_la 0 13), (13, i_gR 6 (fun _ => (25, 0)) 16), (16, i_li 3 17), (17, i_ia 18),
  (18, i_st 3 19), (19, i_go 2), (22, i_li 3 23), (23, i_li 2 24),
  (24, i_ic_ne 31 27), (27, i_c 1 28), (28, i_go 32), (31, i_c 0 32),
  (32, i_rz)]
def tb_X7_many : List (Nat × Ins) := [
  (0, i_c 0 1), (1, i_st 2 2), (2, i_li 1 3), (3, i_c 5 4),
  (4, i_ic_ne 11 7), (7, i_c (-1) 8), (8, i_go 12), (11, i_c 0 12),
  (12, i_st 3 13), (13, i_c 0 14), (14, i_st 4 16), (16, i_li 4 18),
  (18, i_la 0 19), (19, i_gI 6 0 22), (22, i_ic_ge 120 25), (25, i_la 0 26),
  (26, i_gR 6 (fun _ => (24, 0)) 29), (29, i_li 4 31), (31, i_ba 32), (32, i_if_eq 114 35),
  (35, i_li 2 36), (36, i_li 1 37), (37, i_c 3 38), (38, i_ic_ne 60 41),
  (41, i_la 0 42), (42, i_gR 6 (fun _ => (25, 0)) 45), (45, i_li 4 47), (47, i_ia 48),
  (48, i_c (-1) 49), (49, i_ic_ne 56 52), (52, i_c 1 53), (53, i_go 75),
  (56, i_c 0 57), (57, i_go 75), (60, i_la 0 61), (61, i_gR 6 (fun _ => (26, 0)) 64),
  (64, i_li 4 66), (66, i_ba 67), (67, i_if_eq 74 70), (70, i_c 1 71),
  (71, i_go 75), (74, i_c 0 75), (75, i_add 76), (76, i_st 2 77),
  (77, i_li 1 78), (78, i_c 5 79), (79, i_ic_ne 91 82), (82, i_la 0 83),
  (83, i_li 4 85), (85, i_cv n_X7_rank 2 6 88), (88, i_go 99), (91, i_la 0 92),
  (92, i_li 4 94), (94, i_cv n_X7_depth 2 6 97), (97, i_c 1 98), (98, i_add 99),
  (99, i_st 5 101), (101, i_li 5 103), (103, i_li 3 104), (104, i_ic_le 112 107),
  (107, i_li 5 109), (109, i_go 113), (112, i_li 3 113), (113, i_st 3 114),
  (114, i_inc 4 1 117), (117, i_go 16), (120, i_li 1 121), (121, i_c 5 122),
  (122, i_ic_ge 129 125), (125, i_li 2 126), (126, i_go 130), (129, i_li 3 130),
  (130, i_ri)]
def tb_X7_told : List (Nat × Ins) := [
  (0, i_la 0 1), (1, i_cv n_X7_own 1 6 4), (4, i_li 1 5), (5, i_sw [(0, 64), (1, 69), (2, 74), (3, 79), (4, 79), (5, 79), (6, 85), (7, 90), (8, 79), (9, 95), (10, 100)] 105),
  (64, i_la 0 65), (65, i_gI 6 0 68), (68, i_ri), (69, i_la 0 70),
  (70, i_cv n_X7_standing 1 6 73), (73, i_ri), (74, i_la 0 75), (75, i_cv n_X7_soonest 1 6 78),
  (78, i_ri), (79, i_la 0 80), (80, i_li 1 81), (81, i_cv n_X7_many 2 6 84),
  (84, i_ri), (85, i_la 0 86), (86, i_gI 6 8 89), (89, i_ri),
  (90, i_la 0 91), (91, i_gI 6 9 94), (94, i_ri), (95, i_la 0 96),
  (96, i_gI 6 13 99), (99, i_ri), (100, i_la 0 101), (101, i_gI 6 14 104),
  (104, i_ri), (105, i_c (-1000000002) 107), (107, i_ri)]
def tb_X7_under : List (Nat × Ins) := [
  (0, i_c 0 1), (1, i_st 2 2), (2, i_c 0 3), (3, i_st 3 4),
  (4, i_li 3 5), (5, i_la 0 6), (6, i_gI 6 0 9), (9, i_ic_ge 44 12),
  (12, i_li 2 13), (13, i_la 0 14), (14, i_gR 6 (fun _ => (24, 0)) 17), (17, i_li 3 18),
  (18, i_ba 19), (19, i_if_eq 35 22), (22, i_la 0 23), (23, i_li 3 24),
  (24, i_li 1 25), (25, i_cv n_X7_isUnder 3 6 28), (28, i_if_eq 35 31), (31, i_c 1 32),
  (32, i_go 36), (35, i_c 0 36), (36, i_add 37), (37, i_st 2 38),
  (38, i_inc 3 1 41), (41, i_go 4), (44, i_li 2 45), (45, i_ri)]
def tb_X7_power : List (Nat × Ins) := [
  (0, i_c 0 1), (1, i_st 1 2), (2, i_li 0 3), (3, i_li 1 4),
  (4, i_c 1 5), (5, i_add 6), (6, i_shr 7), (7, i_if_le 16 10),
  (10, i_inc 1 1 13), (13, i_go 2), (16, i_li 1 17), (17, i_ri)]
def tb_X7_bitsOf : List (Nat × Ins) := [
  (0, i_li 0 1), (1, i_if_ne 6 4), (4, i_c 0 5), (5, i_ri),
  (6, i_li 0 7), (7, i_if_ge 15 10), (10, i_li 0 11), (11, i_neg 12),
  (12, i_go 16), (15, i_li 0 16), (16, i_st 1 17), (17, i_li 1 18),
  (18, i_cs n_X7_power 1 21), (21, i_st 2 22), (22, i_li 1 23), (23, i_c 1 24),
  (24, i_li 2 25), (25, i_shl 26), (26, i_sub 27), (27, i_c 23 29),
  (29, i_li 2 30), (30, i_sub 31), (31, i_shl 32), (32, i_st 3 33),
  (33, i_li 2 34), (34, i_c 123 36), (36, i_add 37), (37, i_c 23 39),
  (39, i_shl 40), (40, i_li 3 41), (41, i_add 42), (42, i_li 0 43),
  (43, i_if_ge 51 46), (46, i_c (-2147483648) 48), (48, i_go 52), (51, i_c 0 52),
  (52, i_add 53), (53, i_ri)]
def tb_X7_job : List (Nat × Ins) := [
  (0, i_la 0 1), (1, i_li 1 2), (2, i_cv n_X7_isJob 2 6 5), (5, i_if_ne 11 8),
  (8, i_c (-1000000001) 10), (10, i_ri), (11, i_li 2 12), (12, i_c 0 13),
  (13, i_c 8 15), (15, i_cs n_X7_in 3 18), (18, i_if_ne 24 21), (21, i_c (-1000000002) 23),
  (23, i_ri), (24, i_la 0 25), (25, i_gR 6 (fun _ => (24, 0)) 28), (28, i_li 1 29),
  (29, i_ba 30), (30, i_st 3 31), (31, i_li 2 32), (32, i_sw [(0, 80), (1, 87), (2, 94), (3, 104), (4, 119), (5, 133), (6, 152), (7, 166)] 180),
  (80, i_la 0 81), (81, i_gR 6 (fun _ => (22, 0)) 84), (84, i_li 1 85), (85, i_ia 86),
  (86, i_ri), (87, i_la 0 88), (88, i_gR 6 (fun _ => (23, 0)) 91), (91, i_li 1 92),
  (92, i_ia 93), (93, i_ri), (94, i_li 3 95), (95, i_if_eq 102 98),
  (98, i_c 1 99), (99, i_go 103), (102, i_c 0 103), (103, i_ri),
  (104, i_li 3 105), (105, i_if_eq 117 108), (108, i_la 0 109), (109, i_gR 6 (fun _ => (25, 0)) 112),
  (112, i_li 1 113), (113, i_ia 114), (114, i_go 118), (117, i_c (-1) 118),
  (118, i_ri), (119, i_li 3 120), (120, i_if_eq 131 123), (123, i_la 0 124),
  (124, i_li 1 125), (125, i_cv n_X7_rank 2 6 128), (128, i_go 132), (131, i_c 0 132),
  (132, i_ri), (133, i_li 3 134), (134, i_if_eq 150 137), (137, i_la 0 138),
  (138, i_gR 6 (fun _ => (26, 0)) 141), (141, i_li 1 142), (142, i_ba 143), (143, i_if_eq 150 146),
  (146, i_c 1 147), (147, i_go 151), (150, i_c 0 151), (151, i_ri),
  (152, i_li 3 153), (153, i_if_eq 164 156), (156, i_la 0 157), (157, i_li 1 158),
  (158, i_cv n_X7_depth 2 6 161), (161, i_go 165), (164, i_c 0 165), (165, i_ri),
  (166, i_li 3 167), (167, i_if_eq 178 170), (170, i_la 0 171), (171, i_li 1 172),
  (172, i_cv n_X7_under 2 6 175), (175, i_go 179), (178, i_c 0 179), (179, i_ri),
  (180, i_la 0 181), (181, i_gR 6 (fun _ => (23, 0)) 184), (184, i_li 1 185), (185, i_ia 186),
  (186, i_cs n_X7_bitsOf 1 189), (189, i_ri)]
def tb_X7_child : List (Nat × Ins) := [
  (0, i_la 0 1), (1, i_li 1 2), (2, i_cv n_X7_isJob 2 6 5), (5, i_if_ne 11 8),
  (8, i_c (-1000000001) 10), (10, i_ri), (11, i_li 2 12), (12, i_if_ge 18 15),
  (15, i_c (-1000000002) 17), (17, i_ri), (18, i_c 0 19), (19, i_st 3 20),
  (20, i_li 3 21), (21, i_la 0 22), (22, i_gI 6 0 25), (25, i_ic_ge 129 28),
  (28, i_la 0 29), (29, i_gR 6 (fun _ => (24, 0)) 32), (32, i_li 3 33), (33, i_ba 34),
  (34, i_if_eq 123 37), (37, i_la 0 38), (38, i_gR 6 (fun _ => (25, 0)) 41), (41, i_li 3 42),
  (42, i_ia 43), (43, i_li 1 44), (44, i_ic_ne 123 47), (47, i_c 0 48),
  (48, i_st 4 50), (50, i_c 0 51), (51, i_st 5 53), (53, i_li 5 55),
  (55, i_la 0 56), (56, i_gI 6 0 59), (59, i_ic_ge 115 62), (62, i_li 4 64),
  (64, i_la 0 65), (65, i_gR 6 (fun _ => (24, 0)) 68), (68, i_li 5 70), (70, i_ba 71),
  (71, i_if_eq 105 74), (74, i_la 0 75), (75, i_gR 6 (fun _ => (25, 0)) 78), (78, i_li 5 80),
  (80, i_ia 81), (81, i_li 1 82), (82, i_ic_ne 105 85), (85, i_la 0 86),
  (86, i_gR 6 (fun _ => (27, 0)) 89), (89, i_li 5 91), (91, i_ia 92), (92, i_la 0 93),
  (93, i_gR 6 (fun _ => (27, 0)) 96), (96, i_li 3 97), (97, i_ia 98), (98, i_ic_ge 105 101),
  (101, i_c 1 102), (102, i_go 106), (105, i_c 0 106), (106, i_add 107),
  (107, i_st 4 109), (109, i_inc 5 1 112), (112, i_go 53), (115, i_li 4 117),
  (117, i_li 2 118), (118, i_ic_ne 123 121), (121, i_li 3 122), (122, i_ri),
  (123, i_inc 3 1 126), (126, i_go 20), (129, i_c (-1) 130), (130, i_ri)]
def tb_X7_loose : List (Nat × Ins) := [
  (0, i_la 0 1), (1, i_cv n_X7_own 1 6 4), (4, i_li 1 5), (5, i_if_ge 13 8),
  (8, i_c (-1000000002) 10), (10, i_go 20), (13, i_la 0 14), (14, i_li 1 15),
  (15, i_c (-1) 16), (16, i_c 1 17), (17, i_cv n_X7_ofRank 4 6 20), (20, i_ri)]
def tb_X7_bits : List (Nat × Ins) := [
  (0, i_c 0 1), (1, i_st 1 2), (2, i_c 0 3), (3, i_st 2 4),
  (4, i_li 2 5), (5, i_la 0 6), (6, i_gI 6 0 9), (9, i_ic_ge 40 12),
  (12, i_li 1 13), (13, i_la 0 14), (14, i_gR 6 (fun _ => (24, 0)) 17), (17, i_li 2 18),
  (18, i_ba 19), (19, i_if_eq 31 22), (22, i_la 0 23), (23, i_gR 6 (fun _ => (23, 0)) 26),
  (26, i_li 2 27), (27, i_ia 28), (28, i_go 32), (31, i_c 0 32),
  (32, i_add 33), (33, i_st 1 34), (34, i_inc 2 1 37), (37, i_go 4),
  (40, i_li 1 41), (41, i_if_ne 46 44), (44, i_cl 0 45), (45, i_rl),
  (46, i_li 1 47), (47, i_if_ge 55 50), (50, i_li 1 51), (51, i_neg 52),
  (52, i_go 56), (55, i_li 1 56), (56, i_st 2 57), (57, i_li 2 58),
  (58, i_cs n_X7_power 1 61), (61, i_st 3 62), (62, i_li 2 63), (63, i_c 1 64),
  (64, i_li 3 65), (65, i_shl 66), (66, i_sub 67), (67, i_2l 68),
  (68, i_c 52 70), (70, i_li 3 71), (71, i_sub 72), (72, l_shl 73),
  (73, i_st2 4 75), (75, i_li 3 76), (76, i_c 1019 79), (79, i_add 80),
  (80, i_2l 81), (81, i_c 52 83), (83, l_shl 84), (84, i_ll 4 86),
  (86, l_add 87), (87, i_li 1 88), (88, i_if_ge 97 91), (91, i_cl (-9223372036854775808) 94),
  (94, i_go 98), (97, i_cl 0 98), (98, l_add 99), (99, i_rl)]
def tb_X7_sit : List (Nat × Ins) := [
  (0, i_li 1 1), (1, i_c 0 2), (2, i_c 1 3), (3, i_cs n_X7_in 3 6),
  (6, i_if_eq 17 9), (9, i_la 0 10), (10, i_li 3 11), (11, i_cv n_X7_isJob 2 6 14),
  (14, i_if_ne 20 17), (17, i_c (-1000000001) 19), (19, i_ri), (20, i_la 0 21),
  (21, i_gR 6 (fun _ => (24, 0)) 24), (24, i_li 3 25), (25, i_ba 26), (26, i_if_eq 32 29),
  (29, i_c (-1000000003) 31), (31, i_ri), (32, i_li 2 33), (33, i_c 0 34),
  (34, i_c 7 36), (36, i_cs n_X7_in 3 39), (39, i_if_ne 45 42), (42, i_c (-1000000011) 44),
  (44, i_ri), (45, i_li 1 46), (46, i_c 1 47), (47, i_ic_ne 62 50),
  (50, i_la 0 51), (51, i_gR 6 (fun _ => (22, 0)) 54), (54, i_li 3 55), (55, i_ia 56),
  (56, i_if_ne 62 59), (59, i_c (-1000000012) 61), (61, i_ri), (62, i_la 0 63),
  (63, i_gR 6 (fun _ => (28, 0)) 66), (66, i_c 8 68), (68, i_li 1 69), (69, i_mul 70),
  (70, i_li 2 71), (71, i_add 72), (72, i_ia 73), (73, i_st 4 75),
  (75, i_c 0 76), (76, i_st 5 78), (78, i_li 5 80), (80, i_c 16 82),
  (82, i_ic_ge 120 85), (85, i_la 0 86), (86, i_gR 6 (fun _ => (28, 0)) 89), (89, i_li 5 91),
  (91, i_la 0 92), (92, i_gR 6 (fun _ => (28, 0)) 95), (95, i_li 5 97), (97, i_ia 98),
  (98, i_li 3 99), (99, i_ic_ne 106 102), (102, i_c (-1) 103), (103, i_go 113),
  (106, i_la 0 107), (107, i_gR 6 (fun _ => (28, 0)) 110), (110, i_li 5 112), (112, i_ia 113),
  (113, i_is 114), (114, i_inc 5 1 117), (117, i_go 78), (120, i_la 0 121),
  (121, i_gR 6 (fun _ => (28, 0)) 124), (124, i_c 8 126), (126, i_li 1 127), (127, i_mul 128),
  (128, i_li 2 129), (129, i_add 130), (130, i_li 3 131), (131, i_is 132),
  (132, i_li 4 134), (134, i_ri)]
def tb_X7_sits : List (Nat × Ins) := [
  (0, i_li 1 1), (1, i_c 0 2), (2, i_c 1 3), (3, i_cs n_X7_in 3 6),
  (6, i_if_ne 12 9), (9, i_c (-1000000001) 11), (11, i_ri), (12, i_li 2 13),
  (13, i_c 0 14), (14, i_c 7 16), (16, i_cs n_X7_in 3 19), (19, i_if_eq 36 22),
  (22, i_la 0 23), (23, i_gR 6 (fun _ => (28, 0)) 26), (26, i_c 8 28), (28, i_li 1 29),
  (29, i_mul 30), (30, i_li 2 31), (31, i_add 32), (32, i_ia 33),
  (33, i_go 38), (36, i_c (-1000000011) 38), (38, i_ri)]
def tb_X7_net : List (Nat × Ins) := [
  (0, i_li 1 1), (1, i_c 2 2), (2, i_c 8 4), (4, i_cs n_X7_in 3 7),
  (7, i_if_ne 13 10), (10, i_c (-1000000002) 12), (12, i_ri), (13, i_la 0 14),
  (14, i_gI 6 14 17), (17, i_st 2 18), (18, i_la 0 19), (19, i_li 1 20),
  (20, i_pI 6 13 23), (23, i_la 0 24), (24, i_c 0 25), (25, i_pI 6 14 28),
  (28, i_li 2 29), (29, i_ri)]
def tb_X7_isPlace : List (Nat × Ins) := [
  (0, i_li 1 1), (1, i_c 0 2), (2, i_la 0 3), (3, i_gI 6 13 6),
  (6, i_c 1 7), (7, i_sub 8), (8, i_cs n_X7_in 3 11), (11, i_rz)]
def tb_X7_road : List (Nat × Ins) := [
  (0, i_la 0 1), (1, i_li 1 2), (2, i_cv n_X7_isPlace 2 6 5), (5, i_if_eq 21 8),
  (8, i_la 0 9), (9, i_li 2 10), (10, i_cv n_X7_isPlace 2 6 13), (13, i_if_eq 21 16),
  (16, i_li 1 17), (17, i_li 2 18), (18, i_ic_ne 24 21), (21, i_c (-1000000001) 23),
  (23, i_ri), (24, i_li 3 25), (25, i_c 0 26), (26, i_c 9999 29),
  (29, i_cs n_X7_in 3 32), (32, i_if_ne 38 35), (35, i_c (-1000000002) 37), (37, i_ri),
  (38, i_la 0 39), (39, i_gI 6 14 42), (42, i_c 14 44), (44, i_ic_ne 50 47),
  (47, i_c (-1000000004) 49), (49, i_ri), (50, i_la 0 51), (51, i_gR 6 (fun _ => (29, 0)) 54),
  (54, i_la 0 55), (55, i_gI 6 14 58), (58, i_li 1 59), (59, i_is 60),
  (60, i_la 0 61), (61, i_gR 6 (fun _ => (30, 0)) 64), (64, i_la 0 65), (65, i_gI 6 14 68),
  (68, i_li 2 69), (69, i_is 70), (70, i_la 0 71), (71, i_gR 6 (fun _ => (31, 0)) 74),
  (74, i_la 0 75), (75, i_gI 6 14 78), (78, i_li 3 79), (79, i_is 80),
  (80, i_la 0 81), (81, i_dup 82), (82, i_gI 6 14 85), (85, i_c 1 86),
  (86, i_add 87), (87, i_pI 6 14 90), (90, i_la 0 91), (91, i_gI 6 14 94),
  (94, i_c 1 95), (95, i_sub 96), (96, i_ri)]
def tb_X7_goFrom : List (Nat × Ins) := [
  (0, i_c 0 1), (1, i_st 3 2), (2, i_li 3 3), (3, i_la 0 4),
  (4, i_gI 6 14 7), (7, i_ic_ge 154 10), (10, i_la 0 11), (11, i_gR 6 (fun _ => (29, 0)) 14),
  (14, i_li 3 15), (15, i_ia 16), (16, i_li 1 17), (17, i_ic_ne 29 20),
  (20, i_la 0 21), (21, i_gR 6 (fun _ => (30, 0)) 24), (24, i_li 3 25), (25, i_ia 26),
  (26, i_go 49), (29, i_la 0 30), (30, i_gR 6 (fun _ => (30, 0)) 33), (33, i_li 3 34),
  (34, i_ia 35), (35, i_li 1 36), (36, i_ic_ne 48 39), (39, i_la 0 40),
  (40, i_gR 6 (fun _ => (29, 0)) 43), (43, i_li 3 44), (44, i_ia 45), (45, i_go 49),
  (48, i_c (-1) 49), (49, i_st 4 51), (51, i_li 4 53), (53, i_c (-1) 54),
  (54, i_ic_eq 148 57), (57, i_la 0 58), (58, i_gR 6 (fun _ => (24, 0)) 61), (61, i_c 40 63),
  (63, i_li 4 65), (65, i_add 66), (66, i_ba 67), (67, i_if_eq 148 70),
  (70, i_la 0 71), (71, i_gR 6 (fun _ => (31, 0)) 74), (74, i_li 3 75), (75, i_ia 76),
  (76, i_li 2 77), (77, i_if_eq 92 80), (80, i_la 0 81), (81, i_gR 6 (fun _ => (23, 0)) 84),
  (84, i_c 40 86), (86, i_li 1 87), (87, i_add 88), (88, i_ia 89),
  (89, i_go 93), (92, i_c 0 93), (93, i_add 94), (94, i_st 5 96),
  (96, i_li 5 98), (98, i_la 0 99), (99, i_gR 6 (fun _ => (23, 0)) 102), (102, i_c 40 104),
  (104, i_li 4 106), (106, i_add 107), (107, i_ia 108), (108, i_ic_ge 148 111),
  (111, i_li 5 113), (113, i_c 9999 116), (116, i_ic_ge 148 119), (119, i_la 0 120),
  (120, i_gR 6 (fun _ => (32, 0)) 123), (123, i_li 4 125), (125, i_li 3 126), (126, i_is 127),
  (127, i_la 0 128), (128, i_dup 129), (129, i_gI 6 19 132), (132, i_c 1 133),
  (133, i_add 134), (134, i_pI 6 19 137), (137, i_la 0 138), (138, i_c 40 140),
  (140, i_li 4 142), (142, i_add 143), (143, i_li 5 145), (145, i_cv n_X7_lowerTo 3 6 148),
  (148, i_inc 3 1 151), (151, i_go 2), (154, i_rv)]
def tb_X7_lay : List (Nat × Ins) := [
  (0, i_la 0 1), (1, i_gI 6 8 4), (4, i_st 3 5), (5, i_la 0 6),
  (6, i_gI 6 9 9), (9, i_st 4 11), (11, i_la 0 12), (12, i_gI 6 7 15),
  (15, i_st 5 17), (17, i_la 0 18), (18, i_c 40 20), (20, i_pI 6 10 23),
  (23, i_la 0 24), (24, i_c 0 25), (25, i_pI 6 19 28), (28, i_c 0 29),
  (29, i_st 6 31), (31, i_li 6 33), (33, i_la 0 34), (34, i_gI 6 13 37),
  (37, i_ic_ge 77 40), (40, i_la 0 41), (41, i_gR 6 (fun _ => (32, 0)) 44), (44, i_li 6 46),
  (46, i_c (-1) 47), (47, i_is 48), (48, i_la 0 49), (49, i_c 40 51),
  (51, i_li 6 53), (53, i_add 54), (54, i_c 0 55), (55, i_li 6 57),
  (57, i_li 1 58), (58, i_ic_ne 65 61), (61, i_c 0 62), (62, i_go 68),
  (65, i_c 9999 68), (68, i_cv n_X7_add 4 6 71), (71, i_inc 6 1 74), (74, i_go 31),
  (77, i_c 0 78), (78, i_st 6 80), (80, i_la 0 81), (81, i_cv n_X7_soonest 1 6 84),
  (84, i_st 7 86), (86, i_li 7 88), (88, i_c (-1) 89), (89, i_ic_eq 138 92),
  (92, i_la 0 93), (93, i_li 7 95), (95, i_cv n_X7_remove 2 6 98), (98, i_li 6 100),
  (100, i_if_eq 116 103), (103, i_la 0 104), (104, i_gR 6 (fun _ => (23, 0)) 107), (107, i_li 7 109),
  (109, i_ia 110), (110, i_c 9999 113), (113, i_ic_ge 126 116), (116, i_la 0 117),
  (117, i_li 7 119), (119, i_c 40 121), (121, i_sub 122), (122, i_li 2 123),
  (123, i_cv n_X7_goFrom 3 6 126), (126, i_inc 6 1 129), (129, i_la 0 130), (130, i_cv n_X7_soonest 1 6 133),
  (133, i_st 7 135), (135, i_go 86), (138, i_la 0 139), (139, i_la 0 140),
  (140, i_gI 6 8 143), (143, i_li 3 144), (144, i_sub 145), (145, i_pI 6 20 148),
  (148, i_la 0 149), (149, i_la 0 150), (150, i_gI 6 9 153), (153, i_li 4 155),
  (155, i_sub 156), (156, i_pI 6 21 159), (159, i_la 0 160), (160, i_li 3 161),
  (161, i_pI 6 8 164), (164, i_la 0 165), (165, i_li 4 167), (167, i_pI 6 9 170),
  (170, i_la 0 171), (171, i_li 5 173), (173, i_pI 6 7 176), (176, i_la 0 177),
  (177, i_cv n_X7_own 1 6 180), (180, i_rv)]
def tb_X7_hanging : List (Nat × Ins) := [
  (0, i_c 0 1), (1, i_st 2 2), (2, i_c 0 3), (3, i_st 3 4),
  (4, i_li 3 5), (5, i_la 0 6), (6, i_gI 6 13 9), (9, i_ic_ge 61 12),
  (12, i_li 2 13), (13, i_la 0 14), (14, i_gR 6 (fun _ => (32, 0)) 17), (17, i_li 3 18),
  (18, i_ia 19), (19, i_c (-1) 20), (20, i_ic_ne 27 23), (23, i_c 0 24),
  (24, i_go 53), (27, i_li 1 28), (28, i_if_eq 42 31), (31, i_c 1 32),
  (32, i_la 0 33), (33, i_gR 6 (fun _ => (32, 0)) 36), (36, i_li 3 37), (37, i_ia 38),
  (38, i_shl 39), (39, i_go 53), (42, i_la 0 43), (43, i_gR 6 (fun _ => (31, 0)) 46),
  (46, i_la 0 47), (47, i_gR 6 (fun _ => (32, 0)) 50), (50, i_li 3 51), (51, i_ia 52),
  (52, i_ia 53), (53, i_add 54), (54, i_st 2 55), (55, i_inc 3 1 58),
  (58, i_go 4), (61, i_li 2 62), (62, i_ri)]
def tb_X7_tree : List (Nat × Ins) := [
  (0, i_la 0 1), (1, i_li 1 2), (2, i_cv n_X7_isPlace 2 6 5), (5, i_if_ne 11 8),
  (8, i_c (-1000000001) 10), (10, i_ri), (11, i_li 2 12), (12, i_c 0 13),
  (13, i_c 4 14), (14, i_cs n_X7_in 3 17), (17, i_if_ne 23 20), (20, i_c (-1000000002) 22),
  (22, i_ri), (23, i_la 0 24), (24, i_li 1 25), (25, i_c 0 26),
  (26, i_cv n_X7_lay 3 6 29), (29, i_li 2 30), (30, i_c 2 31), (31, i_ic_ge 51 34),
  (34, i_la 0 35), (35, i_li 2 36), (36, i_c 1 37), (37, i_ic_ne 44 40),
  (40, i_c 1 41), (41, i_go 45), (44, i_c 0 45), (45, i_cv n_X7_hanging 2 6 48),
  (48, i_go 79), (51, i_li 2 52), (52, i_c 2 53), (53, i_ic_ne 63 56),
  (56, i_la 0 57), (57, i_gI 6 20 60), (60, i_go 79), (63, i_li 2 64),
  (64, i_c 3 65), (65, i_ic_ne 75 68), (68, i_la 0 69), (69, i_gI 6 21 72),
  (72, i_go 79), (75, i_la 0 76), (76, i_gI 6 19 79), (79, i_ri)]
def tb_X7_way : List (Nat × Ins) := [
  (0, i_la 0 1), (1, i_li 1 2), (2, i_cv n_X7_isPlace 2 6 5), (5, i_if_eq 16 8),
  (8, i_la 0 9), (9, i_li 2 10), (10, i_cv n_X7_isPlace 2 6 13), (13, i_if_ne 19 16),
  (16, i_c (-1000000001) 18), (18, i_ri), (19, i_la 0 20), (20, i_li 1 21),
  (21, i_c 1 22), (22, i_cv n_X7_lay 3 6 25), (25, i_la 0 26), (26, i_gR 6 (fun _ => (23, 0)) 29),
  (29, i_c 40 31), (31, i_li 2 32), (32, i_add 33), (33, i_ia 34),
  (34, i_c 9999 37), (37, i_ic_ge 52 40), (40, i_la 0 41), (41, i_gR 6 (fun _ => (23, 0)) 44),
  (44, i_c 40 46), (46, i_li 2 47), (47, i_add 48), (48, i_ia 49),
  (49, i_go 53), (52, i_c (-1) 53), (53, i_ri)]
def tb_X7_ways : List (Nat × Ins) := [
  (0, i_la 0 1), (1, i_li 1 2), (2, i_cv n_X7_isPlace 2 6 5), (5, i_if_ne 11 8),
  (8, i_c (-1000000001) 10), (10, i_ri), (11, i_li 2 12), (12, i_c 0 13),
  (13, i_c 3 14), (14, i_cs n_X7_in 3 17), (17, i_if_ne 23 20), (20, i_c (-1000000002) 22),
  (22, i_ri), (23, i_la 0 24), (24, i_li 1 25), (25, i_c 1 26),
  (26, i_cv n_X7_lay 3 6 29), (29, i_li 2 30), (30, i_c 3 31), (31, i_ic_ge 62 34),
  (34, i_li 2 35), (35, i_if_ne 45 38), (38, i_la 0 39), (39, i_gI 6 20 42),
  (42, i_go 61), (45, i_li 2 46), (46, i_c 1 47), (47, i_ic_ne 57 50),
  (50, i_la 0 51), (51, i_gI 6 21 54), (54, i_go 61), (57, i_la 0 58),
  (58, i_gI 6 19 61), (61, i_ri), (62, i_c 0 63), (63, i_st 3 64),
  (64, i_c 0 65), (65, i_st 4 67), (67, i_li 4 69), (69, i_la 0 70),
  (70, i_gI 6 13 73), (73, i_ic_ge 106 76), (76, i_li 3 77), (77, i_la 0 78),
  (78, i_gR 6 (fun _ => (23, 0)) 81), (81, i_c 40 83), (83, i_li 4 85), (85, i_add 86),
  (86, i_ia 87), (87, i_c 9999 90), (90, i_ic_ge 97 93), (93, i_c 1 94),
  (94, i_go 98), (97, i_c 0 98), (98, i_add 99), (99, i_st 3 100),
  (100, i_inc 4 1 103), (103, i_go 67), (106, i_li 3 107), (107, i_ri)]
def tb_X7_keep : List (Nat × Ins) := [
  (0, i_li 1 1), (1, i_c 0 2), (2, i_c 1 3), (3, i_cs n_X7_in 3 6),
  (6, i_if_ne 12 9), (9, i_c (-1000000001) 11), (11, i_ri), (12, i_c 260 15),
  (15, i_li 1 16), (16, i_mul 17), (17, i_st 2 18), (18, i_la 0 19),
  (19, i_gR 6 (fun _ => (33, 0)) 22), (22, i_li 2 23), (23, i_la 0 24), (24, i_gI 6 0 27),
  (27, i_is 28), (28, i_la 0 29), (29, i_gR 6 (fun _ => (33, 0)) 32), (32, i_li 2 33),
  (33, i_c 1 34), (34, i_add 35), (35, i_la 0 36), (36, i_gI 6 8 39),
  (39, i_is 40), (40, i_la 0 41), (41, i_gR 6 (fun _ => (33, 0)) 44), (44, i_li 2 45),
  (45, i_c 2 46), (46, i_add 47), (47, i_la 0 48), (48, i_gI 6 9 51),
  (51, i_is 52), (52, i_la 0 53), (53, i_gR 6 (fun _ => (33, 0)) 56), (56, i_li 2 57),
  (57, i_c 3 58), (58, i_add 59), (59, i_la 0 60), (60, i_gI 6 7 63),
  (63, i_is 64), (64, i_c 0 65), (65, i_st 3 66), (66, i_li 3 67),
  (67, i_la 0 68), (68, i_gI 6 0 71), (71, i_ic_ge 194 74), (74, i_li 2 75),
  (75, i_c 4 76), (76, i_add 77), (77, i_c 6 79), (79, i_li 3 80),
  (80, i_mul 81), (81, i_add 82), (82, i_st 4 84), (84, i_la 0 85),
  (85, i_gR 6 (fun _ => (33, 0)) 88), (88, i_li 4 90), (90, i_la 0 91), (91, i_gR 6 (fun _ => (22, 0)) 94),
  (94, i_li 3 95), (95, i_ia 96), (96, i_is 97), (97, i_la 0 98),
  (98, i_gR 6 (fun _ => (33, 0)) 101), (101, i_li 4 103), (103, i_c 1 104), (104, i_add 105),
  (105, i_la 0 106), (106, i_gR 6 (fun _ => (23, 0)) 109), (109, i_li 3 110), (110, i_ia 111),
  (111, i_is 112), (112, i_la 0 113), (113, i_gR 6 (fun _ => (33, 0)) 116), (116, i_li 4 118),
  (118, i_c 2 119), (119, i_add 120), (120, i_la 0 121), (121, i_gR 6 (fun _ => (24, 0)) 124),
  (124, i_li 3 125), (125, i_ba 126), (126, i_if_eq 133 129), (129, i_c 1 130),
  (130, i_go 134), (133, i_c 0 134), (134, i_is 135), (135, i_la 0 136),
  (136, i_gR 6 (fun _ => (33, 0)) 139), (139, i_li 4 141), (141, i_c 3 142), (142, i_add 143),
  (143, i_la 0 144), (144, i_gR 6 (fun _ => (25, 0)) 147), (147, i_li 3 148), (148, i_ia 149),
  (149, i_is 150), (150, i_la 0 151), (151, i_gR 6 (fun _ => (33, 0)) 154), (154, i_li 4 156),
  (156, i_c 4 157), (157, i_add 158), (158, i_la 0 159), (159, i_gR 6 (fun _ => (26, 0)) 162),
  (162, i_li 3 163), (163, i_ba 164), (164, i_if_eq 171 167), (167, i_c 1 168),
  (168, i_go 172), (171, i_c 0 172), (172, i_is 173), (173, i_la 0 174),
  (174, i_gR 6 (fun _ => (33, 0)) 177), (177, i_li 4 179), (179, i_c 5 180), (180, i_add 181),
  (181, i_la 0 182), (182, i_gR 6 (fun _ => (27, 0)) 185), (185, i_li 3 186), (186, i_ia 187),
  (187, i_is 188), (188, i_inc 3 1 191), (191, i_go 66), (194, i_c 0 195),
  (195, i_st 3 196), (196, i_li 3 197), (197, i_c 16 199), (199, i_ic_ge 226 202),
  (202, i_la 0 203), (203, i_gR 6 (fun _ => (33, 0)) 206), (206, i_li 2 207), (207, i_c 244 210),
  (210, i_add 211), (211, i_li 3 212), (212, i_add 213), (213, i_la 0 214),
  (214, i_gR 6 (fun _ => (28, 0)) 217), (217, i_li 3 218), (218, i_ia 219), (219, i_is 220),
  (220, i_inc 3 1 223), (223, i_go 196), (226, i_la 0 227), (227, i_gR 6 (fun _ => (34, 0)) 230),
  (230, i_li 1 231), (231, i_c 1 232), (232, i_bs 233), (233, i_la 0 234),
  (234, i_gI 6 0 237), (237, i_ri)]
def tb_X7_goBack : List (Nat × Ins) := [
  (0, i_li 1 1), (1, i_c 0 2), (2, i_c 1 3), (3, i_cs n_X7_in 3 6),
  (6, i_if_ne 12 9), (9, i_c (-1000000001) 11), (11, i_ri), (12, i_la 0 13),
  (13, i_gR 6 (fun _ => (34, 0)) 16), (16, i_li 1 17), (17, i_ba 18), (18, i_if_ne 24 21),
  (21, i_c (-1000000003) 23), (23, i_ri), (24, i_c 260 27), (27, i_li 1 28),
  (28, i_mul 29), (29, i_st 2 30), (30, i_la 0 31), (31, i_la 0 32),
  (32, i_gR 6 (fun _ => (33, 0)) 35), (35, i_li 2 36), (36, i_ia 37), (37, i_pI 6 0 40),
  (40, i_la 0 41), (41, i_la 0 42), (42, i_gR 6 (fun _ => (33, 0)) 45), (45, i_li 2 46),
  (46, i_c 1 47), (47, i_add 48), (48, i_ia 49), (49, i_pI 6 8 52),
  (52, i_la 0 53), (53, i_la 0 54), (54, i_gR 6 (fun _ => (33, 0)) 57), (57, i_li 2 58),
  (58, i_c 2 59), (59, i_add 60), (60, i_ia 61), (61, i_pI 6 9 64),
  (64, i_la 0 65), (65, i_la 0 66), (66, i_gR 6 (fun _ => (33, 0)) 69), (69, i_li 2 70),
  (70, i_c 3 71), (71, i_add 72), (72, i_ia 73), (73, i_pI 6 7 76),
  (76, i_c 0 77), (77, i_st 3 78), (78, i_li 3 79), (79, i_la 0 80),
  (80, i_gI 6 0 83), (83, i_ic_ge 208 86), (86, i_li 2 87), (87, i_c 4 88),
  (88, i_add 89), (89, i_c 6 91), (91, i_li 3 92), (92, i_mul 93),
  (93, i_add 94), (94, i_st 4 96), (96, i_la 0 97), (97, i_gR 6 (fun _ => (22, 0)) 100),
  (100, i_li 3 101), (101, i_la 0 102), (102, i_gR 6 (fun _ => (33, 0)) 105), (105, i_li 4 107),
  (107, i_ia 108), (108, i_is 109), (109, i_la 0 110), (110, i_gR 6 (fun _ => (23, 0)) 113),
  (113, i_li 3 114), (114, i_la 0 115), (115, i_gR 6 (fun _ => (33, 0)) 118), (118, i_li 4 120),
  (120, i_c 1 121), (121, i_add 122), (122, i_ia 123), (123, i_is 124),
  (124, i_la 0 125), (125, i_gR 6 (fun _ => (24, 0)) 128), (128, i_li 3 129), (129, i_la 0 130),
  (130, i_gR 6 (fun _ => (33, 0)) 133), (133, i_li 4 135), (135, i_c 2 136), (136, i_add 137),
  (137, i_ia 138), (138, i_c 1 139), (139, i_ic_ne 146 142), (142, i_c 1 143),
  (143, i_go 147), (146, i_c 0 147), (147, i_bs 148), (148, i_la 0 149),
  (149, i_gR 6 (fun _ => (25, 0)) 152), (152, i_li 3 153), (153, i_la 0 154), (154, i_gR 6 (fun _ => (33, 0)) 157),
  (157, i_li 4 159), (159, i_c 3 160), (160, i_add 161), (161, i_ia 162),
  (162, i_is 163), (163, i_la 0 164), (164, i_gR 6 (fun _ => (26, 0)) 167), (167, i_li 3 168),
  (168, i_la 0 169), (169, i_gR 6 (fun _ => (33, 0)) 172), (172, i_li 4 174), (174, i_c 4 175),
  (175, i_add 176), (176, i_ia 177), (177, i_c 1 178), (178, i_ic_ne 185 181),
  (181, i_c 1 182), (182, i_go 186), (185, i_c 0 186), (186, i_bs 187),
  (187, i_la 0 188), (188, i_gR 6 (fun _ => (27, 0)) 191), (191, i_li 3 192), (192, i_la 0 193),
  (193, i_gR 6 (fun _ => (33, 0)) 196), (196, i_li 4 198), (198, i_c 5 199), (199, i_add 200),
  (200, i_ia 201), (201, i_is 202), (202, i_inc 3 1 205), (205, i_go 78),
  (208, i_c 0 209), (209, i_st 3 210), (210, i_li 3 211), (211, i_c 16 213),
  (213, i_ic_ge 240 216), (216, i_la 0 217), (217, i_gR 6 (fun _ => (28, 0)) 220), (220, i_li 3 221),
  (221, i_la 0 222), (222, i_gR 6 (fun _ => (33, 0)) 225), (225, i_li 2 226), (226, i_c 244 229),
  (229, i_add 230), (230, i_li 3 231), (231, i_add 232), (232, i_ia 233),
  (233, i_is 234), (234, i_inc 3 1 237), (237, i_go 210), (240, i_la 0 241),
  (241, i_gI 6 0 244), (244, i_ri)]
def tb_J7_fill_53178 : List (Nat × Ins) := [
  (0, i_c 0 1), (1, i_st 2 2), (2, i_la 0 3), (3, i_al 4),
  (4, i_st 3 5), (5, i_li 2 6), (6, i_li 3 7), (7, i_ic_ge 20 10),
  (10, i_la 0 11), (11, i_li 2 12), (12, i_li 1 13), (13, i_is 14),
  (14, i_inc 2 1 17), (17, i_go 5), (20, i_rv)]
