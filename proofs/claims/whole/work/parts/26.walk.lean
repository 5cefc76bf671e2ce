/-! HemLineModel.<init>()V -/
def tbX12_init_0 : List (Nat × Instr × Nat) := [(0, .aload_n 0, 1), (1, .invokespecial 1, 3), (4, .aload_n 0, 1), (5, .lconst 1, 1), (6, .putfield 7, 3), (9, .aload_n 0, 1), (10, .bipush 16, 2), (12, .newarray .int, 2), (14, .putfield 13, 3), (17, .aload_n 0, 1), (18, .bipush 16, 2), (20, .newarray .int, 2), (22, .putfield 17, 3), (25, .aload_n 0, 1), (26, .bipush 16, 2), (28, .newarray .int, 2), (30, .putfield 20, 3), (33, .aload_n 0, 1), (34, .bipush 16, 2), (36, .newarray .int, 2), (38, .putfield 23, 3), (41, .aload_n 0, 1), (42, .bipush 16, 2), (44, .newarray .int, 2), (46, .putfield 26, 3), (49, .aload_n 0, 1), (50, .iconst 4, 1), (51, .newarray .int, 2), (53, .dup, 1), (54, .iconst 0, 1), (55, .iconst (-1), 1), (56, .iastore, 1)]
def tbX12_init_1 : List (Nat × Instr × Nat) := [(57, .dup, 1), (58, .iconst 1, 1), (59, .iconst (-1), 1), (60, .iastore, 1), (61, .dup, 1), (62, .iconst 2, 1), (63, .iconst (-1), 1), (64, .iastore, 1), (65, .dup, 1), (66, .iconst 3, 1), (67, .iconst (-1), 1), (68, .iastore, 1), (69, .putfield 29, 3), (72, .aload_n 0, 1), (73, .bipush 96, 2), (75, .newarray .int, 2), (77, .putfield 32, 3), (80, .aload_n 0, 1), (81, .sipush 4816, 3), (84, .newarray .int, 2), (86, .putfield 35, 3), (89, .aload_n 0, 1), (90, .sipush 4816, 3), (93, .newarray .int, 2), (95, .putfield 38, 3), (98, .aload_n 0, 1), (99, .sipush 4816, 3), (102, .newarray .int, 2), (104, .putfield 41, 3), (107, .aload_n 0, 1), (108, .sipush 4816, 3), (111, .newarray .int, 2)]
def tbX12_init_2 : List (Nat × Instr × Nat) := [(113, .putfield 44, 3), (116, .aload_n 0, 1), (117, .sipush 1204, 3), (120, .newarray .int, 2), (122, .putfield 47, 3), (125, .aload_n 0, 1), (126, .sipush 301, 3), (129, .newarray .int, 2), (131, .putfield 50, 3), (134, .aload_n 0, 1), (135, .iconst (-1), 1), (136, .putfield 53, 3), (139, .aload_n 0, 1), (140, .iconst (-1), 1), (141, .putfield 57, 3), (144, .aload_n 0, 1), (145, .bipush 6, 2), (147, .newarray .int, 2), (149, .putfield 60, 3), (152, .aload_n 0, 1), (153, .bipush 96, 2), (155, .newarray .int, 2), (157, .putfield 63, 3), (160, .aload_n 0, 1), (161, .bipush 96, 2), (163, .newarray .int, 2), (165, .putfield 66, 3), (168, .aload_n 0, 1), (169, .bipush 96, 2), (171, .newarray .int, 2), (173, .putfield 69, 3), (176, .aload_n 0, 1)]
def tbX12_init_3 : List (Nat × Instr × Nat) := [(177, .bipush 96, 2), (179, .newarray .int, 2), (181, .putfield 72, 3), (184, .aload_n 0, 1), (185, .bipush 96, 2), (187, .newarray .int, 2), (189, .putfield 75, 3), (192, .aload_n 0, 1), (193, .bipush 96, 2), (195, .newarray .int, 2), (197, .putfield 78, 3), (200, .aload_n 0, 1), (201, .sipush 4200, 3), (204, .newarray .int, 2), (206, .putfield 81, 3), (209, .aload_n 0, 1), (210, .sipush 4200, 3), (213, .newarray .int, 2), (215, .putfield 84, 3), (218, .aload_n 0, 1), (219, .sipush 4200, 3), (222, .newarray .int, 2), (224, .putfield 87, 3), (227, .aload_n 0, 1), (228, .bipush 64, 2), (230, .newarray .boolean, 2), (232, .putfield 90, 3), (235, .aload_n 0, 1), (236, .sipush 700, 3), (239, .newarray .byte, 2), (241, .putfield 94, 3), (244, .aload_n 0, 1)]
def tbX12_init_4 : List (Nat × Instr × Nat) := [(245, .sipush 700, 3), (248, .newarray .byte, 2), (250, .putfield 98, 3), (253, .aload_n 0, 1), (254, .bipush 6, 2), (256, .newarray .int, 2), (258, .putfield 101, 3), (261, .aload_n 0, 1), (262, .bipush 12, 2), (264, .newarray .int, 2), (266, .putfield 104, 3), (269, .aload_n 0, 1), (270, .sipush 130, 3), (273, .newarray .int, 2), (275, .putfield 107, 3), (278, .aload_n 0, 1), (279, .bipush 16, 2), (281, .newarray .int, 2), (283, .putfield 110, 3), (286, .aload_n 0, 1), (287, .bipush 13, 2), (289, .newarray .long, 2), (291, .putfield 113, 3), (294, .aload_n 0, 1), (295, .bipush 41, 2), (297, .newarray .long, 2), (299, .putfield 117, 3), (302, .aload_n 0, 1), (303, .bipush 60, 2), (305, .newarray .int, 2), (307, .putfield 120, 3), (310, .aload_n 0, 1)]
def tbX12_init_5 : List (Nat × Instr × Nat) := [(311, .bipush 60, 2), (313, .newarray .int, 2), (315, .putfield 123, 3), (318, .aload_n 0, 1), (319, .bipush 60, 2), (321, .newarray .int, 2), (323, .putfield 126, 3), (326, .aload_n 0, 1), (327, .bipush 20, 2), (329, .newarray .int, 2), (331, .putfield 129, 3), (334, .aload_n 0, 1), (335, .bipush 20, 2), (337, .newarray .int, 2), (339, .putfield 132, 3), (342, .aload_n 0, 1), (343, .bipush 20, 2), (345, .newarray .int, 2), (347, .putfield 135, 3), (350, .aload_n 0, 1), (351, .bipush 16, 2), (353, .newarray .int, 2), (355, .putfield 138, 3), (358, .aload_n 0, 1), (359, .sipush 427, 3), (362, .newarray .int, 2), (364, .putfield 141, 3), (367, .aload_n 0, 1), (368, .ldc 144, 2), (370, .newarray .int, 2), (372, .putfield 145, 3), (375, .aload_n 0, 1)]
def tbX12_init_6 : List (Nat × Instr × Nat) := [(376, .iconst 3, 1), (377, .newarray .long, 2), (379, .putfield 148, 3), (382, .aload_n 0, 1), (383, .bipush 8, 2), (385, .newarray .int, 2), (387, .putfield 151, 3), (390, .return_, 1)]
theorem tdX12_init_0 : hx_dt cX12_init tbX12_init_0 = true := by decide +kernel
theorem tdX12_init_1 : hx_dt cX12_init tbX12_init_1 = true := by decide +kernel
theorem tdX12_init_2 : hx_dt cX12_init tbX12_init_2 = true := by decide +kernel
theorem tdX12_init_3 : hx_dt cX12_init tbX12_init_3 = true := by decide +kernel
theorem tdX12_init_4 : hx_dt cX12_init tbX12_init_4 = true := by decide +kernel
theorem tdX12_init_5 : hx_dt cX12_init tbX12_init_5 = true := by decide +kernel
theorem tdX12_init_6 : hx_dt cX12_init tbX12_init_6 = true := by decide +kernel
def TAX12_init : hx_TA := ([], [(13, 12, 7, 2), (17, 12, 8, 2), (20, 12, 9, 2), (23, 12, 10, 2), (26, 12, 11, 2), (29, 12, 12, 2), (32, 12, 13, 2), (35, 12, 14, 2), (38, 12, 15, 2), (41, 12, 16, 2), (44, 12, 17, 2), (47, 12, 18, 2), (50, 12, 19, 2), (60, 12, 28, 2), (63, 12, 29, 2), (66, 12, 30, 2), (69, 12, 31, 2), (72, 12, 32, 2), (75, 12, 33, 2), (78, 12, 34, 2), (81, 12, 35, 2), (84, 12, 36, 2), (87, 12, 37, 2), (90, 12, 38, 2), (94, 12, 39, 2), (98, 12, 40, 2), (101, 12, 43, 2), (104, 12, 44, 2), (107, 12, 46, 2), (110, 12, 50, 2), (113, 12, 51, 2), (117, 12, 54, 2), (120, 12, 56, 2), (123, 12, 57, 2), (126, 12, 58, 2), (129, 12, 60, 2), (132, 12, 61, 2), (135, 12, 62, 2), (138, 12, 63, 2), (141, 12, 64, 2), (145, 12, 67, 2), (148, 12, 68, 2), (151, 12, 69, 2)], [], [1])
theorem taX12_init_f13 : (13, 12, 7, 2) ∈ TAX12_init.2.1 := List.mem_of_getElem? (i := 0) rfl
theorem toX12_init_f13 : hx_ffok RX12 (13, 12, 7, 2) := ⟨RX12, TX12, 70, tyX12, rfl, Nat.le_of_ble_eq_true rfl, rfl, mw_1134, inX12, tyX12_ok, nmX12, rfl, rfl, fun h => absurd h (by decide), fun _ => Or.inr ⟨_, rfl⟩⟩
theorem taX12_init_f17 : (17, 12, 8, 2) ∈ TAX12_init.2.1 := List.mem_of_getElem? (i := 1) rfl
theorem toX12_init_f17 : hx_ffok RX12 (17, 12, 8, 2) := ⟨RX12, TX12, 70, tyX12, rfl, Nat.le_of_ble_eq_true rfl, rfl, mw_1135, inX12, tyX12_ok, nmX12, rfl, rfl, fun h => absurd h (by decide), fun _ => Or.inr ⟨_, rfl⟩⟩
theorem taX12_init_f20 : (20, 12, 9, 2) ∈ TAX12_init.2.1 := List.mem_of_getElem? (i := 2) rfl
theorem toX12_init_f20 : hx_ffok RX12 (20, 12, 9, 2) := ⟨RX12, TX12, 70, tyX12, rfl, Nat.le_of_ble_eq_true rfl, rfl, mw_1136, inX12, tyX12_ok, nmX12, rfl, rfl, fun h => absurd h (by decide), fun _ => Or.inr ⟨_, rfl⟩⟩
theorem taX12_init_f23 : (23, 12, 10, 2) ∈ TAX12_init.2.1 := List.mem_of_getElem? (i := 3) rfl
theorem toX12_init_f23 : hx_ffok RX12 (23, 12, 10, 2) := ⟨RX12, TX12, 70, tyX12, rfl, Nat.le_of_ble_eq_true rfl, rfl, mw_1137, inX12, tyX12_ok, nmX12, rfl, rfl, fun h => absurd h (by decide), fun _ => Or.inr ⟨_, rfl⟩⟩
theorem taX12_init_f26 : (26, 12, 11, 2) ∈ TAX12_init.2.1 := List.mem_of_getElem? (i := 4) rfl
theorem toX12_init_f26 : hx_ffok RX12 (26, 12, 11, 2) := ⟨RX12, TX12, 70, tyX12, rfl, Nat.le_of_ble_eq_true rfl, rfl, mw_1138, inX12, tyX12_ok, nmX12, rfl, rfl, fun h => absurd h (by decide), fun _ => Or.inr ⟨_, rfl⟩⟩
theorem taX12_init_f29 : (29, 12, 12, 2) ∈ TAX12_init.2.1 := List.mem_of_getElem? (i := 5) rfl
theorem toX12_init_f29 : hx_ffok RX12 (29, 12, 12, 2) := ⟨RX12, TX12, 70, tyX12, rfl, Nat.le_of_ble_eq_true rfl, rfl, mw_1139, inX12, tyX12_ok, nmX12, rfl, rfl, fun h => absurd h (by decide), fun _ => Or.inr ⟨_, rfl⟩⟩
theorem taX12_init_f32 : (32, 12, 13, 2) ∈ TAX12_init.2.1 := List.mem_of_getElem? (i := 6) rfl
theorem toX12_init_f32 : hx_ffok RX12 (32, 12, 13, 2) := ⟨RX12, TX12, 70, tyX12, rfl, Nat.le_of_ble_eq_true rfl, rfl, mw_1140, inX12, tyX12_ok, nmX12, rfl, rfl, fun h => absurd h (by decide), fun _ => Or.inr ⟨_, rfl⟩⟩
theorem taX12_init_f35 : (35, 12, 14, 2) ∈ TAX12_init.2.1 := List.mem_of_getElem? (i := 7) rfl
theorem toX12_init_f35 : hx_ffok RX12 (35, 12, 14, 2) := ⟨RX12, TX12, 70, tyX12, rfl, Nat.le_of_ble_eq_true rfl, rfl, mw_1141, inX12, tyX12_ok, nmX12, rfl, rfl, fun h => absurd h (by decide), fun _ => Or.inr ⟨_, rfl⟩⟩
theorem taX12_init_f38 : (38, 12, 15, 2) ∈ TAX12_init.2.1 := List.mem_of_getElem? (i := 8) rfl
theorem toX12_init_f38 : hx_ffok RX12 (38, 12, 15, 2) := ⟨RX12, TX12, 70, tyX12, rfl, Nat.le_of_ble_eq_true rfl, rfl, mw_1142, inX12, tyX12_ok, nmX12, rfl, rfl, fun h => absurd h (by decide), fun _ => Or.inr ⟨_, rfl⟩⟩
theorem taX12_init_f41 : (41, 12, 16, 2) ∈ TAX12_init.2.1 := List.mem_of_getElem? (i := 9) rfl
theorem toX12_init_f41 : hx_ffok RX12 (41, 12, 16, 2) := ⟨RX12, TX12, 70, tyX12, rfl, Nat.le_of_ble_eq_true rfl, rfl, mw_1143, inX12, tyX12_ok, nmX12, rfl, rfl, fun h => absurd h (by decide), fun _ => Or.inr ⟨_, rfl⟩⟩
theorem taX12_init_f44 : (44, 12, 17, 2) ∈ TAX12_init.2.1 := List.mem_of_getElem? (i := 10) rfl
theorem toX12_init_f44 : hx_ffok RX12 (44, 12, 17, 2) := ⟨RX12, TX12, 70, tyX12, rfl, Nat.le_of_ble_eq_true rfl, rfl, mw_1144, inX12, tyX12_ok, nmX12, rfl, rfl, fun h => absurd h (by decide), fun _ => Or.inr ⟨_, rfl⟩⟩
theorem taX12_init_f47 : (47, 12, 18, 2) ∈ TAX12_init.2.1 := List.mem_of_getElem? (i := 11) rfl
theorem toX12_init_f47 : hx_ffok RX12 (47, 12, 18, 2) := ⟨RX12, TX12, 70, tyX12, rfl, Nat.le_of_ble_eq_true rfl, rfl, mw_1145, inX12, tyX12_ok, nmX12, rfl, rfl, fun h => absurd h (by decide), fun _ => Or.inr ⟨_, rfl⟩⟩
theorem taX12_init_f50 : (50, 12, 19, 2) ∈ TAX12_init.2.1 := List.mem_of_getElem? (i := 12) rfl
theorem toX12_init_f50 : hx_ffok RX12 (50, 12, 19, 2) := ⟨RX12, TX12, 70, tyX12, rfl, Nat.le_of_ble_eq_true rfl, rfl, mw_1146, inX12, tyX12_ok, nmX12, rfl, rfl, fun h => absurd h (by decide), fun _ => Or.inr ⟨_, rfl⟩⟩
theorem taX12_init_f60 : (60, 12, 28, 2) ∈ TAX12_init.2.1 := List.mem_of_getElem? (i := 13) rfl
theorem toX12_init_f60 : hx_ffok RX12 (60, 12, 28, 2) := ⟨RX12, TX12, 70, tyX12, rfl, Nat.le_of_ble_eq_true rfl, rfl, mw_1155, inX12, tyX12_ok, nmX12, rfl, rfl, fun h => absurd h (by decide), fun _ => Or.inr ⟨_, rfl⟩⟩
theorem taX12_init_f63 : (63, 12, 29, 2) ∈ TAX12_init.2.1 := List.mem_of_getElem? (i := 14) rfl
theorem toX12_init_f63 : hx_ffok RX12 (63, 12, 29, 2) := ⟨RX12, TX12, 70, tyX12, rfl, Nat.le_of_ble_eq_true rfl, rfl, mw_1156, inX12, tyX12_ok, nmX12, rfl, rfl, fun h => absurd h (by decide), fun _ => Or.inr ⟨_, rfl⟩⟩
theorem taX12_init_f66 : (66, 12, 30, 2) ∈ TAX12_init.2.1 := List.mem_of_getElem? (i := 15) rfl
theorem toX12_init_f66 : hx_ffok RX12 (66, 12, 30, 2) := ⟨RX12, TX12, 70, tyX12, rfl, Nat.le_of_ble_eq_true rfl, rfl, mw_1157, inX12, tyX12_ok, nmX12, rfl, rfl, fun h => absurd h (by decide), fun _ => Or.inr ⟨_, rfl⟩⟩
theorem taX12_init_f69 : (69, 12, 31, 2) ∈ TAX12_init.2.1 := List.mem_of_getElem? (i := 16) rfl
theorem toX12_init_f69 : hx_ffok RX12 (69, 12, 31, 2) := ⟨RX12, TX12, 70, tyX12, rfl, Nat.le_of_ble_eq_true rfl, rfl, mw_1158, inX12, tyX12_ok, nmX12, rfl, rfl, fun h => absurd h (by decide), fun _ => Or.inr ⟨_, rfl⟩⟩
theorem taX12_init_f72 : (72, 12, 32, 2) ∈ TAX12_init.2.1 := List.mem_of_getElem? (i := 17) rfl
theorem toX12_init_f72 : hx_ffok RX12 (72, 12, 32, 2) := ⟨RX12, TX12, 70, tyX12, rfl, Nat.le_of_ble_eq_true rfl, rfl, mw_1159, inX12, tyX12_ok, nmX12, rfl, rfl, fun h => absurd h (by decide), fun _ => Or.inr ⟨_, rfl⟩⟩
theorem taX12_init_f75 : (75, 12, 33, 2) ∈ TAX12_init.2.1 := List.mem_of_getElem? (i := 18) rfl
theorem toX12_init_f75 : hx_ffok RX12 (75, 12, 33, 2) := ⟨RX12, TX12, 70, tyX12, rfl, Nat.le_of_ble_eq_true rfl, rfl, mw_1160, inX12, tyX12_ok, nmX12, rfl, rfl, fun h => absurd h (by decide), fun _ => Or.inr ⟨_, rfl⟩⟩
theorem taX12_init_f78 : (78, 12, 34, 2) ∈ TAX12_init.2.1 := List.mem_of_getElem? (i := 19) rfl
theorem toX12_init_f78 : hx_ffok RX12 (78, 12, 34, 2) := ⟨RX12, TX12, 70, tyX12, rfl, Nat.le_of_ble_eq_true rfl, rfl, mw_1161, inX12, tyX12_ok, nmX12, rfl, rfl, fun h => absurd h (by decide), fun _ => Or.inr ⟨_, rfl⟩⟩
theorem taX12_init_f81 : (81, 12, 35, 2) ∈ TAX12_init.2.1 := List.mem_of_getElem? (i := 20) rfl
theorem toX12_init_f81 : hx_ffok RX12 (81, 12, 35, 2) := ⟨RX12, TX12, 70, tyX12, rfl, Nat.le_of_ble_eq_true rfl, rfl, mw_1162, inX12, tyX12_ok, nmX12, rfl, rfl, fun h => absurd h (by decide), fun _ => Or.inr ⟨_, rfl⟩⟩
theorem taX12_init_f84 : (84, 12, 36, 2) ∈ TAX12_init.2.1 := List.mem_of_getElem? (i := 21) rfl
theorem toX12_init_f84 : hx_ffok RX12 (84, 12, 36, 2) := ⟨RX12, TX12, 70, tyX12, rfl, Nat.le_of_ble_eq_true rfl, rfl, mw_1163, inX12, tyX12_ok, nmX12, rfl, rfl, fun h => absurd h (by decide), fun _ => Or.inr ⟨_, rfl⟩⟩
theorem taX12_init_f87 : (87, 12, 37, 2) ∈ TAX12_init.2.1 := List.mem_of_getElem? (i := 22) rfl
theorem toX12_init_f87 : hx_ffok RX12 (87, 12, 37, 2) := ⟨RX12, TX12, 70, tyX12, rfl, Nat.le_of_ble_eq_true rfl, rfl, mw_1164, inX12, tyX12_ok, nmX12, rfl, rfl, fun h => absurd h (by decide), fun _ => Or.inr ⟨_, rfl⟩⟩
theorem taX12_init_f90 : (90, 12, 38, 2) ∈ TAX12_init.2.1 := List.mem_of_getElem? (i := 23) rfl
theorem toX12_init_f90 : hx_ffok RX12 (90, 12, 38, 2) := ⟨RX12, TX12, 70, tyX12, rfl, Nat.le_of_ble_eq_true rfl, rfl, mw_1165, inX12, tyX12_ok, nmX12, rfl, rfl, fun h => absurd h (by decide), fun _ => Or.inr ⟨_, rfl⟩⟩
theorem taX12_init_f94 : (94, 12, 39, 2) ∈ TAX12_init.2.1 := List.mem_of_getElem? (i := 24) rfl
theorem toX12_init_f94 : hx_ffok RX12 (94, 12, 39, 2) := ⟨RX12, TX12, 70, tyX12, rfl, Nat.le_of_ble_eq_true rfl, rfl, mw_1166, inX12, tyX12_ok, nmX12, rfl, rfl, fun h => absurd h (by decide), fun _ => Or.inr ⟨_, rfl⟩⟩
theorem taX12_init_f98 : (98, 12, 40, 2) ∈ TAX12_init.2.1 := List.mem_of_getElem? (i := 25) rfl
theorem toX12_init_f98 : hx_ffok RX12 (98, 12, 40, 2) := ⟨RX12, TX12, 70, tyX12, rfl, Nat.le_of_ble_eq_true rfl, rfl, mw_1167, inX12, tyX12_ok, nmX12, rfl, rfl, fun h => absurd h (by decide), fun _ => Or.inr ⟨_, rfl⟩⟩
theorem taX12_init_f101 : (101, 12, 43, 2) ∈ TAX12_init.2.1 := List.mem_of_getElem? (i := 26) rfl
theorem toX12_init_f101 : hx_ffok RX12 (101, 12, 43, 2) := ⟨RX12, TX12, 70, tyX12, rfl, Nat.le_of_ble_eq_true rfl, rfl, mw_1170, inX12, tyX12_ok, nmX12, rfl, rfl, fun h => absurd h (by decide), fun _ => Or.inr ⟨_, rfl⟩⟩
theorem taX12_init_f104 : (104, 12, 44, 2) ∈ TAX12_init.2.1 := List.mem_of_getElem? (i := 27) rfl
theorem toX12_init_f104 : hx_ffok RX12 (104, 12, 44, 2) := ⟨RX12, TX12, 70, tyX12, rfl, Nat.le_of_ble_eq_true rfl, rfl, mw_1171, inX12, tyX12_ok, nmX12, rfl, rfl, fun h => absurd h (by decide), fun _ => Or.inr ⟨_, rfl⟩⟩
theorem taX12_init_f107 : (107, 12, 46, 2) ∈ TAX12_init.2.1 := List.mem_of_getElem? (i := 28) rfl
theorem toX12_init_f107 : hx_ffok RX12 (107, 12, 46, 2) := ⟨RX12, TX12, 70, tyX12, rfl, Nat.le_of_ble_eq_true rfl, rfl, mw_1173, inX12, tyX12_ok, nmX12, rfl, rfl, fun h => absurd h (by decide), fun _ => Or.inr ⟨_, rfl⟩⟩
theorem taX12_init_f110 : (110, 12, 50, 2) ∈ TAX12_init.2.1 := List.mem_of_getElem? (i := 29) rfl
theorem toX12_init_f110 : hx_ffok RX12 (110, 12, 50, 2) := ⟨RX12, TX12, 70, tyX12, rfl, Nat.le_of_ble_eq_true rfl, rfl, mw_1177, inX12, tyX12_ok, nmX12, rfl, rfl, fun h => absurd h (by decide), fun _ => Or.inr ⟨_, rfl⟩⟩
theorem taX12_init_f113 : (113, 12, 51, 2) ∈ TAX12_init.2.1 := List.mem_of_getElem? (i := 30) rfl
theorem toX12_init_f113 : hx_ffok RX12 (113, 12, 51, 2) := ⟨RX12, TX12, 70, tyX12, rfl, Nat.le_of_ble_eq_true rfl, rfl, mw_1178, inX12, tyX12_ok, nmX12, rfl, rfl, fun h => absurd h (by decide), fun _ => Or.inr ⟨_, rfl⟩⟩
theorem taX12_init_f117 : (117, 12, 54, 2) ∈ TAX12_init.2.1 := List.mem_of_getElem? (i := 31) rfl
theorem toX12_init_f117 : hx_ffok RX12 (117, 12, 54, 2) := ⟨RX12, TX12, 70, tyX12, rfl, Nat.le_of_ble_eq_true rfl, rfl, mw_1181, inX12, tyX12_ok, nmX12, rfl, rfl, fun h => absurd h (by decide), fun _ => Or.inr ⟨_, rfl⟩⟩
theorem taX12_init_f120 : (120, 12, 56, 2) ∈ TAX12_init.2.1 := List.mem_of_getElem? (i := 32) rfl
theorem toX12_init_f120 : hx_ffok RX12 (120, 12, 56, 2) := ⟨RX12, TX12, 70, tyX12, rfl, Nat.le_of_ble_eq_true rfl, rfl, mw_1183, inX12, tyX12_ok, nmX12, rfl, rfl, fun h => absurd h (by decide), fun _ => Or.inr ⟨_, rfl⟩⟩
theorem taX12_init_f123 : (123, 12, 57, 2) ∈ TAX12_init.2.1 := List.mem_of_getElem? (i := 33) rfl
theorem toX12_init_f123 : hx_ffok RX12 (123, 12, 57, 2) := ⟨RX12, TX12, 70, tyX12, rfl, Nat.le_of_ble_eq_true rfl, rfl, mw_1184, inX12, tyX12_ok, nmX12, rfl, rfl, fun h => absurd h (by decide), fun _ => Or.inr ⟨_, rfl⟩⟩
theorem taX12_init_f126 : (126, 12, 58, 2) ∈ TAX12_init.2.1 := List.mem_of_getElem? (i := 34) rfl
theorem toX12_init_f126 : hx_ffok RX12 (126, 12, 58, 2) := ⟨RX12, TX12, 70, tyX12, rfl, Nat.le_of_ble_eq_true rfl, rfl, mw_1185, inX12, tyX12_ok, nmX12, rfl, rfl, fun h => absurd h (by decide), fun _ => Or.inr ⟨_, rfl⟩⟩
theorem taX12_init_f129 : (129, 12, 60, 2) ∈ TAX12_init.2.1 := List.mem_of_getElem? (i := 35) rfl
theorem toX12_init_f129 : hx_ffok RX12 (129, 12, 60, 2) := ⟨RX12, TX12, 70, tyX12, rfl, Nat.le_of_ble_eq_true rfl, rfl, mw_1187, inX12, tyX12_ok, nmX12, rfl, rfl, fun h => absurd h (by decide), fun _ => Or.inr ⟨_, rfl⟩⟩
theorem taX12_init_f132 : (132, 12, 61, 2) ∈ TAX12_init.2.1 := List.mem_of_getElem? (i := 36) rfl
theorem toX12_init_f132 : hx_ffok RX12 (132, 12, 61, 2) := ⟨RX12, TX12, 70, tyX12, rfl, Nat.le_of_ble_eq_true rfl, rfl, mw_1188, inX12, tyX12_ok, nmX12, rfl, rfl, fun h => absurd h (by decide), fun _ => Or.inr ⟨_, rfl⟩⟩
theorem taX12_init_f135 : (135, 12, 62, 2) ∈ TAX12_init.2.1 := List.mem_of_getElem? (i := 37) rfl
theorem toX12_init_f135 : hx_ffok RX12 (135, 12, 62, 2) := ⟨RX12, TX12, 70, tyX12, rfl, Nat.le_of_ble_eq_true rfl, rfl, mw_1189, inX12, tyX12_ok, nmX12, rfl, rfl, fun h => absurd h (by decide), fun _ => Or.inr ⟨_, rfl⟩⟩
theorem taX12_init_f138 : (138, 12, 63, 2) ∈ TAX12_init.2.1 := List.mem_of_getElem? (i := 38) rfl
theorem toX12_init_f138 : hx_ffok RX12 (138, 12, 63, 2) := ⟨RX12, TX12, 70, tyX12, rfl, Nat.le_of_ble_eq_true rfl, rfl, mw_1190, inX12, tyX12_ok, nmX12, rfl, rfl, fun h => absurd h (by decide), fun _ => Or.inr ⟨_, rfl⟩⟩
theorem taX12_init_f141 : (141, 12, 64, 2) ∈ TAX12_init.2.1 := List.mem_of_getElem? (i := 39) rfl
theorem toX12_init_f141 : hx_ffok RX12 (141, 12, 64, 2) := ⟨RX12, TX12, 70, tyX12, rfl, Nat.le_of_ble_eq_true rfl, rfl, mw_1191, inX12, tyX12_ok, nmX12, rfl, rfl, fun h => absurd h (by decide), fun _ => Or.inr ⟨_, rfl⟩⟩
theorem taX12_init_f145 : (145, 12, 67, 2) ∈ TAX12_init.2.1 := List.mem_of_getElem? (i := 40) rfl
theorem toX12_init_f145 : hx_ffok RX12 (145, 12, 67, 2) := ⟨RX12, TX12, 70, tyX12, rfl, Nat.le_of_ble_eq_true rfl, rfl, mw_1194, inX12, tyX12_ok, nmX12, rfl, rfl, fun h => absurd h (by decide), fun _ => Or.inr ⟨_, rfl⟩⟩
theorem taX12_init_f148 : (148, 12, 68, 2) ∈ TAX12_init.2.1 := List.mem_of_getElem? (i := 41) rfl
theorem toX12_init_f148 : hx_ffok RX12 (148, 12, 68, 2) := ⟨RX12, TX12, 70, tyX12, rfl, Nat.le_of_ble_eq_true rfl, rfl, mw_1195, inX12, tyX12_ok, nmX12, rfl, rfl, fun h => absurd h (by decide), fun _ => Or.inr ⟨_, rfl⟩⟩
theorem taX12_init_f151 : (151, 12, 69, 2) ∈ TAX12_init.2.1 := List.mem_of_getElem? (i := 42) rfl
theorem toX12_init_f151 : hx_ffok RX12 (151, 12, 69, 2) := ⟨RX12, TX12, 70, tyX12, rfl, Nat.le_of_ble_eq_true rfl, rfl, mw_1196, inX12, tyX12_ok, nmX12, rfl, rfl, fun h => absurd h (by decide), fun _ => Or.inr ⟨_, rfl⟩⟩
theorem taX12_init_o1 : 1 ∈ TAX12_init.2.2.2 := List.mem_of_getElem? (i := 0) rfl
theorem taokX12_init : hx_taok RX12 TAX12_init := ⟨(fun _ h => absurd h List.not_mem_nil), (List.forall_mem_cons.mpr ⟨toX12_init_f13, (List.forall_mem_cons.mpr ⟨toX12_init_f17, (List.forall_mem_cons.mpr ⟨toX12_init_f20, (List.forall_mem_cons.mpr ⟨toX12_init_f23, (List.forall_mem_cons.mpr ⟨toX12_init_f26, (List.forall_mem_cons.mpr ⟨toX12_init_f29, (List.forall_mem_cons.mpr ⟨toX12_init_f32, (List.forall_mem_cons.mpr ⟨toX12_init_f35, (List.forall_mem_cons.mpr ⟨toX12_init_f38, (List.forall_mem_cons.mpr ⟨toX12_init_f41, (List.forall_mem_cons.mpr ⟨toX12_init_f44, (List.forall_mem_cons.mpr ⟨toX12_init_f47, (List.forall_mem_cons.mpr ⟨toX12_init_f50, (List.forall_mem_cons.mpr ⟨toX12_init_f60, (List.forall_mem_cons.mpr ⟨toX12_init_f63, (List.forall_mem_cons.mpr ⟨toX12_init_f66, (List.forall_mem_cons.mpr ⟨toX12_init_f69, (List.forall_mem_cons.mpr ⟨toX12_init_f72, (List.forall_mem_cons.mpr ⟨toX12_init_f75, (List.forall_mem_cons.mpr ⟨toX12_init_f78, (List.forall_mem_cons.mpr ⟨toX12_init_f81, (List.forall_mem_cons.mpr ⟨toX12_init_f84, (List.forall_mem_cons.mpr ⟨toX12_init_f87, (List.forall_mem_cons.mpr ⟨toX12_init_f90, (List.forall_mem_cons.mpr ⟨toX12_init_f94, (List.forall_mem_cons.mpr ⟨toX12_init_f98, (List.forall_mem_cons.mpr ⟨toX12_init_f101, (List.forall_mem_cons.mpr ⟨toX12_init_f104, (List.forall_mem_cons.mpr ⟨toX12_init_f107, (List.forall_mem_cons.mpr ⟨toX12_init_f110, (List.forall_mem_cons.mpr ⟨toX12_init_f113, (List.forall_mem_cons.mpr ⟨toX12_init_f117, (List.forall_mem_cons.mpr ⟨toX12_init_f120, (List.forall_mem_cons.mpr ⟨toX12_init_f123, (List.forall_mem_cons.mpr ⟨toX12_init_f126, (List.forall_mem_cons.mpr ⟨toX12_init_f129, (List.forall_mem_cons.mpr ⟨toX12_init_f132, (List.forall_mem_cons.mpr ⟨toX12_init_f135, (List.forall_mem_cons.mpr ⟨toX12_init_f138, (List.forall_mem_cons.mpr ⟨toX12_init_f141, (List.forall_mem_cons.mpr ⟨toX12_init_f145, (List.forall_mem_cons.mpr ⟨toX12_init_f148, (List.forall_mem_cons.mpr ⟨toX12_init_f151, (fun _ h => absurd h List.not_mem_nil)⟩)⟩)⟩)⟩)⟩)⟩)⟩)⟩)⟩)⟩)⟩)⟩)⟩)⟩)⟩)⟩)⟩)⟩)⟩)⟩)⟩)⟩)⟩)⟩)⟩)⟩)⟩)⟩)⟩)⟩)⟩)⟩)⟩)⟩)⟩)⟩)⟩)⟩)⟩)⟩)⟩)⟩)⟩), (fun _ h => absurd h List.not_mem_nil), (List.forall_mem_cons.mpr ⟨mw_1125, (fun _ h => absurd h List.not_mem_nil)⟩)⟩
set_option maxRecDepth 100000 in
def wX12_init (Λ : hx_L) (μ : hx_M) (v0 : Nat) (K : hx_L → hx_M → Prop) : Prop := Λ.1 v0 = (0, 12) ∧ Λ.2.2 < hx_big ∧ ∀ L_3 : hx_L, L_3 = hx_push Λ (1, 16) → ∀ m_4 : hx_M, m_4 = (hx_z (hx_sL μ v0 6 1) Λ.2.2) → L_3.1 v0 = (0, 12) ∧ ∀ L_6 : hx_L, L_6 = hx_sR L_3 v0 7 Λ.2.2 → L_6.2.2 < hx_big ∧ ∀ L_8 : hx_L, L_8 = hx_push L_6 (1, 16) → ∀ m_9 : hx_M, m_9 = (hx_z m_4 L_6.2.2) → L_8.1 v0 = (0, 12) ∧ ∀ L_11 : hx_L, L_11 = hx_sR L_8 v0 8 L_6.2.2 → L_11.2.2 < hx_big ∧ ∀ L_13 : hx_L, L_13 = hx_push L_11 (1, 16) → ∀ m_14 : hx_M, m_14 = (hx_z m_9 L_11.2.2) → L_13.1 v0 = (0, 12) ∧ ∀ L_16 : hx_L, L_16 = hx_sR L_13 v0 9 L_11.2.2 → L_16.2.2 < hx_big ∧ ∀ L_18 : hx_L, L_18 = hx_push L_16 (1, 16) → ∀ m_19 : hx_M, m_19 = (hx_z m_14 L_16.2.2) → L_18.1 v0 = (0, 12) ∧ ∀ L_21 : hx_L, L_21 = hx_sR L_18 v0 10 L_16.2.2 → L_21.2.2 < hx_big ∧ ∀ L_23 : hx_L, L_23 = hx_push L_21 (1, 16) → ∀ m_24 : hx_M, m_24 = (hx_z m_19 L_21.2.2) → L_23.1 v0 = (0, 12) ∧ ∀ L_26 : hx_L, L_26 = hx_sR L_23 v0 11 L_21.2.2 → L_26.2.2 < hx_big ∧ ∀ L_28 : hx_L, L_28 = hx_push L_26 (1, 4) → ∀ m_29 : hx_M, m_29 = (hx_z m_24 L_26.2.2) → ∃ n56_31, L_28.1 L_26.2.2 = (1, n56_31) ∧ vp_in 0 n56_31 ∧ vp_in 1 n56_31 ∧ vp_in 2 n56_31 ∧ ∀ m_35 : hx_M, m_35 = (hx_sI (hx_sI (hx_sI m_29 L_26.2.2 ((0 : Int32).toNatClampNeg) (-1)) L_26.2.2 ((1 : Int32).toNatClampNeg) (-1)) L_26.2.2 ((2 : Int32).toNatClampNeg) (-1)) → vp_in 3 n56_31 ∧ L_28.1 v0 = (0, 12) ∧ ∀ L_38 : hx_L, L_38 = hx_sR L_28 v0 12 L_26.2.2 → L_38.2.2 < hx_big ∧ ∀ L_40 : hx_L, L_40 = hx_push L_38 (1, 96) → ∀ m_41 : hx_M, m_41 = (hx_z (hx_sI m_35 L_26.2.2 ((3 : Int32).toNatClampNeg) (-1)) L_38.2.2) → L_40.1 v0 = (0, 12) ∧ ∀ L_43 : hx_L, L_43 = hx_sR L_40 v0 13 L_38.2.2 → L_43.2.2 < hx_big ∧ ∀ L_45 : hx_L, L_45 = hx_push L_43 (1, 4816) → ∀ m_46 : hx_M, m_46 = (hx_z m_41 L_43.2.2) → L_45.1 v0 = (0, 12) ∧ ∀ L_48 : hx_L, L_48 = hx_sR L_45 v0 14 L_43.2.2 → L_48.2.2 < hx_big ∧ ∀ L_50 : hx_L, L_50 = hx_push L_48 (1, 4816) → ∀ m_51 : hx_M, m_51 = (hx_z m_46 L_48.2.2) → L_50.1 v0 = (0, 12) ∧ ∀ L_53 : hx_L, L_53 = hx_sR L_50 v0 15 L_48.2.2 → L_53.2.2 < hx_big ∧ ∀ L_55 : hx_L, L_55 = hx_push L_53 (1, 4816) → ∀ m_56 : hx_M, m_56 = (hx_z m_51 L_53.2.2) → L_55.1 v0 = (0, 12) ∧ ∀ L_58 : hx_L, L_58 = hx_sR L_55 v0 16 L_53.2.2 → L_58.2.2 < hx_big ∧ ∀ L_60 : hx_L, L_60 = hx_push L_58 (1, 4816) → ∀ m_61 : hx_M, m_61 = (hx_z m_56 L_58.2.2) → L_60.1 v0 = (0, 12) ∧ ∀ L_63 : hx_L, L_63 = hx_sR L_60 v0 17 L_58.2.2 → L_63.2.2 < hx_big ∧ ∀ L_65 : hx_L, L_65 = hx_push L_63 (1, 1204) → ∀ m_66 : hx_M, m_66 = (hx_z m_61 L_63.2.2) → L_65.1 v0 = (0, 12) ∧ ∀ L_68 : hx_L, L_68 = hx_sR L_65 v0 18 L_63.2.2 → L_68.2.2 < hx_big ∧ ∀ L_70 : hx_L, L_70 = hx_push L_68 (1, 301) → ∀ m_71 : hx_M, m_71 = (hx_z m_66 L_68.2.2) → L_70.1 v0 = (0, 12) ∧ ∀ L_73 : hx_L, L_73 = hx_sR L_70 v0 19 L_68.2.2 → L_73.1 v0 = (0, 12) ∧ L_73.2.2 < hx_big ∧ ∀ L_76 : hx_L, L_76 = hx_push L_73 (1, 6) → ∀ m_77 : hx_M, m_77 = (hx_z (hx_sI (hx_sI m_71 v0 21 (-1)) v0 27 (-1)) L_73.2.2) → L_76.1 v0 = (0, 12) ∧ ∀ L_79 : hx_L, L_79 = hx_sR L_76 v0 28 L_73.2.2 → L_79.2.2 < hx_big ∧ ∀ L_81 : hx_L, L_81 = hx_push L_79 (1, 96) → ∀ m_82 : hx_M, m_82 = (hx_z m_77 L_79.2.2) → L_81.1 v0 = (0, 12) ∧ ∀ L_84 : hx_L, L_84 = hx_sR L_81 v0 29 L_79.2.2 → L_84.2.2 < hx_big ∧ ∀ L_86 : hx_L, L_86 = hx_push L_84 (1, 96) → ∀ m_87 : hx_M, m_87 = (hx_z m_82 L_84.2.2) → L_86.1 v0 = (0, 12) ∧ ∀ L_89 : hx_L, L_89 = hx_sR L_86 v0 30 L_84.2.2 → L_89.2.2 < hx_big ∧ ∀ L_91 : hx_L, L_91 = hx_push L_89 (1, 96) → ∀ m_92 : hx_M, m_92 = (hx_z m_87 L_89.2.2) → L_91.1 v0 = (0, 12) ∧ ∀ L_94 : hx_L, L_94 = hx_sR L_91 v0 31 L_89.2.2 → L_94.2.2 < hx_big ∧ ∀ L_96 : hx_L, L_96 = hx_push L_94 (1, 96) → ∀ m_97 : hx_M, m_97 = (hx_z m_92 L_94.2.2) → L_96.1 v0 = (0, 12) ∧ ∀ L_99 : hx_L, L_99 = hx_sR L_96 v0 32 L_94.2.2 → L_99.2.2 < hx_big ∧ ∀ L_101 : hx_L, L_101 = hx_push L_99 (1, 96) → ∀ m_102 : hx_M, m_102 = (hx_z m_97 L_99.2.2) → L_101.1 v0 = (0, 12) ∧ ∀ L_104 : hx_L, L_104 = hx_sR L_101 v0 33 L_99.2.2 → L_104.2.2 < hx_big ∧ ∀ L_106 : hx_L, L_106 = hx_push L_104 (1, 96) → ∀ m_107 : hx_M, m_107 = (hx_z m_102 L_104.2.2) → L_106.1 v0 = (0, 12) ∧ ∀ L_109 : hx_L, L_109 = hx_sR L_106 v0 34 L_104.2.2 → L_109.2.2 < hx_big ∧ ∀ L_111 : hx_L, L_111 = hx_push L_109 (1, 4200) → ∀ m_112 : hx_M, m_112 = (hx_z m_107 L_109.2.2) → L_111.1 v0 = (0, 12) ∧ ∀ L_114 : hx_L, L_114 = hx_sR L_111 v0 35 L_109.2.2 → L_114.2.2 < hx_big ∧ ∀ L_116 : hx_L, L_116 = hx_push L_114 (1, 4200) → ∀ m_117 : hx_M, m_117 = (hx_z m_112 L_114.2.2) → L_116.1 v0 = (0, 12) ∧ ∀ L_119 : hx_L, L_119 = hx_sR L_116 v0 36 L_114.2.2 → L_119.2.2 < hx_big ∧ ∀ L_121 : hx_L, L_121 = hx_push L_119 (1, 4200) → ∀ m_122 : hx_M, m_122 = (hx_z m_117 L_119.2.2) → L_121.1 v0 = (0, 12) ∧ ∀ L_124 : hx_L, L_124 = hx_sR L_121 v0 37 L_119.2.2 → L_124.2.2 < hx_big ∧ ∀ L_126 : hx_L, L_126 = hx_push L_124 (4, 64) → ∀ m_127 : hx_M, m_127 = (hx_z m_122 L_124.2.2) → L_126.1 v0 = (0, 12) ∧ ∀ L_129 : hx_L, L_129 = hx_sR L_126 v0 38 L_124.2.2 → L_129.2.2 < hx_big ∧ ∀ L_131 : hx_L, L_131 = hx_push L_129 (2, 700) → ∀ m_132 : hx_M, m_132 = (hx_z m_127 L_129.2.2) → L_131.1 v0 = (0, 12) ∧ ∀ L_134 : hx_L, L_134 = hx_sR L_131 v0 39 L_129.2.2 → L_134.2.2 < hx_big ∧ ∀ L_136 : hx_L, L_136 = hx_push L_134 (2, 700) → ∀ m_137 : hx_M, m_137 = (hx_z m_132 L_134.2.2) → L_136.1 v0 = (0, 12) ∧ ∀ L_139 : hx_L, L_139 = hx_sR L_136 v0 40 L_134.2.2 → L_139.2.2 < hx_big ∧ ∀ L_141 : hx_L, L_141 = hx_push L_139 (1, 6) → ∀ m_142 : hx_M, m_142 = (hx_z m_137 L_139.2.2) → L_141.1 v0 = (0, 12) ∧ ∀ L_144 : hx_L, L_144 = hx_sR L_141 v0 43 L_139.2.2 → L_144.2.2 < hx_big ∧ ∀ L_146 : hx_L, L_146 = hx_push L_144 (1, 12) → ∀ m_147 : hx_M, m_147 = (hx_z m_142 L_144.2.2) → L_146.1 v0 = (0, 12) ∧ ∀ L_149 : hx_L, L_149 = hx_sR L_146 v0 44 L_144.2.2 → L_149.2.2 < hx_big ∧ ∀ L_151 : hx_L, L_151 = hx_push L_149 (1, 130) → ∀ m_152 : hx_M, m_152 = (hx_z m_147 L_149.2.2) → L_151.1 v0 = (0, 12) ∧ ∀ L_154 : hx_L, L_154 = hx_sR L_151 v0 46 L_149.2.2 → L_154.2.2 < hx_big ∧ ∀ L_156 : hx_L, L_156 = hx_push L_154 (1, 16) → ∀ m_157 : hx_M, m_157 = (hx_z m_152 L_154.2.2) → L_156.1 v0 = (0, 12) ∧ ∀ L_159 : hx_L, L_159 = hx_sR L_156 v0 50 L_154.2.2 → L_159.2.2 < hx_big ∧ ∀ L_161 : hx_L, L_161 = hx_push L_159 (3, 13) → ∀ m_162 : hx_M, m_162 = (hx_z m_157 L_159.2.2) → L_161.1 v0 = (0, 12) ∧ ∀ L_164 : hx_L, L_164 = hx_sR L_161 v0 51 L_159.2.2 → L_164.2.2 < hx_big ∧ ∀ L_166 : hx_L, L_166 = hx_push L_164 (3, 41) → ∀ m_167 : hx_M, m_167 = (hx_z m_162 L_164.2.2) → L_166.1 v0 = (0, 12) ∧ ∀ L_169 : hx_L, L_169 = hx_sR L_166 v0 54 L_164.2.2 → L_169.2.2 < hx_big ∧ ∀ L_171 : hx_L, L_171 = hx_push L_169 (1, 60) → ∀ m_172 : hx_M, m_172 = (hx_z m_167 L_169.2.2) → L_171.1 v0 = (0, 12) ∧ ∀ L_174 : hx_L, L_174 = hx_sR L_171 v0 56 L_169.2.2 → L_174.2.2 < hx_big ∧ ∀ L_176 : hx_L, L_176 = hx_push L_174 (1, 60) → ∀ m_177 : hx_M, m_177 = (hx_z m_172 L_174.2.2) → L_176.1 v0 = (0, 12) ∧ ∀ L_179 : hx_L, L_179 = hx_sR L_176 v0 57 L_174.2.2 → L_179.2.2 < hx_big ∧ ∀ L_181 : hx_L, L_181 = hx_push L_179 (1, 60) → ∀ m_182 : hx_M, m_182 = (hx_z m_177 L_179.2.2) → L_181.1 v0 = (0, 12) ∧ ∀ L_184 : hx_L, L_184 = hx_sR L_181 v0 58 L_179.2.2 → L_184.2.2 < hx_big ∧ ∀ L_186 : hx_L, L_186 = hx_push L_184 (1, 20) → ∀ m_187 : hx_M, m_187 = (hx_z m_182 L_184.2.2) → L_186.1 v0 = (0, 12) ∧ ∀ L_189 : hx_L, L_189 = hx_sR L_186 v0 60 L_184.2.2 → L_189.2.2 < hx_big ∧ ∀ L_191 : hx_L, L_191 = hx_push L_189 (1, 20) → ∀ m_192 : hx_M, m_192 = (hx_z m_187 L_189.2.2) → L_191.1 v0 = (0, 12) ∧ ∀ L_194 : hx_L, L_194 = hx_sR L_191 v0 61 L_189.2.2 → L_194.2.2 < hx_big ∧ ∀ L_196 : hx_L, L_196 = hx_push L_194 (1, 20) → ∀ m_197 : hx_M, m_197 = (hx_z m_192 L_194.2.2) → L_196.1 v0 = (0, 12) ∧ ∀ L_199 : hx_L, L_199 = hx_sR L_196 v0 62 L_194.2.2 → L_199.2.2 < hx_big ∧ ∀ L_201 : hx_L, L_201 = hx_push L_199 (1, 16) → ∀ m_202 : hx_M, m_202 = (hx_z m_197 L_199.2.2) → L_201.1 v0 = (0, 12) ∧ ∀ L_204 : hx_L, L_204 = hx_sR L_201 v0 63 L_199.2.2 → L_204.2.2 < hx_big ∧ ∀ L_206 : hx_L, L_206 = hx_push L_204 (1, 427) → ∀ m_207 : hx_M, m_207 = (hx_z m_202 L_204.2.2) → L_206.1 v0 = (0, 12) ∧ ∀ L_209 : hx_L, L_209 = hx_sR L_206 v0 64 L_204.2.2 → L_209.2.2 < hx_big ∧ ∀ L_211 : hx_L, L_211 = hx_push L_209 (1, 45000) → ∀ m_212 : hx_M, m_212 = (hx_z m_207 L_209.2.2) → L_211.1 v0 = (0, 12) ∧ ∀ L_214 : hx_L, L_214 = hx_sR L_211 v0 67 L_209.2.2 → L_214.2.2 < hx_big ∧ ∀ L_216 : hx_L, L_216 = hx_push L_214 (3, 3) → ∀ m_217 : hx_M, m_217 = (hx_z m_212 L_214.2.2) → L_216.1 v0 = (0, 12) ∧ ∀ L_219 : hx_L, L_219 = hx_sR L_216 v0 68 L_214.2.2 → L_219.2.2 < hx_big ∧ ∀ L_221 : hx_L, L_221 = hx_push L_219 (1, 8) → ∀ m_222 : hx_M, m_222 = (hx_z m_217 L_219.2.2) → L_221.1 v0 = (0, 12) ∧ ∀ L_224 : hx_L, L_224 = hx_sR L_221 v0 69 L_219.2.2 → K L_224 m_222
set_option maxRecDepth 100000 in
set_option maxHeartbeats 4000000 in
theorem kX12_init {G : hx_GT} {KK : hx_KT} (hG : hx_K cX12_init 1 43 81507 (none) TbX12 KK G) (hM : hx_KA cX12_init 43 81507 TAX12_init G) (cA : hx_CA RX12 cX12_init 1 43 81507 G) {Λ : hx_L}  {μ : hx_M} (v0 : Nat) {K : hx_L → hx_M → Prop} (hK : ∀ (Λ1 : hx_L) (m : hx_M), K Λ1 m → KK none Λ1 m) (hw : wX12_init Λ μ v0 K) : G Λ μ (0, 0) 0 [some (.ref v0)] [] := by
  unfold wX12_init at hw
  obtain ⟨o6_1, hw⟩ := hw
  obtain ⟨b2, hw⟩ := hw
  refine cl_aload_n hG (hx_dq tdX12_init_0 0 rfl) rfl (cl_oinit hM taX12_init_o1 (hx_dq tdX12_init_0 1 rfl) (Nat.le_of_ble_eq_true rfl) (cl_aload_n hG (hx_dq tdX12_init_0 2 rfl) rfl (cl_lconst hG 1 (hx_dq tdX12_init_0 3 rfl) lconst_1 (cl_putL hG fmX12_7 (hx_dq tdX12_init_0 4 rfl) o6_1 (cl_aload_n hG (hx_dq tdX12_init_0 5 rfl) rfl (cl_bipush hG 16 (hx_dq tdX12_init_0 6 rfl) bipush_16 (cl_newaI hM tn_16 (hx_dq tdX12_init_0 7 rfl) (by decide) (Nat.le_of_ble_eq_true rfl) (Nat.le_of_ble_eq_true rfl) (Nat.le_of_ble_eq_true rfl) b2 (cl_nmA (fun L_3 e_3 => ?_)))))))))
  replace hw := hw L_3 e_3
  refine cl_nmM (fun m_4 e_4 => ?_)
  replace hw := hw m_4 e_4
  obtain ⟨o14_5, hw⟩ := hw
  refine cl_putFR hM taX12_init_f13 (hx_dq tdX12_init_0 8 rfl) o14_5 (cl_nmA (fun L_6 e_6 => ?_))
  replace hw := hw L_6 e_6
  obtain ⟨b7, hw⟩ := hw
  refine cl_aload_n hG (hx_dq tdX12_init_0 9 rfl) rfl (cl_bipush hG 16 (hx_dq tdX12_init_0 10 rfl) bipush_16 (cl_newaI hM tn_16 (hx_dq tdX12_init_0 11 rfl) (by decide) (Nat.le_of_ble_eq_true rfl) (Nat.le_of_ble_eq_true rfl) (Nat.le_of_ble_eq_true rfl) b7 (cl_nmA (fun L_8 e_8 => ?_))))
  replace hw := hw L_8 e_8
  refine cl_nmM (fun m_9 e_9 => ?_)
  replace hw := hw m_9 e_9
  obtain ⟨o22_10, hw⟩ := hw
  refine cl_putFR hM taX12_init_f17 (hx_dq tdX12_init_0 12 rfl) o22_10 (cl_nmA (fun L_11 e_11 => ?_))
  replace hw := hw L_11 e_11
  obtain ⟨b12, hw⟩ := hw
  refine cl_aload_n hG (hx_dq tdX12_init_0 13 rfl) rfl (cl_bipush hG 16 (hx_dq tdX12_init_0 14 rfl) bipush_16 (cl_newaI hM tn_16 (hx_dq tdX12_init_0 15 rfl) (by decide) (Nat.le_of_ble_eq_true rfl) (Nat.le_of_ble_eq_true rfl) (Nat.le_of_ble_eq_true rfl) b12 (cl_nmA (fun L_13 e_13 => ?_))))
  replace hw := hw L_13 e_13
  refine cl_nmM (fun m_14 e_14 => ?_)
  replace hw := hw m_14 e_14
  obtain ⟨o30_15, hw⟩ := hw
  refine cl_putFR hM taX12_init_f20 (hx_dq tdX12_init_0 16 rfl) o30_15 (cl_nmA (fun L_16 e_16 => ?_))
  replace hw := hw L_16 e_16
  obtain ⟨b17, hw⟩ := hw
  refine cl_aload_n hG (hx_dq tdX12_init_0 17 rfl) rfl (cl_bipush hG 16 (hx_dq tdX12_init_0 18 rfl) bipush_16 (cl_newaI hM tn_16 (hx_dq tdX12_init_0 19 rfl) (by decide) (Nat.le_of_ble_eq_true rfl) (Nat.le_of_ble_eq_true rfl) (Nat.le_of_ble_eq_true rfl) b17 (cl_nmA (fun L_18 e_18 => ?_))))
  replace hw := hw L_18 e_18
  refine cl_nmM (fun m_19 e_19 => ?_)
  replace hw := hw m_19 e_19
  obtain ⟨o38_20, hw⟩ := hw
  refine cl_putFR hM taX12_init_f23 (hx_dq tdX12_init_0 20 rfl) o38_20 (cl_nmA (fun L_21 e_21 => ?_))
  replace hw := hw L_21 e_21
  obtain ⟨b22, hw⟩ := hw
  refine cl_aload_n hG (hx_dq tdX12_init_0 21 rfl) rfl (cl_bipush hG 16 (hx_dq tdX12_init_0 22 rfl) bipush_16 (cl_newaI hM tn_16 (hx_dq tdX12_init_0 23 rfl) (by decide) (Nat.le_of_ble_eq_true rfl) (Nat.le_of_ble_eq_true rfl) (Nat.le_of_ble_eq_true rfl) b22 (cl_nmA (fun L_23 e_23 => ?_))))
  replace hw := hw L_23 e_23
  refine cl_nmM (fun m_24 e_24 => ?_)
  replace hw := hw m_24 e_24
  obtain ⟨o46_25, hw⟩ := hw
  refine cl_putFR hM taX12_init_f26 (hx_dq tdX12_init_0 24 rfl) o46_25 (cl_nmA (fun L_26 e_26 => ?_))
  replace hw := hw L_26 e_26
  obtain ⟨b27, hw⟩ := hw
  refine cl_aload_n hG (hx_dq tdX12_init_0 25 rfl) rfl (cl_iconst hG 4 (hx_dq tdX12_init_0 26 rfl) iconst_4 (cl_newaI hM tn_4 (hx_dq tdX12_init_0 27 rfl) (by decide) (Nat.le_of_ble_eq_true rfl) (Nat.le_of_ble_eq_true rfl) (Nat.le_of_ble_eq_true rfl) b27 (cl_nmA (fun L_28 e_28 => ?_))))
  replace hw := hw L_28 e_28
  refine cl_nmM (fun m_29 e_29 => ?_)
  replace hw := hw m_29 e_29
  obtain ⟨n56_31, o56_30, hw⟩ := hw
  obtain ⟨i56_32, hw⟩ := hw
  obtain ⟨i60_33, hw⟩ := hw
  obtain ⟨i64_34, hw⟩ := hw
  refine cl_dup hG (hx_dq tdX12_init_0 28 rfl) rfl (cl_iconst hG 0 (hx_dq tdX12_init_0 29 rfl) iconst_0 (cl_iconst hG (-1) (hx_dq tdX12_init_0 30 rfl) iconst_m1 (cl_iast hG (hx_dq tdX12_init_0 31 rfl) o56_30 i56_32 (cl_dup hG (hx_dq tdX12_init_1 0 rfl) rfl (cl_iconst hG 1 (hx_dq tdX12_init_1 1 rfl) iconst_1 (cl_iconst hG (-1) (hx_dq tdX12_init_1 2 rfl) iconst_m1 (cl_iast hG (hx_dq tdX12_init_1 3 rfl) o56_30 i60_33 (cl_dup hG (hx_dq tdX12_init_1 4 rfl) rfl (cl_iconst hG 2 (hx_dq tdX12_init_1 5 rfl) iconst_2 (cl_iconst hG (-1) (hx_dq tdX12_init_1 6 rfl) iconst_m1 (cl_iast hG (hx_dq tdX12_init_1 7 rfl) o56_30 i64_34 (cl_nmM (fun m_35 e_35 => ?_)))))))))))))
  replace hw := hw m_35 e_35
  obtain ⟨i68_36, hw⟩ := hw
  obtain ⟨o69_37, hw⟩ := hw
  refine cl_dup hG (hx_dq tdX12_init_1 8 rfl) rfl (cl_iconst hG 3 (hx_dq tdX12_init_1 9 rfl) iconst_3 (cl_iconst hG (-1) (hx_dq tdX12_init_1 10 rfl) iconst_m1 (cl_iast hG (hx_dq tdX12_init_1 11 rfl) o56_30 i68_36 (cl_putFR hM taX12_init_f29 (hx_dq tdX12_init_1 12 rfl) o69_37 (cl_nmA (fun L_38 e_38 => ?_))))))
  replace hw := hw L_38 e_38
  obtain ⟨b39, hw⟩ := hw
  refine cl_aload_n hG (hx_dq tdX12_init_1 13 rfl) rfl (cl_bipush hG 96 (hx_dq tdX12_init_1 14 rfl) bipush_96 (cl_newaI hM tn_96 (hx_dq tdX12_init_1 15 rfl) (by decide) (Nat.le_of_ble_eq_true rfl) (Nat.le_of_ble_eq_true rfl) (Nat.le_of_ble_eq_true rfl) b39 (cl_nmA (fun L_40 e_40 => ?_))))
  replace hw := hw L_40 e_40
  refine cl_nmM (fun m_41 e_41 => ?_)
  replace hw := hw m_41 e_41
  obtain ⟨o77_42, hw⟩ := hw
  refine cl_putFR hM taX12_init_f32 (hx_dq tdX12_init_1 16 rfl) o77_42 (cl_nmA (fun L_43 e_43 => ?_))
  replace hw := hw L_43 e_43
  obtain ⟨b44, hw⟩ := hw
  refine cl_aload_n hG (hx_dq tdX12_init_1 17 rfl) rfl (cl_sipush hG 4816 (hx_dq tdX12_init_1 18 rfl) sipush_4816 (cl_newaI hM tn_4816 (hx_dq tdX12_init_1 19 rfl) (by decide) (Nat.le_of_ble_eq_true rfl) (Nat.le_of_ble_eq_true rfl) (Nat.le_of_ble_eq_true rfl) b44 (cl_nmA (fun L_45 e_45 => ?_))))
  replace hw := hw L_45 e_45
  refine cl_nmM (fun m_46 e_46 => ?_)
  replace hw := hw m_46 e_46
  obtain ⟨o86_47, hw⟩ := hw
  refine cl_putFR hM taX12_init_f35 (hx_dq tdX12_init_1 20 rfl) o86_47 (cl_nmA (fun L_48 e_48 => ?_))
  replace hw := hw L_48 e_48
  obtain ⟨b49, hw⟩ := hw
  refine cl_aload_n hG (hx_dq tdX12_init_1 21 rfl) rfl (cl_sipush hG 4816 (hx_dq tdX12_init_1 22 rfl) sipush_4816 (cl_newaI hM tn_4816 (hx_dq tdX12_init_1 23 rfl) (by decide) (Nat.le_of_ble_eq_true rfl) (Nat.le_of_ble_eq_true rfl) (Nat.le_of_ble_eq_true rfl) b49 (cl_nmA (fun L_50 e_50 => ?_))))
  replace hw := hw L_50 e_50
  refine cl_nmM (fun m_51 e_51 => ?_)
  replace hw := hw m_51 e_51
  obtain ⟨o95_52, hw⟩ := hw
  refine cl_putFR hM taX12_init_f38 (hx_dq tdX12_init_1 24 rfl) o95_52 (cl_nmA (fun L_53 e_53 => ?_))
  replace hw := hw L_53 e_53
  obtain ⟨b54, hw⟩ := hw
  refine cl_aload_n hG (hx_dq tdX12_init_1 25 rfl) rfl (cl_sipush hG 4816 (hx_dq tdX12_init_1 26 rfl) sipush_4816 (cl_newaI hM tn_4816 (hx_dq tdX12_init_1 27 rfl) (by decide) (Nat.le_of_ble_eq_true rfl) (Nat.le_of_ble_eq_true rfl) (Nat.le_of_ble_eq_true rfl) b54 (cl_nmA (fun L_55 e_55 => ?_))))
  replace hw := hw L_55 e_55
  refine cl_nmM (fun m_56 e_56 => ?_)
  replace hw := hw m_56 e_56
  obtain ⟨o104_57, hw⟩ := hw
  refine cl_putFR hM taX12_init_f41 (hx_dq tdX12_init_1 28 rfl) o104_57 (cl_nmA (fun L_58 e_58 => ?_))
  replace hw := hw L_58 e_58
  obtain ⟨b59, hw⟩ := hw
  refine cl_aload_n hG (hx_dq tdX12_init_1 29 rfl) rfl (cl_sipush hG 4816 (hx_dq tdX12_init_1 30 rfl) sipush_4816 (cl_newaI hM tn_4816 (hx_dq tdX12_init_1 31 rfl) (by decide) (Nat.le_of_ble_eq_true rfl) (Nat.le_of_ble_eq_true rfl) (Nat.le_of_ble_eq_true rfl) b59 (cl_nmA (fun L_60 e_60 => ?_))))
  replace hw := hw L_60 e_60
  refine cl_nmM (fun m_61 e_61 => ?_)
  replace hw := hw m_61 e_61
  obtain ⟨o113_62, hw⟩ := hw
  refine cl_putFR hM taX12_init_f44 (hx_dq tdX12_init_2 0 rfl) o113_62 (cl_nmA (fun L_63 e_63 => ?_))
  replace hw := hw L_63 e_63
  obtain ⟨b64, hw⟩ := hw
  refine cl_aload_n hG (hx_dq tdX12_init_2 1 rfl) rfl (cl_sipush hG 1204 (hx_dq tdX12_init_2 2 rfl) sipush_1204 (cl_newaI hM tn_1204 (hx_dq tdX12_init_2 3 rfl) (by decide) (Nat.le_of_ble_eq_true rfl) (Nat.le_of_ble_eq_true rfl) (Nat.le_of_ble_eq_true rfl) b64 (cl_nmA (fun L_65 e_65 => ?_))))
  replace hw := hw L_65 e_65
  refine cl_nmM (fun m_66 e_66 => ?_)
  replace hw := hw m_66 e_66
  obtain ⟨o122_67, hw⟩ := hw
  refine cl_putFR hM taX12_init_f47 (hx_dq tdX12_init_2 4 rfl) o122_67 (cl_nmA (fun L_68 e_68 => ?_))
  replace hw := hw L_68 e_68
  obtain ⟨b69, hw⟩ := hw
  refine cl_aload_n hG (hx_dq tdX12_init_2 5 rfl) rfl (cl_sipush hG 301 (hx_dq tdX12_init_2 6 rfl) sipush_301 (cl_newaI hM tn_301 (hx_dq tdX12_init_2 7 rfl) (by decide) (Nat.le_of_ble_eq_true rfl) (Nat.le_of_ble_eq_true rfl) (Nat.le_of_ble_eq_true rfl) b69 (cl_nmA (fun L_70 e_70 => ?_))))
  replace hw := hw L_70 e_70
  refine cl_nmM (fun m_71 e_71 => ?_)
  replace hw := hw m_71 e_71
  obtain ⟨o131_72, hw⟩ := hw
  refine cl_putFR hM taX12_init_f50 (hx_dq tdX12_init_2 8 rfl) o131_72 (cl_nmA (fun L_73 e_73 => ?_))
  replace hw := hw L_73 e_73
  obtain ⟨o136_74, hw⟩ := hw
  obtain ⟨b75, hw⟩ := hw
  refine cl_aload_n hG (hx_dq tdX12_init_2 9 rfl) rfl (cl_iconst hG (-1) (hx_dq tdX12_init_2 10 rfl) iconst_m1 (cl_putI hG fmX12_53 (hx_dq tdX12_init_2 11 rfl) o136_74 (cl_aload_n hG (hx_dq tdX12_init_2 12 rfl) rfl (cl_iconst hG (-1) (hx_dq tdX12_init_2 13 rfl) iconst_m1 (cl_putI hG fmX12_57 (hx_dq tdX12_init_2 14 rfl) o136_74 (cl_aload_n hG (hx_dq tdX12_init_2 15 rfl) rfl (cl_bipush hG 6 (hx_dq tdX12_init_2 16 rfl) bipush_6 (cl_newaI hM tn_6 (hx_dq tdX12_init_2 17 rfl) (by decide) (Nat.le_of_ble_eq_true rfl) (Nat.le_of_ble_eq_true rfl) (Nat.le_of_ble_eq_true rfl) b75 (cl_nmA (fun L_76 e_76 => ?_))))))))))
  replace hw := hw L_76 e_76
  refine cl_nmM (fun m_77 e_77 => ?_)
  replace hw := hw m_77 e_77
  obtain ⟨o149_78, hw⟩ := hw
  refine cl_putFR hM taX12_init_f60 (hx_dq tdX12_init_2 18 rfl) o149_78 (cl_nmA (fun L_79 e_79 => ?_))
  replace hw := hw L_79 e_79
  obtain ⟨b80, hw⟩ := hw
  refine cl_aload_n hG (hx_dq tdX12_init_2 19 rfl) rfl (cl_bipush hG 96 (hx_dq tdX12_init_2 20 rfl) bipush_96 (cl_newaI hM tn_96 (hx_dq tdX12_init_2 21 rfl) (by decide) (Nat.le_of_ble_eq_true rfl) (Nat.le_of_ble_eq_true rfl) (Nat.le_of_ble_eq_true rfl) b80 (cl_nmA (fun L_81 e_81 => ?_))))
  replace hw := hw L_81 e_81
  refine cl_nmM (fun m_82 e_82 => ?_)
  replace hw := hw m_82 e_82
  obtain ⟨o157_83, hw⟩ := hw
  refine cl_putFR hM taX12_init_f63 (hx_dq tdX12_init_2 22 rfl) o157_83 (cl_nmA (fun L_84 e_84 => ?_))
  replace hw := hw L_84 e_84
  obtain ⟨b85, hw⟩ := hw
  refine cl_aload_n hG (hx_dq tdX12_init_2 23 rfl) rfl (cl_bipush hG 96 (hx_dq tdX12_init_2 24 rfl) bipush_96 (cl_newaI hM tn_96 (hx_dq tdX12_init_2 25 rfl) (by decide) (Nat.le_of_ble_eq_true rfl) (Nat.le_of_ble_eq_true rfl) (Nat.le_of_ble_eq_true rfl) b85 (cl_nmA (fun L_86 e_86 => ?_))))
  replace hw := hw L_86 e_86
  refine cl_nmM (fun m_87 e_87 => ?_)
  replace hw := hw m_87 e_87
  obtain ⟨o165_88, hw⟩ := hw
  refine cl_putFR hM taX12_init_f66 (hx_dq tdX12_init_2 26 rfl) o165_88 (cl_nmA (fun L_89 e_89 => ?_))
  replace hw := hw L_89 e_89
  obtain ⟨b90, hw⟩ := hw
  refine cl_aload_n hG (hx_dq tdX12_init_2 27 rfl) rfl (cl_bipush hG 96 (hx_dq tdX12_init_2 28 rfl) bipush_96 (cl_newaI hM tn_96 (hx_dq tdX12_init_2 29 rfl) (by decide) (Nat.le_of_ble_eq_true rfl) (Nat.le_of_ble_eq_true rfl) (Nat.le_of_ble_eq_true rfl) b90 (cl_nmA (fun L_91 e_91 => ?_))))
  replace hw := hw L_91 e_91
  refine cl_nmM (fun m_92 e_92 => ?_)
  replace hw := hw m_92 e_92
  obtain ⟨o173_93, hw⟩ := hw
  refine cl_putFR hM taX12_init_f69 (hx_dq tdX12_init_2 30 rfl) o173_93 (cl_nmA (fun L_94 e_94 => ?_))
  replace hw := hw L_94 e_94
  obtain ⟨b95, hw⟩ := hw
  refine cl_aload_n hG (hx_dq tdX12_init_2 31 rfl) rfl (cl_bipush hG 96 (hx_dq tdX12_init_3 0 rfl) bipush_96 (cl_newaI hM tn_96 (hx_dq tdX12_init_3 1 rfl) (by decide) (Nat.le_of_ble_eq_true rfl) (Nat.le_of_ble_eq_true rfl) (Nat.le_of_ble_eq_true rfl) b95 (cl_nmA (fun L_96 e_96 => ?_))))
  replace hw := hw L_96 e_96
  refine cl_nmM (fun m_97 e_97 => ?_)
  replace hw := hw m_97 e_97
  obtain ⟨o181_98, hw⟩ := hw
  refine cl_putFR hM taX12_init_f72 (hx_dq tdX12_init_3 2 rfl) o181_98 (cl_nmA (fun L_99 e_99 => ?_))
  replace hw := hw L_99 e_99
  obtain ⟨b100, hw⟩ := hw
  refine cl_aload_n hG (hx_dq tdX12_init_3 3 rfl) rfl (cl_bipush hG 96 (hx_dq tdX12_init_3 4 rfl) bipush_96 (cl_newaI hM tn_96 (hx_dq tdX12_init_3 5 rfl) (by decide) (Nat.le_of_ble_eq_true rfl) (Nat.le_of_ble_eq_true rfl) (Nat.le_of_ble_eq_true rfl) b100 (cl_nmA (fun L_101 e_101 => ?_))))
  replace hw := hw L_101 e_101
  refine cl_nmM (fun m_102 e_102 => ?_)
  replace hw := hw m_102 e_102
  obtain ⟨o189_103, hw⟩ := hw
  refine cl_putFR hM taX12_init_f75 (hx_dq tdX12_init_3 6 rfl) o189_103 (cl_nmA (fun L_104 e_104 => ?_))
  replace hw := hw L_104 e_104
  obtain ⟨b105, hw⟩ := hw
  refine cl_aload_n hG (hx_dq tdX12_init_3 7 rfl) rfl (cl_bipush hG 96 (hx_dq tdX12_init_3 8 rfl) bipush_96 (cl_newaI hM tn_96 (hx_dq tdX12_init_3 9 rfl) (by decide) (Nat.le_of_ble_eq_true rfl) (Nat.le_of_ble_eq_true rfl) (Nat.le_of_ble_eq_true rfl) b105 (cl_nmA (fun L_106 e_106 => ?_))))
  replace hw := hw L_106 e_106
  refine cl_nmM (fun m_107 e_107 => ?_)
  replace hw := hw m_107 e_107
  obtain ⟨o197_108, hw⟩ := hw
  refine cl_putFR hM taX12_init_f78 (hx_dq tdX12_init_3 10 rfl) o197_108 (cl_nmA (fun L_109 e_109 => ?_))
  replace hw := hw L_109 e_109
  obtain ⟨b110, hw⟩ := hw
  refine cl_aload_n hG (hx_dq tdX12_init_3 11 rfl) rfl (cl_sipush hG 4200 (hx_dq tdX12_init_3 12 rfl) sipush_4200 (cl_newaI hM tn_4200 (hx_dq tdX12_init_3 13 rfl) (by decide) (Nat.le_of_ble_eq_true rfl) (Nat.le_of_ble_eq_true rfl) (Nat.le_of_ble_eq_true rfl) b110 (cl_nmA (fun L_111 e_111 => ?_))))
  replace hw := hw L_111 e_111
  refine cl_nmM (fun m_112 e_112 => ?_)
  replace hw := hw m_112 e_112
  obtain ⟨o206_113, hw⟩ := hw
  refine cl_putFR hM taX12_init_f81 (hx_dq tdX12_init_3 14 rfl) o206_113 (cl_nmA (fun L_114 e_114 => ?_))
  replace hw := hw L_114 e_114
  obtain ⟨b115, hw⟩ := hw
  refine cl_aload_n hG (hx_dq tdX12_init_3 15 rfl) rfl (cl_sipush hG 4200 (hx_dq tdX12_init_3 16 rfl) sipush_4200 (cl_newaI hM tn_4200 (hx_dq tdX12_init_3 17 rfl) (by decide) (Nat.le_of_ble_eq_true rfl) (Nat.le_of_ble_eq_true rfl) (Nat.le_of_ble_eq_true rfl) b115 (cl_nmA (fun L_116 e_116 => ?_))))
  replace hw := hw L_116 e_116
  refine cl_nmM (fun m_117 e_117 => ?_)
  replace hw := hw m_117 e_117
  obtain ⟨o215_118, hw⟩ := hw
  refine cl_putFR hM taX12_init_f84 (hx_dq tdX12_init_3 18 rfl) o215_118 (cl_nmA (fun L_119 e_119 => ?_))
  replace hw := hw L_119 e_119
  obtain ⟨b120, hw⟩ := hw
  refine cl_aload_n hG (hx_dq tdX12_init_3 19 rfl) rfl (cl_sipush hG 4200 (hx_dq tdX12_init_3 20 rfl) sipush_4200 (cl_newaI hM tn_4200 (hx_dq tdX12_init_3 21 rfl) (by decide) (Nat.le_of_ble_eq_true rfl) (Nat.le_of_ble_eq_true rfl) (Nat.le_of_ble_eq_true rfl) b120 (cl_nmA (fun L_121 e_121 => ?_))))
  replace hw := hw L_121 e_121
  refine cl_nmM (fun m_122 e_122 => ?_)
  replace hw := hw m_122 e_122
  obtain ⟨o224_123, hw⟩ := hw
  refine cl_putFR hM taX12_init_f87 (hx_dq tdX12_init_3 22 rfl) o224_123 (cl_nmA (fun L_124 e_124 => ?_))
  replace hw := hw L_124 e_124
  obtain ⟨b125, hw⟩ := hw
  refine cl_aload_n hG (hx_dq tdX12_init_3 23 rfl) rfl (cl_bipush hG 64 (hx_dq tdX12_init_3 24 rfl) bipush_64 (cl_newaZ hM tn_64 (hx_dq tdX12_init_3 25 rfl) (by decide) (Nat.le_of_ble_eq_true rfl) (Nat.le_of_ble_eq_true rfl) (Nat.le_of_ble_eq_true rfl) b125 (cl_nmA (fun L_126 e_126 => ?_))))
  replace hw := hw L_126 e_126
  refine cl_nmM (fun m_127 e_127 => ?_)
  replace hw := hw m_127 e_127
  obtain ⟨o232_128, hw⟩ := hw
  refine cl_putFR hM taX12_init_f90 (hx_dq tdX12_init_3 26 rfl) o232_128 (cl_nmA (fun L_129 e_129 => ?_))
  replace hw := hw L_129 e_129
  obtain ⟨b130, hw⟩ := hw
  refine cl_aload_n hG (hx_dq tdX12_init_3 27 rfl) rfl (cl_sipush hG 700 (hx_dq tdX12_init_3 28 rfl) sipush_700 (cl_newaB hM tn_700 (hx_dq tdX12_init_3 29 rfl) (by decide) (Nat.le_of_ble_eq_true rfl) (Nat.le_of_ble_eq_true rfl) (Nat.le_of_ble_eq_true rfl) b130 (cl_nmA (fun L_131 e_131 => ?_))))
  replace hw := hw L_131 e_131
  refine cl_nmM (fun m_132 e_132 => ?_)
  replace hw := hw m_132 e_132
  obtain ⟨o241_133, hw⟩ := hw
  refine cl_putFR hM taX12_init_f94 (hx_dq tdX12_init_3 30 rfl) o241_133 (cl_nmA (fun L_134 e_134 => ?_))
  replace hw := hw L_134 e_134
  obtain ⟨b135, hw⟩ := hw
  refine cl_aload_n hG (hx_dq tdX12_init_3 31 rfl) rfl (cl_sipush hG 700 (hx_dq tdX12_init_4 0 rfl) sipush_700 (cl_newaB hM tn_700 (hx_dq tdX12_init_4 1 rfl) (by decide) (Nat.le_of_ble_eq_true rfl) (Nat.le_of_ble_eq_true rfl) (Nat.le_of_ble_eq_true rfl) b135 (cl_nmA (fun L_136 e_136 => ?_))))
  replace hw := hw L_136 e_136
  refine cl_nmM (fun m_137 e_137 => ?_)
  replace hw := hw m_137 e_137
  obtain ⟨o250_138, hw⟩ := hw
  refine cl_putFR hM taX12_init_f98 (hx_dq tdX12_init_4 2 rfl) o250_138 (cl_nmA (fun L_139 e_139 => ?_))
  replace hw := hw L_139 e_139
  obtain ⟨b140, hw⟩ := hw
  refine cl_aload_n hG (hx_dq tdX12_init_4 3 rfl) rfl (cl_bipush hG 6 (hx_dq tdX12_init_4 4 rfl) bipush_6 (cl_newaI hM tn_6 (hx_dq tdX12_init_4 5 rfl) (by decide) (Nat.le_of_ble_eq_true rfl) (Nat.le_of_ble_eq_true rfl) (Nat.le_of_ble_eq_true rfl) b140 (cl_nmA (fun L_141 e_141 => ?_))))
  replace hw := hw L_141 e_141
  refine cl_nmM (fun m_142 e_142 => ?_)
  replace hw := hw m_142 e_142
  obtain ⟨o258_143, hw⟩ := hw
  refine cl_putFR hM taX12_init_f101 (hx_dq tdX12_init_4 6 rfl) o258_143 (cl_nmA (fun L_144 e_144 => ?_))
  replace hw := hw L_144 e_144
  obtain ⟨b145, hw⟩ := hw
  refine cl_aload_n hG (hx_dq tdX12_init_4 7 rfl) rfl (cl_bipush hG 12 (hx_dq tdX12_init_4 8 rfl) bipush_12 (cl_newaI hM tn_12 (hx_dq tdX12_init_4 9 rfl) (by decide) (Nat.le_of_ble_eq_true rfl) (Nat.le_of_ble_eq_true rfl) (Nat.le_of_ble_eq_true rfl) b145 (cl_nmA (fun L_146 e_146 => ?_))))
  replace hw := hw L_146 e_146
  refine cl_nmM (fun m_147 e_147 => ?_)
  replace hw := hw m_147 e_147
  obtain ⟨o266_148, hw⟩ := hw
  refine cl_putFR hM taX12_init_f104 (hx_dq tdX12_init_4 10 rfl) o266_148 (cl_nmA (fun L_149 e_149 => ?_))
  replace hw := hw L_149 e_149
  obtain ⟨b150, hw⟩ := hw
  refine cl_aload_n hG (hx_dq tdX12_init_4 11 rfl) rfl (cl_sipush hG 130 (hx_dq tdX12_init_4 12 rfl) sipush_130 (cl_newaI hM tn_130 (hx_dq tdX12_init_4 13 rfl) (by decide) (Nat.le_of_ble_eq_true rfl) (Nat.le_of_ble_eq_true rfl) (Nat.le_of_ble_eq_true rfl) b150 (cl_nmA (fun L_151 e_151 => ?_))))
  replace hw := hw L_151 e_151
  refine cl_nmM (fun m_152 e_152 => ?_)
  replace hw := hw m_152 e_152
  obtain ⟨o275_153, hw⟩ := hw
  refine cl_putFR hM taX12_init_f107 (hx_dq tdX12_init_4 14 rfl) o275_153 (cl_nmA (fun L_154 e_154 => ?_))
  replace hw := hw L_154 e_154
  obtain ⟨b155, hw⟩ := hw
  refine cl_aload_n hG (hx_dq tdX12_init_4 15 rfl) rfl (cl_bipush hG 16 (hx_dq tdX12_init_4 16 rfl) bipush_16 (cl_newaI hM tn_16 (hx_dq tdX12_init_4 17 rfl) (by decide) (Nat.le_of_ble_eq_true rfl) (Nat.le_of_ble_eq_true rfl) (Nat.le_of_ble_eq_true rfl) b155 (cl_nmA (fun L_156 e_156 => ?_))))
  replace hw := hw L_156 e_156
  refine cl_nmM (fun m_157 e_157 => ?_)
  replace hw := hw m_157 e_157
  obtain ⟨o283_158, hw⟩ := hw
  refine cl_putFR hM taX12_init_f110 (hx_dq tdX12_init_4 18 rfl) o283_158 (cl_nmA (fun L_159 e_159 => ?_))
  replace hw := hw L_159 e_159
  obtain ⟨b160, hw⟩ := hw
  refine cl_aload_n hG (hx_dq tdX12_init_4 19 rfl) rfl (cl_bipush hG 13 (hx_dq tdX12_init_4 20 rfl) bipush_13 (cl_newaJ hM tn_13 (hx_dq tdX12_init_4 21 rfl) (by decide) (Nat.le_of_ble_eq_true rfl) (Nat.le_of_ble_eq_true rfl) (Nat.le_of_ble_eq_true rfl) b160 (cl_nmA (fun L_161 e_161 => ?_))))
  replace hw := hw L_161 e_161
  refine cl_nmM (fun m_162 e_162 => ?_)
  replace hw := hw m_162 e_162
  obtain ⟨o291_163, hw⟩ := hw
  refine cl_putFR hM taX12_init_f113 (hx_dq tdX12_init_4 22 rfl) o291_163 (cl_nmA (fun L_164 e_164 => ?_))
  replace hw := hw L_164 e_164
  obtain ⟨b165, hw⟩ := hw
  refine cl_aload_n hG (hx_dq tdX12_init_4 23 rfl) rfl (cl_bipush hG 41 (hx_dq tdX12_init_4 24 rfl) bipush_41 (cl_newaJ hM tn_41 (hx_dq tdX12_init_4 25 rfl) (by decide) (Nat.le_of_ble_eq_true rfl) (Nat.le_of_ble_eq_true rfl) (Nat.le_of_ble_eq_true rfl) b165 (cl_nmA (fun L_166 e_166 => ?_))))
  replace hw := hw L_166 e_166
  refine cl_nmM (fun m_167 e_167 => ?_)
  replace hw := hw m_167 e_167
  obtain ⟨o299_168, hw⟩ := hw
  refine cl_putFR hM taX12_init_f117 (hx_dq tdX12_init_4 26 rfl) o299_168 (cl_nmA (fun L_169 e_169 => ?_))
  replace hw := hw L_169 e_169
  obtain ⟨b170, hw⟩ := hw
  refine cl_aload_n hG (hx_dq tdX12_init_4 27 rfl) rfl (cl_bipush hG 60 (hx_dq tdX12_init_4 28 rfl) bipush_60 (cl_newaI hM tn_60 (hx_dq tdX12_init_4 29 rfl) (by decide) (Nat.le_of_ble_eq_true rfl) (Nat.le_of_ble_eq_true rfl) (Nat.le_of_ble_eq_true rfl) b170 (cl_nmA (fun L_171 e_171 => ?_))))
  replace hw := hw L_171 e_171
  refine cl_nmM (fun m_172 e_172 => ?_)
  replace hw := hw m_172 e_172
  obtain ⟨o307_173, hw⟩ := hw
  refine cl_putFR hM taX12_init_f120 (hx_dq tdX12_init_4 30 rfl) o307_173 (cl_nmA (fun L_174 e_174 => ?_))
  replace hw := hw L_174 e_174
  obtain ⟨b175, hw⟩ := hw
  refine cl_aload_n hG (hx_dq tdX12_init_4 31 rfl) rfl (cl_bipush hG 60 (hx_dq tdX12_init_5 0 rfl) bipush_60 (cl_newaI hM tn_60 (hx_dq tdX12_init_5 1 rfl) (by decide) (Nat.le_of_ble_eq_true rfl) (Nat.le_of_ble_eq_true rfl) (Nat.le_of_ble_eq_true rfl) b175 (cl_nmA (fun L_176 e_176 => ?_))))
  replace hw := hw L_176 e_176
  refine cl_nmM (fun m_177 e_177 => ?_)
  replace hw := hw m_177 e_177
  obtain ⟨o315_178, hw⟩ := hw
  refine cl_putFR hM taX12_init_f123 (hx_dq tdX12_init_5 2 rfl) o315_178 (cl_nmA (fun L_179 e_179 => ?_))
  replace hw := hw L_179 e_179
  obtain ⟨b180, hw⟩ := hw
  refine cl_aload_n hG (hx_dq tdX12_init_5 3 rfl) rfl (cl_bipush hG 60 (hx_dq tdX12_init_5 4 rfl) bipush_60 (cl_newaI hM tn_60 (hx_dq tdX12_init_5 5 rfl) (by decide) (Nat.le_of_ble_eq_true rfl) (Nat.le_of_ble_eq_true rfl) (Nat.le_of_ble_eq_true rfl) b180 (cl_nmA (fun L_181 e_181 => ?_))))
  replace hw := hw L_181 e_181
  refine cl_nmM (fun m_182 e_182 => ?_)
  replace hw := hw m_182 e_182
  obtain ⟨o323_183, hw⟩ := hw
  refine cl_putFR hM taX12_init_f126 (hx_dq tdX12_init_5 6 rfl) o323_183 (cl_nmA (fun L_184 e_184 => ?_))
  replace hw := hw L_184 e_184
  obtain ⟨b185, hw⟩ := hw
  refine cl_aload_n hG (hx_dq tdX12_init_5 7 rfl) rfl (cl_bipush hG 20 (hx_dq tdX12_init_5 8 rfl) bipush_20 (cl_newaI hM tn_20 (hx_dq tdX12_init_5 9 rfl) (by decide) (Nat.le_of_ble_eq_true rfl) (Nat.le_of_ble_eq_true rfl) (Nat.le_of_ble_eq_true rfl) b185 (cl_nmA (fun L_186 e_186 => ?_))))
  replace hw := hw L_186 e_186
  refine cl_nmM (fun m_187 e_187 => ?_)
  replace hw := hw m_187 e_187
  obtain ⟨o331_188, hw⟩ := hw
  refine cl_putFR hM taX12_init_f129 (hx_dq tdX12_init_5 10 rfl) o331_188 (cl_nmA (fun L_189 e_189 => ?_))
  replace hw := hw L_189 e_189
  obtain ⟨b190, hw⟩ := hw
  refine cl_aload_n hG (hx_dq tdX12_init_5 11 rfl) rfl (cl_bipush hG 20 (hx_dq tdX12_init_5 12 rfl) bipush_20 (cl_newaI hM tn_20 (hx_dq tdX12_init_5 13 rfl) (by decide) (Nat.le_of_ble_eq_true rfl) (Nat.le_of_ble_eq_true rfl) (Nat.le_of_ble_eq_true rfl) b190 (cl_nmA (fun L_191 e_191 => ?_))))
  replace hw := hw L_191 e_191
  refine cl_nmM (fun m_192 e_192 => ?_)
  replace hw := hw m_192 e_192
  obtain ⟨o339_193, hw⟩ := hw
  refine cl_putFR hM taX12_init_f132 (hx_dq tdX12_init_5 14 rfl) o339_193 (cl_nmA (fun L_194 e_194 => ?_))
  replace hw := hw L_194 e_194
  obtain ⟨b195, hw⟩ := hw
  refine cl_aload_n hG (hx_dq tdX12_init_5 15 rfl) rfl (cl_bipush hG 20 (hx_dq tdX12_init_5 16 rfl) bipush_20 (cl_newaI hM tn_20 (hx_dq tdX12_init_5 17 rfl) (by decide) (Nat.le_of_ble_eq_true rfl) (Nat.le_of_ble_eq_true rfl) (Nat.le_of_ble_eq_true rfl) b195 (cl_nmA (fun L_196 e_196 => ?_))))
  replace hw := hw L_196 e_196
  refine cl_nmM (fun m_197 e_197 => ?_)
  replace hw := hw m_197 e_197
  obtain ⟨o347_198, hw⟩ := hw
  refine cl_putFR hM taX12_init_f135 (hx_dq tdX12_init_5 18 rfl) o347_198 (cl_nmA (fun L_199 e_199 => ?_))
  replace hw := hw L_199 e_199
  obtain ⟨b200, hw⟩ := hw
  refine cl_aload_n hG (hx_dq tdX12_init_5 19 rfl) rfl (cl_bipush hG 16 (hx_dq tdX12_init_5 20 rfl) bipush_16 (cl_newaI hM tn_16 (hx_dq tdX12_init_5 21 rfl) (by decide) (Nat.le_of_ble_eq_true rfl) (Nat.le_of_ble_eq_true rfl) (Nat.le_of_ble_eq_true rfl) b200 (cl_nmA (fun L_201 e_201 => ?_))))
  replace hw := hw L_201 e_201
  refine cl_nmM (fun m_202 e_202 => ?_)
  replace hw := hw m_202 e_202
  obtain ⟨o355_203, hw⟩ := hw
  refine cl_putFR hM taX12_init_f138 (hx_dq tdX12_init_5 22 rfl) o355_203 (cl_nmA (fun L_204 e_204 => ?_))
  replace hw := hw L_204 e_204
  obtain ⟨b205, hw⟩ := hw
  refine cl_aload_n hG (hx_dq tdX12_init_5 23 rfl) rfl (cl_sipush hG 427 (hx_dq tdX12_init_5 24 rfl) sipush_427 (cl_newaI hM tn_427 (hx_dq tdX12_init_5 25 rfl) (by decide) (Nat.le_of_ble_eq_true rfl) (Nat.le_of_ble_eq_true rfl) (Nat.le_of_ble_eq_true rfl) b205 (cl_nmA (fun L_206 e_206 => ?_))))
  replace hw := hw L_206 e_206
  refine cl_nmM (fun m_207 e_207 => ?_)
  replace hw := hw m_207 e_207
  obtain ⟨o364_208, hw⟩ := hw
  refine cl_putFR hM taX12_init_f141 (hx_dq tdX12_init_5 26 rfl) o364_208 (cl_nmA (fun L_209 e_209 => ?_))
  replace hw := hw L_209 e_209
  obtain ⟨b210, hw⟩ := hw
  refine cl_aload_n hG (hx_dq tdX12_init_5 27 rfl) rfl (cl_ldc hG ciX12_144 (hx_dq tdX12_init_5 28 rfl) (cl_newaI hM tn_45000 (hx_dq tdX12_init_5 29 rfl) (by decide) (Nat.le_of_ble_eq_true rfl) (Nat.le_of_ble_eq_true rfl) (Nat.le_of_ble_eq_true rfl) b210 (cl_nmA (fun L_211 e_211 => ?_))))
  replace hw := hw L_211 e_211
  refine cl_nmM (fun m_212 e_212 => ?_)
  replace hw := hw m_212 e_212
  obtain ⟨o372_213, hw⟩ := hw
  refine cl_putFR hM taX12_init_f145 (hx_dq tdX12_init_5 30 rfl) o372_213 (cl_nmA (fun L_214 e_214 => ?_))
  replace hw := hw L_214 e_214
  obtain ⟨b215, hw⟩ := hw
  refine cl_aload_n hG (hx_dq tdX12_init_5 31 rfl) rfl (cl_iconst hG 3 (hx_dq tdX12_init_6 0 rfl) iconst_3 (cl_newaJ hM tn_3 (hx_dq tdX12_init_6 1 rfl) (by decide) (Nat.le_of_ble_eq_true rfl) (Nat.le_of_ble_eq_true rfl) (Nat.le_of_ble_eq_true rfl) b215 (cl_nmA (fun L_216 e_216 => ?_))))
  replace hw := hw L_216 e_216
  refine cl_nmM (fun m_217 e_217 => ?_)
  replace hw := hw m_217 e_217
  obtain ⟨o379_218, hw⟩ := hw
  refine cl_putFR hM taX12_init_f148 (hx_dq tdX12_init_6 2 rfl) o379_218 (cl_nmA (fun L_219 e_219 => ?_))
  replace hw := hw L_219 e_219
  obtain ⟨b220, hw⟩ := hw
  refine cl_aload_n hG (hx_dq tdX12_init_6 3 rfl) rfl (cl_bipush hG 8 (hx_dq tdX12_init_6 4 rfl) bipush_8 (cl_newaI hM tn_8 (hx_dq tdX12_init_6 5 rfl) (by decide) (Nat.le_of_ble_eq_true rfl) (Nat.le_of_ble_eq_true rfl) (Nat.le_of_ble_eq_true rfl) b220 (cl_nmA (fun L_221 e_221 => ?_))))
  replace hw := hw L_221 e_221
  refine cl_nmM (fun m_222 e_222 => ?_)
  replace hw := hw m_222 e_222
  obtain ⟨o387_223, hw⟩ := hw
  refine cl_putFR hM taX12_init_f151 (hx_dq tdX12_init_6 6 rfl) o387_223 (cl_nmA (fun L_224 e_224 => ?_))
  replace hw := hw L_224 e_224
  exact cl_vret hG (hx_dq tdX12_init_6 7 rfl) rfl (hK _ _ hw) (Nat.le_of_ble_eq_true rfl) (Nat.le_of_ble_eq_true rfl)
def sX12_init : hx_ST := fun Λ μ as KK => ∃ (v0 : Nat) (K : hx_L → hx_M → Prop), as = [.ref v0] ∧ wX12_init Λ μ v0 K ∧ (∀ (Λ1 : hx_L) (m : hx_M), K Λ1 m → KK none Λ1 m)
theorem sX12_init_mk {Λ : hx_L} {μ : hx_M} {KK : hx_KT} {v0 : Nat} {K : hx_L → hx_M → Prop}  (hw : wX12_init Λ μ v0 K) (hk : ∀ (Λ1 : hx_L) (m : hx_M), K Λ1 m → KK none Λ1 m) : sX12_init Λ μ [.ref v0] KK := ⟨_, _, rfl, hw, hk⟩
theorem conX12_init : hx_Con yX12_init cX12_init 1 (none) 1 43 81507 sX12_init := by
  refine hx_con_ofA (by decide +kernel) tokX12 taokX12_init (Or.inr rfl) (by decide) ?_ ?_
  · intro Λ μ as KK h
    obtain ⟨v0, K, rfl, hw, hK⟩ := h
    exact Nat.le_of_ble_eq_true rfl
  · intro G KK hG hM cA Λ μ as h
    obtain ⟨v0, K, rfl, hw, hK⟩ := h
    exact cl_sub hG (hx_le_c rfl hx_le_0) (kX12_init hG hM cA _ hK hw)
/-! HemLineModel.isIn(III)Z -/
def tbX12_isIn_0 : List (Nat × Instr × Nat) := [(0, .iload_n 0, 1), (1, .iload_n 1, 1), (2, .if_icmp .lt 12, 3), (5, .iload_n 0, 1), (6, .iload_n 2, 1), (7, .if_icmp .gt 7, 3), (10, .iconst 1, 1), (11, .goto 4, 3), (14, .iconst 0, 1), (15, .ireturn, 1)]
theorem tdX12_isIn_0 : hx_dt cX12_isIn tbX12_isIn_0 = true := by decide +kernel
def wX12_isIn  (v0 : Int32) (v1 : Int32) (v2 : Int32) (K : Int32 → Prop) : Prop := (v0 < v1 → (K 0)) ∧ (¬ (v0 < v1) → ((v2 < v0 → (K 0)) ∧ (¬ (v2 < v0) → (K 1))))
set_option maxRecDepth 100000 in
set_option maxHeartbeats 4000000 in
theorem kX12_isIn {G : hx_GT} {KK : hx_KT} (hG : hx_K cX12_isIn 3 0 0 (some .boolean) TbX12 KK G) (cA : hx_CA RX12 cX12_isIn 1 0 0 G) {Λ : hx_L}  {μ : hx_M} (v0 : Int32) (v1 : Int32) (v2 : Int32) {K : Int32 → Prop} (hK : ∀ (r : Int32), K r → KK (some (.int r)) Λ μ) (hw : wX12_isIn v0 v1 v2 K) : G Λ μ (0, 0) 0 [some (.int v0), some (.int v1), some (.int v2)] [] := by
  unfold wX12_isIn at hw
  refine cl_iload_n hG (hx_dq tdX12_isIn_0 0 rfl) rfl (cl_iload_n hG (hx_dq tdX12_isIn_0 1 rfl) rfl (cl_icmp_lt hG 14 (hx_dq tdX12_isIn_0 2 rfl) rfl (fun c2 => ?_) (fun c2 => ?_)))
  · replace hw := hw.1 c2
    exact cl_iconst hG 0 (hx_dq tdX12_isIn_0 8 rfl) iconst_0 (cl_iret hG (hx_dq tdX12_isIn_0 9 rfl) rfl rfl (hK _ hw) (Nat.le_refl _) (Nat.le_refl _))
  · replace hw := hw.2 c2
    refine cl_iload_n hG (hx_dq tdX12_isIn_0 3 rfl) rfl (cl_iload_n hG (hx_dq tdX12_isIn_0 4 rfl) rfl (cl_icmp_gt hG 14 (hx_dq tdX12_isIn_0 5 rfl) rfl (fun c7 => ?_) (fun c7 => ?_)))
    · replace hw := hw.1 c7
      exact cl_iconst hG 0 (hx_dq tdX12_isIn_0 8 rfl) iconst_0 (cl_iret hG (hx_dq tdX12_isIn_0 9 rfl) rfl rfl (hK _ hw) (Nat.le_refl _) (Nat.le_refl _))
    · replace hw := hw.2 c7
      exact cl_iconst hG 1 (hx_dq tdX12_isIn_0 6 rfl) iconst_1 (cl_goto hG 15 (hx_dq tdX12_isIn_0 7 rfl) rfl (cl_iret hG (hx_dq tdX12_isIn_0 9 rfl) rfl rfl (hK _ hw) (Nat.le_refl _) (Nat.le_refl _)))
def sX12_isIn : hx_ST := fun Λ μ as KK => ∃ (v0 : Int32) (v1 : Int32) (v2 : Int32) (K : Int32 → Prop), as = [.int v0, .int v1, .int v2] ∧ wX12_isIn v0 v1 v2 K ∧ (∀ (r : Int32), K r → KK (some (.int r)) Λ μ)
theorem sX12_isIn_mk {Λ : hx_L} {μ : hx_M} {KK : hx_KT} {v0 : Int32} {v1 : Int32} {v2 : Int32} {K : Int32 → Prop}  (hw : wX12_isIn v0 v1 v2 K) (hk : ∀ (r : Int32), K r → KK (some (.int r)) Λ μ) : sX12_isIn Λ μ [.int v0, .int v1, .int v2] KK := ⟨_, _, _, _, rfl, hw, hk⟩
theorem conX12_isIn : hx_Con yX12_isIn cX12_isIn 3 (some .boolean) 1 0 0 sX12_isIn := by
  refine hx_con_of (by decide +kernel) tokX12 (by decide) ?_ ?_
  · intro Λ μ as KK h
    obtain ⟨v0, v1, v2, K, rfl, hw, hK⟩ := h
    exact Nat.le_of_ble_eq_true rfl
  · intro G KK hG cA Λ μ as h
    obtain ⟨v0, v1, v2, K, rfl, hw, hK⟩ := h
    exact cl_sub hG (hx_le_c rfl (hx_le_c rfl (hx_le_c rfl hx_le_0))) (kX12_isIn hG cA _ _ _ hK hw)
/-! HemLineModel.one(Z)I -/
def tbX12_one_0 : List (Nat × Instr × Nat) := [(0, .iload_n 0, 1), (1, .ifCond .eq 7, 3), (4, .iconst 1, 1), (5, .goto 4, 3), (8, .iconst 0, 1), (9, .ireturn, 1)]
theorem tdX12_one_0 : hx_dt cX12_one tbX12_one_0 = true := by decide +kernel
def wX12_one  (v0 : Int32) (K : Int32 → Prop) : Prop := (v0 = 0 → (K 0)) ∧ (¬ (v0 = 0) → (K 1))
set_option maxRecDepth 100000 in
set_option maxHeartbeats 4000000 in
theorem kX12_one {G : hx_GT} {KK : hx_KT} (hG : hx_K cX12_one 1 0 0 (some .int) TbX12 KK G) (cA : hx_CA RX12 cX12_one 1 0 0 G) {Λ : hx_L}  {μ : hx_M} (v0 : Int32) {K : Int32 → Prop} (hK : ∀ (r : Int32), K r → KK (some (.int r)) Λ μ) (hw : wX12_one v0 K) : G Λ μ (0, 0) 0 [some (.int v0)] [] := by
  unfold wX12_one at hw
  refine cl_iload_n hG (hx_dq tdX12_one_0 0 rfl) rfl (cl_if_eq hG 8 (hx_dq tdX12_one_0 1 rfl) rfl (fun c1 => ?_) (fun c1 => ?_))
  · replace hw := hw.1 c1
    exact cl_iconst hG 0 (hx_dq tdX12_one_0 4 rfl) iconst_0 (cl_iret hG (hx_dq tdX12_one_0 5 rfl) rfl rfl (hK _ hw) (Nat.le_refl _) (Nat.le_refl _))
  · replace hw := hw.2 c1
    exact cl_iconst hG 1 (hx_dq tdX12_one_0 2 rfl) iconst_1 (cl_goto hG 9 (hx_dq tdX12_one_0 3 rfl) rfl (cl_iret hG (hx_dq tdX12_one_0 5 rfl) rfl rfl (hK _ hw) (Nat.le_refl _) (Nat.le_refl _)))
def sX12_one : hx_ST := fun Λ μ as KK => ∃ (v0 : Int32) (K : Int32 → Prop), as = [.int v0] ∧ wX12_one v0 K ∧ (∀ (r : Int32), K r → KK (some (.int r)) Λ μ)
theorem sX12_one_mk {Λ : hx_L} {μ : hx_M} {KK : hx_KT} {v0 : Int32} {K : Int32 → Prop}  (hw : wX12_one v0 K) (hk : ∀ (r : Int32), K r → KK (some (.int r)) Λ μ) : sX12_one Λ μ [.int v0] KK := ⟨_, _, rfl, hw, hk⟩
theorem conX12_one : hx_Con yX12_one cX12_one 1 (some .int) 1 0 0 sX12_one := by
  refine hx_con_of (by decide +kernel) tokX12 (by decide) ?_ ?_
  · intro Λ μ as KK h
    obtain ⟨v0, K, rfl, hw, hK⟩ := h
    exact Nat.le_of_ble_eq_true rfl
  · intro G KK hG cA Λ μ as h
    obtain ⟨v0, K, rfl, hw, hK⟩ := h
    exact cl_sub hG (hx_le_c rfl hx_le_0) (kX12_one hG cA _ hK hw)
/-! HemLineModel.has(II)Z -/
def tbX12_has_0 : List (Nat × Instr × Nat) := [(0, .iload_n 0, 1), (1, .iload_n 1, 1), (2, .ishr, 1), (3, .iconst 1, 1), (4, .iand, 1), (5, .iconst 1, 1), (6, .if_icmp .ne 7, 3), (9, .iconst 1, 1), (10, .goto 4, 3), (13, .iconst 0, 1), (14, .ireturn, 1)]
theorem tdX12_has_0 : hx_dt cX12_has tbX12_has_0 = true := by decide +kernel
def wX12_has  (v0 : Int32) (v1 : Int32) (K : Int32 → Prop) : Prop := (((v0 >>> (v1 &&& 31)) &&& 1) ≠ 1 → (K 0)) ∧ (((v0 >>> (v1 &&& 31)) &&& 1) = 1 → (K 1))
set_option maxRecDepth 100000 in
set_option maxHeartbeats 4000000 in
theorem kX12_has {G : hx_GT} {KK : hx_KT} (hG : hx_K cX12_has 2 0 0 (some .boolean) TbX12 KK G) (cA : hx_CA RX12 cX12_has 1 0 0 G) {Λ : hx_L}  {μ : hx_M} (v0 : Int32) (v1 : Int32) {K : Int32 → Prop} (hK : ∀ (r : Int32), K r → KK (some (.int r)) Λ μ) (hw : wX12_has v0 v1 K) : G Λ μ (0, 0) 0 [some (.int v0), some (.int v1)] [] := by
  unfold wX12_has at hw
  refine cl_iload_n hG (hx_dq tdX12_has_0 0 rfl) rfl (cl_iload_n hG (hx_dq tdX12_has_0 1 rfl) rfl (cl_ishr hG (hx_dq tdX12_has_0 2 rfl) (cl_iconst hG 1 (hx_dq tdX12_has_0 3 rfl) iconst_1 (cl_iand hG (hx_dq tdX12_has_0 4 rfl) (cl_iconst hG 1 (hx_dq tdX12_has_0 5 rfl) iconst_1 (cl_icmp_ne hG 13 (hx_dq tdX12_has_0 6 rfl) rfl (fun c6 => ?_) (fun c6 => ?_)))))))
  · replace hw := hw.1 c6
    exact cl_iconst hG 0 (hx_dq tdX12_has_0 9 rfl) iconst_0 (cl_iret hG (hx_dq tdX12_has_0 10 rfl) rfl rfl (hK _ hw) (Nat.le_refl _) (Nat.le_refl _))
  · replace hw := hw.2 c6
    exact cl_iconst hG 1 (hx_dq tdX12_has_0 7 rfl) iconst_1 (cl_goto hG 14 (hx_dq tdX12_has_0 8 rfl) rfl (cl_iret hG (hx_dq tdX12_has_0 10 rfl) rfl rfl (hK _ hw) (Nat.le_refl _) (Nat.le_refl _)))
def sX12_has : hx_ST := fun Λ μ as KK => ∃ (v0 : Int32) (v1 : Int32) (K : Int32 → Prop), as = [.int v0, .int v1] ∧ wX12_has v0 v1 K ∧ (∀ (r : Int32), K r → KK (some (.int r)) Λ μ)
theorem sX12_has_mk {Λ : hx_L} {μ : hx_M} {KK : hx_KT} {v0 : Int32} {v1 : Int32} {K : Int32 → Prop}  (hw : wX12_has v0 v1 K) (hk : ∀ (r : Int32), K r → KK (some (.int r)) Λ μ) : sX12_has Λ μ [.int v0, .int v1] KK := ⟨_, _, _, rfl, hw, hk⟩
theorem conX12_has : hx_Con yX12_has cX12_has 2 (some .boolean) 1 0 0 sX12_has := by
  refine hx_con_of (by decide +kernel) tokX12 (by decide) ?_ ?_
  · intro Λ μ as KK h
    obtain ⟨v0, v1, K, rfl, hw, hK⟩ := h
    exact Nat.le_of_ble_eq_true rfl
  · intro G KK hG cA Λ μ as h
    obtain ⟨v0, v1, K, rfl, hw, hK⟩ := h
    exact cl_sub hG (hx_le_c rfl (hx_le_c rfl hx_le_0)) (kX12_has hG cA _ _ hK hw)
/-! HemLineModel.isPerson(I)Z -/
def tbX12_isPerson_0 : List (Nat × Instr × Nat) := [(0, .iload_n 1, 1), (1, .iconst 0, 1), (2, .aload_n 0, 1), (3, .getfield 154, 3), (6, .iconst 1, 1), (7, .isub, 1), (8, .invokestatic 157, 3), (11, .ireturn, 1)]
theorem tdX12_isPerson_0 : hx_dt cX12_isPerson tbX12_isPerson_0 = true := by decide +kernel
theorem caX12_isPerson_157 {G : hx_GT} (cA : hx_CA RX12 cX12_isPerson 2 0 0 G) : hx_CS cX12_isPerson G 0 0 157 3 sX12_isIn 0 0 := cA.2.1 conX12_isIn ⟨by decide +kernel, by decide +kernel, by decide +kernel⟩ mw_1343 mw_1344 mw_97 mw_1345 (by decide) (by decide)
def wX12_isPerson (μ : hx_M) (v1 : Int32) (K : Int32 → Prop) : Prop := wX12_isIn v1 0 ((μ.1 49 0) - 1) (fun r8_2 => (r8_2 = 0 ∨ r8_2 = 1) ∧ K r8_2)
set_option maxRecDepth 100000 in
set_option maxHeartbeats 4000000 in
theorem kX12_isPerson {G : hx_GT} {KK : hx_KT} (hG : hx_K cX12_isPerson 2 0 0 (some .boolean) TbX12 KK G) (cA : hx_CA RX12 cX12_isPerson 2 0 0 G) {Λ : hx_L} (hF : mF Λ) {μ : hx_M} (v1 : Int32) {K : Int32 → Prop} (hK : ∀ (r : Int32), K r → KK (some (.int r)) Λ μ) (hw : wX12_isPerson μ v1 K) : G Λ μ (0, 0) 0 [some (.ref 49), some (.int v1)] [] := by
  unfold wX12_isPerson at hw
  refine cl_iload_n hG (hx_dq tdX12_isPerson_0 0 rfl) rfl (cl_iconst hG 0 (hx_dq tdX12_isPerson_0 1 rfl) iconst_0 (cl_aload_n hG (hx_dq tdX12_isPerson_0 2 rfl) rfl (cl_getI hG fmX12_154 (hx_dq tdX12_isPerson_0 3 rfl) (mF_S49 hF) (cl_iconst hG 1 (hx_dq tdX12_isPerson_0 4 rfl) iconst_1 (cl_isub hG (hx_dq tdX12_isPerson_0 5 rfl) (cl_callS3 (caX12_isPerson_157 cA) (hx_dq tdX12_isPerson_0 6 rfl) (Nat.le_of_ble_eq_true rfl) (Nat.le_refl _) (Nat.le_refl _) (sX12_isIn_mk hw (fun r8_2 hw => ?_))))))))
  obtain ⟨b11, hw⟩ := hw
  exact cl_iret hG (hx_dq tdX12_isPerson_0 7 rfl) rfl (hx_nb b11) (hK _ hw) (Nat.le_refl _) (Nat.le_refl _)
def sX12_isPerson : hx_ST := fun Λ μ as KK => mF Λ ∧ ∃ (v1 : Int32) (K : Int32 → Prop), as = [.ref 49, .int v1] ∧ wX12_isPerson μ v1 K ∧ (∀ (r : Int32), K r → KK (some (.int r)) Λ μ)
theorem sX12_isPerson_mk {Λ : hx_L} {μ : hx_M} {KK : hx_KT} {v1 : Int32} {K : Int32 → Prop} (hF : mF Λ) (hw : wX12_isPerson μ v1 K) (hk : ∀ (r : Int32), K r → KK (some (.int r)) Λ μ) : sX12_isPerson Λ μ [.ref 49, .int v1] KK := ⟨hF, _, _, rfl, hw, hk⟩
theorem conX12_isPerson : hx_Con yX12_isPerson cX12_isPerson 2 (some .boolean) 2 0 0 sX12_isPerson := by
  refine hx_con_of (by decide +kernel) tokX12 (by decide) ?_ ?_
  · intro Λ μ as KK h
    obtain ⟨hF, v1, K, rfl, hw, hK⟩ := h
    exact Nat.le_of_ble_eq_true rfl
  · intro G KK hG cA Λ μ as h
    obtain ⟨hF, v1, K, rfl, hw, hK⟩ := h
    exact cl_sub hG (hx_le_c rfl (hx_le_c rfl hx_le_0)) (kX12_isPerson hG cA hF _ hK hw)
/-! HemLineModel.isSeason(I)Z -/
def tbX12_isSeason_0 : List (Nat × Instr × Nat) := [(0, .iload_n 1, 1), (1, .iconst 0, 1), (2, .aload_n 0, 1), (3, .getfield 161, 3), (6, .invokestatic 157, 3), (9, .ireturn, 1)]
theorem tdX12_isSeason_0 : hx_dt cX12_isSeason tbX12_isSeason_0 = true := by decide +kernel
theorem caX12_isSeason_157 {G : hx_GT} (cA : hx_CA RX12 cX12_isSeason 2 0 0 G) : hx_CS cX12_isSeason G 0 0 157 3 sX12_isIn 0 0 := cA.2.1 conX12_isIn ⟨by decide +kernel, by decide +kernel, by decide +kernel⟩ mw_1343 mw_1344 mw_97 mw_1345 (by decide) (by decide)
def wX12_isSeason (μ : hx_M) (v1 : Int32) (K : Int32 → Prop) : Prop := wX12_isIn v1 0 (μ.1 49 1) (fun r6_2 => (r6_2 = 0 ∨ r6_2 = 1) ∧ K r6_2)
set_option maxRecDepth 100000 in
set_option maxHeartbeats 4000000 in
theorem kX12_isSeason {G : hx_GT} {KK : hx_KT} (hG : hx_K cX12_isSeason 2 0 0 (some .boolean) TbX12 KK G) (cA : hx_CA RX12 cX12_isSeason 2 0 0 G) {Λ : hx_L} (hF : mF Λ) {μ : hx_M} (v1 : Int32) {K : Int32 → Prop} (hK : ∀ (r : Int32), K r → KK (some (.int r)) Λ μ) (hw : wX12_isSeason μ v1 K) : G Λ μ (0, 0) 0 [some (.ref 49), some (.int v1)] [] := by
  unfold wX12_isSeason at hw
  refine cl_iload_n hG (hx_dq tdX12_isSeason_0 0 rfl) rfl (cl_iconst hG 0 (hx_dq tdX12_isSeason_0 1 rfl) iconst_0 (cl_aload_n hG (hx_dq tdX12_isSeason_0 2 rfl) rfl (cl_getI hG fmX12_161 (hx_dq tdX12_isSeason_0 3 rfl) (mF_S49 hF) (cl_callS3 (caX12_isSeason_157 cA) (hx_dq tdX12_isSeason_0 4 rfl) (Nat.le_of_ble_eq_true rfl) (Nat.le_refl _) (Nat.le_refl _) (sX12_isIn_mk hw (fun r6_2 hw => ?_))))))
  obtain ⟨b9, hw⟩ := hw
  exact cl_iret hG (hx_dq tdX12_isSeason_0 5 rfl) rfl (hx_nb b9) (hK _ hw) (Nat.le_refl _) (Nat.le_refl _)
def sX12_isSeason : hx_ST := fun Λ μ as KK => mF Λ ∧ ∃ (v1 : Int32) (K : Int32 → Prop), as = [.ref 49, .int v1] ∧ wX12_isSeason μ v1 K ∧ (∀ (r : Int32), K r → KK (some (.int r)) Λ μ)
theorem sX12_isSeason_mk {Λ : hx_L} {μ : hx_M} {KK : hx_KT} {v1 : Int32} {K : Int32 → Prop} (hF : mF Λ) (hw : wX12_isSeason μ v1 K) (hk : ∀ (r : Int32), K r → KK (some (.int r)) Λ μ) : sX12_isSeason Λ μ [.ref 49, .int v1] KK := ⟨hF, _, _, rfl, hw, hk⟩
theorem conX12_isSeason : hx_Con yX12_isSeason cX12_isSeason 2 (some .boolean) 2 0 0 sX12_isSeason := by
  refine hx_con_of (by decide +kernel) tokX12 (by decide) ?_ ?_
  · intro Λ μ as KK h
    obtain ⟨hF, v1, K, rfl, hw, hK⟩ := h
    exact Nat.le_of_ble_eq_true rfl
  · intro G KK hG cA Λ μ as h
    obtain ⟨hF, v1, K, rfl, hw, hK⟩ := h
    exact cl_sub hG (hx_le_c rfl (hx_le_c rfl hx_le_0)) (kX12_isSeason hG cA hF _ hK hw)
/-! HemLineModel.lengthAt(II)I -/
def tbX12_lengthAt_0 : List (Nat × Instr × Nat) := [(0, .aload_n 0, 1), (1, .getfield 35, 3), (4, .bipush 16, 2), (6, .iload_n 2, 1), (7, .imul, 1), (8, .iload_n 1, 1), (9, .iadd, 1), (10, .iaload, 1), (11, .ireturn, 1)]
theorem tdX12_lengthAt_0 : hx_dt cX12_lengthAt tbX12_lengthAt_0 = true := by decide +kernel
def wX12_lengthAt (μ : hx_M) (v1 : Int32) (v2 : Int32) (K : Int32 → Prop) : Prop := vp_in ((16 * v2) + v1) 4816 ∧ K ((μ.1 57 (((16 * v2) + v1).toNatClampNeg)))
set_option maxRecDepth 100000 in
set_option maxHeartbeats 4000000 in
theorem kX12_lengthAt {G : hx_GT} {KK : hx_KT} (hG : hx_K cX12_lengthAt 3 0 0 (some .int) TbX12 KK G) (cA : hx_CA RX12 cX12_lengthAt 1 0 0 G) {Λ : hx_L} (hF : mF Λ) {μ : hx_M} (v1 : Int32) (v2 : Int32) {K : Int32 → Prop} (hK : ∀ (r : Int32), K r → KK (some (.int r)) Λ μ) (hw : wX12_lengthAt μ v1 v2 K) : G Λ μ (0, 0) 0 [some (.ref 49), some (.int v1), some (.int v2)] [] := by
  unfold wX12_lengthAt at hw
  obtain ⟨i10_1, hw⟩ := hw
  exact cl_aload_n hG (hx_dq tdX12_lengthAt_0 0 rfl) rfl (cl_getS hG fmX12_35 (hx_dq tdX12_lengthAt_0 1 rfl) (mF_S49 hF) (mF_R49_14 hF) (cl_bipush hG 16 (hx_dq tdX12_lengthAt_0 2 rfl) bipush_16 (cl_iload_n hG (hx_dq tdX12_lengthAt_0 3 rfl) rfl (cl_imul hG (hx_dq tdX12_lengthAt_0 4 rfl) (cl_iload_n hG (hx_dq tdX12_lengthAt_0 5 rfl) rfl (cl_iadd hG (hx_dq tdX12_lengthAt_0 6 rfl) (cl_iald hG (hx_dq tdX12_lengthAt_0 7 rfl) (mF_S57 hF) i10_1 (cl_iret hG (hx_dq tdX12_lengthAt_0 8 rfl) rfl rfl (hK _ hw) (Nat.le_refl _) (Nat.le_refl _)))))))))
def sX12_lengthAt : hx_ST := fun Λ μ as KK => mF Λ ∧ ∃ (v1 : Int32) (v2 : Int32) (K : Int32 → Prop), as = [.ref 49, .int v1, .int v2] ∧ wX12_lengthAt μ v1 v2 K ∧ (∀ (r : Int32), K r → KK (some (.int r)) Λ μ)
theorem sX12_lengthAt_mk {Λ : hx_L} {μ : hx_M} {KK : hx_KT} {v1 : Int32} {v2 : Int32} {K : Int32 → Prop} (hF : mF Λ) (hw : wX12_lengthAt μ v1 v2 K) (hk : ∀ (r : Int32), K r → KK (some (.int r)) Λ μ) : sX12_lengthAt Λ μ [.ref 49, .int v1, .int v2] KK := ⟨hF, _, _, _, rfl, hw, hk⟩
theorem conX12_lengthAt : hx_Con yX12_lengthAt cX12_lengthAt 3 (some .int) 1 0 0 sX12_lengthAt := by
  refine hx_con_of (by decide +kernel) tokX12 (by decide) ?_ ?_
  · intro Λ μ as KK h
    obtain ⟨hF, v1, v2, K, rfl, hw, hK⟩ := h
    exact Nat.le_of_ble_eq_true rfl
  · intro G KK hG cA Λ μ as h
    obtain ⟨hF, v1, v2, K, rfl, hw, hK⟩ := h
    exact cl_sub hG (hx_le_c rfl (hx_le_c rfl (hx_le_c rfl hx_le_0))) (kX12_lengthAt hG cA hF _ _ hK hw)
/-! HemLineModel.houseAt(II)I -/
def tbX12_houseAt_0 : List (Nat × Instr × Nat) := [(0, .iload_n 2, 1), (1, .aload_n 0, 1), (2, .getfield 161, 3), (5, .if_icmp .ne 12, 3), (8, .aload_n 0, 1), (9, .getfield 29, 3), (12, .iload_n 1, 1), (13, .iaload, 1), (14, .goto 13, 3), (17, .aload_n 0, 1), (18, .getfield 47, 3), (21, .iconst 4, 1), (22, .iload_n 2, 1), (23, .imul, 1), (24, .iload_n 1, 1), (25, .iadd, 1), (26, .iaload, 1), (27, .ireturn, 1)]
theorem tdX12_houseAt_0 : hx_dt cX12_houseAt tbX12_houseAt_0 = true := by decide +kernel
def wX12_houseAt (μ : hx_M) (v1 : Int32) (v2 : Int32) (K : Int32 → Prop) : Prop := (v2 ≠ (μ.1 49 1) → (vp_in ((4 * v2) + v1) 1204 ∧ K ((μ.1 61 (((4 * v2) + v1).toNatClampNeg))))) ∧ (v2 = (μ.1 49 1) → (vp_in v1 4 ∧ K (μ.1 55 v1.toNatClampNeg)))
set_option maxRecDepth 100000 in
set_option maxHeartbeats 4000000 in
theorem kX12_houseAt {G : hx_GT} {KK : hx_KT} (hG : hx_K cX12_houseAt 3 0 0 (some .int) TbX12 KK G) (cA : hx_CA RX12 cX12_houseAt 1 0 0 G) {Λ : hx_L} (hF : mF Λ) {μ : hx_M} (v1 : Int32) (v2 : Int32) {K : Int32 → Prop} (hK : ∀ (r : Int32), K r → KK (some (.int r)) Λ μ) (hw : wX12_houseAt μ v1 v2 K) : G Λ μ (0, 0) 0 [some (.ref 49), some (.int v1), some (.int v2)] [] := by
  unfold wX12_houseAt at hw
  refine cl_iload_n hG (hx_dq tdX12_houseAt_0 0 rfl) rfl (cl_aload_n hG (hx_dq tdX12_houseAt_0 1 rfl) rfl (cl_getI hG fmX12_161 (hx_dq tdX12_houseAt_0 2 rfl) (mF_S49 hF) (cl_icmp_ne hG 17 (hx_dq tdX12_houseAt_0 3 rfl) rfl (fun c5 => ?_) (fun c5 => ?_))))
  · replace hw := hw.1 c5
    obtain ⟨i26_1, hw⟩ := hw
    exact cl_aload_n hG (hx_dq tdX12_houseAt_0 9 rfl) rfl (cl_getS hG fmX12_47 (hx_dq tdX12_houseAt_0 10 rfl) (mF_S49 hF) (mF_R49_18 hF) (cl_iconst hG 4 (hx_dq tdX12_houseAt_0 11 rfl) iconst_4 (cl_iload_n hG (hx_dq tdX12_houseAt_0 12 rfl) rfl (cl_imul hG (hx_dq tdX12_houseAt_0 13 rfl) (cl_iload_n hG (hx_dq tdX12_houseAt_0 14 rfl) rfl (cl_iadd hG (hx_dq tdX12_houseAt_0 15 rfl) (cl_iald hG (hx_dq tdX12_houseAt_0 16 rfl) (mF_S61 hF) i26_1 (cl_iret hG (hx_dq tdX12_houseAt_0 17 rfl) rfl rfl (hK _ hw) (Nat.le_refl _) (Nat.le_refl _)))))))))
  · replace hw := hw.2 c5
    obtain ⟨i13_2, hw⟩ := hw
    exact cl_aload_n hG (hx_dq tdX12_houseAt_0 4 rfl) rfl (cl_getS hG fmX12_29 (hx_dq tdX12_houseAt_0 5 rfl) (mF_S49 hF) (mF_R49_12 hF) (cl_iload_n hG (hx_dq tdX12_houseAt_0 6 rfl) rfl (cl_iald hG (hx_dq tdX12_houseAt_0 7 rfl) (mF_S55 hF) i13_2 (cl_goto hG 27 (hx_dq tdX12_houseAt_0 8 rfl) rfl (cl_iret hG (hx_dq tdX12_houseAt_0 17 rfl) rfl rfl (hK _ hw) (Nat.le_refl _) (Nat.le_refl _))))))
def sX12_houseAt : hx_ST := fun Λ μ as KK => mF Λ ∧ ∃ (v1 : Int32) (v2 : Int32) (K : Int32 → Prop), as = [.ref 49, .int v1, .int v2] ∧ wX12_houseAt μ v1 v2 K ∧ (∀ (r : Int32), K r → KK (some (.int r)) Λ μ)
theorem sX12_houseAt_mk {Λ : hx_L} {μ : hx_M} {KK : hx_KT} {v1 : Int32} {v2 : Int32} {K : Int32 → Prop} (hF : mF Λ) (hw : wX12_houseAt μ v1 v2 K) (hk : ∀ (r : Int32), K r → KK (some (.int r)) Λ μ) : sX12_houseAt Λ μ [.ref 49, .int v1, .int v2] KK := ⟨hF, _, _, _, rfl, hw, hk⟩
theorem conX12_houseAt : hx_Con yX12_houseAt cX12_houseAt 3 (some .int) 1 0 0 sX12_houseAt := by
  refine hx_con_of (by decide +kernel) tokX12 (by decide) ?_ ?_
  · intro Λ μ as KK h
    obtain ⟨hF, v1, v2, K, rfl, hw, hK⟩ := h
    exact Nat.le_of_ble_eq_true rfl
  · intro G KK hG cA Λ μ as h
    obtain ⟨hF, v1, v2, K, rfl, hw, hK⟩ := h
    exact cl_sub hG (hx_le_c rfl (hx_le_c rfl (hx_le_c rfl hx_le_0))) (kX12_houseAt hG cA hF _ _ hK hw)
/-! HemLineModel.moneyAt(I)I -/
def tbX12_moneyAt_0 : List (Nat × Instr × Nat) := [(0, .iload_n 1, 1), (1, .aload_n 0, 1), (2, .getfield 161, 3), (5, .if_icmp .ne 10, 3), (8, .aload_n 0, 1), (9, .getfield 164, 3), (12, .goto 9, 3), (15, .aload_n 0, 1), (16, .getfield 50, 3), (19, .iload_n 1, 1), (20, .iaload, 1), (21, .ireturn, 1)]
theorem tdX12_moneyAt_0 : hx_dt cX12_moneyAt tbX12_moneyAt_0 = true := by decide +kernel
def wX12_moneyAt (μ : hx_M) (v1 : Int32) (K : Int32 → Prop) : Prop := (v1 ≠ (μ.1 49 1) → (vp_in v1 301 ∧ K (μ.1 62 v1.toNatClampNeg))) ∧ (v1 = (μ.1 49 1) → (K (μ.1 49 2)))
set_option maxRecDepth 100000 in
set_option maxHeartbeats 4000000 in
theorem kX12_moneyAt {G : hx_GT} {KK : hx_KT} (hG : hx_K cX12_moneyAt 2 0 0 (some .int) TbX12 KK G) (cA : hx_CA RX12 cX12_moneyAt 1 0 0 G) {Λ : hx_L} (hF : mF Λ) {μ : hx_M} (v1 : Int32) {K : Int32 → Prop} (hK : ∀ (r : Int32), K r → KK (some (.int r)) Λ μ) (hw : wX12_moneyAt μ v1 K) : G Λ μ (0, 0) 0 [some (.ref 49), some (.int v1)] [] := by
  unfold wX12_moneyAt at hw
  refine cl_iload_n hG (hx_dq tdX12_moneyAt_0 0 rfl) rfl (cl_aload_n hG (hx_dq tdX12_moneyAt_0 1 rfl) rfl (cl_getI hG fmX12_161 (hx_dq tdX12_moneyAt_0 2 rfl) (mF_S49 hF) (cl_icmp_ne hG 15 (hx_dq tdX12_moneyAt_0 3 rfl) rfl (fun c5 => ?_) (fun c5 => ?_))))
  · replace hw := hw.1 c5
    obtain ⟨i20_1, hw⟩ := hw
    exact cl_aload_n hG (hx_dq tdX12_moneyAt_0 7 rfl) rfl (cl_getS hG fmX12_50 (hx_dq tdX12_moneyAt_0 8 rfl) (mF_S49 hF) (mF_R49_19 hF) (cl_iload_n hG (hx_dq tdX12_moneyAt_0 9 rfl) rfl (cl_iald hG (hx_dq tdX12_moneyAt_0 10 rfl) (mF_S62 hF) i20_1 (cl_iret hG (hx_dq tdX12_moneyAt_0 11 rfl) rfl rfl (hK _ hw) (Nat.le_refl _) (Nat.le_refl _)))))
  · replace hw := hw.2 c5
    exact cl_aload_n hG (hx_dq tdX12_moneyAt_0 4 rfl) rfl (cl_getI hG fmX12_164 (hx_dq tdX12_moneyAt_0 5 rfl) (mF_S49 hF) (cl_goto hG 21 (hx_dq tdX12_moneyAt_0 6 rfl) rfl (cl_iret hG (hx_dq tdX12_moneyAt_0 11 rfl) rfl rfl (hK _ hw) (Nat.le_refl _) (Nat.le_refl _))))
def sX12_moneyAt : hx_ST := fun Λ μ as KK => mF Λ ∧ ∃ (v1 : Int32) (K : Int32 → Prop), as = [.ref 49, .int v1] ∧ wX12_moneyAt μ v1 K ∧ (∀ (r : Int32), K r → KK (some (.int r)) Λ μ)
theorem sX12_moneyAt_mk {Λ : hx_L} {μ : hx_M} {KK : hx_KT} {v1 : Int32} {K : Int32 → Prop} (hF : mF Λ) (hw : wX12_moneyAt μ v1 K) (hk : ∀ (r : Int32), K r → KK (some (.int r)) Λ μ) : sX12_moneyAt Λ μ [.ref 49, .int v1] KK := ⟨hF, _, _, rfl, hw, hk⟩
theorem conX12_moneyAt : hx_Con yX12_moneyAt cX12_moneyAt 2 (some .int) 1 0 0 sX12_moneyAt := by
  refine hx_con_of (by decide +kernel) tokX12 (by decide) ?_ ?_
  · intro Λ μ as KK h
    obtain ⟨hF, v1, K, rfl, hw, hK⟩ := h
    exact Nat.le_of_ble_eq_true rfl
  · intro G KK hG cA Λ μ as h
    obtain ⟨hF, v1, K, rfl, hw, hK⟩ := h
    exact cl_sub hG (hx_le_c rfl (hx_le_c rfl hx_le_0)) (kX12_moneyAt hG cA hF _ hK hw)
/-! HemLineModel.person(III)I -/
def tbX12_person_0 : List (Nat × Instr × Nat) := [(0, .iload_n 1, 1), (1, .iconst 0, 1), (2, .bipush 9, 2), (4, .invokestatic 157, 3), (7, .ifCond .eq 39, 3), (10, .iload_n 2, 1), (11, .iconst 0, 1), (12, .bipush 99, 2), (14, .invokestatic 157, 3), (17, .ifCond .eq 29, 3), (20, .iload_n 3, 1), (21, .iconst 0, 1), (22, .bipush 60, 2), (24, .invokestatic 157, 3), (27, .ifCond .eq 19, 3), (30, .aload_n 0, 1), (31, .getfield 154, 3), (34, .bipush 16, 2), (36, .if_icmp .eq 10, 3), (39, .aload_n 0, 1), (40, .getfield 161, 3), (43, .ifCond .le 5, 3), (46, .iconst (-1), 1), (47, .ireturn, 1), (48, .aload_n 0, 1), (49, .getfield 13, 3), (52, .aload_n 0, 1), (53, .getfield 154, 3), (56, .iload_n 1, 1), (57, .iastore, 1), (58, .aload_n 0, 1), (59, .getfield 17, 3)]
def tbX12_person_1 : List (Nat × Instr × Nat) := [(62, .aload_n 0, 1), (63, .getfield 154, 3), (66, .iload_n 2, 1), (67, .iastore, 1), (68, .aload_n 0, 1), (69, .getfield 35, 3), (72, .aload_n 0, 1), (73, .getfield 154, 3), (76, .iload_n 3, 1), (77, .iastore, 1), (78, .aload_n 0, 1), (79, .getfield 20, 3), (82, .aload_n 0, 1), (83, .getfield 154, 3), (86, .iconst 0, 1), (87, .iastore, 1), (88, .aload_n 0, 1), (89, .getfield 23, 3), (92, .aload_n 0, 1), (93, .getfield 154, 3), (96, .iconst 0, 1), (97, .iastore, 1), (98, .aload_n 0, 1), (99, .getfield 26, 3), (102, .aload_n 0, 1), (103, .getfield 154, 3), (106, .iconst 0, 1), (107, .iastore, 1), (108, .iconst 0, 1), (109, .istore 4, 2), (111, .iload 4, 2), (113, .bipush 6, 2)]
def tbX12_person_2 : List (Nat × Instr × Nat) := [(115, .if_icmp .ge 25, 3), (118, .aload_n 0, 1), (119, .getfield 32, 3), (122, .bipush 6, 2), (124, .aload_n 0, 1), (125, .getfield 154, 3), (128, .imul, 1), (129, .iload 4, 2), (131, .iadd, 1), (132, .iconst 0, 1), (133, .iastore, 1), (134, .iinc 4 1, 3), (137, .goto (-26), 3), (140, .aload_n 0, 1), (141, .dup, 1), (142, .getfield 154, 3), (145, .iconst 1, 1), (146, .iadd, 1), (147, .putfield 154, 3), (150, .aload_n 0, 1), (151, .getfield 154, 3), (154, .iconst 1, 1), (155, .isub, 1), (156, .ireturn, 1)]
theorem tdX12_person_0 : hx_dt cX12_person tbX12_person_0 = true := by decide +kernel
theorem tdX12_person_1 : hx_dt cX12_person tbX12_person_1 = true := by decide +kernel
theorem tdX12_person_2 : hx_dt cX12_person tbX12_person_2 = true := by decide +kernel
theorem caX12_person_157 {G : hx_GT} (cA : hx_CA RX12 cX12_person 2 0 0 G) : hx_CS cX12_person G 0 0 157 3 sX12_isIn 0 0 := cA.2.1 conX12_isIn ⟨by decide +kernel, by decide +kernel, by decide +kernel⟩ mw_1343 mw_1344 mw_97 mw_1345 (by decide) (by decide)
def wX12_person_L111  (K : Int32 → hx_M → Prop) (K140 : hx_M → Prop) : Nat → Int32 → hx_M → Prop
  | 0, _, _ => False
  | n + 1, v4, μ => (6 ≤ v4 → (K140 μ)) ∧ (¬ (6 ≤ v4) → (vp_in ((6 * (μ.1 49 0)) + v4) 96 ∧ wX12_person_L111 K K140 n (v4 + 1) (hx_sI μ 56 (((6 * (μ.1 49 0)) + v4).toNatClampNeg) 0)))
set_option maxRecDepth 100000 in
set_option maxHeartbeats 4000000 in
theorem kX12_person_L111 {G : hx_GT} {KK : hx_KT} (hG : hx_K cX12_person 5 0 0 (some .int) TbX12 KK G) (cA : hx_CA RX12 cX12_person 2 0 0 G) {Λ : hx_L} (hF : mF Λ)   {K : Int32 → hx_M → Prop} (hK : ∀ (r : Int32) (m : hx_M), K r m → KK (some (.int r)) Λ m) {K140 : hx_M → Prop} (hk140 : ∀ (μ : hx_M), K140 μ → G Λ μ (0, 0) 140 [some (.ref 49), none, none, none, none] []) : ∀ (n : Nat) (v4 : Int32) (μ : hx_M), wX12_person_L111 K K140 n v4 μ → G Λ μ (0, 0) 111 [some (.ref 49), none, none, none, some (.int v4)] [] := by
  intro n
  induction n with
  | zero =>
    intro v4 μ hw
    exact False.elim (by simpa only [wX12_person_L111] using hw)
  | succ n ih =>
    intro v4 μ hw
    unfold wX12_person_L111 at hw
    refine cl_iload hG (hx_dq tdX12_person_1 30 rfl) rfl (cl_bipush hG 6 (hx_dq tdX12_person_1 31 rfl) bipush_6 (cl_icmp_ge hG 140 (hx_dq tdX12_person_2 0 rfl) rfl (fun c115 => ?_) (fun c115 => ?_)))
    · replace hw := hw.1 c115
      exact cl_sub hG (hx_le_c rfl (hx_le_n (hx_le_n (hx_le_n (hx_le_n hx_le_0))))) (hk140 _ hw)
    · replace hw := hw.2 c115
      obtain ⟨i133_14, hw⟩ := hw
      exact cl_aload_n hG (hx_dq tdX12_person_2 1 rfl) rfl (cl_getS hG fmX12_32 (hx_dq tdX12_person_2 2 rfl) (mF_S49 hF) (mF_R49_13 hF) (cl_bipush hG 6 (hx_dq tdX12_person_2 3 rfl) bipush_6 (cl_aload_n hG (hx_dq tdX12_person_2 4 rfl) rfl (cl_getI hG fmX12_154 (hx_dq tdX12_person_2 5 rfl) (mF_S49 hF) (cl_imul hG (hx_dq tdX12_person_2 6 rfl) (cl_iload hG (hx_dq tdX12_person_2 7 rfl) rfl (cl_iadd hG (hx_dq tdX12_person_2 8 rfl) (cl_iconst hG 0 (hx_dq tdX12_person_2 9 rfl) iconst_0 (cl_iast hG (hx_dq tdX12_person_2 10 rfl) (mF_S56 hF) i133_14 (cl_iinc hG (v4 + 1) (hx_dq tdX12_person_2 11 rfl) rfl (congrArg (fun z => v4 + z) iconst_1) (Nat.le_of_ble_eq_true rfl) rfl (cl_goto hG 111 (hx_dq tdX12_person_2 12 rfl) rfl (cl_sub hG (hx_le_c rfl (hx_le_n (hx_le_n (hx_le_n (hx_le_c rfl hx_le_0))))) (ih (v4 + 1) _ hw)))))))))))))
def wX12_person (μ : hx_M) (v1 : Int32) (v2 : Int32) (v3 : Int32) (K : Int32 → hx_M → Prop) : Prop := wX12_isIn v1 0 9 (fun r4_2 => (r4_2 = 0 → (K (-1) μ)) ∧ (¬ (r4_2 = 0) → (wX12_isIn v2 0 99 (fun r14_4 => (r14_4 = 0 → (K (-1) μ)) ∧ (¬ (r14_4 = 0) → (wX12_isIn v3 0 60 (fun r24_6 => (r24_6 = 0 → (K (-1) μ)) ∧ (¬ (r24_6 = 0) → (((μ.1 49 0) = 16 → (K (-1) μ)) ∧ (¬ ((μ.1 49 0) = 16) → (((μ.1 49 1) ≤ 0 → (vp_in (μ.1 49 0) 16 ∧ vp_in (μ.1 49 0) 16 ∧ vp_in (μ.1 49 0) 4816 ∧ vp_in (μ.1 49 0) 16 ∧ ∀ m_11 : hx_M, m_11 = (hx_sI (hx_sI (hx_sI (hx_sI μ 50 ((μ.1 49 0).toNatClampNeg) v1) 51 ((μ.1 49 0).toNatClampNeg) v2) 57 ((μ.1 49 0).toNatClampNeg) v3) 52 ((μ.1 49 0).toNatClampNeg) 0) → vp_in (m_11.1 49 0) 16 ∧ vp_in (m_11.1 49 0) 16 ∧ ∃ n111_16, wX12_person_L111 K (fun m_15 => K (((m_15.1 49 0) + 1) - 1) (hx_sI m_15 49 0 ((m_15.1 49 0) + 1))) n111_16 0 (hx_sI (hx_sI m_11 53 ((m_11.1 49 0).toNatClampNeg) 0) 54 ((m_11.1 49 0).toNatClampNeg) 0))) ∧ (¬ ((μ.1 49 1) ≤ 0) → (K (-1) μ)))))))))))))
set_option maxRecDepth 100000 in
set_option maxHeartbeats 4000000 in
theorem kX12_person {G : hx_GT} {KK : hx_KT} (hG : hx_K cX12_person 5 0 0 (some .int) TbX12 KK G) (cA : hx_CA RX12 cX12_person 2 0 0 G) {Λ : hx_L} (hF : mF Λ) {μ : hx_M} (v1 : Int32) (v2 : Int32) (v3 : Int32) {K : Int32 → hx_M → Prop} (hK : ∀ (r : Int32) (m : hx_M), K r m → KK (some (.int r)) Λ m) (hw : wX12_person μ v1 v2 v3 K) : G Λ μ (0, 0) 0 [some (.ref 49), some (.int v1), some (.int v2), some (.int v3), none] [] := by
  unfold wX12_person at hw
  refine cl_iload_n hG (hx_dq tdX12_person_0 0 rfl) rfl (cl_iconst hG 0 (hx_dq tdX12_person_0 1 rfl) iconst_0 (cl_bipush hG 9 (hx_dq tdX12_person_0 2 rfl) bipush_9 (cl_callS3 (caX12_person_157 cA) (hx_dq tdX12_person_0 3 rfl) (Nat.le_of_ble_eq_true rfl) (Nat.le_refl _) (Nat.le_refl _) (sX12_isIn_mk hw (fun r4_2 hw => ?_)))))
  refine cl_if_eq hG 46 (hx_dq tdX12_person_0 4 rfl) rfl (fun c7 => ?_) (fun c7 => ?_)
  · replace hw := hw.1 c7
    exact cl_iconst hG (-1) (hx_dq tdX12_person_0 22 rfl) iconst_m1 (cl_iret hG (hx_dq tdX12_person_0 23 rfl) rfl rfl (hK _ _ hw) (Nat.le_refl _) (Nat.le_refl _))
  · replace hw := hw.2 c7
    refine cl_iload_n hG (hx_dq tdX12_person_0 5 rfl) rfl (cl_iconst hG 0 (hx_dq tdX12_person_0 6 rfl) iconst_0 (cl_bipush hG 99 (hx_dq tdX12_person_0 7 rfl) bipush_99 (cl_callS3 (caX12_person_157 cA) (hx_dq tdX12_person_0 8 rfl) (Nat.le_of_ble_eq_true rfl) (Nat.le_refl _) (Nat.le_refl _) (sX12_isIn_mk hw (fun r14_4 hw => ?_)))))
    refine cl_if_eq hG 46 (hx_dq tdX12_person_0 9 rfl) rfl (fun c17 => ?_) (fun c17 => ?_)
    · replace hw := hw.1 c17
      exact cl_iconst hG (-1) (hx_dq tdX12_person_0 22 rfl) iconst_m1 (cl_iret hG (hx_dq tdX12_person_0 23 rfl) rfl rfl (hK _ _ hw) (Nat.le_refl _) (Nat.le_refl _))
    · replace hw := hw.2 c17
      refine cl_iload_n hG (hx_dq tdX12_person_0 10 rfl) rfl (cl_iconst hG 0 (hx_dq tdX12_person_0 11 rfl) iconst_0 (cl_bipush hG 60 (hx_dq tdX12_person_0 12 rfl) bipush_60 (cl_callS3 (caX12_person_157 cA) (hx_dq tdX12_person_0 13 rfl) (Nat.le_of_ble_eq_true rfl) (Nat.le_refl _) (Nat.le_refl _) (sX12_isIn_mk hw (fun r24_6 hw => ?_)))))
      refine cl_if_eq hG 46 (hx_dq tdX12_person_0 14 rfl) rfl (fun c27 => ?_) (fun c27 => ?_)
      · replace hw := hw.1 c27
        exact cl_iconst hG (-1) (hx_dq tdX12_person_0 22 rfl) iconst_m1 (cl_iret hG (hx_dq tdX12_person_0 23 rfl) rfl rfl (hK _ _ hw) (Nat.le_refl _) (Nat.le_refl _))
      · replace hw := hw.2 c27
        refine cl_aload_n hG (hx_dq tdX12_person_0 15 rfl) rfl (cl_getI hG fmX12_154 (hx_dq tdX12_person_0 16 rfl) (mF_S49 hF) (cl_bipush hG 16 (hx_dq tdX12_person_0 17 rfl) bipush_16 (cl_icmp_eq hG 46 (hx_dq tdX12_person_0 18 rfl) rfl (fun c36 => ?_) (fun c36 => ?_))))
        · replace hw := hw.1 c36
          exact cl_iconst hG (-1) (hx_dq tdX12_person_0 22 rfl) iconst_m1 (cl_iret hG (hx_dq tdX12_person_0 23 rfl) rfl rfl (hK _ _ hw) (Nat.le_refl _) (Nat.le_refl _))
        · replace hw := hw.2 c36
          refine cl_aload_n hG (hx_dq tdX12_person_0 19 rfl) rfl (cl_getI hG fmX12_161 (hx_dq tdX12_person_0 20 rfl) (mF_S49 hF) (cl_if_le hG 48 (hx_dq tdX12_person_0 21 rfl) rfl (fun c43 => ?_) (fun c43 => ?_)))
          · replace hw := hw.1 c43
            obtain ⟨i57_7, hw⟩ := hw
            obtain ⟨i67_8, hw⟩ := hw
            obtain ⟨i77_9, hw⟩ := hw
            obtain ⟨i87_10, hw⟩ := hw
            refine cl_aload_n hG (hx_dq tdX12_person_0 24 rfl) rfl (cl_getS hG fmX12_13 (hx_dq tdX12_person_0 25 rfl) (mF_S49 hF) (mF_R49_7 hF) (cl_aload_n hG (hx_dq tdX12_person_0 26 rfl) rfl (cl_getI hG fmX12_154 (hx_dq tdX12_person_0 27 rfl) (mF_S49 hF) (cl_iload_n hG (hx_dq tdX12_person_0 28 rfl) rfl (cl_iast hG (hx_dq tdX12_person_0 29 rfl) (mF_S50 hF) i57_7 (cl_aload_n hG (hx_dq tdX12_person_0 30 rfl) rfl (cl_getS hG fmX12_17 (hx_dq tdX12_person_0 31 rfl) (mF_S49 hF) (mF_R49_8 hF) (cl_aload_n hG (hx_dq tdX12_person_1 0 rfl) rfl (cl_getI hG fmX12_154 (hx_dq tdX12_person_1 1 rfl) (mF_S49 hF) (cl_iload_n hG (hx_dq tdX12_person_1 2 rfl) rfl (cl_iast hG (hx_dq tdX12_person_1 3 rfl) (mF_S51 hF) i67_8 (cl_aload_n hG (hx_dq tdX12_person_1 4 rfl) rfl (cl_getS hG fmX12_35 (hx_dq tdX12_person_1 5 rfl) (mF_S49 hF) (mF_R49_14 hF) (cl_aload_n hG (hx_dq tdX12_person_1 6 rfl) rfl (cl_getI hG fmX12_154 (hx_dq tdX12_person_1 7 rfl) (mF_S49 hF) (cl_iload_n hG (hx_dq tdX12_person_1 8 rfl) rfl (cl_iast hG (hx_dq tdX12_person_1 9 rfl) (mF_S57 hF) i77_9 (cl_aload_n hG (hx_dq tdX12_person_1 10 rfl) rfl (cl_getS hG fmX12_20 (hx_dq tdX12_person_1 11 rfl) (mF_S49 hF) (mF_R49_9 hF) (cl_aload_n hG (hx_dq tdX12_person_1 12 rfl) rfl (cl_getI hG fmX12_154 (hx_dq tdX12_person_1 13 rfl) (mF_S49 hF) (cl_iconst hG 0 (hx_dq tdX12_person_1 14 rfl) iconst_0 (cl_iast hG (hx_dq tdX12_person_1 15 rfl) (mF_S52 hF) i87_10 (cl_nmM (fun m_11 e_11 => ?_)))))))))))))))))))))))))
            replace hw := hw m_11 e_11
            obtain ⟨i97_12, hw⟩ := hw
            obtain ⟨i107_13, hw⟩ := hw
            refine cl_aload_n hG (hx_dq tdX12_person_1 16 rfl) rfl (cl_getS hG fmX12_23 (hx_dq tdX12_person_1 17 rfl) (mF_S49 hF) (mF_R49_10 hF) (cl_aload_n hG (hx_dq tdX12_person_1 18 rfl) rfl (cl_getI hG fmX12_154 (hx_dq tdX12_person_1 19 rfl) (mF_S49 hF) (cl_iconst hG 0 (hx_dq tdX12_person_1 20 rfl) iconst_0 (cl_iast hG (hx_dq tdX12_person_1 21 rfl) (mF_S53 hF) i97_12 (cl_aload_n hG (hx_dq tdX12_person_1 22 rfl) rfl (cl_getS hG fmX12_26 (hx_dq tdX12_person_1 23 rfl) (mF_S49 hF) (mF_R49_11 hF) (cl_aload_n hG (hx_dq tdX12_person_1 24 rfl) rfl (cl_getI hG fmX12_154 (hx_dq tdX12_person_1 25 rfl) (mF_S49 hF) (cl_iconst hG 0 (hx_dq tdX12_person_1 26 rfl) iconst_0 (cl_iast hG (hx_dq tdX12_person_1 27 rfl) (mF_S54 hF) i107_13 (cl_iconst hG 0 (hx_dq tdX12_person_1 28 rfl) iconst_0 (cl_istore hG (hx_dq tdX12_person_1 29 rfl) (Nat.le_of_ble_eq_true rfl) rfl ?_)))))))))))))
            obtain ⟨n_, hw⟩ := hw
            refine cl_sub hG (hx_le_c rfl (hx_le_n (hx_le_n (hx_le_n (hx_le_c rfl hx_le_0))))) (kX12_person_L111 hG cA hF hK (fun m_15 hw => ?_) n_ 0 _ hw)
            · exact cl_aload_n hG (hx_dq tdX12_person_2 13 rfl) rfl (cl_dup hG (hx_dq tdX12_person_2 14 rfl) rfl (cl_getI hG fmX12_154 (hx_dq tdX12_person_2 15 rfl) (mF_S49 hF) (cl_iconst hG 1 (hx_dq tdX12_person_2 16 rfl) iconst_1 (cl_iadd hG (hx_dq tdX12_person_2 17 rfl) (cl_putI hG fmX12_154 (hx_dq tdX12_person_2 18 rfl) (mF_S49 hF) (cl_aload_n hG (hx_dq tdX12_person_2 19 rfl) rfl (cl_getI hG fmX12_154 (hx_dq tdX12_person_2 20 rfl) (mF_S49 hF) (cl_iconst hG 1 (hx_dq tdX12_person_2 21 rfl) iconst_1 (cl_isub hG (hx_dq tdX12_person_2 22 rfl) (cl_iret hG (hx_dq tdX12_person_2 23 rfl) rfl rfl (hK _ _ hw) (Nat.le_refl _) (Nat.le_refl _)))))))))))
          · replace hw := hw.2 c43
            exact cl_iconst hG (-1) (hx_dq tdX12_person_0 22 rfl) iconst_m1 (cl_iret hG (hx_dq tdX12_person_0 23 rfl) rfl rfl (hK _ _ hw) (Nat.le_refl _) (Nat.le_refl _))
def sX12_person : hx_ST := fun Λ μ as KK => mF Λ ∧ ∃ (v1 : Int32) (v2 : Int32) (v3 : Int32) (K : Int32 → hx_M → Prop), as = [.ref 49, .int v1, .int v2, .int v3] ∧ wX12_person μ v1 v2 v3 K ∧ (∀ (r : Int32) (m : hx_M), K r m → KK (some (.int r)) Λ m)
theorem sX12_person_mk {Λ : hx_L} {μ : hx_M} {KK : hx_KT} {v1 : Int32} {v2 : Int32} {v3 : Int32} {K : Int32 → hx_M → Prop} (hF : mF Λ) (hw : wX12_person μ v1 v2 v3 K) (hk : ∀ (r : Int32) (m : hx_M), K r m → KK (some (.int r)) Λ m) : sX12_person Λ μ [.ref 49, .int v1, .int v2, .int v3] KK := ⟨hF, _, _, _, _, rfl, hw, hk⟩
theorem conX12_person : hx_Con yX12_person cX12_person 5 (some .int) 2 0 0 sX12_person := by
  refine hx_con_of (by decide +kernel) tokX12 (by decide) ?_ ?_
  · intro Λ μ as KK h
    obtain ⟨hF, v1, v2, v3, K, rfl, hw, hK⟩ := h
    exact Nat.le_of_ble_eq_true rfl
  · intro G KK hG cA Λ μ as h
    obtain ⟨hF, v1, v2, v3, K, rfl, hw, hK⟩ := h
    exact cl_sub hG (hx_le_c rfl (hx_le_c rfl (hx_le_c rfl (hx_le_c rfl (hx_le_n hx_le_0))))) (kX12_person hG cA hF _ _ _ hK hw)
/-! HemLineModel.sees(IIZ)Z -/
def tbX12_sees_0 : List (Nat × Instr × Nat) := [(0, .aload_n 0, 1), (1, .iload_n 1, 1), (2, .invokevirtual 167, 3), (5, .ifCond .eq 16, 3), (8, .aload_n 0, 1), (9, .iload_n 2, 1), (10, .invokevirtual 167, 3), (13, .ifCond .eq 8, 3), (16, .iload_n 1, 1), (17, .iload_n 2, 1), (18, .if_icmp .ne 5, 3), (21, .iconst 0, 1), (22, .ireturn, 1), (23, .aload_n 0, 1), (24, .getfield 26, 3), (27, .iload_n 1, 1), (28, .iload_n 3, 1), (29, .ifCond .eq 16, 3), (32, .aload_n 0, 1), (33, .getfield 26, 3), (36, .iload_n 1, 1), (37, .iaload, 1), (38, .iconst 1, 1), (39, .iload_n 2, 1), (40, .ishl, 1), (41, .ior, 1), (42, .goto 15, 3), (45, .aload_n 0, 1), (46, .getfield 26, 3), (49, .iload_n 1, 1), (50, .iaload, 1), (51, .iconst 1, 1)]
def tbX12_sees_1 : List (Nat × Instr × Nat) := [(52, .iload_n 2, 1), (53, .ishl, 1), (54, .iconst (-1), 1), (55, .ixor, 1), (56, .iand, 1), (57, .iastore, 1), (58, .iconst 1, 1), (59, .ireturn, 1)]
theorem tdX12_sees_0 : hx_dt cX12_sees tbX12_sees_0 = true := by decide +kernel
theorem tdX12_sees_1 : hx_dt cX12_sees tbX12_sees_1 = true := by decide +kernel
theorem caX12_sees_167 {G : hx_GT} (cA : hx_CA RX12 cX12_sees 3 0 0 G) : hx_CV cX12_sees G 0 0 167 12 1 sX12_isPerson 0 0 := cA.1 conX12_isPerson rfl rfl ⟨by decide +kernel, by decide +kernel, by decide +kernel⟩ mw_1350 mw_1352 mw_37 mw_97 mw_1353 (by decide) (by decide)
def wX12_sees (μ : hx_M) (v1 : Int32) (v2 : Int32) (v3 : Int32) (K : Int32 → hx_M → Prop) : Prop := wX12_isPerson μ v1 (fun r2_2 => (r2_2 = 0 → (K 0 μ)) ∧ (¬ (r2_2 = 0) → (wX12_isPerson μ v2 (fun r10_4 => (r10_4 = 0 → (K 0 μ)) ∧ (¬ (r10_4 = 0) → ((v1 ≠ v2 → ((v3 = 0 → (vp_in v1 16 ∧ ∀ x_6 : Int32, x_6 = ((μ.1 54 v1.toNatClampNeg) &&& ((1 <<< (v2 &&& 31)) ^^^ (-1))) → vp_in v1 16 ∧ K 1 (hx_sI μ 54 v1.toNatClampNeg x_6))) ∧ (¬ (v3 = 0) → (vp_in v1 16 ∧ ∀ x_9 : Int32, x_9 = ((μ.1 54 v1.toNatClampNeg) ||| (1 <<< (v2 &&& 31))) → vp_in v1 16 ∧ K 1 (hx_sI μ 54 v1.toNatClampNeg x_9))))) ∧ (v1 = v2 → (K 0 μ))))))))
set_option maxRecDepth 100000 in
set_option maxHeartbeats 4000000 in
theorem kX12_sees {G : hx_GT} {KK : hx_KT} (hG : hx_K cX12_sees 4 0 0 (some .boolean) TbX12 KK G) (cA : hx_CA RX12 cX12_sees 3 0 0 G) {Λ : hx_L} (hF : mF Λ) {μ : hx_M} (v1 : Int32) (v2 : Int32) (v3 : Int32) {K : Int32 → hx_M → Prop} (hK : ∀ (r : Int32) (m : hx_M), K r m → KK (some (.int r)) Λ m) (hw : wX12_sees μ v1 v2 v3 K) : G Λ μ (0, 0) 0 [some (.ref 49), some (.int v1), some (.int v2), some (.int v3)] [] := by
  unfold wX12_sees at hw
  refine cl_aload_n hG (hx_dq tdX12_sees_0 0 rfl) rfl (cl_iload_n hG (hx_dq tdX12_sees_0 1 rfl) rfl (cl_callV1 (caX12_sees_167 cA) (hx_dq tdX12_sees_0 2 rfl) (mF_S49 hF) (Nat.le_of_ble_eq_true rfl) (Nat.le_refl _) (Nat.le_refl _) (sX12_isPerson_mk hF hw (fun r2_2 hw => ?_))))
  refine cl_if_eq hG 21 (hx_dq tdX12_sees_0 3 rfl) rfl (fun c5 => ?_) (fun c5 => ?_)
  · replace hw := hw.1 c5
    exact cl_iconst hG 0 (hx_dq tdX12_sees_0 11 rfl) iconst_0 (cl_iret hG (hx_dq tdX12_sees_0 12 rfl) rfl rfl (hK _ _ hw) (Nat.le_refl _) (Nat.le_refl _))
  · replace hw := hw.2 c5
    refine cl_aload_n hG (hx_dq tdX12_sees_0 4 rfl) rfl (cl_iload_n hG (hx_dq tdX12_sees_0 5 rfl) rfl (cl_callV1 (caX12_sees_167 cA) (hx_dq tdX12_sees_0 6 rfl) (mF_S49 hF) (Nat.le_of_ble_eq_true rfl) (Nat.le_refl _) (Nat.le_refl _) (sX12_isPerson_mk hF hw (fun r10_4 hw => ?_))))
    refine cl_if_eq hG 21 (hx_dq tdX12_sees_0 7 rfl) rfl (fun c13 => ?_) (fun c13 => ?_)
    · replace hw := hw.1 c13
      exact cl_iconst hG 0 (hx_dq tdX12_sees_0 11 rfl) iconst_0 (cl_iret hG (hx_dq tdX12_sees_0 12 rfl) rfl rfl (hK _ _ hw) (Nat.le_refl _) (Nat.le_refl _))
    · replace hw := hw.2 c13
      refine cl_iload_n hG (hx_dq tdX12_sees_0 8 rfl) rfl (cl_iload_n hG (hx_dq tdX12_sees_0 9 rfl) rfl (cl_icmp_ne hG 23 (hx_dq tdX12_sees_0 10 rfl) rfl (fun c18 => ?_) (fun c18 => ?_)))
      · replace hw := hw.1 c18
        refine cl_aload_n hG (hx_dq tdX12_sees_0 13 rfl) rfl (cl_getS hG fmX12_26 (hx_dq tdX12_sees_0 14 rfl) (mF_S49 hF) (mF_R49_11 hF) (cl_iload_n hG (hx_dq tdX12_sees_0 15 rfl) rfl (cl_iload_n hG (hx_dq tdX12_sees_0 16 rfl) rfl (cl_if_eq hG 45 (hx_dq tdX12_sees_0 17 rfl) rfl (fun c29 => ?_) (fun c29 => ?_)))))
        · replace hw := hw.1 c29
          obtain ⟨i50_5, hw⟩ := hw
          refine cl_aload_n hG (hx_dq tdX12_sees_0 27 rfl) rfl (cl_getS hG fmX12_26 (hx_dq tdX12_sees_0 28 rfl) (mF_S49 hF) (mF_R49_11 hF) (cl_iload_n hG (hx_dq tdX12_sees_0 29 rfl) rfl (cl_iald hG (hx_dq tdX12_sees_0 30 rfl) (mF_S54 hF) i50_5 (cl_iconst hG 1 (hx_dq tdX12_sees_0 31 rfl) iconst_1 (cl_iload_n hG (hx_dq tdX12_sees_1 0 rfl) rfl (cl_ishl hG (hx_dq tdX12_sees_1 1 rfl) (cl_iconst hG (-1) (hx_dq tdX12_sees_1 2 rfl) iconst_m1 (cl_ixor hG (hx_dq tdX12_sees_1 3 rfl) (cl_iand hG (hx_dq tdX12_sees_1 4 rfl) (cl_nmI (fun x_6 e_6 => ?_)))))))))))
          replace hw := hw x_6 e_6
          obtain ⟨i57_7, hw⟩ := hw
          exact cl_iast hG (hx_dq tdX12_sees_1 5 rfl) (mF_S54 hF) i57_7 (cl_iconst hG 1 (hx_dq tdX12_sees_1 6 rfl) iconst_1 (cl_iret hG (hx_dq tdX12_sees_1 7 rfl) rfl rfl (hK _ _ hw) (Nat.le_refl _) (Nat.le_refl _)))
        · replace hw := hw.2 c29
          obtain ⟨i37_8, hw⟩ := hw
          refine cl_aload_n hG (hx_dq tdX12_sees_0 18 rfl) rfl (cl_getS hG fmX12_26 (hx_dq tdX12_sees_0 19 rfl) (mF_S49 hF) (mF_R49_11 hF) (cl_iload_n hG (hx_dq tdX12_sees_0 20 rfl) rfl (cl_iald hG (hx_dq tdX12_sees_0 21 rfl) (mF_S54 hF) i37_8 (cl_iconst hG 1 (hx_dq tdX12_sees_0 22 rfl) iconst_1 (cl_iload_n hG (hx_dq tdX12_sees_0 23 rfl) rfl (cl_ishl hG (hx_dq tdX12_sees_0 24 rfl) (cl_ior hG (hx_dq tdX12_sees_0 25 rfl) (cl_nmI (fun x_9 e_9 => ?_)))))))))
          replace hw := hw x_9 e_9
          obtain ⟨i57_10, hw⟩ := hw
          exact cl_goto hG 57 (hx_dq tdX12_sees_0 26 rfl) rfl (cl_iast hG (hx_dq tdX12_sees_1 5 rfl) (mF_S54 hF) i57_10 (cl_iconst hG 1 (hx_dq tdX12_sees_1 6 rfl) iconst_1 (cl_iret hG (hx_dq tdX12_sees_1 7 rfl) rfl rfl (hK _ _ hw) (Nat.le_refl _) (Nat.le_refl _))))
      · replace hw := hw.2 c18
        exact cl_iconst hG 0 (hx_dq tdX12_sees_0 11 rfl) iconst_0 (cl_iret hG (hx_dq tdX12_sees_0 12 rfl) rfl rfl (hK _ _ hw) (Nat.le_refl _) (Nat.le_refl _))
def sX12_sees : hx_ST := fun Λ μ as KK => mF Λ ∧ ∃ (v1 : Int32) (v2 : Int32) (v3 : Int32) (K : Int32 → hx_M → Prop), as = [.ref 49, .int v1, .int v2, .int v3] ∧ wX12_sees μ v1 v2 v3 K ∧ (∀ (r : Int32) (m : hx_M), K r m → KK (some (.int r)) Λ m)
theorem sX12_sees_mk {Λ : hx_L} {μ : hx_M} {KK : hx_KT} {v1 : Int32} {v2 : Int32} {v3 : Int32} {K : Int32 → hx_M → Prop} (hF : mF Λ) (hw : wX12_sees μ v1 v2 v3 K) (hk : ∀ (r : Int32) (m : hx_M), K r m → KK (some (.int r)) Λ m) : sX12_sees Λ μ [.ref 49, .int v1, .int v2, .int v3] KK := ⟨hF, _, _, _, _, rfl, hw, hk⟩
theorem conX12_sees : hx_Con yX12_sees cX12_sees 4 (some .boolean) 3 0 0 sX12_sees := by
  refine hx_con_of (by decide +kernel) tokX12 (by decide) ?_ ?_
  · intro Λ μ as KK h
    obtain ⟨hF, v1, v2, v3, K, rfl, hw, hK⟩ := h
    exact Nat.le_of_ble_eq_true rfl
  · intro G KK hG cA Λ μ as h
    obtain ⟨hF, v1, v2, v3, K, rfl, hw, hK⟩ := h
    exact cl_sub hG (hx_le_c rfl (hx_le_c rfl (hx_le_c rfl (hx_le_c rfl hx_le_0)))) (kX12_sees hG cA hF _ _ _ hK hw)
/-! HemLineModel.shows(II)Z -/
def tbX12_shows_0 : List (Nat × Instr × Nat) := [(0, .iload_n 1, 1), (1, .iconst 0, 1), (2, .iconst 3, 1), (3, .invokestatic 157, 3), (6, .ifCond .eq 13, 3), (9, .iload_n 2, 1), (10, .iconst (-1), 1), (11, .bipush 60, 2), (13, .invokestatic 157, 3), (16, .ifCond .ne 5, 3), (19, .iconst 0, 1), (20, .ireturn, 1), (21, .aload_n 0, 1), (22, .getfield 29, 3), (25, .iload_n 1, 1), (26, .iload_n 2, 1), (27, .iastore, 1), (28, .iconst 1, 1), (29, .ireturn, 1)]
theorem tdX12_shows_0 : hx_dt cX12_shows tbX12_shows_0 = true := by decide +kernel
theorem caX12_shows_157 {G : hx_GT} (cA : hx_CA RX12 cX12_shows 2 0 0 G) : hx_CS cX12_shows G 0 0 157 3 sX12_isIn 0 0 := cA.2.1 conX12_isIn ⟨by decide +kernel, by decide +kernel, by decide +kernel⟩ mw_1343 mw_1344 mw_97 mw_1345 (by decide) (by decide)
def wX12_shows (μ : hx_M) (v1 : Int32) (v2 : Int32) (K : Int32 → hx_M → Prop) : Prop := wX12_isIn v1 0 3 (fun r3_2 => (r3_2 = 0 → (K 0 μ)) ∧ (¬ (r3_2 = 0) → (wX12_isIn v2 (-1) 60 (fun r13_4 => (r13_4 ≠ 0 → (vp_in v1 4 ∧ K 1 (hx_sI μ 55 v1.toNatClampNeg v2))) ∧ (r13_4 = 0 → (K 0 μ))))))
set_option maxRecDepth 100000 in
set_option maxHeartbeats 4000000 in
theorem kX12_shows {G : hx_GT} {KK : hx_KT} (hG : hx_K cX12_shows 3 0 0 (some .boolean) TbX12 KK G) (cA : hx_CA RX12 cX12_shows 2 0 0 G) {Λ : hx_L} (hF : mF Λ) {μ : hx_M} (v1 : Int32) (v2 : Int32) {K : Int32 → hx_M → Prop} (hK : ∀ (r : Int32) (m : hx_M), K r m → KK (some (.int r)) Λ m) (hw : wX12_shows μ v1 v2 K) : G Λ μ (0, 0) 0 [some (.ref 49), some (.int v1), some (.int v2)] [] := by
  unfold wX12_shows at hw
  refine cl_iload_n hG (hx_dq tdX12_shows_0 0 rfl) rfl (cl_iconst hG 0 (hx_dq tdX12_shows_0 1 rfl) iconst_0 (cl_iconst hG 3 (hx_dq tdX12_shows_0 2 rfl) iconst_3 (cl_callS3 (caX12_shows_157 cA) (hx_dq tdX12_shows_0 3 rfl) (Nat.le_of_ble_eq_true rfl) (Nat.le_refl _) (Nat.le_refl _) (sX12_isIn_mk hw (fun r3_2 hw => ?_)))))
  refine cl_if_eq hG 19 (hx_dq tdX12_shows_0 4 rfl) rfl (fun c6 => ?_) (fun c6 => ?_)
  · replace hw := hw.1 c6
    exact cl_iconst hG 0 (hx_dq tdX12_shows_0 10 rfl) iconst_0 (cl_iret hG (hx_dq tdX12_shows_0 11 rfl) rfl rfl (hK _ _ hw) (Nat.le_refl _) (Nat.le_refl _))
  · replace hw := hw.2 c6
    refine cl_iload_n hG (hx_dq tdX12_shows_0 5 rfl) rfl (cl_iconst hG (-1) (hx_dq tdX12_shows_0 6 rfl) iconst_m1 (cl_bipush hG 60 (hx_dq tdX12_shows_0 7 rfl) bipush_60 (cl_callS3 (caX12_shows_157 cA) (hx_dq tdX12_shows_0 8 rfl) (Nat.le_of_ble_eq_true rfl) (Nat.le_refl _) (Nat.le_refl _) (sX12_isIn_mk hw (fun r13_4 hw => ?_)))))
    refine cl_if_ne hG 21 (hx_dq tdX12_shows_0 9 rfl) rfl (fun c16 => ?_) (fun c16 => ?_)
    · replace hw := hw.1 c16
      obtain ⟨i27_5, hw⟩ := hw
      exact cl_aload_n hG (hx_dq tdX12_shows_0 12 rfl) rfl (cl_getS hG fmX12_29 (hx_dq tdX12_shows_0 13 rfl) (mF_S49 hF) (mF_R49_12 hF) (cl_iload_n hG (hx_dq tdX12_shows_0 14 rfl) rfl (cl_iload_n hG (hx_dq tdX12_shows_0 15 rfl) rfl (cl_iast hG (hx_dq tdX12_shows_0 16 rfl) (mF_S55 hF) i27_5 (cl_iconst hG 1 (hx_dq tdX12_shows_0 17 rfl) iconst_1 (cl_iret hG (hx_dq tdX12_shows_0 18 rfl) rfl rfl (hK _ _ hw) (Nat.le_refl _) (Nat.le_refl _)))))))
    · replace hw := hw.2 c16
      exact cl_iconst hG 0 (hx_dq tdX12_shows_0 10 rfl) iconst_0 (cl_iret hG (hx_dq tdX12_shows_0 11 rfl) rfl rfl (hK _ _ hw) (Nat.le_refl _) (Nat.le_refl _))
def sX12_shows : hx_ST := fun Λ μ as KK => mF Λ ∧ ∃ (v1 : Int32) (v2 : Int32) (K : Int32 → hx_M → Prop), as = [.ref 49, .int v1, .int v2] ∧ wX12_shows μ v1 v2 K ∧ (∀ (r : Int32) (m : hx_M), K r m → KK (some (.int r)) Λ m)
theorem sX12_shows_mk {Λ : hx_L} {μ : hx_M} {KK : hx_KT} {v1 : Int32} {v2 : Int32} {K : Int32 → hx_M → Prop} (hF : mF Λ) (hw : wX12_shows μ v1 v2 K) (hk : ∀ (r : Int32) (m : hx_M), K r m → KK (some (.int r)) Λ m) : sX12_shows Λ μ [.ref 49, .int v1, .int v2] KK := ⟨hF, _, _, _, rfl, hw, hk⟩
theorem conX12_shows : hx_Con yX12_shows cX12_shows 3 (some .boolean) 2 0 0 sX12_shows := by
  refine hx_con_of (by decide +kernel) tokX12 (by decide) ?_ ?_
  · intro Λ μ as KK h
    obtain ⟨hF, v1, v2, K, rfl, hw, hK⟩ := h
    exact Nat.le_of_ble_eq_true rfl
  · intro G KK hG cA Λ μ as h
    obtain ⟨hF, v1, v2, K, rfl, hw, hK⟩ := h
    exact cl_sub hG (hx_le_c rfl (hx_le_c rfl (hx_le_c rfl hx_le_0))) (kX12_shows hG cA hF _ _ hK hw)
/-! HemLineModel.money(I)Z -/
def tbX12_money_0 : List (Nat × Instr × Nat) := [(0, .iload_n 1, 1), (1, .iconst 0, 1), (2, .bipush 99, 2), (4, .invokestatic 157, 3), (7, .ifCond .ne 5, 3), (10, .iconst 0, 1), (11, .ireturn, 1), (12, .aload_n 0, 1), (13, .iload_n 1, 1), (14, .putfield 164, 3), (17, .iconst 1, 1), (18, .ireturn, 1)]
theorem tdX12_money_0 : hx_dt cX12_money tbX12_money_0 = true := by decide +kernel
theorem caX12_money_157 {G : hx_GT} (cA : hx_CA RX12 cX12_money 2 0 0 G) : hx_CS cX12_money G 0 0 157 3 sX12_isIn 0 0 := cA.2.1 conX12_isIn ⟨by decide +kernel, by decide +kernel, by decide +kernel⟩ mw_1343 mw_1344 mw_97 mw_1345 (by decide) (by decide)
def wX12_money (μ : hx_M) (v1 : Int32) (K : Int32 → hx_M → Prop) : Prop := wX12_isIn v1 0 99 (fun r4_2 => (r4_2 ≠ 0 → (K 1 (hx_sI μ 49 2 v1))) ∧ (r4_2 = 0 → (K 0 μ)))
set_option maxRecDepth 100000 in
set_option maxHeartbeats 4000000 in
theorem kX12_money {G : hx_GT} {KK : hx_KT} (hG : hx_K cX12_money 2 0 0 (some .boolean) TbX12 KK G) (cA : hx_CA RX12 cX12_money 2 0 0 G) {Λ : hx_L} (hF : mF Λ) {μ : hx_M} (v1 : Int32) {K : Int32 → hx_M → Prop} (hK : ∀ (r : Int32) (m : hx_M), K r m → KK (some (.int r)) Λ m) (hw : wX12_money μ v1 K) : G Λ μ (0, 0) 0 [some (.ref 49), some (.int v1)] [] := by
  unfold wX12_money at hw
  refine cl_iload_n hG (hx_dq tdX12_money_0 0 rfl) rfl (cl_iconst hG 0 (hx_dq tdX12_money_0 1 rfl) iconst_0 (cl_bipush hG 99 (hx_dq tdX12_money_0 2 rfl) bipush_99 (cl_callS3 (caX12_money_157 cA) (hx_dq tdX12_money_0 3 rfl) (Nat.le_of_ble_eq_true rfl) (Nat.le_refl _) (Nat.le_refl _) (sX12_isIn_mk hw (fun r4_2 hw => ?_)))))
  refine cl_if_ne hG 12 (hx_dq tdX12_money_0 4 rfl) rfl (fun c7 => ?_) (fun c7 => ?_)
  · replace hw := hw.1 c7
    exact cl_aload_n hG (hx_dq tdX12_money_0 7 rfl) rfl (cl_iload_n hG (hx_dq tdX12_money_0 8 rfl) rfl (cl_putI hG fmX12_164 (hx_dq tdX12_money_0 9 rfl) (mF_S49 hF) (cl_iconst hG 1 (hx_dq tdX12_money_0 10 rfl) iconst_1 (cl_iret hG (hx_dq tdX12_money_0 11 rfl) rfl rfl (hK _ _ hw) (Nat.le_refl _) (Nat.le_refl _)))))
  · replace hw := hw.2 c7
    exact cl_iconst hG 0 (hx_dq tdX12_money_0 5 rfl) iconst_0 (cl_iret hG (hx_dq tdX12_money_0 6 rfl) rfl rfl (hK _ _ hw) (Nat.le_refl _) (Nat.le_refl _))
def sX12_money : hx_ST := fun Λ μ as KK => mF Λ ∧ ∃ (v1 : Int32) (K : Int32 → hx_M → Prop), as = [.ref 49, .int v1] ∧ wX12_money μ v1 K ∧ (∀ (r : Int32) (m : hx_M), K r m → KK (some (.int r)) Λ m)
theorem sX12_money_mk {Λ : hx_L} {μ : hx_M} {KK : hx_KT} {v1 : Int32} {K : Int32 → hx_M → Prop} (hF : mF Λ) (hw : wX12_money μ v1 K) (hk : ∀ (r : Int32) (m : hx_M), K r m → KK (some (.int r)) Λ m) : sX12_money Λ μ [.ref 49, .int v1] KK := ⟨hF, _, _, rfl, hw, hk⟩
theorem conX12_money : hx_Con yX12_money cX12_money 2 (some .boolean) 2 0 0 sX12_money := by
  refine hx_con_of (by decide +kernel) tokX12 (by decide) ?_ ?_
  · intro Λ μ as KK h
    obtain ⟨hF, v1, K, rfl, hw, hK⟩ := h
    exact Nat.le_of_ble_eq_true rfl
  · intro G KK hG cA Λ μ as h
    obtain ⟨hF, v1, K, rfl, hw, hK⟩ := h
    exact cl_sub hG (hx_le_c rfl (hx_le_c rfl hx_le_0)) (kX12_money hG cA hF _ hK hw)
/-! HemLineModel.set(III)Z -/
def tbX12_set_0 : List (Nat × Instr × Nat) := [(0, .iload_n 1, 1), (1, .iconst 0, 1), (2, .sipush 999, 3), (5, .invokestatic 157, 3), (8, .ifCond .eq 23, 3), (11, .iload_n 2, 1), (12, .iconst 0, 1), (13, .bipush 9, 2), (15, .invokestatic 157, 3), (18, .ifCond .eq 13, 3), (21, .iload_n 3, 1), (22, .iconst 0, 1), (23, .bipush 99, 2), (25, .invokestatic 157, 3), (28, .ifCond .ne 5, 3), (31, .iconst 0, 1), (32, .ireturn, 1), (33, .aload_n 0, 1), (34, .iload_n 1, 1), (35, .putfield 171, 3), (38, .aload_n 0, 1), (39, .iload_n 2, 1), (40, .putfield 174, 3), (43, .aload_n 0, 1), (44, .iload_n 3, 1), (45, .putfield 177, 3), (48, .iconst 1, 1), (49, .ireturn, 1)]
theorem tdX12_set_0 : hx_dt cX12_set tbX12_set_0 = true := by decide +kernel
theorem caX12_set_157 {G : hx_GT} (cA : hx_CA RX12 cX12_set 2 0 0 G) : hx_CS cX12_set G 0 0 157 3 sX12_isIn 0 0 := cA.2.1 conX12_isIn ⟨by decide +kernel, by decide +kernel, by decide +kernel⟩ mw_1343 mw_1344 mw_97 mw_1345 (by decide) (by decide)
def wX12_set (μ : hx_M) (v1 : Int32) (v2 : Int32) (v3 : Int32) (K : Int32 → hx_M → Prop) : Prop := wX12_isIn v1 0 999 (fun r5_2 => (r5_2 = 0 → (K 0 μ)) ∧ (¬ (r5_2 = 0) → (wX12_isIn v2 0 9 (fun r15_4 => (r15_4 = 0 → (K 0 μ)) ∧ (¬ (r15_4 = 0) → (wX12_isIn v3 0 99 (fun r25_6 => (r25_6 ≠ 0 → (K 1 (hx_sI (hx_sI (hx_sI μ 49 3 v1) 49 4 v2) 49 5 v3))) ∧ (r25_6 = 0 → (K 0 μ)))))))))
set_option maxRecDepth 100000 in
set_option maxHeartbeats 4000000 in
theorem kX12_set {G : hx_GT} {KK : hx_KT} (hG : hx_K cX12_set 4 0 0 (some .boolean) TbX12 KK G) (cA : hx_CA RX12 cX12_set 2 0 0 G) {Λ : hx_L} (hF : mF Λ) {μ : hx_M} (v1 : Int32) (v2 : Int32) (v3 : Int32) {K : Int32 → hx_M → Prop} (hK : ∀ (r : Int32) (m : hx_M), K r m → KK (some (.int r)) Λ m) (hw : wX12_set μ v1 v2 v3 K) : G Λ μ (0, 0) 0 [some (.ref 49), some (.int v1), some (.int v2), some (.int v3)] [] := by
  unfold wX12_set at hw
  refine cl_iload_n hG (hx_dq tdX12_set_0 0 rfl) rfl (cl_iconst hG 0 (hx_dq tdX12_set_0 1 rfl) iconst_0 (cl_sipush hG 999 (hx_dq tdX12_set_0 2 rfl) sipush_999 (cl_callS3 (caX12_set_157 cA) (hx_dq tdX12_set_0 3 rfl) (Nat.le_of_ble_eq_true rfl) (Nat.le_refl _) (Nat.le_refl _) (sX12_isIn_mk hw (fun r5_2 hw => ?_)))))
  refine cl_if_eq hG 31 (hx_dq tdX12_set_0 4 rfl) rfl (fun c8 => ?_) (fun c8 => ?_)
  · replace hw := hw.1 c8
    exact cl_iconst hG 0 (hx_dq tdX12_set_0 15 rfl) iconst_0 (cl_iret hG (hx_dq tdX12_set_0 16 rfl) rfl rfl (hK _ _ hw) (Nat.le_refl _) (Nat.le_refl _))
  · replace hw := hw.2 c8
    refine cl_iload_n hG (hx_dq tdX12_set_0 5 rfl) rfl (cl_iconst hG 0 (hx_dq tdX12_set_0 6 rfl) iconst_0 (cl_bipush hG 9 (hx_dq tdX12_set_0 7 rfl) bipush_9 (cl_callS3 (caX12_set_157 cA) (hx_dq tdX12_set_0 8 rfl) (Nat.le_of_ble_eq_true rfl) (Nat.le_refl _) (Nat.le_refl _) (sX12_isIn_mk hw (fun r15_4 hw => ?_)))))
    refine cl_if_eq hG 31 (hx_dq tdX12_set_0 9 rfl) rfl (fun c18 => ?_) (fun c18 => ?_)
    · replace hw := hw.1 c18
      exact cl_iconst hG 0 (hx_dq tdX12_set_0 15 rfl) iconst_0 (cl_iret hG (hx_dq tdX12_set_0 16 rfl) rfl rfl (hK _ _ hw) (Nat.le_refl _) (Nat.le_refl _))
    · replace hw := hw.2 c18
      refine cl_iload_n hG (hx_dq tdX12_set_0 10 rfl) rfl (cl_iconst hG 0 (hx_dq tdX12_set_0 11 rfl) iconst_0 (cl_bipush hG 99 (hx_dq tdX12_set_0 12 rfl) bipush_99 (cl_callS3 (caX12_set_157 cA) (hx_dq tdX12_set_0 13 rfl) (Nat.le_of_ble_eq_true rfl) (Nat.le_refl _) (Nat.le_refl _) (sX12_isIn_mk hw (fun r25_6 hw => ?_)))))
      refine cl_if_ne hG 33 (hx_dq tdX12_set_0 14 rfl) rfl (fun c28 => ?_) (fun c28 => ?_)
      · replace hw := hw.1 c28
        exact cl_aload_n hG (hx_dq tdX12_set_0 17 rfl) rfl (cl_iload_n hG (hx_dq tdX12_set_0 18 rfl) rfl (cl_putI hG fmX12_171 (hx_dq tdX12_set_0 19 rfl) (mF_S49 hF) (cl_aload_n hG (hx_dq tdX12_set_0 20 rfl) rfl (cl_iload_n hG (hx_dq tdX12_set_0 21 rfl) rfl (cl_putI hG fmX12_174 (hx_dq tdX12_set_0 22 rfl) (mF_S49 hF) (cl_aload_n hG (hx_dq tdX12_set_0 23 rfl) rfl (cl_iload_n hG (hx_dq tdX12_set_0 24 rfl) rfl (cl_putI hG fmX12_177 (hx_dq tdX12_set_0 25 rfl) (mF_S49 hF) (cl_iconst hG 1 (hx_dq tdX12_set_0 26 rfl) iconst_1 (cl_iret hG (hx_dq tdX12_set_0 27 rfl) rfl rfl (hK _ _ hw) (Nat.le_refl _) (Nat.le_refl _)))))))))))
      · replace hw := hw.2 c28
        exact cl_iconst hG 0 (hx_dq tdX12_set_0 15 rfl) iconst_0 (cl_iret hG (hx_dq tdX12_set_0 16 rfl) rfl rfl (hK _ _ hw) (Nat.le_refl _) (Nat.le_refl _))
def sX12_set : hx_ST := fun Λ μ as KK => mF Λ ∧ ∃ (v1 : Int32) (v2 : Int32) (v3 : Int32) (K : Int32 → hx_M → Prop), as = [.ref 49, .int v1, .int v2, .int v3] ∧ wX12_set μ v1 v2 v3 K ∧ (∀ (r : Int32) (m : hx_M), K r m → KK (some (.int r)) Λ m)
theorem sX12_set_mk {Λ : hx_L} {μ : hx_M} {KK : hx_KT} {v1 : Int32} {v2 : Int32} {v3 : Int32} {K : Int32 → hx_M → Prop} (hF : mF Λ) (hw : wX12_set μ v1 v2 v3 K) (hk : ∀ (r : Int32) (m : hx_M), K r m → KK (some (.int r)) Λ m) : sX12_set Λ μ [.ref 49, .int v1, .int v2, .int v3] KK := ⟨hF, _, _, _, _, rfl, hw, hk⟩
theorem conX12_set : hx_Con yX12_set cX12_set 4 (some .boolean) 2 0 0 sX12_set := by
  refine hx_con_of (by decide +kernel) tokX12 (by decide) ?_ ?_
  · intro Λ μ as KK h
    obtain ⟨hF, v1, v2, v3, K, rfl, hw, hK⟩ := h
    exact Nat.le_of_ble_eq_true rfl
  · intro G KK hG cA Λ μ as h
    obtain ⟨hF, v1, v2, v3, K, rfl, hw, hK⟩ := h
    exact cl_sub hG (hx_le_c rfl (hx_le_c rfl (hx_le_c rfl (hx_le_c rfl hx_le_0)))) (kX12_set hG cA hF _ _ _ hK hw)
/-! HemLineModel.seed(I)Z -/
def tbX12_seed_0 : List (Nat × Instr × Nat) := [(0, .iload_n 1, 1), (1, .iconst 0, 1), (2, .ldc 180, 2), (4, .invokestatic 157, 3), (7, .ifCond .ne 5, 3), (10, .iconst 0, 1), (11, .ireturn, 1), (12, .aload_n 0, 1), (13, .iload_n 1, 1), (14, .i2l, 1), (15, .putfield 7, 3), (18, .iconst 1, 1), (19, .ireturn, 1)]
theorem tdX12_seed_0 : hx_dt cX12_seed tbX12_seed_0 = true := by decide +kernel
theorem caX12_seed_157 {G : hx_GT} (cA : hx_CA RX12 cX12_seed 2 0 0 G) : hx_CS cX12_seed G 0 0 157 3 sX12_isIn 0 0 := cA.2.1 conX12_isIn ⟨by decide +kernel, by decide +kernel, by decide +kernel⟩ mw_1343 mw_1344 mw_97 mw_1345 (by decide) (by decide)
def wX12_seed (μ : hx_M) (v1 : Int32) (K : Int32 → hx_M → Prop) : Prop := wX12_isIn v1 0 999999999 (fun r4_2 => (r4_2 ≠ 0 → (K 1 (hx_sL μ 49 6 ((v1 : Int32).toInt64)))) ∧ (r4_2 = 0 → (K 0 μ)))
set_option maxRecDepth 100000 in
set_option maxHeartbeats 4000000 in
theorem kX12_seed {G : hx_GT} {KK : hx_KT} (hG : hx_K cX12_seed 2 0 0 (some .boolean) TbX12 KK G) (cA : hx_CA RX12 cX12_seed 2 0 0 G) {Λ : hx_L} (hF : mF Λ) {μ : hx_M} (v1 : Int32) {K : Int32 → hx_M → Prop} (hK : ∀ (r : Int32) (m : hx_M), K r m → KK (some (.int r)) Λ m) (hw : wX12_seed μ v1 K) : G Λ μ (0, 0) 0 [some (.ref 49), some (.int v1)] [] := by
  unfold wX12_seed at hw
  refine cl_iload_n hG (hx_dq tdX12_seed_0 0 rfl) rfl (cl_iconst hG 0 (hx_dq tdX12_seed_0 1 rfl) iconst_0 (cl_ldc hG ciX12_180 (hx_dq tdX12_seed_0 2 rfl) (cl_callS3 (caX12_seed_157 cA) (hx_dq tdX12_seed_0 3 rfl) (Nat.le_of_ble_eq_true rfl) (Nat.le_refl _) (Nat.le_refl _) (sX12_isIn_mk hw (fun r4_2 hw => ?_)))))
  refine cl_if_ne hG 12 (hx_dq tdX12_seed_0 4 rfl) rfl (fun c7 => ?_) (fun c7 => ?_)
  · replace hw := hw.1 c7
    exact cl_aload_n hG (hx_dq tdX12_seed_0 7 rfl) rfl (cl_iload_n hG (hx_dq tdX12_seed_0 8 rfl) rfl (cl_i2l hG (hx_dq tdX12_seed_0 9 rfl) (cl_putL hG fmX12_7 (hx_dq tdX12_seed_0 10 rfl) (mF_S49 hF) (cl_iconst hG 1 (hx_dq tdX12_seed_0 11 rfl) iconst_1 (cl_iret hG (hx_dq tdX12_seed_0 12 rfl) rfl rfl (hK _ _ hw) (Nat.le_refl _) (Nat.le_refl _))))))
  · replace hw := hw.2 c7
    exact cl_iconst hG 0 (hx_dq tdX12_seed_0 5 rfl) iconst_0 (cl_iret hG (hx_dq tdX12_seed_0 6 rfl) rfl rfl (hK _ _ hw) (Nat.le_refl _) (Nat.le_refl _))
def sX12_seed : hx_ST := fun Λ μ as KK => mF Λ ∧ ∃ (v1 : Int32) (K : Int32 → hx_M → Prop), as = [.ref 49, .int v1] ∧ wX12_seed μ v1 K ∧ (∀ (r : Int32) (m : hx_M), K r m → KK (some (.int r)) Λ m)
theorem sX12_seed_mk {Λ : hx_L} {μ : hx_M} {KK : hx_KT} {v1 : Int32} {K : Int32 → hx_M → Prop} (hF : mF Λ) (hw : wX12_seed μ v1 K) (hk : ∀ (r : Int32) (m : hx_M), K r m → KK (some (.int r)) Λ m) : sX12_seed Λ μ [.ref 49, .int v1] KK := ⟨hF, _, _, rfl, hw, hk⟩
theorem conX12_seed : hx_Con yX12_seed cX12_seed 2 (some .boolean) 2 0 0 sX12_seed := by
  refine hx_con_of (by decide +kernel) tokX12 (by decide) ?_ ?_
  · intro Λ μ as KK h
    obtain ⟨hF, v1, K, rfl, hw, hK⟩ := h
    exact Nat.le_of_ble_eq_true rfl
  · intro G KK hG cA Λ μ as h
    obtain ⟨hF, v1, K, rfl, hw, hK⟩ := h
    exact cl_sub hG (hx_le_c rfl (hx_le_c rfl hx_le_0)) (kX12_seed hG cA hF _ hK hw)
/-! HemLineModel.four(I)V -/
def tbX12_four_0 : List (Nat × Instr × Nat) := [(0, .bipush 24, 2), (2, .istore_n 2, 1), (3, .iload_n 2, 1), (4, .ifCond .lt 32, 3), (7, .aload_n 0, 1), (8, .getfield 94, 3), (11, .aload_n 0, 1), (12, .getfield 181, 3), (15, .iload_n 1, 1), (16, .iload_n 2, 1), (17, .ishr, 1), (18, .i2b, 1), (19, .bastore, 1), (20, .aload_n 0, 1), (21, .dup, 1), (22, .getfield 181, 3), (25, .iconst 1, 1), (26, .iadd, 1), (27, .putfield 181, 3), (30, .iinc 2 (-8), 3), (33, .goto (-30), 3), (36, .return_, 1)]
theorem tdX12_four_0 : hx_dt cX12_four tbX12_four_0 = true := by decide +kernel
def wX12_four_L3 (v1 : Int32) (K : hx_M → Prop)  : Nat → Int32 → hx_M → Prop
  | 0, _, _ => False
  | n + 1, v2, μ => (v2 < 0 → (K μ)) ∧ (¬ (v2 < 0) → (vp_in (μ.1 49 23) 700 ∧ wX12_four_L3 v1 K n (v2 + (-8)) (hx_sI (hx_sI μ 74 ((μ.1 49 23).toNatClampNeg) (vp_nar .byte ((v1 >>> (v2 &&& 31) : Int32).toInt8.toInt32))) 49 23 ((μ.1 49 23) + 1))))
set_option maxRecDepth 100000 in
set_option maxHeartbeats 4000000 in
theorem kX12_four_L3 {G : hx_GT} {KK : hx_KT} (hG : hx_K cX12_four 3 0 0 (none) TbX12 KK G) (cA : hx_CA RX12 cX12_four 1 0 0 G) {Λ : hx_L} (hF : mF Λ)  (v1 : Int32) {K : hx_M → Prop} (hK : ∀ (m : hx_M), K m → KK none Λ m)  : ∀ (n : Nat) (v2 : Int32) (μ : hx_M), wX12_four_L3 v1 K n v2 μ → G Λ μ (0, 0) 3 [some (.ref 49), some (.int v1), some (.int v2)] [] := by
  intro n
  induction n with
  | zero =>
    intro v2 μ hw
    exact False.elim (by simpa only [wX12_four_L3] using hw)
  | succ n ih =>
    intro v2 μ hw
    unfold wX12_four_L3 at hw
    refine cl_iload_n hG (hx_dq tdX12_four_0 2 rfl) rfl (cl_if_lt hG 36 (hx_dq tdX12_four_0 3 rfl) rfl (fun c4 => ?_) (fun c4 => ?_))
    · replace hw := hw.1 c4
      exact cl_vret hG (hx_dq tdX12_four_0 21 rfl) rfl (hK _ hw) (Nat.le_refl _) (Nat.le_refl _)
    · replace hw := hw.2 c4
      obtain ⟨i19_1, hw⟩ := hw
      exact cl_aload_n hG (hx_dq tdX12_four_0 4 rfl) rfl (cl_getS hG fmX12_94 (hx_dq tdX12_four_0 5 rfl) (mF_S49 hF) (mF_R49_39 hF) (cl_aload_n hG (hx_dq tdX12_four_0 6 rfl) rfl (cl_getI hG fmX12_181 (hx_dq tdX12_four_0 7 rfl) (mF_S49 hF) (cl_iload_n hG (hx_dq tdX12_four_0 8 rfl) rfl (cl_iload_n hG (hx_dq tdX12_four_0 9 rfl) rfl (cl_ishr hG (hx_dq tdX12_four_0 10 rfl) (cl_i2b hG (hx_dq tdX12_four_0 11 rfl) (cl_bast hG (hx_dq tdX12_four_0 12 rfl) (mF_S74 hF) i19_1 (cl_aload_n hG (hx_dq tdX12_four_0 13 rfl) rfl (cl_dup hG (hx_dq tdX12_four_0 14 rfl) rfl (cl_getI hG fmX12_181 (hx_dq tdX12_four_0 15 rfl) (mF_S49 hF) (cl_iconst hG 1 (hx_dq tdX12_four_0 16 rfl) iconst_1 (cl_iadd hG (hx_dq tdX12_four_0 17 rfl) (cl_putI hG fmX12_181 (hx_dq tdX12_four_0 18 rfl) (mF_S49 hF) (cl_iinc hG (v2 + (-8)) (hx_dq tdX12_four_0 19 rfl) rfl (congrArg (fun z => v2 + z) iconst_m8) (Nat.le_of_ble_eq_true rfl) rfl (cl_goto hG 3 (hx_dq tdX12_four_0 20 rfl) rfl (cl_sub hG (hx_le_c rfl (hx_le_c rfl (hx_le_c rfl hx_le_0))) (ih (v2 + (-8)) _ hw))))))))))))))))))
def wX12_four (μ : hx_M) (v1 : Int32) (K : hx_M → Prop) : Prop := ∃ n3_2, wX12_four_L3 v1 K n3_2 24 μ
set_option maxRecDepth 100000 in
set_option maxHeartbeats 4000000 in
theorem kX12_four {G : hx_GT} {KK : hx_KT} (hG : hx_K cX12_four 3 0 0 (none) TbX12 KK G) (cA : hx_CA RX12 cX12_four 1 0 0 G) {Λ : hx_L} (hF : mF Λ) {μ : hx_M} (v1 : Int32) {K : hx_M → Prop} (hK : ∀ (m : hx_M), K m → KK none Λ m) (hw : wX12_four μ v1 K) : G Λ μ (0, 0) 0 [some (.ref 49), some (.int v1), none] [] := by
  unfold wX12_four at hw
  refine cl_bipush hG 24 (hx_dq tdX12_four_0 0 rfl) bipush_24 (cl_istore_n hG (hx_dq tdX12_four_0 1 rfl) (Nat.le_of_ble_eq_true rfl) rfl ?_)
  obtain ⟨n_, hw⟩ := hw
  refine cl_sub hG (hx_le_c rfl (hx_le_c rfl (hx_le_c rfl hx_le_0))) (kX12_four_L3 hG cA hF v1 hK n_ 24 _ hw)
def sX12_four : hx_ST := fun Λ μ as KK => mF Λ ∧ ∃ (v1 : Int32) (K : hx_M → Prop), as = [.ref 49, .int v1] ∧ wX12_four μ v1 K ∧ (∀ (m : hx_M), K m → KK none Λ m)
theorem sX12_four_mk {Λ : hx_L} {μ : hx_M} {KK : hx_KT} {v1 : Int32} {K : hx_M → Prop} (hF : mF Λ) (hw : wX12_four μ v1 K) (hk : ∀ (m : hx_M), K m → KK none Λ m) : sX12_four Λ μ [.ref 49, .int v1] KK := ⟨hF, _, _, rfl, hw, hk⟩
theorem conX12_four : hx_Con yX12_four cX12_four 3 (none) 1 0 0 sX12_four := by
  refine hx_con_of (by decide +kernel) tokX12 (by decide) ?_ ?_
  · intro Λ μ as KK h
    obtain ⟨hF, v1, K, rfl, hw, hK⟩ := h
    exact Nat.le_of_ble_eq_true rfl
  · intro G KK hG cA Λ μ as h
    obtain ⟨hF, v1, K, rfl, hw, hK⟩ := h
    exact cl_sub hG (hx_le_c rfl (hx_le_c rfl (hx_le_n hx_le_0))) (kX12_four hG cA hF _ hK hw)
/-! HemLineModel.feed(IIIII)I -/
def tbX12_feed_0 : List (Nat × Instr × Nat) := [(0, .aload_n 0, 1), (1, .getfield 181, 3), (4, .bipush 20, 2), (6, .iadd, 1), (7, .sipush 700, 3), (10, .if_icmp .le 5, 3), (13, .iconst (-1), 1), (14, .ireturn, 1), (15, .aload_n 0, 1), (16, .iload_n 1, 1), (17, .invokevirtual 184, 3), (20, .aload_n 0, 1), (21, .iload_n 2, 1), (22, .invokevirtual 184, 3), (25, .aload_n 0, 1), (26, .iload_n 3, 1), (27, .invokevirtual 184, 3), (30, .aload_n 0, 1), (31, .iload 4, 2), (33, .invokevirtual 184, 3), (36, .aload_n 0, 1), (37, .iload 5, 2), (39, .invokevirtual 184, 3), (42, .aload_n 0, 1), (43, .getfield 181, 3), (46, .ireturn, 1)]
theorem tdX12_feed_0 : hx_dt cX12_feed tbX12_feed_0 = true := by decide +kernel
theorem caX12_feed_184 {G : hx_GT} (cA : hx_CA RX12 cX12_feed 2 0 0 G) : hx_CV cX12_feed G 0 0 184 12 1 sX12_four 0 0 := cA.1 conX12_four rfl rfl ⟨by decide +kernel, by decide +kernel, by decide +kernel⟩ mw_1375 mw_1377 mw_38 mw_97 mw_1378 (by decide) (by decide)
def wX12_feed (μ : hx_M) (v1 : Int32) (v2 : Int32) (v3 : Int32) (v4 : Int32) (v5 : Int32) (K : Int32 → hx_M → Prop) : Prop := (((μ.1 49 23) + 20) ≤ 700 → (wX12_four μ v1 (fun m17_1 => wX12_four m17_1 v2 (fun m22_3 => wX12_four m22_3 v3 (fun m27_5 => wX12_four m27_5 v4 (fun m33_7 => wX12_four m33_7 v5 (fun m39_9 => K (m39_9.1 49 23) m39_9))))))) ∧ (¬ (((μ.1 49 23) + 20) ≤ 700) → (K (-1) μ))
set_option maxRecDepth 100000 in
set_option maxHeartbeats 4000000 in
theorem kX12_feed {G : hx_GT} {KK : hx_KT} (hG : hx_K cX12_feed 6 0 0 (some .int) TbX12 KK G) (cA : hx_CA RX12 cX12_feed 2 0 0 G) {Λ : hx_L} (hF : mF Λ) {μ : hx_M} (v1 : Int32) (v2 : Int32) (v3 : Int32) (v4 : Int32) (v5 : Int32) {K : Int32 → hx_M → Prop} (hK : ∀ (r : Int32) (m : hx_M), K r m → KK (some (.int r)) Λ m) (hw : wX12_feed μ v1 v2 v3 v4 v5 K) : G Λ μ (0, 0) 0 [some (.ref 49), some (.int v1), some (.int v2), some (.int v3), some (.int v4), some (.int v5)] [] := by
  unfold wX12_feed at hw
  refine cl_aload_n hG (hx_dq tdX12_feed_0 0 rfl) rfl (cl_getI hG fmX12_181 (hx_dq tdX12_feed_0 1 rfl) (mF_S49 hF) (cl_bipush hG 20 (hx_dq tdX12_feed_0 2 rfl) bipush_20 (cl_iadd hG (hx_dq tdX12_feed_0 3 rfl) (cl_sipush hG 700 (hx_dq tdX12_feed_0 4 rfl) sipush_700 (cl_icmp_le hG 15 (hx_dq tdX12_feed_0 5 rfl) rfl (fun c10 => ?_) (fun c10 => ?_))))))
  · replace hw := hw.1 c10
    refine cl_aload_n hG (hx_dq tdX12_feed_0 8 rfl) rfl (cl_iload_n hG (hx_dq tdX12_feed_0 9 rfl) rfl (cl_callV1 (caX12_feed_184 cA) (hx_dq tdX12_feed_0 10 rfl) (mF_S49 hF) (Nat.le_of_ble_eq_true rfl) (Nat.le_refl _) (Nat.le_refl _) (sX12_four_mk hF hw (fun m17_1 hw => ?_))))
    refine cl_aload_n hG (hx_dq tdX12_feed_0 11 rfl) rfl (cl_iload_n hG (hx_dq tdX12_feed_0 12 rfl) rfl (cl_callV1 (caX12_feed_184 cA) (hx_dq tdX12_feed_0 13 rfl) (mF_S49 hF) (Nat.le_of_ble_eq_true rfl) (Nat.le_refl _) (Nat.le_refl _) (sX12_four_mk hF hw (fun m22_3 hw => ?_))))
    refine cl_aload_n hG (hx_dq tdX12_feed_0 14 rfl) rfl (cl_iload_n hG (hx_dq tdX12_feed_0 15 rfl) rfl (cl_callV1 (caX12_feed_184 cA) (hx_dq tdX12_feed_0 16 rfl) (mF_S49 hF) (Nat.le_of_ble_eq_true rfl) (Nat.le_refl _) (Nat.le_refl _) (sX12_four_mk hF hw (fun m27_5 hw => ?_))))
    refine cl_aload_n hG (hx_dq tdX12_feed_0 17 rfl) rfl (cl_iload hG (hx_dq tdX12_feed_0 18 rfl) rfl (cl_callV1 (caX12_feed_184 cA) (hx_dq tdX12_feed_0 19 rfl) (mF_S49 hF) (Nat.le_of_ble_eq_true rfl) (Nat.le_refl _) (Nat.le_refl _) (sX12_four_mk hF hw (fun m33_7 hw => ?_))))
    refine cl_aload_n hG (hx_dq tdX12_feed_0 20 rfl) rfl (cl_iload hG (hx_dq tdX12_feed_0 21 rfl) rfl (cl_callV1 (caX12_feed_184 cA) (hx_dq tdX12_feed_0 22 rfl) (mF_S49 hF) (Nat.le_of_ble_eq_true rfl) (Nat.le_refl _) (Nat.le_refl _) (sX12_four_mk hF hw (fun m39_9 hw => ?_))))
    exact cl_aload_n hG (hx_dq tdX12_feed_0 23 rfl) rfl (cl_getI hG fmX12_181 (hx_dq tdX12_feed_0 24 rfl) (mF_S49 hF) (cl_iret hG (hx_dq tdX12_feed_0 25 rfl) rfl rfl (hK _ _ hw) (Nat.le_refl _) (Nat.le_refl _)))
  · replace hw := hw.2 c10
    exact cl_iconst hG (-1) (hx_dq tdX12_feed_0 6 rfl) iconst_m1 (cl_iret hG (hx_dq tdX12_feed_0 7 rfl) rfl rfl (hK _ _ hw) (Nat.le_refl _) (Nat.le_refl _))
def sX12_feed : hx_ST := fun Λ μ as KK => mF Λ ∧ ∃ (v1 : Int32) (v2 : Int32) (v3 : Int32) (v4 : Int32) (v5 : Int32) (K : Int32 → hx_M → Prop), as = [.ref 49, .int v1, .int v2, .int v3, .int v4, .int v5] ∧ wX12_feed μ v1 v2 v3 v4 v5 K ∧ (∀ (r : Int32) (m : hx_M), K r m → KK (some (.int r)) Λ m)
theorem sX12_feed_mk {Λ : hx_L} {μ : hx_M} {KK : hx_KT} {v1 : Int32} {v2 : Int32} {v3 : Int32} {v4 : Int32} {v5 : Int32} {K : Int32 → hx_M → Prop} (hF : mF Λ) (hw : wX12_feed μ v1 v2 v3 v4 v5 K) (hk : ∀ (r : Int32) (m : hx_M), K r m → KK (some (.int r)) Λ m) : sX12_feed Λ μ [.ref 49, .int v1, .int v2, .int v3, .int v4, .int v5] KK := ⟨hF, _, _, _, _, _, _, rfl, hw, hk⟩
theorem conX12_feed : hx_Con yX12_feed cX12_feed 6 (some .int) 2 0 0 sX12_feed := by
  refine hx_con_of (by decide +kernel) tokX12 (by decide) ?_ ?_
  · intro Λ μ as KK h
    obtain ⟨hF, v1, v2, v3, v4, v5, K, rfl, hw, hK⟩ := h
    exact Nat.le_of_ble_eq_true rfl
  · intro G KK hG cA Λ μ as h
    obtain ⟨hF, v1, v2, v3, v4, v5, K, rfl, hw, hK⟩ := h
    exact cl_sub hG (hx_le_c rfl (hx_le_c rfl (hx_le_c rfl (hx_le_c rfl (hx_le_c rfl (hx_le_c rfl hx_le_0)))))) (kX12_feed hG cA hF _ _ _ _ _ hK hw)
/-! HemLineModel.blanks()V -/
def tbX12_blanks_0 : List (Nat × Instr × Nat) := [(0, .aload_n 0, 1), (1, .getfield 188, 3), (4, .aload_n 0, 1), (5, .getfield 191, 3), (8, .if_icmp .ge 44, 3), (11, .aload_n 0, 1), (12, .getfield 98, 3), (15, .aload_n 0, 1), (16, .getfield 188, 3), (19, .baload, 1), (20, .bipush 32, 2), (22, .if_icmp .eq 17, 3), (25, .aload_n 0, 1), (26, .getfield 98, 3), (29, .aload_n 0, 1), (30, .getfield 188, 3), (33, .baload, 1), (34, .bipush 10, 2), (36, .if_icmp .ne 16, 3), (39, .aload_n 0, 1), (40, .dup, 1), (41, .getfield 188, 3), (44, .iconst 1, 1), (45, .iadd, 1), (46, .putfield 188, 3), (49, .goto (-49), 3), (52, .return_, 1)]
theorem tdX12_blanks_0 : hx_dt cX12_blanks tbX12_blanks_0 = true := by decide +kernel
def wX12_blanks_J39  (K : hx_M → Prop) (K0 : hx_M → Prop)   (μ : hx_M) : Prop := K0 (hx_sI μ 49 25 ((μ.1 49 25) + 1))
set_option maxRecDepth 100000 in
set_option maxHeartbeats 4000000 in
theorem kX12_blanks_J39 {G : hx_GT} {KK : hx_KT} (hG : hx_K cX12_blanks 1 0 0 (none) TbX12 KK G) (cA : hx_CA RX12 cX12_blanks 1 0 0 G) {Λ : hx_L} (hF : mF Λ) {μ : hx_M}   {K : hx_M → Prop} (hK : ∀ (m : hx_M), K m → KK none Λ m) {K0 : hx_M → Prop} (hk0 : ∀ (μ : hx_M), K0 μ → G Λ μ (0, 0) 0 [some (.ref 49)] []) (hw : wX12_blanks_J39 K K0 μ) : G Λ μ (0, 0) 39 [some (.ref 49)] [] := by
  unfold wX12_blanks_J39 at hw
  exact cl_aload_n hG (hx_dq tdX12_blanks_0 19 rfl) rfl (cl_dup hG (hx_dq tdX12_blanks_0 20 rfl) rfl (cl_getI hG fmX12_188 (hx_dq tdX12_blanks_0 21 rfl) (mF_S49 hF) (cl_iconst hG 1 (hx_dq tdX12_blanks_0 22 rfl) iconst_1 (cl_iadd hG (hx_dq tdX12_blanks_0 23 rfl) (cl_putI hG fmX12_188 (hx_dq tdX12_blanks_0 24 rfl) (mF_S49 hF) (cl_goto hG 0 (hx_dq tdX12_blanks_0 25 rfl) rfl (cl_sub hG (hx_le_c rfl hx_le_0) (hk0 _ hw))))))))
def wX12_blanks_L0  (K : hx_M → Prop)  : Nat → hx_M → Prop
  | 0, _ => False
  | n + 1, μ => ((μ.1 49 24) ≤ (μ.1 49 25) → (K μ)) ∧ (¬ ((μ.1 49 24) ≤ (μ.1 49 25)) → (vp_in (μ.1 49 25) 700 ∧ (((μ.1 75 ((μ.1 49 25).toNatClampNeg))) = 32 → (wX12_blanks_J39 K (wX12_blanks_L0 K n) μ)) ∧ (¬ (((μ.1 75 ((μ.1 49 25).toNatClampNeg))) = 32) → (vp_in (μ.1 49 25) 700 ∧ (((μ.1 75 ((μ.1 49 25).toNatClampNeg))) ≠ 10 → (K μ)) ∧ (((μ.1 75 ((μ.1 49 25).toNatClampNeg))) = 10 → (wX12_blanks_J39 K (wX12_blanks_L0 K n) μ))))))
set_option maxRecDepth 100000 in
set_option maxHeartbeats 4000000 in
theorem kX12_blanks_L0 {G : hx_GT} {KK : hx_KT} (hG : hx_K cX12_blanks 1 0 0 (none) TbX12 KK G) (cA : hx_CA RX12 cX12_blanks 1 0 0 G) {Λ : hx_L} (hF : mF Λ)   {K : hx_M → Prop} (hK : ∀ (m : hx_M), K m → KK none Λ m)  : ∀ (n : Nat) (μ : hx_M), wX12_blanks_L0 K n μ → G Λ μ (0, 0) 0 [some (.ref 49)] [] := by
  intro n
  induction n with
  | zero =>
    intro μ hw
    exact False.elim (by simpa only [wX12_blanks_L0] using hw)
  | succ n ih =>
    intro μ hw
    unfold wX12_blanks_L0 at hw
    refine cl_aload_n hG (hx_dq tdX12_blanks_0 0 rfl) rfl (cl_getI hG fmX12_188 (hx_dq tdX12_blanks_0 1 rfl) (mF_S49 hF) (cl_aload_n hG (hx_dq tdX12_blanks_0 2 rfl) rfl (cl_getI hG fmX12_191 (hx_dq tdX12_blanks_0 3 rfl) (mF_S49 hF) (cl_icmp_ge hG 52 (hx_dq tdX12_blanks_0 4 rfl) rfl (fun c8 => ?_) (fun c8 => ?_)))))
    · replace hw := hw.1 c8
      exact cl_vret hG (hx_dq tdX12_blanks_0 26 rfl) rfl (hK _ hw) (Nat.le_refl _) (Nat.le_refl _)
    · replace hw := hw.2 c8
      obtain ⟨i19_1, hw⟩ := hw
      refine cl_aload_n hG (hx_dq tdX12_blanks_0 5 rfl) rfl (cl_getS hG fmX12_98 (hx_dq tdX12_blanks_0 6 rfl) (mF_S49 hF) (mF_R49_40 hF) (cl_aload_n hG (hx_dq tdX12_blanks_0 7 rfl) rfl (cl_getI hG fmX12_188 (hx_dq tdX12_blanks_0 8 rfl) (mF_S49 hF) (cl_bald hG (hx_dq tdX12_blanks_0 9 rfl) (mF_S75 hF) i19_1 (cl_bipush hG 32 (hx_dq tdX12_blanks_0 10 rfl) bipush_32 (cl_icmp_eq hG 39 (hx_dq tdX12_blanks_0 11 rfl) rfl (fun c22 => ?_) (fun c22 => ?_)))))))
      · replace hw := hw.1 c22
        exact cl_sub hG (hx_le_c rfl hx_le_0) (kX12_blanks_J39 hG cA hF hK (fun z0 hw => ih z0 hw) hw)
      · replace hw := hw.2 c22
        obtain ⟨i33_2, hw⟩ := hw
        refine cl_aload_n hG (hx_dq tdX12_blanks_0 12 rfl) rfl (cl_getS hG fmX12_98 (hx_dq tdX12_blanks_0 13 rfl) (mF_S49 hF) (mF_R49_40 hF) (cl_aload_n hG (hx_dq tdX12_blanks_0 14 rfl) rfl (cl_getI hG fmX12_188 (hx_dq tdX12_blanks_0 15 rfl) (mF_S49 hF) (cl_bald hG (hx_dq tdX12_blanks_0 16 rfl) (mF_S75 hF) i33_2 (cl_bipush hG 10 (hx_dq tdX12_blanks_0 17 rfl) bipush_10 (cl_icmp_ne hG 52 (hx_dq tdX12_blanks_0 18 rfl) rfl (fun c36 => ?_) (fun c36 => ?_)))))))
        · replace hw := hw.1 c36
          exact cl_vret hG (hx_dq tdX12_blanks_0 26 rfl) rfl (hK _ hw) (Nat.le_refl _) (Nat.le_refl _)
        · replace hw := hw.2 c36
          exact cl_sub hG (hx_le_c rfl hx_le_0) (kX12_blanks_J39 hG cA hF hK (fun z0 hw => ih z0 hw) hw)
def wX12_blanks (μ : hx_M)  (K : hx_M → Prop) : Prop := ∃ n0_3, wX12_blanks_L0 K n0_3 μ
set_option maxRecDepth 100000 in
set_option maxHeartbeats 4000000 in
theorem kX12_blanks {G : hx_GT} {KK : hx_KT} (hG : hx_K cX12_blanks 1 0 0 (none) TbX12 KK G) (cA : hx_CA RX12 cX12_blanks 1 0 0 G) {Λ : hx_L} (hF : mF Λ) {μ : hx_M}  {K : hx_M → Prop} (hK : ∀ (m : hx_M), K m → KK none Λ m) (hw : wX12_blanks μ K) : G Λ μ (0, 0) 0 [some (.ref 49)] [] := by
  unfold wX12_blanks at hw
  obtain ⟨n_, hw⟩ := hw
  refine cl_sub hG (hx_le_c rfl hx_le_0) (kX12_blanks_L0 hG cA hF hK n_ _ hw)
def sX12_blanks : hx_ST := fun Λ μ as KK => mF Λ ∧ ∃ (K : hx_M → Prop), as = [.ref 49] ∧ wX12_blanks μ K ∧ (∀ (m : hx_M), K m → KK none Λ m)
theorem sX12_blanks_mk {Λ : hx_L} {μ : hx_M} {KK : hx_KT}  {K : hx_M → Prop} (hF : mF Λ) (hw : wX12_blanks μ K) (hk : ∀ (m : hx_M), K m → KK none Λ m) : sX12_blanks Λ μ [.ref 49] KK := ⟨hF, _, rfl, hw, hk⟩
theorem conX12_blanks : hx_Con yX12_blanks cX12_blanks 1 (none) 1 0 0 sX12_blanks := by
  refine hx_con_of (by decide +kernel) tokX12 (by decide) ?_ ?_
  · intro Λ μ as KK h
    obtain ⟨hF, K, rfl, hw, hK⟩ := h
    exact Nat.le_of_ble_eq_true rfl
  · intro G KK hG cA Λ μ as h
    obtain ⟨hF, K, rfl, hw, hK⟩ := h
    exact cl_sub hG (hx_le_c rfl hx_le_0) (kX12_blanks hG cA hF hK hw)
/-! HemLineModel.word()J -/
def tbX12_word_0 : List (Nat × Instr × Nat) := [(0, .aload_n 0, 1), (1, .invokevirtual 194, 3), (4, .aload_n 0, 1), (5, .aload_n 0, 1), (6, .getfield 188, 3), (9, .putfield 197, 3), (12, .lconst 0, 1), (13, .lstore_n 1, 1), (14, .aload_n 0, 1), (15, .getfield 197, 3), (18, .aload_n 0, 1), (19, .getfield 191, 3), (22, .if_icmp .ge 78, 3), (25, .aload_n 0, 1), (26, .getfield 98, 3), (29, .aload_n 0, 1), (30, .getfield 197, 3), (33, .baload, 1), (34, .bipush 97, 2), (36, .if_icmp .lt 64, 3), (39, .aload_n 0, 1), (40, .getfield 98, 3), (43, .aload_n 0, 1), (44, .getfield 197, 3), (47, .baload, 1), (48, .bipush 122, 2), (50, .if_icmp .gt 50, 3), (53, .aload_n 0, 1), (54, .getfield 197, 3), (57, .aload_n 0, 1), (58, .getfield 188, 3), (61, .isub, 1)]
def tbX12_word_1 : List (Nat × Instr × Nat) := [(62, .bipush 7, 2), (64, .if_icmp .ge 21, 3), (67, .lload_n 1, 1), (68, .bipush 8, 2), (70, .lshl, 1), (71, .aload_n 0, 1), (72, .getfield 98, 3), (75, .aload_n 0, 1), (76, .getfield 197, 3), (79, .baload, 1), (80, .i2l, 1), (81, .lor, 1), (82, .goto 4, 3), (85, .lconst 0, 1), (86, .lstore_n 1, 1), (87, .aload_n 0, 1), (88, .dup, 1), (89, .getfield 197, 3), (92, .iconst 1, 1), (93, .iadd, 1), (94, .putfield 197, 3), (97, .goto (-83), 3), (100, .aload_n 0, 1), (101, .getfield 197, 3), (104, .aload_n 0, 1), (105, .getfield 188, 3), (108, .isub, 1), (109, .bipush 7, 2), (111, .if_icmp .le 7, 3), (114, .lconst 0, 1), (115, .goto 4, 3), (118, .lload_n 1, 1)]
def tbX12_word_2 : List (Nat × Instr × Nat) := [(119, .lreturn, 1)]
theorem tdX12_word_0 : hx_dt cX12_word tbX12_word_0 = true := by decide +kernel
theorem tdX12_word_1 : hx_dt cX12_word tbX12_word_1 = true := by decide +kernel
theorem tdX12_word_2 : hx_dt cX12_word tbX12_word_2 = true := by decide +kernel
theorem caX12_word_194 {G : hx_GT} (cA : hx_CA RX12 cX12_word 2 0 0 G) : hx_CV cX12_word G 0 0 194 12 0 sX12_blanks 0 0 := cA.1 conX12_blanks rfl rfl ⟨by decide +kernel, by decide +kernel, by decide +kernel⟩ mw_1383 mw_1385 mw_39 mw_97 mw_1386 (by decide) (by decide)
def wX12_word_J86  (K : Int64 → hx_M → Prop) (K14 : Int64 → hx_M → Prop)  (t0 : Int64) (μ : hx_M) : Prop := K14 t0 (hx_sI μ 49 41 ((μ.1 49 41) + 1))
set_option maxRecDepth 100000 in
set_option maxHeartbeats 4000000 in
theorem kX12_word_J86 {G : hx_GT} {KK : hx_KT} (hG : hx_K cX12_word 3 0 0 (some .long) TbX12 KK G) (cA : hx_CA RX12 cX12_word 2 0 0 G) {Λ : hx_L} (hF : mF Λ) {μ : hx_M}  (t0 : Int64) {K : Int64 → hx_M → Prop} (hK : ∀ (r : Int64) (m : hx_M), K r m → KK (some (.long r)) Λ m) {K14 : Int64 → hx_M → Prop} (hk14 : ∀ (v1 : Int64) (μ : hx_M), K14 v1 μ → G Λ μ (0, 0) 14 [some (.ref 49), some (.long v1), none] []) (hw : wX12_word_J86 K K14 t0 μ) : G Λ μ (0, 0) 86 [some (.ref 49), none, none] [.long t0] := by
  unfold wX12_word_J86 at hw
  exact cl_lstore_n hG (hx_dq tdX12_word_1 14 rfl) (Nat.le_of_ble_eq_true rfl) rfl (cl_aload_n hG (hx_dq tdX12_word_1 15 rfl) rfl (cl_dup hG (hx_dq tdX12_word_1 16 rfl) rfl (cl_getI hG fmX12_197 (hx_dq tdX12_word_1 17 rfl) (mF_S49 hF) (cl_iconst hG 1 (hx_dq tdX12_word_1 18 rfl) iconst_1 (cl_iadd hG (hx_dq tdX12_word_1 19 rfl) (cl_putI hG fmX12_197 (hx_dq tdX12_word_1 20 rfl) (mF_S49 hF) (cl_goto hG 14 (hx_dq tdX12_word_1 21 rfl) rfl (cl_sub hG (hx_le_c rfl (hx_le_c rfl (hx_le_n hx_le_0))) (hk14 t0 _ hw)))))))))
def wX12_word_L14  (K : Int64 → hx_M → Prop) (K100 : Int64 → hx_M → Prop) : Nat → Int64 → hx_M → Prop
  | 0, _, _ => False
  | n + 1, v1, μ => ((μ.1 49 24) ≤ (μ.1 49 41) → (K100 v1 μ)) ∧ (¬ ((μ.1 49 24) ≤ (μ.1 49 41)) → (vp_in (μ.1 49 41) 700 ∧ (((μ.1 75 ((μ.1 49 41).toNatClampNeg))) < 97 → (K100 v1 μ)) ∧ (¬ (((μ.1 75 ((μ.1 49 41).toNatClampNeg))) < 97) → (vp_in (μ.1 49 41) 700 ∧ (122 < ((μ.1 75 ((μ.1 49 41).toNatClampNeg))) → (K100 v1 μ)) ∧ (¬ (122 < ((μ.1 75 ((μ.1 49 41).toNatClampNeg)))) → ((7 ≤ ((μ.1 49 41) - (μ.1 49 25)) → (wX12_word_J86 K (wX12_word_L14 K K100 n) 0 μ)) ∧ (¬ (7 ≤ ((μ.1 49 41) - (μ.1 49 25))) → (vp_in (μ.1 49 41) 700 ∧ ∀ x_6 : Int64, x_6 = (((μ.1 75 ((μ.1 49 41).toNatClampNeg)) : Int32).toInt64) → wX12_word_J86 K (wX12_word_L14 K K100 n) ((v1 <<< ((8 : Int32).toInt64 &&& 63)) ||| x_6) μ))))))))
set_option maxRecDepth 100000 in
set_option maxHeartbeats 4000000 in
theorem kX12_word_L14 {G : hx_GT} {KK : hx_KT} (hG : hx_K cX12_word 3 0 0 (some .long) TbX12 KK G) (cA : hx_CA RX12 cX12_word 2 0 0 G) {Λ : hx_L} (hF : mF Λ)   {K : Int64 → hx_M → Prop} (hK : ∀ (r : Int64) (m : hx_M), K r m → KK (some (.long r)) Λ m) {K100 : Int64 → hx_M → Prop} (hk100 : ∀ (v1 : Int64) (μ : hx_M), K100 v1 μ → G Λ μ (0, 0) 100 [some (.ref 49), some (.long v1), none] []) : ∀ (n : Nat) (v1 : Int64) (μ : hx_M), wX12_word_L14 K K100 n v1 μ → G Λ μ (0, 0) 14 [some (.ref 49), some (.long v1), none] [] := by
  intro n
  induction n with
  | zero =>
    intro v1 μ hw
    exact False.elim (by simpa only [wX12_word_L14] using hw)
  | succ n ih =>
    intro v1 μ hw
    unfold wX12_word_L14 at hw
    refine cl_aload_n hG (hx_dq tdX12_word_0 8 rfl) rfl (cl_getI hG fmX12_197 (hx_dq tdX12_word_0 9 rfl) (mF_S49 hF) (cl_aload_n hG (hx_dq tdX12_word_0 10 rfl) rfl (cl_getI hG fmX12_191 (hx_dq tdX12_word_0 11 rfl) (mF_S49 hF) (cl_icmp_ge hG 100 (hx_dq tdX12_word_0 12 rfl) rfl (fun c22 => ?_) (fun c22 => ?_)))))
    · replace hw := hw.1 c22
      exact cl_sub hG (hx_le_c rfl (hx_le_c rfl (hx_le_n hx_le_0))) (hk100 v1 _ hw)
    · replace hw := hw.2 c22
      obtain ⟨i33_3, hw⟩ := hw
      refine cl_aload_n hG (hx_dq tdX12_word_0 13 rfl) rfl (cl_getS hG fmX12_98 (hx_dq tdX12_word_0 14 rfl) (mF_S49 hF) (mF_R49_40 hF) (cl_aload_n hG (hx_dq tdX12_word_0 15 rfl) rfl (cl_getI hG fmX12_197 (hx_dq tdX12_word_0 16 rfl) (mF_S49 hF) (cl_bald hG (hx_dq tdX12_word_0 17 rfl) (mF_S75 hF) i33_3 (cl_bipush hG 97 (hx_dq tdX12_word_0 18 rfl) bipush_97 (cl_icmp_lt hG 100 (hx_dq tdX12_word_0 19 rfl) rfl (fun c36 => ?_) (fun c36 => ?_)))))))
      · replace hw := hw.1 c36
        exact cl_sub hG (hx_le_c rfl (hx_le_c rfl (hx_le_n hx_le_0))) (hk100 v1 _ hw)
      · replace hw := hw.2 c36
        obtain ⟨i47_4, hw⟩ := hw
        refine cl_aload_n hG (hx_dq tdX12_word_0 20 rfl) rfl (cl_getS hG fmX12_98 (hx_dq tdX12_word_0 21 rfl) (mF_S49 hF) (mF_R49_40 hF) (cl_aload_n hG (hx_dq tdX12_word_0 22 rfl) rfl (cl_getI hG fmX12_197 (hx_dq tdX12_word_0 23 rfl) (mF_S49 hF) (cl_bald hG (hx_dq tdX12_word_0 24 rfl) (mF_S75 hF) i47_4 (cl_bipush hG 122 (hx_dq tdX12_word_0 25 rfl) bipush_122 (cl_icmp_gt hG 100 (hx_dq tdX12_word_0 26 rfl) rfl (fun c50 => ?_) (fun c50 => ?_)))))))
        · replace hw := hw.1 c50
          exact cl_sub hG (hx_le_c rfl (hx_le_c rfl (hx_le_n hx_le_0))) (hk100 v1 _ hw)
        · replace hw := hw.2 c50
          refine cl_aload_n hG (hx_dq tdX12_word_0 27 rfl) rfl (cl_getI hG fmX12_197 (hx_dq tdX12_word_0 28 rfl) (mF_S49 hF) (cl_aload_n hG (hx_dq tdX12_word_0 29 rfl) rfl (cl_getI hG fmX12_188 (hx_dq tdX12_word_0 30 rfl) (mF_S49 hF) (cl_isub hG (hx_dq tdX12_word_0 31 rfl) (cl_bipush hG 7 (hx_dq tdX12_word_1 0 rfl) bipush_7 (cl_icmp_ge hG 85 (hx_dq tdX12_word_1 1 rfl) rfl (fun c64 => ?_) (fun c64 => ?_)))))))
          · replace hw := hw.1 c64
            refine cl_lconst hG 0 (hx_dq tdX12_word_1 13 rfl) lconst_0 ?_
            exact cl_sub hG (hx_le_c rfl (hx_le_n (hx_le_n hx_le_0))) (kX12_word_J86 hG cA hF 0 hK (fun z0 z1 hw => ih z0 z1 hw) hw)
          · replace hw := hw.2 c64
            obtain ⟨i79_5, hw⟩ := hw
            refine cl_lload_n hG (hx_dq tdX12_word_1 2 rfl) rfl (cl_bipush hG 8 (hx_dq tdX12_word_1 3 rfl) bipush_8 (cl_lshl hG (hx_dq tdX12_word_1 4 rfl) (cl_aload_n hG (hx_dq tdX12_word_1 5 rfl) rfl (cl_getS hG fmX12_98 (hx_dq tdX12_word_1 6 rfl) (mF_S49 hF) (mF_R49_40 hF) (cl_aload_n hG (hx_dq tdX12_word_1 7 rfl) rfl (cl_getI hG fmX12_197 (hx_dq tdX12_word_1 8 rfl) (mF_S49 hF) (cl_bald hG (hx_dq tdX12_word_1 9 rfl) (mF_S75 hF) i79_5 (cl_i2l hG (hx_dq tdX12_word_1 10 rfl) (cl_nmL (fun x_6 e_6 => ?_))))))))))
            replace hw := hw x_6 e_6
            refine cl_lor hG (hx_dq tdX12_word_1 11 rfl) (cl_goto hG 86 (hx_dq tdX12_word_1 12 rfl) rfl ?_)
            exact cl_sub hG (hx_le_c rfl (hx_le_n (hx_le_n hx_le_0))) (kX12_word_J86 hG cA hF ((v1 <<< ((8 : Int32).toInt64 &&& 63)) ||| x_6) hK (fun z0 z1 hw => ih z0 z1 hw) hw)
def wX12_word_J100  (K : Int64 → hx_M → Prop)  (v1 : Int64)  (μ : hx_M) : Prop := (((μ.1 49 41) - (μ.1 49 25)) ≤ 7 → (K v1 μ)) ∧ (¬ (((μ.1 49 41) - (μ.1 49 25)) ≤ 7) → (K 0 μ))
set_option maxRecDepth 100000 in
set_option maxHeartbeats 4000000 in
theorem kX12_word_J100 {G : hx_GT} {KK : hx_KT} (hG : hx_K cX12_word 3 0 0 (some .long) TbX12 KK G) (cA : hx_CA RX12 cX12_word 2 0 0 G) {Λ : hx_L} (hF : mF Λ) {μ : hx_M} (v1 : Int64)  {K : Int64 → hx_M → Prop} (hK : ∀ (r : Int64) (m : hx_M), K r m → KK (some (.long r)) Λ m)  (hw : wX12_word_J100 K v1 μ) : G Λ μ (0, 0) 100 [some (.ref 49), some (.long v1), none] [] := by
  unfold wX12_word_J100 at hw
  refine cl_aload_n hG (hx_dq tdX12_word_1 22 rfl) rfl (cl_getI hG fmX12_197 (hx_dq tdX12_word_1 23 rfl) (mF_S49 hF) (cl_aload_n hG (hx_dq tdX12_word_1 24 rfl) rfl (cl_getI hG fmX12_188 (hx_dq tdX12_word_1 25 rfl) (mF_S49 hF) (cl_isub hG (hx_dq tdX12_word_1 26 rfl) (cl_bipush hG 7 (hx_dq tdX12_word_1 27 rfl) bipush_7 (cl_icmp_le hG 118 (hx_dq tdX12_word_1 28 rfl) rfl (fun c111 => ?_) (fun c111 => ?_)))))))
  · replace hw := hw.1 c111
    exact cl_lload_n hG (hx_dq tdX12_word_1 31 rfl) rfl (cl_lret hG (hx_dq tdX12_word_2 0 rfl) rfl (hK _ _ hw) (Nat.le_refl _) (Nat.le_refl _))
  · replace hw := hw.2 c111
    exact cl_lconst hG 0 (hx_dq tdX12_word_1 29 rfl) lconst_0 (cl_goto hG 119 (hx_dq tdX12_word_1 30 rfl) rfl (cl_lret hG (hx_dq tdX12_word_2 0 rfl) rfl (hK _ _ hw) (Nat.le_refl _) (Nat.le_refl _)))
def wX12_word (μ : hx_M)  (K : Int64 → hx_M → Prop) : Prop := wX12_blanks μ (fun m1_1 => ∃ n14_8, wX12_word_L14 K (fun v1_7 m_7 => wX12_word_J100 K v1_7 m_7) n14_8 0 (hx_sI m1_1 49 41 (m1_1.1 49 25)))
set_option maxRecDepth 100000 in
set_option maxHeartbeats 4000000 in
theorem kX12_word {G : hx_GT} {KK : hx_KT} (hG : hx_K cX12_word 3 0 0 (some .long) TbX12 KK G) (cA : hx_CA RX12 cX12_word 2 0 0 G) {Λ : hx_L} (hF : mF Λ) {μ : hx_M}  {K : Int64 → hx_M → Prop} (hK : ∀ (r : Int64) (m : hx_M), K r m → KK (some (.long r)) Λ m) (hw : wX12_word μ K) : G Λ μ (0, 0) 0 [some (.ref 49), none, none] [] := by
  unfold wX12_word at hw
  refine cl_aload_n hG (hx_dq tdX12_word_0 0 rfl) rfl (cl_callV0 (caX12_word_194 cA) (hx_dq tdX12_word_0 1 rfl) (mF_S49 hF) (Nat.le_of_ble_eq_true rfl) (Nat.le_refl _) (Nat.le_refl _) (sX12_blanks_mk hF hw (fun m1_1 hw => ?_)))
  refine cl_aload_n hG (hx_dq tdX12_word_0 2 rfl) rfl (cl_aload_n hG (hx_dq tdX12_word_0 3 rfl) rfl (cl_getI hG fmX12_188 (hx_dq tdX12_word_0 4 rfl) (mF_S49 hF) (cl_putI hG fmX12_197 (hx_dq tdX12_word_0 5 rfl) (mF_S49 hF) (cl_lconst hG 0 (hx_dq tdX12_word_0 6 rfl) lconst_0 (cl_lstore_n hG (hx_dq tdX12_word_0 7 rfl) (Nat.le_of_ble_eq_true rfl) rfl ?_)))))
  obtain ⟨n_, hw⟩ := hw
  refine cl_sub hG (hx_le_c rfl (hx_le_c rfl (hx_le_n hx_le_0))) (kX12_word_L14 hG cA hF hK (fun v1_7 m_7 hw => ?_) n_ 0 _ hw)
  · exact cl_sub hG (hx_le_c rfl (hx_le_c rfl (hx_le_n hx_le_0))) (kX12_word_J100 hG cA hF v1_7 hK hw)
def sX12_word : hx_ST := fun Λ μ as KK => mF Λ ∧ ∃ (K : Int64 → hx_M → Prop), as = [.ref 49] ∧ wX12_word μ K ∧ (∀ (r : Int64) (m : hx_M), K r m → KK (some (.long r)) Λ m)
theorem sX12_word_mk {Λ : hx_L} {μ : hx_M} {KK : hx_KT}  {K : Int64 → hx_M → Prop} (hF : mF Λ) (hw : wX12_word μ K) (hk : ∀ (r : Int64) (m : hx_M), K r m → KK (some (.long r)) Λ m) : sX12_word Λ μ [.ref 49] KK := ⟨hF, _, rfl, hw, hk⟩
theorem conX12_word : hx_Con yX12_word cX12_word 3 (some .long) 2 0 0 sX12_word := by
  refine hx_con_of (by decide +kernel) tokX12 (by decide) ?_ ?_
  · intro Λ μ as KK h
    obtain ⟨hF, K, rfl, hw, hK⟩ := h
    exact Nat.le_of_ble_eq_true rfl
  · intro G KK hG cA Λ μ as h
    obtain ⟨hF, K, rfl, hw, hK⟩ := h
    exact cl_sub hG (hx_le_c rfl (hx_le_n (hx_le_n hx_le_0))) (kX12_word hG cA hF hK hw)
/-! HemLineModel.takes(J)Z -/
def tbX12_takes_0 : List (Nat × Instr × Nat) := [(0, .aload_n 0, 1), (1, .invokevirtual 200, 3), (4, .lload_n 1, 1), (5, .lcmp, 1), (6, .ifCond .eq 5, 3), (9, .iconst 0, 1), (10, .ireturn, 1), (11, .aload_n 0, 1), (12, .aload_n 0, 1), (13, .getfield 197, 3), (16, .putfield 188, 3), (19, .iconst 1, 1), (20, .ireturn, 1)]
theorem tdX12_takes_0 : hx_dt cX12_takes tbX12_takes_0 = true := by decide +kernel
theorem caX12_takes_200 {G : hx_GT} (cA : hx_CA RX12 cX12_takes 3 0 0 G) : hx_CV cX12_takes G 0 0 200 12 0 sX12_word 0 0 := cA.1 conX12_word rfl rfl ⟨by decide +kernel, by decide +kernel, by decide +kernel⟩ mw_1396 mw_1398 mw_42 mw_97 mw_1399 (by decide) (by decide)
def wX12_takes (μ : hx_M) (v1 : Int64) (K : Int32 → hx_M → Prop) : Prop := wX12_word μ (fun r1_2 m1_1 => ((lg_cmp r1_2 v1) = 0 → (K 1 (hx_sI m1_1 49 25 (m1_1.1 49 41)))) ∧ (¬ ((lg_cmp r1_2 v1) = 0) → (K 0 m1_1)))
set_option maxRecDepth 100000 in
set_option maxHeartbeats 4000000 in
theorem kX12_takes {G : hx_GT} {KK : hx_KT} (hG : hx_K cX12_takes 3 0 0 (some .boolean) TbX12 KK G) (cA : hx_CA RX12 cX12_takes 3 0 0 G) {Λ : hx_L} (hF : mF Λ) {μ : hx_M} (v1 : Int64) {K : Int32 → hx_M → Prop} (hK : ∀ (r : Int32) (m : hx_M), K r m → KK (some (.int r)) Λ m) (hw : wX12_takes μ v1 K) : G Λ μ (0, 0) 0 [some (.ref 49), some (.long v1), none] [] := by
  unfold wX12_takes at hw
  refine cl_aload_n hG (hx_dq tdX12_takes_0 0 rfl) rfl (cl_callV0 (caX12_takes_200 cA) (hx_dq tdX12_takes_0 1 rfl) (mF_S49 hF) (Nat.le_of_ble_eq_true rfl) (Nat.le_refl _) (Nat.le_refl _) (sX12_word_mk hF hw (fun r1_2 m1_1 hw => ?_)))
  refine cl_lload_n hG (hx_dq tdX12_takes_0 2 rfl) rfl (cl_lcmp hG (hx_dq tdX12_takes_0 3 rfl) (cl_if_eq hG 11 (hx_dq tdX12_takes_0 4 rfl) rfl (fun c6 => ?_) (fun c6 => ?_)))
  · replace hw := hw.1 c6
    exact cl_aload_n hG (hx_dq tdX12_takes_0 7 rfl) rfl (cl_aload_n hG (hx_dq tdX12_takes_0 8 rfl) rfl (cl_getI hG fmX12_197 (hx_dq tdX12_takes_0 9 rfl) (mF_S49 hF) (cl_putI hG fmX12_188 (hx_dq tdX12_takes_0 10 rfl) (mF_S49 hF) (cl_iconst hG 1 (hx_dq tdX12_takes_0 11 rfl) iconst_1 (cl_iret hG (hx_dq tdX12_takes_0 12 rfl) rfl rfl (hK _ _ hw) (Nat.le_refl _) (Nat.le_refl _))))))
  · replace hw := hw.2 c6
    exact cl_iconst hG 0 (hx_dq tdX12_takes_0 5 rfl) iconst_0 (cl_iret hG (hx_dq tdX12_takes_0 6 rfl) rfl rfl (hK _ _ hw) (Nat.le_refl _) (Nat.le_refl _))
def sX12_takes : hx_ST := fun Λ μ as KK => mF Λ ∧ ∃ (v1 : Int64) (K : Int32 → hx_M → Prop), as = [.ref 49, .long v1] ∧ wX12_takes μ v1 K ∧ (∀ (r : Int32) (m : hx_M), K r m → KK (some (.int r)) Λ m)
theorem sX12_takes_mk {Λ : hx_L} {μ : hx_M} {KK : hx_KT} {v1 : Int64} {K : Int32 → hx_M → Prop} (hF : mF Λ) (hw : wX12_takes μ v1 K) (hk : ∀ (r : Int32) (m : hx_M), K r m → KK (some (.int r)) Λ m) : sX12_takes Λ μ [.ref 49, .long v1] KK := ⟨hF, _, _, rfl, hw, hk⟩
theorem conX12_takes : hx_Con yX12_takes cX12_takes 3 (some .boolean) 3 0 0 sX12_takes := by
  refine hx_con_of (by decide +kernel) tokX12 (by decide) ?_ ?_
  · intro Λ μ as KK h
    obtain ⟨hF, v1, K, rfl, hw, hK⟩ := h
    exact Nat.le_of_ble_eq_true rfl
  · intro G KK hG cA Λ μ as h
    obtain ⟨hF, v1, K, rfl, hw, hK⟩ := h
    exact cl_sub hG (hx_le_c rfl (hx_le_c rfl (hx_le_n hx_le_0))) (kX12_takes hG cA hF _ hK hw)
/-! HemLineModel.takesSign(I)Z -/
def tbX12_takesSign_0 : List (Nat × Instr × Nat) := [(0, .aload_n 0, 1), (1, .invokevirtual 194, 3), (4, .aload_n 0, 1), (5, .getfield 188, 3), (8, .aload_n 0, 1), (9, .getfield 191, 3), (12, .if_icmp .eq 16, 3), (15, .aload_n 0, 1), (16, .getfield 98, 3), (19, .aload_n 0, 1), (20, .getfield 188, 3), (23, .baload, 1), (24, .iload_n 1, 1), (25, .if_icmp .eq 5, 3), (28, .iconst 0, 1), (29, .ireturn, 1), (30, .aload_n 0, 1), (31, .dup, 1), (32, .getfield 188, 3), (35, .iconst 1, 1), (36, .iadd, 1), (37, .putfield 188, 3), (40, .iconst 1, 1), (41, .ireturn, 1)]
theorem tdX12_takesSign_0 : hx_dt cX12_takesSign tbX12_takesSign_0 = true := by decide +kernel
theorem caX12_takesSign_194 {G : hx_GT} (cA : hx_CA RX12 cX12_takesSign 2 0 0 G) : hx_CV cX12_takesSign G 0 0 194 12 0 sX12_blanks 0 0 := cA.1 conX12_blanks rfl rfl ⟨by decide +kernel, by decide +kernel, by decide +kernel⟩ mw_1383 mw_1385 mw_39 mw_97 mw_1386 (by decide) (by decide)
def wX12_takesSign (μ : hx_M) (v1 : Int32) (K : Int32 → hx_M → Prop) : Prop := wX12_blanks μ (fun m1_1 => ((m1_1.1 49 25) = (m1_1.1 49 24) → (K 0 m1_1)) ∧ (¬ ((m1_1.1 49 25) = (m1_1.1 49 24)) → (vp_in (m1_1.1 49 25) 700 ∧ (((m1_1.1 75 ((m1_1.1 49 25).toNatClampNeg))) = v1 → (K 1 (hx_sI m1_1 49 25 ((m1_1.1 49 25) + 1)))) ∧ (¬ (((m1_1.1 75 ((m1_1.1 49 25).toNatClampNeg))) = v1) → (K 0 m1_1)))))
set_option maxRecDepth 100000 in
set_option maxHeartbeats 4000000 in
theorem kX12_takesSign {G : hx_GT} {KK : hx_KT} (hG : hx_K cX12_takesSign 2 0 0 (some .boolean) TbX12 KK G) (cA : hx_CA RX12 cX12_takesSign 2 0 0 G) {Λ : hx_L} (hF : mF Λ) {μ : hx_M} (v1 : Int32) {K : Int32 → hx_M → Prop} (hK : ∀ (r : Int32) (m : hx_M), K r m → KK (some (.int r)) Λ m) (hw : wX12_takesSign μ v1 K) : G Λ μ (0, 0) 0 [some (.ref 49), some (.int v1)] [] := by
  unfold wX12_takesSign at hw
  refine cl_aload_n hG (hx_dq tdX12_takesSign_0 0 rfl) rfl (cl_callV0 (caX12_takesSign_194 cA) (hx_dq tdX12_takesSign_0 1 rfl) (mF_S49 hF) (Nat.le_of_ble_eq_true rfl) (Nat.le_refl _) (Nat.le_refl _) (sX12_blanks_mk hF hw (fun m1_1 hw => ?_)))
  refine cl_aload_n hG (hx_dq tdX12_takesSign_0 2 rfl) rfl (cl_getI hG fmX12_188 (hx_dq tdX12_takesSign_0 3 rfl) (mF_S49 hF) (cl_aload_n hG (hx_dq tdX12_takesSign_0 4 rfl) rfl (cl_getI hG fmX12_191 (hx_dq tdX12_takesSign_0 5 rfl) (mF_S49 hF) (cl_icmp_eq hG 28 (hx_dq tdX12_takesSign_0 6 rfl) rfl (fun c12 => ?_) (fun c12 => ?_)))))
  · replace hw := hw.1 c12
    exact cl_iconst hG 0 (hx_dq tdX12_takesSign_0 14 rfl) iconst_0 (cl_iret hG (hx_dq tdX12_takesSign_0 15 rfl) rfl rfl (hK _ _ hw) (Nat.le_refl _) (Nat.le_refl _))
  · replace hw := hw.2 c12
    obtain ⟨i23_3, hw⟩ := hw
    refine cl_aload_n hG (hx_dq tdX12_takesSign_0 7 rfl) rfl (cl_getS hG fmX12_98 (hx_dq tdX12_takesSign_0 8 rfl) (mF_S49 hF) (mF_R49_40 hF) (cl_aload_n hG (hx_dq tdX12_takesSign_0 9 rfl) rfl (cl_getI hG fmX12_188 (hx_dq tdX12_takesSign_0 10 rfl) (mF_S49 hF) (cl_bald hG (hx_dq tdX12_takesSign_0 11 rfl) (mF_S75 hF) i23_3 (cl_iload_n hG (hx_dq tdX12_takesSign_0 12 rfl) rfl (cl_icmp_eq hG 30 (hx_dq tdX12_takesSign_0 13 rfl) rfl (fun c25 => ?_) (fun c25 => ?_)))))))
    · replace hw := hw.1 c25
      exact cl_aload_n hG (hx_dq tdX12_takesSign_0 16 rfl) rfl (cl_dup hG (hx_dq tdX12_takesSign_0 17 rfl) rfl (cl_getI hG fmX12_188 (hx_dq tdX12_takesSign_0 18 rfl) (mF_S49 hF) (cl_iconst hG 1 (hx_dq tdX12_takesSign_0 19 rfl) iconst_1 (cl_iadd hG (hx_dq tdX12_takesSign_0 20 rfl) (cl_putI hG fmX12_188 (hx_dq tdX12_takesSign_0 21 rfl) (mF_S49 hF) (cl_iconst hG 1 (hx_dq tdX12_takesSign_0 22 rfl) iconst_1 (cl_iret hG (hx_dq tdX12_takesSign_0 23 rfl) rfl rfl (hK _ _ hw) (Nat.le_refl _) (Nat.le_refl _))))))))
    · replace hw := hw.2 c25
      exact cl_iconst hG 0 (hx_dq tdX12_takesSign_0 14 rfl) iconst_0 (cl_iret hG (hx_dq tdX12_takesSign_0 15 rfl) rfl rfl (hK _ _ hw) (Nat.le_refl _) (Nat.le_refl _))
def sX12_takesSign : hx_ST := fun Λ μ as KK => mF Λ ∧ ∃ (v1 : Int32) (K : Int32 → hx_M → Prop), as = [.ref 49, .int v1] ∧ wX12_takesSign μ v1 K ∧ (∀ (r : Int32) (m : hx_M), K r m → KK (some (.int r)) Λ m)
theorem sX12_takesSign_mk {Λ : hx_L} {μ : hx_M} {KK : hx_KT} {v1 : Int32} {K : Int32 → hx_M → Prop} (hF : mF Λ) (hw : wX12_takesSign μ v1 K) (hk : ∀ (r : Int32) (m : hx_M), K r m → KK (some (.int r)) Λ m) : sX12_takesSign Λ μ [.ref 49, .int v1] KK := ⟨hF, _, _, rfl, hw, hk⟩
theorem conX12_takesSign : hx_Con yX12_takesSign cX12_takesSign 2 (some .boolean) 2 0 0 sX12_takesSign := by
  refine hx_con_of (by decide +kernel) tokX12 (by decide) ?_ ?_
  · intro Λ μ as KK h
    obtain ⟨hF, v1, K, rfl, hw, hK⟩ := h
    exact Nat.le_of_ble_eq_true rfl
  · intro G KK hG cA Λ μ as h
    obtain ⟨hF, v1, K, rfl, hw, hK⟩ := h
    exact cl_sub hG (hx_le_c rfl (hx_le_c rfl hx_le_0)) (kX12_takesSign hG cA hF _ hK hw)
/-! HemLineModel.takesNumber(II)Z -/
def tbX12_takesNumber_0 : List (Nat × Instr × Nat) := [(0, .aload_n 0, 1), (1, .invokevirtual 194, 3), (4, .aload_n 0, 1), (5, .getfield 188, 3), (8, .istore_n 3, 1), (9, .aload_n 0, 1), (10, .iconst 0, 1), (11, .putfield 204, 3), (14, .iload_n 3, 1), (15, .aload_n 0, 1), (16, .getfield 191, 3), (19, .if_icmp .ge 62, 3), (22, .aload_n 0, 1), (23, .getfield 98, 3), (26, .iload_n 3, 1), (27, .baload, 1), (28, .bipush 48, 2), (30, .if_icmp .lt 51, 3), (33, .aload_n 0, 1), (34, .getfield 98, 3), (37, .iload_n 3, 1), (38, .baload, 1), (39, .bipush 57, 2), (41, .if_icmp .gt 40, 3), (44, .iload_n 3, 1), (45, .aload_n 0, 1), (46, .getfield 188, 3), (49, .isub, 1), (50, .iconst 4, 1), (51, .if_icmp .ge 24, 3), (54, .aload_n 0, 1), (55, .bipush 10, 2)]
def tbX12_takesNumber_1 : List (Nat × Instr × Nat) := [(57, .aload_n 0, 1), (58, .getfield 204, 3), (61, .imul, 1), (62, .aload_n 0, 1), (63, .getfield 98, 3), (66, .iload_n 3, 1), (67, .baload, 1), (68, .iadd, 1), (69, .bipush 48, 2), (71, .isub, 1), (72, .putfield 204, 3), (75, .iinc 3 1, 3), (78, .goto (-64), 3), (81, .iload_n 3, 1), (82, .aload_n 0, 1), (83, .getfield 188, 3), (86, .if_icmp .eq 25, 3), (89, .iload_n 3, 1), (90, .aload_n 0, 1), (91, .getfield 188, 3), (94, .isub, 1), (95, .iconst 4, 1), (96, .if_icmp .gt 15, 3), (99, .aload_n 0, 1), (100, .getfield 204, 3), (103, .iload_n 1, 1), (104, .iload_n 2, 1), (105, .invokestatic 157, 3), (108, .ifCond .ne 5, 3), (111, .iconst 0, 1), (112, .ireturn, 1), (113, .aload_n 0, 1)]
def tbX12_takesNumber_2 : List (Nat × Instr × Nat) := [(114, .iload_n 3, 1), (115, .putfield 188, 3), (118, .iconst 1, 1), (119, .ireturn, 1)]
theorem tdX12_takesNumber_0 : hx_dt cX12_takesNumber tbX12_takesNumber_0 = true := by decide +kernel
theorem tdX12_takesNumber_1 : hx_dt cX12_takesNumber tbX12_takesNumber_1 = true := by decide +kernel
theorem tdX12_takesNumber_2 : hx_dt cX12_takesNumber tbX12_takesNumber_2 = true := by decide +kernel
theorem caX12_takesNumber_157 {G : hx_GT} (cA : hx_CA RX12 cX12_takesNumber 2 0 0 G) : hx_CS cX12_takesNumber G 0 0 157 3 sX12_isIn 0 0 := cA.2.1 conX12_isIn ⟨by decide +kernel, by decide +kernel, by decide +kernel⟩ mw_1343 mw_1344 mw_97 mw_1345 (by decide) (by decide)
theorem caX12_takesNumber_194 {G : hx_GT} (cA : hx_CA RX12 cX12_takesNumber 2 0 0 G) : hx_CV cX12_takesNumber G 0 0 194 12 0 sX12_blanks 0 0 := cA.1 conX12_blanks rfl rfl ⟨by decide +kernel, by decide +kernel, by decide +kernel⟩ mw_1383 mw_1385 mw_39 mw_97 mw_1386 (by decide) (by decide)
def wX12_takesNumber_J75  (K : Int32 → hx_M → Prop) (K14 : Int32 → hx_M → Prop) (v1 : Int32) (v2 : Int32) (v3 : Int32)  (μ : hx_M) : Prop := K14 (v3 + 1) μ
set_option maxRecDepth 100000 in
set_option maxHeartbeats 4000000 in
theorem kX12_takesNumber_J75 {G : hx_GT} {KK : hx_KT} (hG : hx_K cX12_takesNumber 4 0 0 (some .boolean) TbX12 KK G) (cA : hx_CA RX12 cX12_takesNumber 2 0 0 G) {Λ : hx_L} (hF : mF Λ) {μ : hx_M} (v1 : Int32) (v2 : Int32) (v3 : Int32)  {K : Int32 → hx_M → Prop} (hK : ∀ (r : Int32) (m : hx_M), K r m → KK (some (.int r)) Λ m) {K14 : Int32 → hx_M → Prop} (hk14 : ∀ (v3 : Int32) (μ : hx_M), K14 v3 μ → G Λ μ (0, 0) 14 [some (.ref 49), some (.int v1), some (.int v2), some (.int v3)] []) (hw : wX12_takesNumber_J75 K K14 v1 v2 v3 μ) : G Λ μ (0, 0) 75 [some (.ref 49), some (.int v1), some (.int v2), some (.int v3)] [] := by
  unfold wX12_takesNumber_J75 at hw
  exact cl_iinc hG (v3 + 1) (hx_dq tdX12_takesNumber_1 11 rfl) rfl (congrArg (fun z => v3 + z) iconst_1) (Nat.le_of_ble_eq_true rfl) rfl (cl_goto hG 14 (hx_dq tdX12_takesNumber_1 12 rfl) rfl (cl_sub hG (hx_le_c rfl (hx_le_c rfl (hx_le_c rfl (hx_le_c rfl hx_le_0)))) (hk14 (v3 + 1) _ hw)))
def wX12_takesNumber_L14 (v1 : Int32) (v2 : Int32) (K : Int32 → hx_M → Prop) (K81 : Int32 → hx_M → Prop) : Nat → Int32 → hx_M → Prop
  | 0, _, _ => False
  | n + 1, v3, μ => ((μ.1 49 24) ≤ v3 → (K81 v3 μ)) ∧ (¬ ((μ.1 49 24) ≤ v3) → (vp_in v3 700 ∧ ((μ.1 75 v3.toNatClampNeg) < 48 → (K81 v3 μ)) ∧ (¬ ((μ.1 75 v3.toNatClampNeg) < 48) → (vp_in v3 700 ∧ (57 < (μ.1 75 v3.toNatClampNeg) → (K81 v3 μ)) ∧ (¬ (57 < (μ.1 75 v3.toNatClampNeg)) → ((4 ≤ (v3 - (μ.1 49 25)) → (wX12_takesNumber_J75 K (wX12_takesNumber_L14 v1 v2 K K81 n) v1 v2 v3 μ)) ∧ (¬ (4 ≤ (v3 - (μ.1 49 25))) → (vp_in v3 700 ∧ ∀ x_6 : Int32, x_6 = (((10 * (μ.1 49 42)) + (μ.1 75 v3.toNatClampNeg)) - 48) → wX12_takesNumber_J75 K (wX12_takesNumber_L14 v1 v2 K K81 n) v1 v2 v3 (hx_sI μ 49 42 x_6)))))))))
set_option maxRecDepth 100000 in
set_option maxHeartbeats 4000000 in
theorem kX12_takesNumber_L14 {G : hx_GT} {KK : hx_KT} (hG : hx_K cX12_takesNumber 4 0 0 (some .boolean) TbX12 KK G) (cA : hx_CA RX12 cX12_takesNumber 2 0 0 G) {Λ : hx_L} (hF : mF Λ)  (v1 : Int32) (v2 : Int32) {K : Int32 → hx_M → Prop} (hK : ∀ (r : Int32) (m : hx_M), K r m → KK (some (.int r)) Λ m) {K81 : Int32 → hx_M → Prop} (hk81 : ∀ (v3 : Int32) (μ : hx_M), K81 v3 μ → G Λ μ (0, 0) 81 [some (.ref 49), some (.int v1), some (.int v2), some (.int v3)] []) : ∀ (n : Nat) (v3 : Int32) (μ : hx_M), wX12_takesNumber_L14 v1 v2 K K81 n v3 μ → G Λ μ (0, 0) 14 [some (.ref 49), some (.int v1), some (.int v2), some (.int v3)] [] := by
  intro n
  induction n with
  | zero =>
    intro v3 μ hw
    exact False.elim (by simpa only [wX12_takesNumber_L14] using hw)
  | succ n ih =>
    intro v3 μ hw
    unfold wX12_takesNumber_L14 at hw
    refine cl_iload_n hG (hx_dq tdX12_takesNumber_0 8 rfl) rfl (cl_aload_n hG (hx_dq tdX12_takesNumber_0 9 rfl) rfl (cl_getI hG fmX12_191 (hx_dq tdX12_takesNumber_0 10 rfl) (mF_S49 hF) (cl_icmp_ge hG 81 (hx_dq tdX12_takesNumber_0 11 rfl) rfl (fun c19 => ?_) (fun c19 => ?_))))
    · replace hw := hw.1 c19
      exact cl_sub hG (hx_le_c rfl (hx_le_c rfl (hx_le_c rfl (hx_le_c rfl hx_le_0)))) (hk81 v3 _ hw)
    · replace hw := hw.2 c19
      obtain ⟨i27_3, hw⟩ := hw
      refine cl_aload_n hG (hx_dq tdX12_takesNumber_0 12 rfl) rfl (cl_getS hG fmX12_98 (hx_dq tdX12_takesNumber_0 13 rfl) (mF_S49 hF) (mF_R49_40 hF) (cl_iload_n hG (hx_dq tdX12_takesNumber_0 14 rfl) rfl (cl_bald hG (hx_dq tdX12_takesNumber_0 15 rfl) (mF_S75 hF) i27_3 (cl_bipush hG 48 (hx_dq tdX12_takesNumber_0 16 rfl) bipush_48 (cl_icmp_lt hG 81 (hx_dq tdX12_takesNumber_0 17 rfl) rfl (fun c30 => ?_) (fun c30 => ?_))))))
      · replace hw := hw.1 c30
        exact cl_sub hG (hx_le_c rfl (hx_le_c rfl (hx_le_c rfl (hx_le_c rfl hx_le_0)))) (hk81 v3 _ hw)
      · replace hw := hw.2 c30
        obtain ⟨i38_4, hw⟩ := hw
        refine cl_aload_n hG (hx_dq tdX12_takesNumber_0 18 rfl) rfl (cl_getS hG fmX12_98 (hx_dq tdX12_takesNumber_0 19 rfl) (mF_S49 hF) (mF_R49_40 hF) (cl_iload_n hG (hx_dq tdX12_takesNumber_0 20 rfl) rfl (cl_bald hG (hx_dq tdX12_takesNumber_0 21 rfl) (mF_S75 hF) i38_4 (cl_bipush hG 57 (hx_dq tdX12_takesNumber_0 22 rfl) bipush_57 (cl_icmp_gt hG 81 (hx_dq tdX12_takesNumber_0 23 rfl) rfl (fun c41 => ?_) (fun c41 => ?_))))))
        · replace hw := hw.1 c41
          exact cl_sub hG (hx_le_c rfl (hx_le_c rfl (hx_le_c rfl (hx_le_c rfl hx_le_0)))) (hk81 v3 _ hw)
        · replace hw := hw.2 c41
          refine cl_iload_n hG (hx_dq tdX12_takesNumber_0 24 rfl) rfl (cl_aload_n hG (hx_dq tdX12_takesNumber_0 25 rfl) rfl (cl_getI hG fmX12_188 (hx_dq tdX12_takesNumber_0 26 rfl) (mF_S49 hF) (cl_isub hG (hx_dq tdX12_takesNumber_0 27 rfl) (cl_iconst hG 4 (hx_dq tdX12_takesNumber_0 28 rfl) iconst_4 (cl_icmp_ge hG 75 (hx_dq tdX12_takesNumber_0 29 rfl) rfl (fun c51 => ?_) (fun c51 => ?_))))))
          · replace hw := hw.1 c51
            exact cl_sub hG (hx_le_c rfl (hx_le_c rfl (hx_le_c rfl (hx_le_c rfl hx_le_0)))) (kX12_takesNumber_J75 hG cA hF v1 v2 v3 hK (fun z0 z1 hw => ih z0 z1 hw) hw)
          · replace hw := hw.2 c51
            obtain ⟨i67_5, hw⟩ := hw
            refine cl_aload_n hG (hx_dq tdX12_takesNumber_0 30 rfl) rfl (cl_bipush hG 10 (hx_dq tdX12_takesNumber_0 31 rfl) bipush_10 (cl_aload_n hG (hx_dq tdX12_takesNumber_1 0 rfl) rfl (cl_getI hG fmX12_204 (hx_dq tdX12_takesNumber_1 1 rfl) (mF_S49 hF) (cl_imul hG (hx_dq tdX12_takesNumber_1 2 rfl) (cl_aload_n hG (hx_dq tdX12_takesNumber_1 3 rfl) rfl (cl_getS hG fmX12_98 (hx_dq tdX12_takesNumber_1 4 rfl) (mF_S49 hF) (mF_R49_40 hF) (cl_iload_n hG (hx_dq tdX12_takesNumber_1 5 rfl) rfl (cl_bald hG (hx_dq tdX12_takesNumber_1 6 rfl) (mF_S75 hF) i67_5 (cl_iadd hG (hx_dq tdX12_takesNumber_1 7 rfl) (cl_bipush hG 48 (hx_dq tdX12_takesNumber_1 8 rfl) bipush_48 (cl_isub hG (hx_dq tdX12_takesNumber_1 9 rfl) (cl_nmI (fun x_6 e_6 => ?_)))))))))))))
            replace hw := hw x_6 e_6
            refine cl_putI hG fmX12_204 (hx_dq tdX12_takesNumber_1 10 rfl) (mF_S49 hF) ?_
            exact cl_sub hG (hx_le_c rfl (hx_le_c rfl (hx_le_c rfl (hx_le_c rfl hx_le_0)))) (kX12_takesNumber_J75 hG cA hF v1 v2 v3 hK (fun z0 z1 hw => ih z0 z1 hw) hw)
def wX12_takesNumber_J81  (K : Int32 → hx_M → Prop)  (v1 : Int32) (v2 : Int32) (v3 : Int32)  (μ : hx_M) : Prop := (v3 = (μ.1 49 25) → (K 0 μ)) ∧ (¬ (v3 = (μ.1 49 25)) → ((4 < (v3 - (μ.1 49 25)) → (K 0 μ)) ∧ (¬ (4 < (v3 - (μ.1 49 25))) → (wX12_isIn (μ.1 49 42) v1 v2 (fun r105_9 => (r105_9 ≠ 0 → (K 1 (hx_sI μ 49 25 v3))) ∧ (r105_9 = 0 → (K 0 μ)))))))
set_option maxRecDepth 100000 in
set_option maxHeartbeats 4000000 in
theorem kX12_takesNumber_J81 {G : hx_GT} {KK : hx_KT} (hG : hx_K cX12_takesNumber 4 0 0 (some .boolean) TbX12 KK G) (cA : hx_CA RX12 cX12_takesNumber 2 0 0 G) {Λ : hx_L} (hF : mF Λ) {μ : hx_M} (v1 : Int32) (v2 : Int32) (v3 : Int32)  {K : Int32 → hx_M → Prop} (hK : ∀ (r : Int32) (m : hx_M), K r m → KK (some (.int r)) Λ m)  (hw : wX12_takesNumber_J81 K v1 v2 v3 μ) : G Λ μ (0, 0) 81 [some (.ref 49), some (.int v1), some (.int v2), some (.int v3)] [] := by
  unfold wX12_takesNumber_J81 at hw
  refine cl_iload_n hG (hx_dq tdX12_takesNumber_1 13 rfl) rfl (cl_aload_n hG (hx_dq tdX12_takesNumber_1 14 rfl) rfl (cl_getI hG fmX12_188 (hx_dq tdX12_takesNumber_1 15 rfl) (mF_S49 hF) (cl_icmp_eq hG 111 (hx_dq tdX12_takesNumber_1 16 rfl) rfl (fun c86 => ?_) (fun c86 => ?_))))
  · replace hw := hw.1 c86
    exact cl_iconst hG 0 (hx_dq tdX12_takesNumber_1 29 rfl) iconst_0 (cl_iret hG (hx_dq tdX12_takesNumber_1 30 rfl) rfl rfl (hK _ _ hw) (Nat.le_refl _) (Nat.le_refl _))
  · replace hw := hw.2 c86
    refine cl_iload_n hG (hx_dq tdX12_takesNumber_1 17 rfl) rfl (cl_aload_n hG (hx_dq tdX12_takesNumber_1 18 rfl) rfl (cl_getI hG fmX12_188 (hx_dq tdX12_takesNumber_1 19 rfl) (mF_S49 hF) (cl_isub hG (hx_dq tdX12_takesNumber_1 20 rfl) (cl_iconst hG 4 (hx_dq tdX12_takesNumber_1 21 rfl) iconst_4 (cl_icmp_gt hG 111 (hx_dq tdX12_takesNumber_1 22 rfl) rfl (fun c96 => ?_) (fun c96 => ?_))))))
    · replace hw := hw.1 c96
      exact cl_iconst hG 0 (hx_dq tdX12_takesNumber_1 29 rfl) iconst_0 (cl_iret hG (hx_dq tdX12_takesNumber_1 30 rfl) rfl rfl (hK _ _ hw) (Nat.le_refl _) (Nat.le_refl _))
    · replace hw := hw.2 c96
      refine cl_aload_n hG (hx_dq tdX12_takesNumber_1 23 rfl) rfl (cl_getI hG fmX12_204 (hx_dq tdX12_takesNumber_1 24 rfl) (mF_S49 hF) (cl_iload_n hG (hx_dq tdX12_takesNumber_1 25 rfl) rfl (cl_iload_n hG (hx_dq tdX12_takesNumber_1 26 rfl) rfl (cl_callS3 (caX12_takesNumber_157 cA) (hx_dq tdX12_takesNumber_1 27 rfl) (Nat.le_of_ble_eq_true rfl) (Nat.le_refl _) (Nat.le_refl _) (sX12_isIn_mk hw (fun r105_9 hw => ?_))))))
      refine cl_if_ne hG 113 (hx_dq tdX12_takesNumber_1 28 rfl) rfl (fun c108 => ?_) (fun c108 => ?_)
      · replace hw := hw.1 c108
        exact cl_aload_n hG (hx_dq tdX12_takesNumber_1 31 rfl) rfl (cl_iload_n hG (hx_dq tdX12_takesNumber_2 0 rfl) rfl (cl_putI hG fmX12_188 (hx_dq tdX12_takesNumber_2 1 rfl) (mF_S49 hF) (cl_iconst hG 1 (hx_dq tdX12_takesNumber_2 2 rfl) iconst_1 (cl_iret hG (hx_dq tdX12_takesNumber_2 3 rfl) rfl rfl (hK _ _ hw) (Nat.le_refl _) (Nat.le_refl _)))))
      · replace hw := hw.2 c108
        exact cl_iconst hG 0 (hx_dq tdX12_takesNumber_1 29 rfl) iconst_0 (cl_iret hG (hx_dq tdX12_takesNumber_1 30 rfl) rfl rfl (hK _ _ hw) (Nat.le_refl _) (Nat.le_refl _))
def wX12_takesNumber (μ : hx_M) (v1 : Int32) (v2 : Int32) (K : Int32 → hx_M → Prop) : Prop := wX12_blanks μ (fun m1_1 => ∃ n14_10, wX12_takesNumber_L14 v1 v2 K (fun v3_7 m_7 => wX12_takesNumber_J81 K v1 v2 v3_7 m_7) n14_10 (m1_1.1 49 25) (hx_sI m1_1 49 42 0))
set_option maxRecDepth 100000 in
set_option maxHeartbeats 4000000 in
theorem kX12_takesNumber {G : hx_GT} {KK : hx_KT} (hG : hx_K cX12_takesNumber 4 0 0 (some .boolean) TbX12 KK G) (cA : hx_CA RX12 cX12_takesNumber 2 0 0 G) {Λ : hx_L} (hF : mF Λ) {μ : hx_M} (v1 : Int32) (v2 : Int32) {K : Int32 → hx_M → Prop} (hK : ∀ (r : Int32) (m : hx_M), K r m → KK (some (.int r)) Λ m) (hw : wX12_takesNumber μ v1 v2 K) : G Λ μ (0, 0) 0 [some (.ref 49), some (.int v1), some (.int v2), none] [] := by
  unfold wX12_takesNumber at hw
  refine cl_aload_n hG (hx_dq tdX12_takesNumber_0 0 rfl) rfl (cl_callV0 (caX12_takesNumber_194 cA) (hx_dq tdX12_takesNumber_0 1 rfl) (mF_S49 hF) (Nat.le_of_ble_eq_true rfl) (Nat.le_refl _) (Nat.le_refl _) (sX12_blanks_mk hF hw (fun m1_1 hw => ?_)))
  refine cl_aload_n hG (hx_dq tdX12_takesNumber_0 2 rfl) rfl (cl_getI hG fmX12_188 (hx_dq tdX12_takesNumber_0 3 rfl) (mF_S49 hF) (cl_istore_n hG (hx_dq tdX12_takesNumber_0 4 rfl) (Nat.le_of_ble_eq_true rfl) rfl (cl_aload_n hG (hx_dq tdX12_takesNumber_0 5 rfl) rfl (cl_iconst hG 0 (hx_dq tdX12_takesNumber_0 6 rfl) iconst_0 (cl_putI hG fmX12_204 (hx_dq tdX12_takesNumber_0 7 rfl) (mF_S49 hF) ?_)))))
  obtain ⟨n_, hw⟩ := hw
  refine cl_sub hG (hx_le_c rfl (hx_le_c rfl (hx_le_c rfl (hx_le_c rfl hx_le_0)))) (kX12_takesNumber_L14 hG cA hF v1 v2 hK (fun v3_7 m_7 hw => ?_) n_ (m1_1.1 49 25) _ hw)
  · exact cl_sub hG (hx_le_c rfl (hx_le_c rfl (hx_le_c rfl (hx_le_c rfl hx_le_0)))) (kX12_takesNumber_J81 hG cA hF v1 v2 v3_7 hK hw)
def sX12_takesNumber : hx_ST := fun Λ μ as KK => mF Λ ∧ ∃ (v1 : Int32) (v2 : Int32) (K : Int32 → hx_M → Prop), as = [.ref 49, .int v1, .int v2] ∧ wX12_takesNumber μ v1 v2 K ∧ (∀ (r : Int32) (m : hx_M), K r m → KK (some (.int r)) Λ m)
theorem sX12_takesNumber_mk {Λ : hx_L} {μ : hx_M} {KK : hx_KT} {v1 : Int32} {v2 : Int32} {K : Int32 → hx_M → Prop} (hF : mF Λ) (hw : wX12_takesNumber μ v1 v2 K) (hk : ∀ (r : Int32) (m : hx_M), K r m → KK (some (.int r)) Λ m) : sX12_takesNumber Λ μ [.ref 49, .int v1, .int v2] KK := ⟨hF, _, _, _, rfl, hw, hk⟩
theorem conX12_takesNumber : hx_Con yX12_takesNumber cX12_takesNumber 4 (some .boolean) 2 0 0 sX12_takesNumber := by
  refine hx_con_of (by decide +kernel) tokX12 (by decide) ?_ ?_
  · intro Λ μ as KK h
    obtain ⟨hF, v1, v2, K, rfl, hw, hK⟩ := h
    exact Nat.le_of_ble_eq_true rfl
  · intro G KK hG cA Λ μ as h
    obtain ⟨hF, v1, v2, K, rfl, hw, hK⟩ := h
    exact cl_sub hG (hx_le_c rfl (hx_le_c rfl (hx_le_c rfl (hx_le_n hx_le_0)))) (kX12_takesNumber hG cA hF _ _ hK hw)
/-! HemLineModel.mean(J)I -/
def tbX12_mean_0 : List (Nat × Instr × Nat) := [(0, .lload_n 0, 1), (1, .ldc2_w 207, 3), (4, .lcmp, 1), (5, .ifCond .ne 7, 3), (8, .iconst 0, 1), (9, .goto 40, 3), (12, .lload_n 0, 1), (13, .ldc2_w 209, 3), (16, .lcmp, 1), (17, .ifCond .ne 7, 3), (20, .iconst 1, 1), (21, .goto 28, 3), (24, .lload_n 0, 1), (25, .ldc2_w 211, 3), (28, .lcmp, 1), (29, .ifCond .ne 7, 3), (32, .iconst 2, 1), (33, .goto 16, 3), (36, .lload_n 0, 1), (37, .ldc2_w 213, 3), (40, .lcmp, 1), (41, .ifCond .ne 7, 3), (44, .iconst 3, 1), (45, .goto 4, 3), (48, .iconst (-1), 1), (49, .ireturn, 1)]
theorem tdX12_mean_0 : hx_dt cX12_mean tbX12_mean_0 = true := by decide +kernel
def wX12_mean  (v0 : Int64) (K : Int32 → Prop) : Prop := ((lg_cmp v0 (418263299685 : Int64)) ≠ 0 → (((lg_cmp v0 (422608400247 : Int64)) ≠ 0 → (((lg_cmp v0 (418430675813 : Int64)) ≠ 0 → (((lg_cmp v0 (6384748 : Int64)) ≠ 0 → (K (-1))) ∧ ((lg_cmp v0 (6384748 : Int64)) = 0 → (K 3)))) ∧ ((lg_cmp v0 (418430675813 : Int64)) = 0 → (K 2)))) ∧ ((lg_cmp v0 (422608400247 : Int64)) = 0 → (K 1)))) ∧ ((lg_cmp v0 (418263299685 : Int64)) = 0 → (K 0))
set_option maxRecDepth 100000 in
set_option maxHeartbeats 4000000 in
theorem kX12_mean {G : hx_GT} {KK : hx_KT} (hG : hx_K cX12_mean 2 0 0 (some .int) TbX12 KK G) (cA : hx_CA RX12 cX12_mean 1 0 0 G) {Λ : hx_L}  {μ : hx_M} (v0 : Int64) {K : Int32 → Prop} (hK : ∀ (r : Int32), K r → KK (some (.int r)) Λ μ) (hw : wX12_mean v0 K) : G Λ μ (0, 0) 0 [some (.long v0), none] [] := by
  unfold wX12_mean at hw
  refine cl_lload_n hG (hx_dq tdX12_mean_0 0 rfl) rfl (cl_ldc2 hG ciX12_207 (hx_dq tdX12_mean_0 1 rfl) (cl_lcmp hG (hx_dq tdX12_mean_0 2 rfl) (cl_if_ne hG 12 (hx_dq tdX12_mean_0 3 rfl) rfl (fun c5 => ?_) (fun c5 => ?_))))
  · replace hw := hw.1 c5
    refine cl_lload_n hG (hx_dq tdX12_mean_0 6 rfl) rfl (cl_ldc2 hG ciX12_209 (hx_dq tdX12_mean_0 7 rfl) (cl_lcmp hG (hx_dq tdX12_mean_0 8 rfl) (cl_if_ne hG 24 (hx_dq tdX12_mean_0 9 rfl) rfl (fun c17 => ?_) (fun c17 => ?_))))
    · replace hw := hw.1 c17
      refine cl_lload_n hG (hx_dq tdX12_mean_0 12 rfl) rfl (cl_ldc2 hG ciX12_211 (hx_dq tdX12_mean_0 13 rfl) (cl_lcmp hG (hx_dq tdX12_mean_0 14 rfl) (cl_if_ne hG 36 (hx_dq tdX12_mean_0 15 rfl) rfl (fun c29 => ?_) (fun c29 => ?_))))
      · replace hw := hw.1 c29
        refine cl_lload_n hG (hx_dq tdX12_mean_0 18 rfl) rfl (cl_ldc2 hG ciX12_213 (hx_dq tdX12_mean_0 19 rfl) (cl_lcmp hG (hx_dq tdX12_mean_0 20 rfl) (cl_if_ne hG 48 (hx_dq tdX12_mean_0 21 rfl) rfl (fun c41 => ?_) (fun c41 => ?_))))
        · replace hw := hw.1 c41
          exact cl_iconst hG (-1) (hx_dq tdX12_mean_0 24 rfl) iconst_m1 (cl_iret hG (hx_dq tdX12_mean_0 25 rfl) rfl rfl (hK _ hw) (Nat.le_refl _) (Nat.le_refl _))
        · replace hw := hw.2 c41
          exact cl_iconst hG 3 (hx_dq tdX12_mean_0 22 rfl) iconst_3 (cl_goto hG 49 (hx_dq tdX12_mean_0 23 rfl) rfl (cl_iret hG (hx_dq tdX12_mean_0 25 rfl) rfl rfl (hK _ hw) (Nat.le_refl _) (Nat.le_refl _)))
      · replace hw := hw.2 c29
        exact cl_iconst hG 2 (hx_dq tdX12_mean_0 16 rfl) iconst_2 (cl_goto hG 49 (hx_dq tdX12_mean_0 17 rfl) rfl (cl_iret hG (hx_dq tdX12_mean_0 25 rfl) rfl rfl (hK _ hw) (Nat.le_refl _) (Nat.le_refl _)))
    · replace hw := hw.2 c17
      exact cl_iconst hG 1 (hx_dq tdX12_mean_0 10 rfl) iconst_1 (cl_goto hG 49 (hx_dq tdX12_mean_0 11 rfl) rfl (cl_iret hG (hx_dq tdX12_mean_0 25 rfl) rfl rfl (hK _ hw) (Nat.le_refl _) (Nat.le_refl _)))
  · replace hw := hw.2 c5
    exact cl_iconst hG 0 (hx_dq tdX12_mean_0 4 rfl) iconst_0 (cl_goto hG 49 (hx_dq tdX12_mean_0 5 rfl) rfl (cl_iret hG (hx_dq tdX12_mean_0 25 rfl) rfl rfl (hK _ hw) (Nat.le_refl _) (Nat.le_refl _)))
def sX12_mean : hx_ST := fun Λ μ as KK => ∃ (v0 : Int64) (K : Int32 → Prop), as = [.long v0] ∧ wX12_mean v0 K ∧ (∀ (r : Int32), K r → KK (some (.int r)) Λ μ)
theorem sX12_mean_mk {Λ : hx_L} {μ : hx_M} {KK : hx_KT} {v0 : Int64} {K : Int32 → Prop}  (hw : wX12_mean v0 K) (hk : ∀ (r : Int32), K r → KK (some (.int r)) Λ μ) : sX12_mean Λ μ [.long v0] KK := ⟨_, _, rfl, hw, hk⟩
theorem conX12_mean : hx_Con yX12_mean cX12_mean 2 (some .int) 1 0 0 sX12_mean := by
  refine hx_con_of (by decide +kernel) tokX12 (by decide) ?_ ?_
  · intro Λ μ as KK h
    obtain ⟨v0, K, rfl, hw, hK⟩ := h
    exact Nat.le_of_ble_eq_true rfl
  · intro G KK hG cA Λ μ as h
    obtain ⟨v0, K, rfl, hw, hK⟩ := h
    exact cl_sub hG (hx_le_c rfl (hx_le_n hx_le_0)) (kX12_mean hG cA _ hK hw)
/-! HemLineModel.askedBy(J)I -/
def tbX12_askedBy_0 : List (Nat × Instr × Nat) := [(0, .lload_n 0, 1), (1, .invokestatic 215, 3), (4, .istore_n 2, 1), (5, .iload_n 2, 1), (6, .iconst (-1), 1), (7, .if_icmp .eq 8, 3), (10, .bipush 8, 2), (12, .iload_n 2, 1), (13, .iadd, 1), (14, .ireturn, 1), (15, .lload_n 0, 1), (16, .ldc2_w 219, 3), (19, .lcmp, 1), (20, .ifCond .ne 7, 3), (23, .iconst 0, 1), (24, .goto 90, 3), (27, .lload_n 0, 1), (28, .ldc2_w 221, 3), (31, .lcmp, 1), (32, .ifCond .ne 7, 3), (35, .iconst 1, 1), (36, .goto 78, 3), (39, .lload_n 0, 1), (40, .ldc2_w 223, 3), (43, .lcmp, 1), (44, .ifCond .ne 7, 3), (47, .iconst 2, 1), (48, .goto 66, 3), (51, .lload_n 0, 1), (52, .ldc2_w 225, 3), (55, .lcmp, 1), (56, .ifCond .ne 7, 3)]
def tbX12_askedBy_1 : List (Nat × Instr × Nat) := [(59, .iconst 3, 1), (60, .goto 54, 3), (63, .lload_n 0, 1), (64, .ldc2_w 227, 3), (67, .lcmp, 1), (68, .ifCond .ne 7, 3), (71, .iconst 4, 1), (72, .goto 42, 3), (75, .lload_n 0, 1), (76, .ldc2_w 229, 3), (79, .lcmp, 1), (80, .ifCond .ne 7, 3), (83, .iconst 5, 1), (84, .goto 30, 3), (87, .lload_n 0, 1), (88, .ldc2_w 231, 3), (91, .lcmp, 1), (92, .ifCond .ne 8, 3), (95, .bipush 6, 2), (97, .goto 17, 3), (100, .lload_n 0, 1), (101, .ldc2_w 233, 3), (104, .lcmp, 1), (105, .ifCond .ne 8, 3), (108, .bipush 7, 2), (110, .goto 4, 3), (113, .iconst (-1), 1), (114, .ireturn, 1)]
theorem tdX12_askedBy_0 : hx_dt cX12_askedBy tbX12_askedBy_0 = true := by decide +kernel
theorem tdX12_askedBy_1 : hx_dt cX12_askedBy tbX12_askedBy_1 = true := by decide +kernel
theorem caX12_askedBy_215 {G : hx_GT} (cA : hx_CA RX12 cX12_askedBy 2 0 0 G) : hx_CS cX12_askedBy G 0 0 215 1 sX12_mean 0 0 := cA.2.1 conX12_mean ⟨by decide +kernel, by decide +kernel, by decide +kernel⟩ mw_1406 mw_1407 mw_97 mw_1408 (by decide) (by decide)
def wX12_askedBy  (v0 : Int64) (K : Int32 → Prop) : Prop := wX12_mean v0 (fun r1_2 => (r1_2 = (-1) → (((lg_cmp v0 (126879263846254 : Int64)) ≠ 0 → (((lg_cmp v0 (119182899770472 : Int64)) ≠ 0 → (((lg_cmp v0 (483006772069 : Int64)) ≠ 0 → (((lg_cmp v0 (1668245870 : Int64)) ≠ 0 → (((lg_cmp v0 (1918987883 : Int64)) ≠ 0 → (((lg_cmp v0 (470020941177 : Int64)) ≠ 0 → (((lg_cmp v0 (109299962372965 : Int64)) ≠ 0 → (((lg_cmp v0 (2003792494 : Int64)) ≠ 0 → (K (-1))) ∧ ((lg_cmp v0 (2003792494 : Int64)) = 0 → (K 7)))) ∧ ((lg_cmp v0 (109299962372965 : Int64)) = 0 → (K 6)))) ∧ ((lg_cmp v0 (470020941177 : Int64)) = 0 → (K 5)))) ∧ ((lg_cmp v0 (1918987883 : Int64)) = 0 → (K 4)))) ∧ ((lg_cmp v0 (1668245870 : Int64)) = 0 → (K 3)))) ∧ ((lg_cmp v0 (483006772069 : Int64)) = 0 → (K 2)))) ∧ ((lg_cmp v0 (119182899770472 : Int64)) = 0 → (K 1)))) ∧ ((lg_cmp v0 (126879263846254 : Int64)) = 0 → (K 0)))) ∧ (¬ (r1_2 = (-1)) → (K (8 + r1_2))))
set_option maxRecDepth 100000 in
set_option maxHeartbeats 4000000 in
theorem kX12_askedBy {G : hx_GT} {KK : hx_KT} (hG : hx_K cX12_askedBy 3 0 0 (some .int) TbX12 KK G) (cA : hx_CA RX12 cX12_askedBy 2 0 0 G) {Λ : hx_L}  {μ : hx_M} (v0 : Int64) {K : Int32 → Prop} (hK : ∀ (r : Int32), K r → KK (some (.int r)) Λ μ) (hw : wX12_askedBy v0 K) : G Λ μ (0, 0) 0 [some (.long v0), none, none] [] := by
  unfold wX12_askedBy at hw
  refine cl_lload_n hG (hx_dq tdX12_askedBy_0 0 rfl) rfl (cl_callS1 (caX12_askedBy_215 cA) (hx_dq tdX12_askedBy_0 1 rfl) (Nat.le_of_ble_eq_true rfl) (Nat.le_refl _) (Nat.le_refl _) (sX12_mean_mk hw (fun r1_2 hw => ?_)))
  refine cl_istore_n hG (hx_dq tdX12_askedBy_0 2 rfl) (Nat.le_of_ble_eq_true rfl) rfl (cl_iload_n hG (hx_dq tdX12_askedBy_0 3 rfl) rfl (cl_iconst hG (-1) (hx_dq tdX12_askedBy_0 4 rfl) iconst_m1 (cl_icmp_eq hG 15 (hx_dq tdX12_askedBy_0 5 rfl) rfl (fun c7 => ?_) (fun c7 => ?_))))
  · replace hw := hw.1 c7
    refine cl_lload_n hG (hx_dq tdX12_askedBy_0 10 rfl) rfl (cl_ldc2 hG ciX12_219 (hx_dq tdX12_askedBy_0 11 rfl) (cl_lcmp hG (hx_dq tdX12_askedBy_0 12 rfl) (cl_if_ne hG 27 (hx_dq tdX12_askedBy_0 13 rfl) rfl (fun c20 => ?_) (fun c20 => ?_))))
    · replace hw := hw.1 c20
      refine cl_lload_n hG (hx_dq tdX12_askedBy_0 16 rfl) rfl (cl_ldc2 hG ciX12_221 (hx_dq tdX12_askedBy_0 17 rfl) (cl_lcmp hG (hx_dq tdX12_askedBy_0 18 rfl) (cl_if_ne hG 39 (hx_dq tdX12_askedBy_0 19 rfl) rfl (fun c32 => ?_) (fun c32 => ?_))))
      · replace hw := hw.1 c32
        refine cl_lload_n hG (hx_dq tdX12_askedBy_0 22 rfl) rfl (cl_ldc2 hG ciX12_223 (hx_dq tdX12_askedBy_0 23 rfl) (cl_lcmp hG (hx_dq tdX12_askedBy_0 24 rfl) (cl_if_ne hG 51 (hx_dq tdX12_askedBy_0 25 rfl) rfl (fun c44 => ?_) (fun c44 => ?_))))
        · replace hw := hw.1 c44
          refine cl_lload_n hG (hx_dq tdX12_askedBy_0 28 rfl) rfl (cl_ldc2 hG ciX12_225 (hx_dq tdX12_askedBy_0 29 rfl) (cl_lcmp hG (hx_dq tdX12_askedBy_0 30 rfl) (cl_if_ne hG 63 (hx_dq tdX12_askedBy_0 31 rfl) rfl (fun c56 => ?_) (fun c56 => ?_))))
          · replace hw := hw.1 c56
            refine cl_lload_n hG (hx_dq tdX12_askedBy_1 2 rfl) rfl (cl_ldc2 hG ciX12_227 (hx_dq tdX12_askedBy_1 3 rfl) (cl_lcmp hG (hx_dq tdX12_askedBy_1 4 rfl) (cl_if_ne hG 75 (hx_dq tdX12_askedBy_1 5 rfl) rfl (fun c68 => ?_) (fun c68 => ?_))))
            · replace hw := hw.1 c68
              refine cl_lload_n hG (hx_dq tdX12_askedBy_1 8 rfl) rfl (cl_ldc2 hG ciX12_229 (hx_dq tdX12_askedBy_1 9 rfl) (cl_lcmp hG (hx_dq tdX12_askedBy_1 10 rfl) (cl_if_ne hG 87 (hx_dq tdX12_askedBy_1 11 rfl) rfl (fun c80 => ?_) (fun c80 => ?_))))
              · replace hw := hw.1 c80
                refine cl_lload_n hG (hx_dq tdX12_askedBy_1 14 rfl) rfl (cl_ldc2 hG ciX12_231 (hx_dq tdX12_askedBy_1 15 rfl) (cl_lcmp hG (hx_dq tdX12_askedBy_1 16 rfl) (cl_if_ne hG 100 (hx_dq tdX12_askedBy_1 17 rfl) rfl (fun c92 => ?_) (fun c92 => ?_))))
                · replace hw := hw.1 c92
                  refine cl_lload_n hG (hx_dq tdX12_askedBy_1 20 rfl) rfl (cl_ldc2 hG ciX12_233 (hx_dq tdX12_askedBy_1 21 rfl) (cl_lcmp hG (hx_dq tdX12_askedBy_1 22 rfl) (cl_if_ne hG 113 (hx_dq tdX12_askedBy_1 23 rfl) rfl (fun c105 => ?_) (fun c105 => ?_))))
                  · replace hw := hw.1 c105
                    exact cl_iconst hG (-1) (hx_dq tdX12_askedBy_1 26 rfl) iconst_m1 (cl_iret hG (hx_dq tdX12_askedBy_1 27 rfl) rfl rfl (hK _ hw) (Nat.le_refl _) (Nat.le_refl _))
                  · replace hw := hw.2 c105
                    exact cl_bipush hG 7 (hx_dq tdX12_askedBy_1 24 rfl) bipush_7 (cl_goto hG 114 (hx_dq tdX12_askedBy_1 25 rfl) rfl (cl_iret hG (hx_dq tdX12_askedBy_1 27 rfl) rfl rfl (hK _ hw) (Nat.le_refl _) (Nat.le_refl _)))
                · replace hw := hw.2 c92
                  exact cl_bipush hG 6 (hx_dq tdX12_askedBy_1 18 rfl) bipush_6 (cl_goto hG 114 (hx_dq tdX12_askedBy_1 19 rfl) rfl (cl_iret hG (hx_dq tdX12_askedBy_1 27 rfl) rfl rfl (hK _ hw) (Nat.le_refl _) (Nat.le_refl _)))
              · replace hw := hw.2 c80
                exact cl_iconst hG 5 (hx_dq tdX12_askedBy_1 12 rfl) iconst_5 (cl_goto hG 114 (hx_dq tdX12_askedBy_1 13 rfl) rfl (cl_iret hG (hx_dq tdX12_askedBy_1 27 rfl) rfl rfl (hK _ hw) (Nat.le_refl _) (Nat.le_refl _)))
            · replace hw := hw.2 c68
              exact cl_iconst hG 4 (hx_dq tdX12_askedBy_1 6 rfl) iconst_4 (cl_goto hG 114 (hx_dq tdX12_askedBy_1 7 rfl) rfl (cl_iret hG (hx_dq tdX12_askedBy_1 27 rfl) rfl rfl (hK _ hw) (Nat.le_refl _) (Nat.le_refl _)))
          · replace hw := hw.2 c56
            exact cl_iconst hG 3 (hx_dq tdX12_askedBy_1 0 rfl) iconst_3 (cl_goto hG 114 (hx_dq tdX12_askedBy_1 1 rfl) rfl (cl_iret hG (hx_dq tdX12_askedBy_1 27 rfl) rfl rfl (hK _ hw) (Nat.le_refl _) (Nat.le_refl _)))
        · replace hw := hw.2 c44
          exact cl_iconst hG 2 (hx_dq tdX12_askedBy_0 26 rfl) iconst_2 (cl_goto hG 114 (hx_dq tdX12_askedBy_0 27 rfl) rfl (cl_iret hG (hx_dq tdX12_askedBy_1 27 rfl) rfl rfl (hK _ hw) (Nat.le_refl _) (Nat.le_refl _)))
      · replace hw := hw.2 c32
        exact cl_iconst hG 1 (hx_dq tdX12_askedBy_0 20 rfl) iconst_1 (cl_goto hG 114 (hx_dq tdX12_askedBy_0 21 rfl) rfl (cl_iret hG (hx_dq tdX12_askedBy_1 27 rfl) rfl rfl (hK _ hw) (Nat.le_refl _) (Nat.le_refl _)))
    · replace hw := hw.2 c20
      exact cl_iconst hG 0 (hx_dq tdX12_askedBy_0 14 rfl) iconst_0 (cl_goto hG 114 (hx_dq tdX12_askedBy_0 15 rfl) rfl (cl_iret hG (hx_dq tdX12_askedBy_1 27 rfl) rfl rfl (hK _ hw) (Nat.le_refl _) (Nat.le_refl _)))
  · replace hw := hw.2 c7
    exact cl_bipush hG 8 (hx_dq tdX12_askedBy_0 6 rfl) bipush_8 (cl_iload_n hG (hx_dq tdX12_askedBy_0 7 rfl) rfl (cl_iadd hG (hx_dq tdX12_askedBy_0 8 rfl) (cl_iret hG (hx_dq tdX12_askedBy_0 9 rfl) rfl rfl (hK _ hw) (Nat.le_refl _) (Nat.le_refl _))))
def sX12_askedBy : hx_ST := fun Λ μ as KK => ∃ (v0 : Int64) (K : Int32 → Prop), as = [.long v0] ∧ wX12_askedBy v0 K ∧ (∀ (r : Int32), K r → KK (some (.int r)) Λ μ)
theorem sX12_askedBy_mk {Λ : hx_L} {μ : hx_M} {KK : hx_KT} {v0 : Int64} {K : Int32 → Prop}  (hw : wX12_askedBy v0 K) (hk : ∀ (r : Int32), K r → KK (some (.int r)) Λ μ) : sX12_askedBy Λ μ [.long v0] KK := ⟨_, _, rfl, hw, hk⟩
theorem conX12_askedBy : hx_Con yX12_askedBy cX12_askedBy 3 (some .int) 2 0 0 sX12_askedBy := by
  refine hx_con_of (by decide +kernel) tokX12 (by decide) ?_ ?_
  · intro Λ μ as KK h
    obtain ⟨v0, K, rfl, hw, hK⟩ := h
    exact Nat.le_of_ble_eq_true rfl
  · intro G KK hG cA Λ μ as h
    obtain ⟨v0, K, rfl, hw, hK⟩ := h
    exact cl_sub hG (hx_le_c rfl (hx_le_n (hx_le_n hx_le_0))) (kX12_askedBy hG cA _ hK hw)
/-! HemLineModel.puts(III)V -/
def tbX12_puts_0 : List (Nat × Instr × Nat) := [(0, .aload_n 0, 1), (1, .getfield 81, 3), (4, .aload_n 0, 1), (5, .getfield 235, 3), (8, .iload_n 1, 1), (9, .iastore, 1), (10, .aload_n 0, 1), (11, .getfield 84, 3), (14, .aload_n 0, 1), (15, .getfield 235, 3), (18, .iload_n 2, 1), (19, .iastore, 1), (20, .aload_n 0, 1), (21, .getfield 87, 3), (24, .aload_n 0, 1), (25, .getfield 235, 3), (28, .iload_n 3, 1), (29, .iastore, 1), (30, .aload_n 0, 1), (31, .dup, 1), (32, .getfield 235, 3), (35, .iconst 1, 1), (36, .iadd, 1), (37, .putfield 235, 3), (40, .return_, 1)]
theorem tdX12_puts_0 : hx_dt cX12_puts tbX12_puts_0 = true := by decide +kernel
def wX12_puts (μ : hx_M) (v1 : Int32) (v2 : Int32) (v3 : Int32) (K : hx_M → Prop) : Prop := vp_in (μ.1 49 22) 4200 ∧ vp_in (μ.1 49 22) 4200 ∧ vp_in (μ.1 49 22) 4200 ∧ ∀ m_4 : hx_M, m_4 = (hx_sI (hx_sI (hx_sI (hx_sI μ 70 ((μ.1 49 22).toNatClampNeg) v1) 71 ((μ.1 49 22).toNatClampNeg) v2) 72 ((μ.1 49 22).toNatClampNeg) v3) 49 22 ((μ.1 49 22) + 1)) → K m_4
set_option maxRecDepth 100000 in
set_option maxHeartbeats 4000000 in
theorem kX12_puts {G : hx_GT} {KK : hx_KT} (hG : hx_K cX12_puts 4 0 0 (none) TbX12 KK G) (cA : hx_CA RX12 cX12_puts 1 0 0 G) {Λ : hx_L} (hF : mF Λ) {μ : hx_M} (v1 : Int32) (v2 : Int32) (v3 : Int32) {K : hx_M → Prop} (hK : ∀ (m : hx_M), K m → KK none Λ m) (hw : wX12_puts μ v1 v2 v3 K) : G Λ μ (0, 0) 0 [some (.ref 49), some (.int v1), some (.int v2), some (.int v3)] [] := by
  unfold wX12_puts at hw
  obtain ⟨i9_1, hw⟩ := hw
  obtain ⟨i19_2, hw⟩ := hw
  obtain ⟨i29_3, hw⟩ := hw
  refine cl_aload_n hG (hx_dq tdX12_puts_0 0 rfl) rfl (cl_getS hG fmX12_81 (hx_dq tdX12_puts_0 1 rfl) (mF_S49 hF) (mF_R49_35 hF) (cl_aload_n hG (hx_dq tdX12_puts_0 2 rfl) rfl (cl_getI hG fmX12_235 (hx_dq tdX12_puts_0 3 rfl) (mF_S49 hF) (cl_iload_n hG (hx_dq tdX12_puts_0 4 rfl) rfl (cl_iast hG (hx_dq tdX12_puts_0 5 rfl) (mF_S70 hF) i9_1 (cl_aload_n hG (hx_dq tdX12_puts_0 6 rfl) rfl (cl_getS hG fmX12_84 (hx_dq tdX12_puts_0 7 rfl) (mF_S49 hF) (mF_R49_36 hF) (cl_aload_n hG (hx_dq tdX12_puts_0 8 rfl) rfl (cl_getI hG fmX12_235 (hx_dq tdX12_puts_0 9 rfl) (mF_S49 hF) (cl_iload_n hG (hx_dq tdX12_puts_0 10 rfl) rfl (cl_iast hG (hx_dq tdX12_puts_0 11 rfl) (mF_S71 hF) i19_2 (cl_aload_n hG (hx_dq tdX12_puts_0 12 rfl) rfl (cl_getS hG fmX12_87 (hx_dq tdX12_puts_0 13 rfl) (mF_S49 hF) (mF_R49_37 hF) (cl_aload_n hG (hx_dq tdX12_puts_0 14 rfl) rfl (cl_getI hG fmX12_235 (hx_dq tdX12_puts_0 15 rfl) (mF_S49 hF) (cl_iload_n hG (hx_dq tdX12_puts_0 16 rfl) rfl (cl_iast hG (hx_dq tdX12_puts_0 17 rfl) (mF_S72 hF) i29_3 (cl_aload_n hG (hx_dq tdX12_puts_0 18 rfl) rfl (cl_dup hG (hx_dq tdX12_puts_0 19 rfl) rfl (cl_getI hG fmX12_235 (hx_dq tdX12_puts_0 20 rfl) (mF_S49 hF) (cl_iconst hG 1 (hx_dq tdX12_puts_0 21 rfl) iconst_1 (cl_iadd hG (hx_dq tdX12_puts_0 22 rfl) (cl_putI hG fmX12_235 (hx_dq tdX12_puts_0 23 rfl) (mF_S49 hF) (cl_nmM (fun m_4 e_4 => ?_)))))))))))))))))))))))))
  replace hw := hw m_4 e_4
  exact cl_vret hG (hx_dq tdX12_puts_0 24 rfl) rfl (hK _ hw) (Nat.le_refl _) (Nat.le_refl _)
def sX12_puts : hx_ST := fun Λ μ as KK => mF Λ ∧ ∃ (v1 : Int32) (v2 : Int32) (v3 : Int32) (K : hx_M → Prop), as = [.ref 49, .int v1, .int v2, .int v3] ∧ wX12_puts μ v1 v2 v3 K ∧ (∀ (m : hx_M), K m → KK none Λ m)
theorem sX12_puts_mk {Λ : hx_L} {μ : hx_M} {KK : hx_KT} {v1 : Int32} {v2 : Int32} {v3 : Int32} {K : hx_M → Prop} (hF : mF Λ) (hw : wX12_puts μ v1 v2 v3 K) (hk : ∀ (m : hx_M), K m → KK none Λ m) : sX12_puts Λ μ [.ref 49, .int v1, .int v2, .int v3] KK := ⟨hF, _, _, _, _, rfl, hw, hk⟩
theorem conX12_puts : hx_Con yX12_puts cX12_puts 4 (none) 1 0 0 sX12_puts := by
  refine hx_con_of (by decide +kernel) tokX12 (by decide) ?_ ?_
  · intro Λ μ as KK h
    obtain ⟨hF, v1, v2, v3, K, rfl, hw, hK⟩ := h
    exact Nat.le_of_ble_eq_true rfl
  · intro G KK hG cA Λ μ as h
    obtain ⟨hF, v1, v2, v3, K, rfl, hw, hK⟩ := h
    exact cl_sub hG (hx_le_c rfl (hx_le_c rfl (hx_le_c rfl (hx_le_c rfl hx_le_0)))) (kX12_puts hG cA hF _ _ _ hK hw)
/-! HemLineModel.opens()Z -/
def tbX12_opens_0 : List (Nat × Instr × Nat) := [(0, .aload_n 0, 1), (1, .getfield 238, 3), (4, .bipush 8, 2), (6, .if_icmp .ne 5, 3), (9, .iconst 0, 1), (10, .ireturn, 1), (11, .aload_n 0, 1), (12, .dup, 1), (13, .getfield 238, 3), (16, .iconst 1, 1), (17, .iadd, 1), (18, .putfield 238, 3), (21, .iconst 1, 1), (22, .ireturn, 1)]
theorem tdX12_opens_0 : hx_dt cX12_opens tbX12_opens_0 = true := by decide +kernel
def wX12_opens (μ : hx_M)  (K : Int32 → hx_M → Prop) : Prop := ((μ.1 49 26) ≠ 8 → (K 1 (hx_sI μ 49 26 ((μ.1 49 26) + 1)))) ∧ ((μ.1 49 26) = 8 → (K 0 μ))
set_option maxRecDepth 100000 in
set_option maxHeartbeats 4000000 in
theorem kX12_opens {G : hx_GT} {KK : hx_KT} (hG : hx_K cX12_opens 1 0 0 (some .boolean) TbX12 KK G) (cA : hx_CA RX12 cX12_opens 1 0 0 G) {Λ : hx_L} (hF : mF Λ) {μ : hx_M}  {K : Int32 → hx_M → Prop} (hK : ∀ (r : Int32) (m : hx_M), K r m → KK (some (.int r)) Λ m) (hw : wX12_opens μ K) : G Λ μ (0, 0) 0 [some (.ref 49)] [] := by
  unfold wX12_opens at hw
  refine cl_aload_n hG (hx_dq tdX12_opens_0 0 rfl) rfl (cl_getI hG fmX12_238 (hx_dq tdX12_opens_0 1 rfl) (mF_S49 hF) (cl_bipush hG 8 (hx_dq tdX12_opens_0 2 rfl) bipush_8 (cl_icmp_ne hG 11 (hx_dq tdX12_opens_0 3 rfl) rfl (fun c6 => ?_) (fun c6 => ?_))))
  · replace hw := hw.1 c6
    exact cl_aload_n hG (hx_dq tdX12_opens_0 6 rfl) rfl (cl_dup hG (hx_dq tdX12_opens_0 7 rfl) rfl (cl_getI hG fmX12_238 (hx_dq tdX12_opens_0 8 rfl) (mF_S49 hF) (cl_iconst hG 1 (hx_dq tdX12_opens_0 9 rfl) iconst_1 (cl_iadd hG (hx_dq tdX12_opens_0 10 rfl) (cl_putI hG fmX12_238 (hx_dq tdX12_opens_0 11 rfl) (mF_S49 hF) (cl_iconst hG 1 (hx_dq tdX12_opens_0 12 rfl) iconst_1 (cl_iret hG (hx_dq tdX12_opens_0 13 rfl) rfl rfl (hK _ _ hw) (Nat.le_refl _) (Nat.le_refl _))))))))
  · replace hw := hw.2 c6
    exact cl_iconst hG 0 (hx_dq tdX12_opens_0 4 rfl) iconst_0 (cl_iret hG (hx_dq tdX12_opens_0 5 rfl) rfl rfl (hK _ _ hw) (Nat.le_refl _) (Nat.le_refl _))
def sX12_opens : hx_ST := fun Λ μ as KK => mF Λ ∧ ∃ (K : Int32 → hx_M → Prop), as = [.ref 49] ∧ wX12_opens μ K ∧ (∀ (r : Int32) (m : hx_M), K r m → KK (some (.int r)) Λ m)
theorem sX12_opens_mk {Λ : hx_L} {μ : hx_M} {KK : hx_KT}  {K : Int32 → hx_M → Prop} (hF : mF Λ) (hw : wX12_opens μ K) (hk : ∀ (r : Int32) (m : hx_M), K r m → KK (some (.int r)) Λ m) : sX12_opens Λ μ [.ref 49] KK := ⟨hF, _, rfl, hw, hk⟩
theorem conX12_opens : hx_Con yX12_opens cX12_opens 1 (some .boolean) 1 0 0 sX12_opens := by
  refine hx_con_of (by decide +kernel) tokX12 (by decide) ?_ ?_
  · intro Λ μ as KK h
    obtain ⟨hF, K, rfl, hw, hK⟩ := h
    exact Nat.le_of_ble_eq_true rfl
  · intro G KK hG cA Λ μ as h
    obtain ⟨hF, K, rfl, hw, hK⟩ := h
    exact cl_sub hG (hx_le_c rfl hx_le_0) (kX12_opens hG cA hF hK hw)
def sX12_single (W1 : hx_M → (Int32 → hx_M → Prop) → Prop) : hx_ST := fun Λ μ as KK => mF Λ ∧ ∃ (K : Int32 → hx_M → Prop), as = [.ref 49] ∧ W1 μ K ∧ (∀ (r : Int32) (m : hx_M), K r m → KK (some (.int r)) Λ m)
theorem sX12_single_mk {W1 : hx_M → (Int32 → hx_M → Prop) → Prop} {Λ : hx_L} {μ : hx_M} {KK : hx_KT}  {K : Int32 → hx_M → Prop} (hF : mF Λ) (hw : W1 μ K) (hk : ∀ (r : Int32) (m : hx_M), K r m → KK (some (.int r)) Λ m) : sX12_single W1 Λ μ [.ref 49] KK := ⟨hF, _, rfl, hw, hk⟩
/-! HemLineModel.all()Z -/
def tbX12_all_0 : List (Nat × Instr × Nat) := [(0, .aload_n 0, 1), (1, .invokevirtual 255, 3), (4, .ifCond .ne 5, 3), (7, .iconst 0, 1), (8, .ireturn, 1), (9, .aload_n 0, 1), (10, .ldc2_w 258, 3), (13, .invokevirtual 247, 3), (16, .ifCond .eq 22, 3), (19, .aload_n 0, 1), (20, .invokevirtual 255, 3), (23, .ifCond .ne 5, 3), (26, .iconst 0, 1), (27, .ireturn, 1), (28, .aload_n 0, 1), (29, .iconst 4, 1), (30, .iconst 0, 1), (31, .iconst 0, 1), (32, .invokevirtual 251, 3), (35, .goto (-26), 3), (38, .iconst 1, 1), (39, .ireturn, 1)]
theorem tdX12_all_0 : hx_dt cX12_all tbX12_all_0 = true := by decide +kernel
theorem caX12_all_247 {G : hx_GT} {W1 : hx_M → (Int32 → hx_M → Prop) → Prop} {h1 : Nat} (hc1 : hx_Con yX12_single cX12_single 3 (some .boolean) h1 0 0 (sX12_single W1)) (h5 : 6 ≤ h1) (cA : hx_CA RX12 cX12_all (h1 + 1) 0 0 G) : hx_CV cX12_all G 0 0 247 12 1 sX12_takes 0 0 := cA.1 conX12_takes rfl rfl ⟨by decide +kernel, by decide +kernel, by decide +kernel⟩ mw_1392 mw_1394 mw_41 mw_97 mw_1395 (by omega) (by decide)
theorem caX12_all_251 {G : hx_GT} {W1 : hx_M → (Int32 → hx_M → Prop) → Prop} {h1 : Nat} (hc1 : hx_Con yX12_single cX12_single 3 (some .boolean) h1 0 0 (sX12_single W1)) (h5 : 6 ≤ h1) (cA : hx_CA RX12 cX12_all (h1 + 1) 0 0 G) : hx_CV cX12_all G 0 0 251 12 3 sX12_puts 0 0 := cA.1 conX12_puts rfl rfl ⟨by decide +kernel, by decide +kernel, by decide +kernel⟩ mw_1437 mw_1439 mw_49 mw_97 mw_1440 (by omega) (by decide)
theorem caX12_all_255 {G : hx_GT} {W1 : hx_M → (Int32 → hx_M → Prop) → Prop} {h1 : Nat} (hc1 : hx_Con yX12_single cX12_single 3 (some .boolean) h1 0 0 (sX12_single W1)) (h5 : 6 ≤ h1) (cA : hx_CA RX12 cX12_all (h1 + 1) 0 0 G) : hx_CV cX12_all G 0 0 255 12 0 (sX12_single W1) 0 0 := cA.1 hc1 rfl rfl ⟨by decide +kernel, by decide +kernel, by decide +kernel⟩ mw_1428 mw_1430 mw_47 mw_97 mw_1431 (by omega) (by decide)
def wX12_all_L9 (W1 : hx_M → (Int32 → hx_M → Prop) → Prop) (K : Int32 → hx_M → Prop)  : Nat → hx_M → Prop
  | 0, _ => False
  | n + 1, μ => wX12_takes μ (6385252 : Int64) (fun r13_4 m13_3 => (r13_4 = 0 → (K 1 m13_3)) ∧ (¬ (r13_4 = 0) → (W1 m13_3 (fun r20_6 m20_5 => (r20_6 ≠ 0 → (wX12_puts m20_5 4 0 0 (fun m32_7 => wX12_all_L9 W1 K n m32_7))) ∧ (r20_6 = 0 → (K 0 m20_5))))))
set_option maxRecDepth 100000 in
set_option maxHeartbeats 4000000 in
theorem kX12_all_L9 {G : hx_GT} {KK : hx_KT} {W1 : hx_M → (Int32 → hx_M → Prop) → Prop} {h1 : Nat} (hG : hx_K cX12_all 1 0 0 (some .boolean) TbX12 KK G) (hc1 : hx_Con yX12_single cX12_single 3 (some .boolean) h1 0 0 (sX12_single W1)) (h5 : 6 ≤ h1) (cA : hx_CA RX12 cX12_all (h1 + 1) 0 0 G) {Λ : hx_L} (hF : mF Λ)   {K : Int32 → hx_M → Prop} (hK : ∀ (r : Int32) (m : hx_M), K r m → KK (some (.int r)) Λ m)  : ∀ (n : Nat) (μ : hx_M), wX12_all_L9 W1 K n μ → G Λ μ (0, 0) 9 [some (.ref 49)] [] := by
  intro n
  induction n with
  | zero =>
    intro μ hw
    exact False.elim (by simpa only [wX12_all_L9] using hw)
  | succ n ih =>
    intro μ hw
    unfold wX12_all_L9 at hw
    refine cl_aload_n hG (hx_dq tdX12_all_0 5 rfl) rfl (cl_ldc2 hG ciX12_258 (hx_dq tdX12_all_0 6 rfl) (cl_callV1 (caX12_all_247 hc1 h5 cA) (hx_dq tdX12_all_0 7 rfl) (mF_S49 hF) (Nat.le_of_ble_eq_true rfl) (Nat.le_refl _) (Nat.le_refl _) (sX12_takes_mk hF hw (fun r13_4 m13_3 hw => ?_))))
    refine cl_if_eq hG 38 (hx_dq tdX12_all_0 8 rfl) rfl (fun c16 => ?_) (fun c16 => ?_)
    · replace hw := hw.1 c16
      exact cl_iconst hG 1 (hx_dq tdX12_all_0 20 rfl) iconst_1 (cl_iret hG (hx_dq tdX12_all_0 21 rfl) rfl rfl (hK _ _ hw) (Nat.le_refl _) (Nat.le_refl _))
    · replace hw := hw.2 c16
      refine cl_aload_n hG (hx_dq tdX12_all_0 9 rfl) rfl (cl_callV0 (caX12_all_255 hc1 h5 cA) (hx_dq tdX12_all_0 10 rfl) (mF_S49 hF) (Nat.le_of_ble_eq_true rfl) (Nat.le_refl _) (Nat.le_refl _) (sX12_single_mk hF hw (fun r20_6 m20_5 hw => ?_)))
      refine cl_if_ne hG 28 (hx_dq tdX12_all_0 11 rfl) rfl (fun c23 => ?_) (fun c23 => ?_)
      · replace hw := hw.1 c23
        refine cl_aload_n hG (hx_dq tdX12_all_0 14 rfl) rfl (cl_iconst hG 4 (hx_dq tdX12_all_0 15 rfl) iconst_4 (cl_iconst hG 0 (hx_dq tdX12_all_0 16 rfl) iconst_0 (cl_iconst hG 0 (hx_dq tdX12_all_0 17 rfl) iconst_0 (cl_callV3 (caX12_all_251 hc1 h5 cA) (hx_dq tdX12_all_0 18 rfl) (mF_S49 hF) (Nat.le_of_ble_eq_true rfl) (Nat.le_refl _) (Nat.le_refl _) (sX12_puts_mk hF hw (fun m32_7 hw => ?_))))))
        exact cl_goto hG 9 (hx_dq tdX12_all_0 19 rfl) rfl (cl_sub hG (hx_le_c rfl hx_le_0) (ih _ hw))
      · replace hw := hw.2 c23
        exact cl_iconst hG 0 (hx_dq tdX12_all_0 12 rfl) iconst_0 (cl_iret hG (hx_dq tdX12_all_0 13 rfl) rfl rfl (hK _ _ hw) (Nat.le_refl _) (Nat.le_refl _))
def wX12_all (W1 : hx_M → (Int32 → hx_M → Prop) → Prop) (μ : hx_M)  (K : Int32 → hx_M → Prop) : Prop := W1 μ (fun r1_2 m1_1 => (r1_2 ≠ 0 → (∃ n9_9, wX12_all_L9 W1 K n9_9 m1_1)) ∧ (r1_2 = 0 → (K 0 m1_1)))
set_option maxRecDepth 100000 in
set_option maxHeartbeats 4000000 in
theorem kX12_all {G : hx_GT} {KK : hx_KT} {W1 : hx_M → (Int32 → hx_M → Prop) → Prop} {h1 : Nat} (hG : hx_K cX12_all 1 0 0 (some .boolean) TbX12 KK G) (hc1 : hx_Con yX12_single cX12_single 3 (some .boolean) h1 0 0 (sX12_single W1)) (h5 : 6 ≤ h1) (cA : hx_CA RX12 cX12_all (h1 + 1) 0 0 G) {Λ : hx_L} (hF : mF Λ) {μ : hx_M}  {K : Int32 → hx_M → Prop} (hK : ∀ (r : Int32) (m : hx_M), K r m → KK (some (.int r)) Λ m) (hw : wX12_all W1 μ K) : G Λ μ (0, 0) 0 [some (.ref 49)] [] := by
  unfold wX12_all at hw
  refine cl_aload_n hG (hx_dq tdX12_all_0 0 rfl) rfl (cl_callV0 (caX12_all_255 hc1 h5 cA) (hx_dq tdX12_all_0 1 rfl) (mF_S49 hF) (Nat.le_of_ble_eq_true rfl) (Nat.le_refl _) (Nat.le_refl _) (sX12_single_mk hF hw (fun r1_2 m1_1 hw => ?_)))
  refine cl_if_ne hG 9 (hx_dq tdX12_all_0 2 rfl) rfl (fun c4 => ?_) (fun c4 => ?_)
  · replace hw := hw.1 c4
    obtain ⟨n_, hw⟩ := hw
    refine cl_sub hG (hx_le_c rfl hx_le_0) (kX12_all_L9 hG hc1 h5 cA hF hK n_ _ hw)
  · replace hw := hw.2 c4
    exact cl_iconst hG 0 (hx_dq tdX12_all_0 3 rfl) iconst_0 (cl_iret hG (hx_dq tdX12_all_0 4 rfl) rfl rfl (hK _ _ hw) (Nat.le_refl _) (Nat.le_refl _))
def sX12_all (W1 : hx_M → (Int32 → hx_M → Prop) → Prop) : hx_ST := fun Λ μ as KK => mF Λ ∧ ∃ (K : Int32 → hx_M → Prop), as = [.ref 49] ∧ wX12_all W1 μ K ∧ (∀ (r : Int32) (m : hx_M), K r m → KK (some (.int r)) Λ m)
theorem sX12_all_mk {W1 : hx_M → (Int32 → hx_M → Prop) → Prop} {Λ : hx_L} {μ : hx_M} {KK : hx_KT}  {K : Int32 → hx_M → Prop} (hF : mF Λ) (hw : wX12_all W1 μ K) (hk : ∀ (r : Int32) (m : hx_M), K r m → KK (some (.int r)) Λ m) : sX12_all W1 Λ μ [.ref 49] KK := ⟨hF, _, rfl, hw, hk⟩
theorem conX12_all {W1 : hx_M → (Int32 → hx_M → Prop) → Prop} {h1 : Nat} (hc1 : hx_Con yX12_single cX12_single 3 (some .boolean) h1 0 0 (sX12_single W1)) (h5 : 6 ≤ h1) : hx_Con yX12_all cX12_all 1 (some .boolean) (h1 + 1) 0 0 (sX12_all W1) := by
  refine hx_con_of (by decide +kernel) tokX12 (by omega) ?_ ?_
  · intro Λ μ as KK h
    obtain ⟨hF, K, rfl, hw, hK⟩ := h
    exact Nat.le_of_ble_eq_true rfl
  · intro G KK hG cA Λ μ as h
    obtain ⟨hF, K, rfl, hw, hK⟩ := h
    exact cl_sub hG (hx_le_c rfl hx_le_0) (kX12_all hG hc1 h5 cA hF hK hw)
/-! HemLineModel.any()Z -/
def tbX12_any_0 : List (Nat × Instr × Nat) := [(0, .aload_n 0, 1), (1, .invokevirtual 241, 3), (4, .ifCond .ne 5, 3), (7, .iconst 0, 1), (8, .ireturn, 1), (9, .aload_n 0, 1), (10, .ldc2_w 245, 3), (13, .invokevirtual 247, 3), (16, .ifCond .eq 22, 3), (19, .aload_n 0, 1), (20, .invokevirtual 241, 3), (23, .ifCond .ne 5, 3), (26, .iconst 0, 1), (27, .ireturn, 1), (28, .aload_n 0, 1), (29, .iconst 3, 1), (30, .iconst 0, 1), (31, .iconst 0, 1), (32, .invokevirtual 251, 3), (35, .goto (-26), 3), (38, .iconst 1, 1), (39, .ireturn, 1)]
theorem tdX12_any_0 : hx_dt cX12_any tbX12_any_0 = true := by decide +kernel
theorem caX12_any_241 {G : hx_GT} {W1 : hx_M → (Int32 → hx_M → Prop) → Prop} {h1 : Nat} (hc1 : hx_Con yX12_single cX12_single 3 (some .boolean) h1 0 0 (sX12_single W1)) (h5 : 6 ≤ h1) (cA : hx_CA RX12 cX12_any (h1 + 2) 0 0 G) : hx_CV cX12_any G 0 0 241 12 0 (sX12_all W1) 0 0 := cA.1 (conX12_all hc1 h5) rfl rfl ⟨by decide +kernel, by decide +kernel, by decide +kernel⟩ mw_1424 mw_1426 mw_46 mw_97 mw_1427 (by omega) (by decide)
theorem caX12_any_247 {G : hx_GT} {W1 : hx_M → (Int32 → hx_M → Prop) → Prop} {h1 : Nat} (hc1 : hx_Con yX12_single cX12_single 3 (some .boolean) h1 0 0 (sX12_single W1)) (h5 : 6 ≤ h1) (cA : hx_CA RX12 cX12_any (h1 + 2) 0 0 G) : hx_CV cX12_any G 0 0 247 12 1 sX12_takes 0 0 := cA.1 conX12_takes rfl rfl ⟨by decide +kernel, by decide +kernel, by decide +kernel⟩ mw_1392 mw_1394 mw_41 mw_97 mw_1395 (by omega) (by decide)
theorem caX12_any_251 {G : hx_GT} {W1 : hx_M → (Int32 → hx_M → Prop) → Prop} {h1 : Nat} (hc1 : hx_Con yX12_single cX12_single 3 (some .boolean) h1 0 0 (sX12_single W1)) (h5 : 6 ≤ h1) (cA : hx_CA RX12 cX12_any (h1 + 2) 0 0 G) : hx_CV cX12_any G 0 0 251 12 3 sX12_puts 0 0 := cA.1 conX12_puts rfl rfl ⟨by decide +kernel, by decide +kernel, by decide +kernel⟩ mw_1437 mw_1439 mw_49 mw_97 mw_1440 (by omega) (by decide)
def wX12_any_L9 (W1 : hx_M → (Int32 → hx_M → Prop) → Prop) (K : Int32 → hx_M → Prop)  : Nat → hx_M → Prop
  | 0, _ => False
  | n + 1, μ => wX12_takes μ (28530 : Int64) (fun r13_4 m13_3 => (r13_4 = 0 → (K 1 m13_3)) ∧ (¬ (r13_4 = 0) → (wX12_all W1 m13_3 (fun r20_6 m20_5 => (r20_6 ≠ 0 → (wX12_puts m20_5 3 0 0 (fun m32_7 => wX12_any_L9 W1 K n m32_7))) ∧ (r20_6 = 0 → (K 0 m20_5))))))
set_option maxRecDepth 100000 in
set_option maxHeartbeats 4000000 in
theorem kX12_any_L9 {G : hx_GT} {KK : hx_KT} {W1 : hx_M → (Int32 → hx_M → Prop) → Prop} {h1 : Nat} (hG : hx_K cX12_any 1 0 0 (some .boolean) TbX12 KK G) (hc1 : hx_Con yX12_single cX12_single 3 (some .boolean) h1 0 0 (sX12_single W1)) (h5 : 6 ≤ h1) (cA : hx_CA RX12 cX12_any (h1 + 2) 0 0 G) {Λ : hx_L} (hF : mF Λ)   {K : Int32 → hx_M → Prop} (hK : ∀ (r : Int32) (m : hx_M), K r m → KK (some (.int r)) Λ m)  : ∀ (n : Nat) (μ : hx_M), wX12_any_L9 W1 K n μ → G Λ μ (0, 0) 9 [some (.ref 49)] [] := by
  intro n
  induction n with
  | zero =>
    intro μ hw
    exact False.elim (by simpa only [wX12_any_L9] using hw)
  | succ n ih =>
    intro μ hw
    unfold wX12_any_L9 at hw
    refine cl_aload_n hG (hx_dq tdX12_any_0 5 rfl) rfl (cl_ldc2 hG ciX12_245 (hx_dq tdX12_any_0 6 rfl) (cl_callV1 (caX12_any_247 hc1 h5 cA) (hx_dq tdX12_any_0 7 rfl) (mF_S49 hF) (Nat.le_of_ble_eq_true rfl) (Nat.le_refl _) (Nat.le_refl _) (sX12_takes_mk hF hw (fun r13_4 m13_3 hw => ?_))))
    refine cl_if_eq hG 38 (hx_dq tdX12_any_0 8 rfl) rfl (fun c16 => ?_) (fun c16 => ?_)
    · replace hw := hw.1 c16
      exact cl_iconst hG 1 (hx_dq tdX12_any_0 20 rfl) iconst_1 (cl_iret hG (hx_dq tdX12_any_0 21 rfl) rfl rfl (hK _ _ hw) (Nat.le_refl _) (Nat.le_refl _))
    · replace hw := hw.2 c16
      refine cl_aload_n hG (hx_dq tdX12_any_0 9 rfl) rfl (cl_callV0 (caX12_any_241 hc1 h5 cA) (hx_dq tdX12_any_0 10 rfl) (mF_S49 hF) (Nat.le_of_ble_eq_true rfl) (Nat.le_refl _) (Nat.le_refl _) (sX12_all_mk hF hw (fun r20_6 m20_5 hw => ?_)))
      refine cl_if_ne hG 28 (hx_dq tdX12_any_0 11 rfl) rfl (fun c23 => ?_) (fun c23 => ?_)
      · replace hw := hw.1 c23
        refine cl_aload_n hG (hx_dq tdX12_any_0 14 rfl) rfl (cl_iconst hG 3 (hx_dq tdX12_any_0 15 rfl) iconst_3 (cl_iconst hG 0 (hx_dq tdX12_any_0 16 rfl) iconst_0 (cl_iconst hG 0 (hx_dq tdX12_any_0 17 rfl) iconst_0 (cl_callV3 (caX12_any_251 hc1 h5 cA) (hx_dq tdX12_any_0 18 rfl) (mF_S49 hF) (Nat.le_of_ble_eq_true rfl) (Nat.le_refl _) (Nat.le_refl _) (sX12_puts_mk hF hw (fun m32_7 hw => ?_))))))
        exact cl_goto hG 9 (hx_dq tdX12_any_0 19 rfl) rfl (cl_sub hG (hx_le_c rfl hx_le_0) (ih _ hw))
      · replace hw := hw.2 c23
        exact cl_iconst hG 0 (hx_dq tdX12_any_0 12 rfl) iconst_0 (cl_iret hG (hx_dq tdX12_any_0 13 rfl) rfl rfl (hK _ _ hw) (Nat.le_refl _) (Nat.le_refl _))
def wX12_any (W1 : hx_M → (Int32 → hx_M → Prop) → Prop) (μ : hx_M)  (K : Int32 → hx_M → Prop) : Prop := wX12_all W1 μ (fun r1_2 m1_1 => (r1_2 ≠ 0 → (∃ n9_9, wX12_any_L9 W1 K n9_9 m1_1)) ∧ (r1_2 = 0 → (K 0 m1_1)))
set_option maxRecDepth 100000 in
set_option maxHeartbeats 4000000 in
theorem kX12_any {G : hx_GT} {KK : hx_KT} {W1 : hx_M → (Int32 → hx_M → Prop) → Prop} {h1 : Nat} (hG : hx_K cX12_any 1 0 0 (some .boolean) TbX12 KK G) (hc1 : hx_Con yX12_single cX12_single 3 (some .boolean) h1 0 0 (sX12_single W1)) (h5 : 6 ≤ h1) (cA : hx_CA RX12 cX12_any (h1 + 2) 0 0 G) {Λ : hx_L} (hF : mF Λ) {μ : hx_M}  {K : Int32 → hx_M → Prop} (hK : ∀ (r : Int32) (m : hx_M), K r m → KK (some (.int r)) Λ m) (hw : wX12_any W1 μ K) : G Λ μ (0, 0) 0 [some (.ref 49)] [] := by
  unfold wX12_any at hw
  refine cl_aload_n hG (hx_dq tdX12_any_0 0 rfl) rfl (cl_callV0 (caX12_any_241 hc1 h5 cA) (hx_dq tdX12_any_0 1 rfl) (mF_S49 hF) (Nat.le_of_ble_eq_true rfl) (Nat.le_refl _) (Nat.le_refl _) (sX12_all_mk hF hw (fun r1_2 m1_1 hw => ?_)))
  refine cl_if_ne hG 9 (hx_dq tdX12_any_0 2 rfl) rfl (fun c4 => ?_) (fun c4 => ?_)
  · replace hw := hw.1 c4
    obtain ⟨n_, hw⟩ := hw
    refine cl_sub hG (hx_le_c rfl hx_le_0) (kX12_any_L9 hG hc1 h5 cA hF hK n_ _ hw)
  · replace hw := hw.2 c4
    exact cl_iconst hG 0 (hx_dq tdX12_any_0 3 rfl) iconst_0 (cl_iret hG (hx_dq tdX12_any_0 4 rfl) rfl rfl (hK _ _ hw) (Nat.le_refl _) (Nat.le_refl _))
def sX12_any (W1 : hx_M → (Int32 → hx_M → Prop) → Prop) : hx_ST := fun Λ μ as KK => mF Λ ∧ ∃ (K : Int32 → hx_M → Prop), as = [.ref 49] ∧ wX12_any W1 μ K ∧ (∀ (r : Int32) (m : hx_M), K r m → KK (some (.int r)) Λ m)
theorem sX12_any_mk {W1 : hx_M → (Int32 → hx_M → Prop) → Prop} {Λ : hx_L} {μ : hx_M} {KK : hx_KT}  {K : Int32 → hx_M → Prop} (hF : mF Λ) (hw : wX12_any W1 μ K) (hk : ∀ (r : Int32) (m : hx_M), K r m → KK (some (.int r)) Λ m) : sX12_any W1 Λ μ [.ref 49] KK := ⟨hF, _, rfl, hw, hk⟩
theorem conX12_any {W1 : hx_M → (Int32 → hx_M → Prop) → Prop} {h1 : Nat} (hc1 : hx_Con yX12_single cX12_single 3 (some .boolean) h1 0 0 (sX12_single W1)) (h5 : 6 ≤ h1) : hx_Con yX12_any cX12_any 1 (some .boolean) (h1 + 2) 0 0 (sX12_any W1) := by
  refine hx_con_of (by decide +kernel) tokX12 (by omega) ?_ ?_
  · intro Λ μ as KK h
    obtain ⟨hF, K, rfl, hw, hK⟩ := h
    exact Nat.le_of_ble_eq_true rfl
  · intro G KK hG cA Λ μ as h
    obtain ⟨hF, K, rfl, hw, hK⟩ := h
    exact cl_sub hG (hx_le_c rfl hx_le_0) (kX12_any hG hc1 h5 cA hF hK hw)
