/-! ===== constructors: MoorGuidesModel, the table ===== -/
def tC12_0 : List CE := [
  (0, .aload_n 0, 0, 0, 0), (1, .invokespecial 1, 0, 1, 0), (4, .aload_n 0, 0, 0, 0), (5, .sipush 900, 0, 0, 900), (8, .newarray .int, 73, 0, 0), (10, .putfield 7, 12, 0, 0),
  (13, .aload_n 0, 0, 0, 0), (14, .sipush 132, 0, 0, 132), (17, .newarray .int, 74, 0, 0), (19, .dup, 0, 0, 0), (20, .iconst 0, 0, 0, 0), (21, .bipush 112, 0, 0, 112),
  (23, .iastore, 0, 0, 0), (24, .dup, 0, 0, 0), (25, .iconst 1, 0, 0, 1), (26, .bipush 97, 0, 0, 97), (28, .iastore, 0, 0, 0), (29, .dup, 0, 0, 0),
  (30, .iconst 2, 0, 0, 2), (31, .bipush 114, 0, 0, 114), (33, .iastore, 0, 0, 0), (34, .dup, 0, 0, 0), (35, .iconst 3, 0, 0, 3), (36, .bipush 116, 0, 0, 116),
  (38, .iastore, 0, 0, 0), (39, .dup, 0, 0, 0), (40, .iconst 4, 0, 0, 4), (41, .bipush 32, 0, 0, 32), (43, .iastore, 0, 0, 0), (44, .dup, 0, 0, 0),
  (45, .iconst 5, 0, 0, 5), (46, .bipush 112, 0, 0, 112), (48, .iastore, 0, 0, 0), (49, .dup, 0, 0, 0), (50, .bipush 6, 0, 0, 6), (52, .bipush 101, 0, 0, 101),
  (54, .iastore, 0, 0, 0), (55, .dup, 0, 0, 0), (56, .bipush 7, 0, 0, 7), (58, .bipush 114, 0, 0, 114), (60, .iastore, 0, 0, 0), (61, .dup, 0, 0, 0),
  (62, .bipush 8, 0, 0, 8), (64, .bipush 115, 0, 0, 115), (66, .iastore, 0, 0, 0), (67, .dup, 0, 0, 0), (68, .bipush 9, 0, 0, 9), (70, .bipush 111, 0, 0, 111)]
set_option maxRecDepth 100000 in
set_option maxHeartbeats 4000000 in
theorem tC12_0_ok : ctok cX12_init RX12 tC12_0 = true := by decide +kernel
set_option maxRecDepth 100000 in
set_option maxHeartbeats 4000000 in
theorem tC12_0_w : ∀ x ∈ tC12_0.flatMap (cwd RX12), x ∈ lwg := wds_of (by decide +kernel)
def tC12_1 : List CE := [
  (72, .iastore, 0, 0, 0), (73, .dup, 0, 0, 0), (74, .bipush 10, 0, 0, 10), (76, .bipush 110, 0, 0, 110), (78, .iastore, 0, 0, 0), (79, .dup, 0, 0, 0),
  (80, .bipush 11, 0, 0, 11), (82, .bipush 32, 0, 0, 32), (84, .iastore, 0, 0, 0), (85, .dup, 0, 0, 0), (86, .bipush 12, 0, 0, 12), (88, .bipush 112, 0, 0, 112),
  (90, .iastore, 0, 0, 0), (91, .dup, 0, 0, 0), (92, .bipush 13, 0, 0, 13), (94, .bipush 97, 0, 0, 97), (96, .iastore, 0, 0, 0), (97, .dup, 0, 0, 0),
  (98, .bipush 14, 0, 0, 14), (100, .bipush 114, 0, 0, 114), (102, .iastore, 0, 0, 0), (103, .dup, 0, 0, 0), (104, .bipush 15, 0, 0, 15), (106, .bipush 116, 0, 0, 116),
  (108, .iastore, 0, 0, 0), (109, .dup, 0, 0, 0), (110, .bipush 16, 0, 0, 16), (112, .bipush 121, 0, 0, 121), (114, .iastore, 0, 0, 0), (115, .dup, 0, 0, 0),
  (116, .bipush 17, 0, 0, 17), (118, .bipush 32, 0, 0, 32), (120, .iastore, 0, 0, 0), (121, .dup, 0, 0, 0), (122, .bipush 18, 0, 0, 18), (124, .bipush 119, 0, 0, 119),
  (126, .iastore, 0, 0, 0), (127, .dup, 0, 0, 0), (128, .bipush 19, 0, 0, 19), (130, .bipush 101, 0, 0, 101), (132, .iastore, 0, 0, 0), (133, .dup, 0, 0, 0),
  (134, .bipush 20, 0, 0, 20), (136, .bipush 97, 0, 0, 97), (138, .iastore, 0, 0, 0), (139, .dup, 0, 0, 0), (140, .bipush 21, 0, 0, 21), (142, .bipush 116, 0, 0, 116)]
set_option maxRecDepth 100000 in
set_option maxHeartbeats 4000000 in
theorem tC12_1_ok : ctok cX12_init RX12 tC12_1 = true := by decide +kernel
set_option maxRecDepth 100000 in
set_option maxHeartbeats 4000000 in
theorem tC12_1_w : ∀ x ∈ tC12_1.flatMap (cwd RX12), x ∈ lwg := wds_of (by decide +kernel)
def tC12_2 : List CE := [
  (144, .iastore, 0, 0, 0), (145, .dup, 0, 0, 0), (146, .bipush 22, 0, 0, 22), (148, .bipush 104, 0, 0, 104), (150, .iastore, 0, 0, 0), (151, .dup, 0, 0, 0),
  (152, .bipush 23, 0, 0, 23), (154, .bipush 101, 0, 0, 101), (156, .iastore, 0, 0, 0), (157, .dup, 0, 0, 0), (158, .bipush 24, 0, 0, 24), (160, .bipush 114, 0, 0, 114),
  (162, .iastore, 0, 0, 0), (163, .dup, 0, 0, 0), (164, .bipush 25, 0, 0, 25), (166, .bipush 32, 0, 0, 32), (168, .iastore, 0, 0, 0), (169, .dup, 0, 0, 0),
  (170, .bipush 26, 0, 0, 26), (172, .bipush 115, 0, 0, 115), (174, .iastore, 0, 0, 0), (175, .dup, 0, 0, 0), (176, .bipush 27, 0, 0, 27), (178, .bipush 108, 0, 0, 108),
  (180, .iastore, 0, 0, 0), (181, .dup, 0, 0, 0), (182, .bipush 28, 0, 0, 28), (184, .bipush 105, 0, 0, 105), (186, .iastore, 0, 0, 0), (187, .dup, 0, 0, 0),
  (188, .bipush 29, 0, 0, 29), (190, .bipush 100, 0, 0, 100), (192, .iastore, 0, 0, 0), (193, .dup, 0, 0, 0), (194, .bipush 30, 0, 0, 30), (196, .bipush 101, 0, 0, 101),
  (198, .iastore, 0, 0, 0), (199, .dup, 0, 0, 0), (200, .bipush 31, 0, 0, 31), (202, .bipush 32, 0, 0, 32), (204, .iastore, 0, 0, 0), (205, .dup, 0, 0, 0),
  (206, .bipush 32, 0, 0, 32), (208, .bipush 110, 0, 0, 110), (210, .iastore, 0, 0, 0), (211, .dup, 0, 0, 0), (212, .bipush 33, 0, 0, 33), (214, .bipush 101, 0, 0, 101)]
set_option maxRecDepth 100000 in
set_option maxHeartbeats 4000000 in
theorem tC12_2_ok : ctok cX12_init RX12 tC12_2 = true := by decide +kernel
set_option maxRecDepth 100000 in
set_option maxHeartbeats 4000000 in
theorem tC12_2_w : ∀ x ∈ tC12_2.flatMap (cwd RX12), x ∈ lwg := wds_of (by decide +kernel)
def tC12_3 : List CE := [
  (216, .iastore, 0, 0, 0), (217, .dup, 0, 0, 0), (218, .bipush 34, 0, 0, 34), (220, .bipush 97, 0, 0, 97), (222, .iastore, 0, 0, 0), (223, .dup, 0, 0, 0),
  (224, .bipush 35, 0, 0, 35), (226, .bipush 114, 0, 0, 114), (228, .iastore, 0, 0, 0), (229, .dup, 0, 0, 0), (230, .bipush 36, 0, 0, 36), (232, .bipush 32, 0, 0, 32),
  (234, .iastore, 0, 0, 0), (235, .dup, 0, 0, 0), (236, .bipush 37, 0, 0, 37), (238, .bipush 115, 0, 0, 115), (240, .iastore, 0, 0, 0), (241, .dup, 0, 0, 0),
  (242, .bipush 38, 0, 0, 38), (244, .bipush 101, 0, 0, 101), (246, .iastore, 0, 0, 0), (247, .dup, 0, 0, 0), (248, .bipush 39, 0, 0, 39), (250, .bipush 101, 0, 0, 101),
  (252, .iastore, 0, 0, 0), (253, .dup, 0, 0, 0), (254, .bipush 40, 0, 0, 40), (256, .bipush 100, 0, 0, 100), (258, .iastore, 0, 0, 0), (259, .dup, 0, 0, 0),
  (260, .bipush 41, 0, 0, 41), (262, .bipush 32, 0, 0, 32), (264, .iastore, 0, 0, 0), (265, .dup, 0, 0, 0), (266, .bipush 42, 0, 0, 42), (268, .bipush 108, 0, 0, 108),
  (270, .iastore, 0, 0, 0), (271, .dup, 0, 0, 0), (272, .bipush 43, 0, 0, 43), (274, .bipush 97, 0, 0, 97), (276, .iastore, 0, 0, 0), (277, .dup, 0, 0, 0),
  (278, .bipush 44, 0, 0, 44), (280, .bipush 119, 0, 0, 119), (282, .iastore, 0, 0, 0), (283, .dup, 0, 0, 0), (284, .bipush 45, 0, 0, 45), (286, .bipush 32, 0, 0, 32)]
set_option maxRecDepth 100000 in
set_option maxHeartbeats 4000000 in
theorem tC12_3_ok : ctok cX12_init RX12 tC12_3 = true := by decide +kernel
set_option maxRecDepth 100000 in
set_option maxHeartbeats 4000000 in
theorem tC12_3_w : ∀ x ∈ tC12_3.flatMap (cwd RX12), x ∈ lwg := wds_of (by decide +kernel)
def tC12_4 : List CE := [
  (288, .iastore, 0, 0, 0), (289, .dup, 0, 0, 0), (290, .bipush 46, 0, 0, 46), (292, .bipush 98, 0, 0, 98), (294, .iastore, 0, 0, 0), (295, .dup, 0, 0, 0),
  (296, .bipush 47, 0, 0, 47), (298, .bipush 101, 0, 0, 101), (300, .iastore, 0, 0, 0), (301, .dup, 0, 0, 0), (302, .bipush 48, 0, 0, 48), (304, .bipush 115, 0, 0, 115),
  (306, .iastore, 0, 0, 0), (307, .dup, 0, 0, 0), (308, .bipush 49, 0, 0, 49), (310, .bipush 105, 0, 0, 105), (312, .iastore, 0, 0, 0), (313, .dup, 0, 0, 0),
  (314, .bipush 50, 0, 0, 50), (316, .bipush 100, 0, 0, 100), (318, .iastore, 0, 0, 0), (319, .dup, 0, 0, 0), (320, .bipush 51, 0, 0, 51), (322, .bipush 101, 0, 0, 101),
  (324, .iastore, 0, 0, 0), (325, .dup, 0, 0, 0), (326, .bipush 52, 0, 0, 52), (328, .bipush 32, 0, 0, 32), (330, .iastore, 0, 0, 0), (331, .dup, 0, 0, 0),
  (332, .bipush 53, 0, 0, 53), (334, .bipush 107, 0, 0, 107), (336, .iastore, 0, 0, 0), (337, .dup, 0, 0, 0), (338, .bipush 54, 0, 0, 54), (340, .bipush 110, 0, 0, 110),
  (342, .iastore, 0, 0, 0), (343, .dup, 0, 0, 0), (344, .bipush 55, 0, 0, 55), (346, .bipush 111, 0, 0, 111), (348, .iastore, 0, 0, 0), (349, .dup, 0, 0, 0),
  (350, .bipush 56, 0, 0, 56), (352, .bipush 119, 0, 0, 119), (354, .iastore, 0, 0, 0), (355, .dup, 0, 0, 0), (356, .bipush 57, 0, 0, 57), (358, .bipush 115, 0, 0, 115)]
set_option maxRecDepth 100000 in
set_option maxHeartbeats 4000000 in
theorem tC12_4_ok : ctok cX12_init RX12 tC12_4 = true := by decide +kernel
set_option maxRecDepth 100000 in
set_option maxHeartbeats 4000000 in
theorem tC12_4_w : ∀ x ∈ tC12_4.flatMap (cwd RX12), x ∈ lwg := wds_of (by decide +kernel)
