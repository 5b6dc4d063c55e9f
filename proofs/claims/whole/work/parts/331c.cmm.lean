/-! ===== constructors: MoorGuidesModel, the table ===== -/
def tC12_10 : List CE := [
  (720, .iastore, 0, 0, 0), (721, .dup, 0, 0, 0), (722, .bipush 118, 0, 0, 118), (724, .bipush 32, 0, 0, 32), (726, .iastore, 0, 0, 0), (727, .dup, 0, 0, 0),
  (728, .bipush 119, 0, 0, 119), (730, .bipush 119, 0, 0, 119), (732, .iastore, 0, 0, 0), (733, .dup, 0, 0, 0), (734, .bipush 120, 0, 0, 120), (736, .bipush 97, 0, 0, 97),
  (738, .iastore, 0, 0, 0), (739, .dup, 0, 0, 0), (740, .bipush 121, 0, 0, 121), (742, .bipush 110, 0, 0, 110), (744, .iastore, 0, 0, 0), (745, .dup, 0, 0, 0),
  (746, .bipush 122, 0, 0, 122), (748, .bipush 116, 0, 0, 116), (750, .iastore, 0, 0, 0), (751, .dup, 0, 0, 0), (752, .bipush 123, 0, 0, 123), (754, .bipush 101, 0, 0, 101),
  (756, .iastore, 0, 0, 0), (757, .dup, 0, 0, 0), (758, .bipush 124, 0, 0, 124), (760, .bipush 100, 0, 0, 100), (762, .iastore, 0, 0, 0), (763, .dup, 0, 0, 0),
  (764, .bipush 125, 0, 0, 125), (766, .bipush 32, 0, 0, 32), (768, .iastore, 0, 0, 0), (769, .dup, 0, 0, 0), (770, .bipush 126, 0, 0, 126), (772, .bipush 110, 0, 0, 110),
  (774, .iastore, 0, 0, 0), (775, .dup, 0, 0, 0), (776, .bipush 127, 0, 0, 127), (778, .bipush 105, 0, 0, 105), (780, .iastore, 0, 0, 0), (781, .dup, 0, 0, 0),
  (782, .sipush 128, 0, 0, 128), (785, .bipush 103, 0, 0, 103), (787, .iastore, 0, 0, 0), (788, .dup, 0, 0, 0), (789, .sipush 129, 0, 0, 129), (792, .bipush 104, 0, 0, 104)]
set_option maxRecDepth 100000 in
set_option maxHeartbeats 4000000 in
theorem tC12_10_ok : ctok cX12_init RX12 tC12_10 = true := by decide +kernel
set_option maxRecDepth 100000 in
set_option maxHeartbeats 4000000 in
theorem tC12_10_w : ∀ x ∈ tC12_10.flatMap (cwd RX12), x ∈ lwg := wds_of (by decide +kernel)
def tC12_11 : List CE := [
  (794, .iastore, 0, 0, 0), (795, .dup, 0, 0, 0), (796, .sipush 130, 0, 0, 130), (799, .bipush 116, 0, 0, 116), (801, .iastore, 0, 0, 0), (802, .dup, 0, 0, 0),
  (803, .sipush 131, 0, 0, 131), (806, .bipush 32, 0, 0, 32), (808, .iastore, 0, 0, 0), (809, .putfield 13, 12, 3, 0), (812, .aload_n 0, 0, 0, 0), (813, .iconst (-1), 0, 0, (-1)),
  (814, .putfield 16, 12, 5, 0), (817, .aload_n 0, 0, 0, 0), (818, .bipush 16, 0, 0, 16), (820, .newarray .int, 75, 0, 0), (822, .putfield 20, 12, 31, 0), (825, .aload_n 0, 0, 0, 0),
  (826, .bipush 16, 0, 0, 16), (828, .newarray .int, 76, 0, 0), (830, .putfield 23, 12, 32, 0), (833, .aload_n 0, 0, 0, 0), (834, .bipush 16, 0, 0, 16), (836, .newarray .int, 77, 0, 0),
  (838, .putfield 26, 12, 33, 0), (841, .aload_n 0, 0, 0, 0), (842, .bipush 12, 0, 0, 12), (844, .newarray .int, 78, 0, 0), (846, .putfield 29, 12, 34, 0), (849, .aload_n 0, 0, 0, 0),
  (850, .bipush 12, 0, 0, 12), (852, .newarray .int, 79, 0, 0), (854, .putfield 32, 12, 35, 0), (857, .aload_n 0, 0, 0, 0), (858, .bipush 12, 0, 0, 12), (860, .newarray .int, 80, 0, 0),
  (862, .putfield 35, 12, 36, 0), (865, .aload_n 0, 0, 0, 0), (866, .bipush 12, 0, 0, 12), (868, .newarray .int, 81, 0, 0), (870, .putfield 38, 12, 37, 0), (873, .aload_n 0, 0, 0, 0),
  (874, .bipush 12, 0, 0, 12), (876, .newarray .int, 82, 0, 0), (878, .putfield 41, 12, 38, 0), (881, .aload_n 0, 0, 0, 0), (882, .bipush 12, 0, 0, 12), (884, .newarray .int, 83, 0, 0)]
set_option maxRecDepth 100000 in
set_option maxHeartbeats 4000000 in
theorem tC12_11_ok : ctok cX12_init RX12 tC12_11 = true := by decide +kernel
set_option maxRecDepth 100000 in
set_option maxHeartbeats 4000000 in
theorem tC12_11_w : ∀ x ∈ tC12_11.flatMap (cwd RX12), x ∈ lwg := wds_of (by decide +kernel)
def tC12_12 : List CE := [
  (886, .putfield 44, 12, 39, 0), (889, .aload_n 0, 0, 0, 0), (890, .bipush 16, 0, 0, 16), (892, .newarray .int, 84, 0, 0), (894, .putfield 47, 12, 40, 0), (897, .aload_n 0, 0, 0, 0),
  (898, .bipush 16, 0, 0, 16), (900, .newarray .int, 85, 0, 0), (902, .putfield 50, 12, 41, 0), (905, .aload_n 0, 0, 0, 0), (906, .bipush 16, 0, 0, 16), (908, .newarray .int, 86, 0, 0),
  (910, .putfield 53, 12, 42, 0), (913, .aload_n 0, 0, 0, 0), (914, .bipush 16, 0, 0, 16), (916, .newarray .int, 87, 0, 0), (918, .putfield 56, 12, 43, 0), (921, .aload_n 0, 0, 0, 0),
  (922, .bipush 28, 0, 0, 28), (924, .newarray .int, 88, 0, 0), (926, .putfield 59, 12, 44, 0), (929, .aload_n 0, 0, 0, 0), (930, .bipush 24, 0, 0, 24), (932, .newarray .int, 89, 0, 0),
  (934, .putfield 62, 12, 45, 0), (937, .aload_n 0, 0, 0, 0), (938, .bipush 24, 0, 0, 24), (940, .newarray .int, 90, 0, 0), (942, .putfield 65, 12, 46, 0), (945, .aload_n 0, 0, 0, 0),
  (946, .iconst 4, 0, 0, 4), (947, .newarray .boolean, 91, 0, 0), (949, .putfield 68, 12, 47, 0), (952, .aload_n 0, 0, 0, 0), (953, .iconst 4, 0, 0, 4), (954, .newarray .int, 92, 0, 0),
  (956, .putfield 72, 12, 48, 0), (959, .aload_n 0, 0, 0, 0), (960, .iconst 4, 0, 0, 4), (961, .newarray .int, 93, 0, 0), (963, .putfield 75, 12, 49, 0), (966, .aload_n 0, 0, 0, 0),
  (967, .sipush 128, 0, 0, 128), (970, .newarray .int, 94, 0, 0), (972, .putfield 78, 12, 50, 0), (975, .aload_n 0, 0, 0, 0), (976, .sipush 128, 0, 0, 128), (979, .newarray .int, 95, 0, 0)]
set_option maxRecDepth 100000 in
set_option maxHeartbeats 4000000 in
theorem tC12_12_ok : ctok cX12_init RX12 tC12_12 = true := by decide +kernel
set_option maxRecDepth 100000 in
set_option maxHeartbeats 4000000 in
theorem tC12_12_w : ∀ x ∈ tC12_12.flatMap (cwd RX12), x ∈ lwg := wds_of (by decide +kernel)
def tC12_13 : List CE := [
  (981, .putfield 81, 12, 51, 0), (984, .aload_n 0, 0, 0, 0), (985, .sipush 128, 0, 0, 128), (988, .newarray .int, 96, 0, 0), (990, .putfield 84, 12, 52, 0), (993, .aload_n 0, 0, 0, 0),
  (994, .bipush 96, 0, 0, 96), (996, .newarray .int, 97, 0, 0), (998, .putfield 87, 12, 53, 0), (1001, .aload_n 0, 0, 0, 0), (1002, .bipush 96, 0, 0, 96), (1004, .newarray .int, 98, 0, 0),
  (1006, .putfield 90, 12, 54, 0), (1009, .aload_n 0, 0, 0, 0), (1010, .bipush 7, 0, 0, 7), (1012, .newarray .long, 99, 0, 0), (1014, .putfield 93, 12, 61, 0), (1017, .aload_n 0, 0, 0, 0),
  (1018, .bipush 64, 0, 0, 64), (1020, .newarray .long, 100, 0, 0), (1022, .putfield 97, 12, 62, 0), (1025, .aload_n 0, 0, 0, 0), (1026, .bipush 96, 0, 0, 96), (1028, .newarray .int, 101, 0, 0),
  (1030, .putfield 100, 12, 66, 0), (1033, .aload_n 0, 0, 0, 0), (1034, .bipush 96, 0, 0, 96), (1036, .newarray .boolean, 102, 0, 0), (1038, .putfield 103, 12, 67, 0), (1041, .aload_n 0, 0, 0, 0),
  (1042, .bipush 12, 0, 0, 12), (1044, .newarray .boolean, 103, 0, 0), (1046, .putfield 106, 12, 68, 0), (1049, .aload_n 0, 0, 0, 0), (1050, .bipush 12, 0, 0, 12), (1052, .newarray .int, 104, 0, 0),
  (1054, .putfield 109, 12, 69, 0), (1057, .aload_n 0, 0, 0, 0), (1058, .bipush 12, 0, 0, 12), (1060, .newarray .int, 105, 0, 0), (1062, .putfield 112, 12, 70, 0), (1065, .aload_n 0, 0, 0, 0),
  (1066, .iconst 2, 0, 0, 2), (1067, .newarray .long, 106, 0, 0), (1069, .putfield 115, 12, 71, 0), (1072, .aload_n 0, 0, 0, 0), (1073, .bipush 64, 0, 0, 64), (1075, .newarray .int, 107, 0, 0)]
set_option maxRecDepth 100000 in
set_option maxHeartbeats 4000000 in
theorem tC12_13_ok : ctok cX12_init RX12 tC12_13 = true := by decide +kernel
set_option maxRecDepth 100000 in
set_option maxHeartbeats 4000000 in
theorem tC12_13_w : ∀ x ∈ tC12_13.flatMap (cwd RX12), x ∈ lwg := wds_of (by decide +kernel)
def tC12_14 : List CE := [
  (1077, .putfield 118, 12, 72, 0), (1080, .aload_n 0, 0, 0, 0), (1081, .bipush 64, 0, 0, 64), (1083, .newarray .int, 108, 0, 0), (1085, .putfield 121, 12, 73, 0), (1088, .aload_n 0, 0, 0, 0),
  (1089, .bipush 60, 0, 0, 60), (1091, .newarray .int, 109, 0, 0), (1093, .putfield 124, 12, 75, 0), (1096, .aload_n 0, 0, 0, 0), (1097, .bipush 6, 0, 0, 6), (1099, .newarray .int, 110, 0, 0),
  (1101, .putfield 127, 12, 76, 0), (1104, .aload_n 0, 0, 0, 0), (1105, .bipush 7, 0, 0, 7), (1107, .newarray .int, 111, 0, 0), (1109, .putfield 130, 12, 77, 0), (1112, .aload_n 0, 0, 0, 0),
  (1113, .bipush 56, 0, 0, 56), (1115, .newarray .int, 112, 0, 0), (1117, .putfield 133, 12, 78, 0), (1120, .aload_n 0, 0, 0, 0), (1121, .bipush 9, 0, 0, 9), (1123, .newarray .int, 113, 0, 0),
  (1125, .putfield 136, 12, 79, 0), (1128, .aload_n 0, 0, 0, 0), (1129, .bipush 9, 0, 0, 9), (1131, .newarray .int, 114, 0, 0), (1133, .putfield 139, 12, 80, 0), (1136, .aload_n 0, 0, 0, 0),
  (1137, .bipush 63, 0, 0, 63), (1139, .newarray .int, 115, 0, 0), (1141, .putfield 142, 12, 81, 0), (1144, .aload_n 0, 0, 0, 0), (1145, .bipush 7, 0, 0, 7), (1147, .newarray .int, 116, 0, 0),
  (1149, .putfield 145, 12, 84, 0), (1152, .aload_n 0, 0, 0, 0), (1153, .bipush 7, 0, 0, 7), (1155, .newarray .int, 117, 0, 0), (1157, .putfield 148, 12, 85, 0), (1160, .aload_n 0, 0, 0, 0),
  (1161, .sipush 576, 0, 0, 576), (1164, .newarray .int, 118, 0, 0), (1166, .putfield 151, 12, 86, 0), (1169, .aload_n 0, 0, 0, 0), (1170, .bipush 8, 0, 0, 8), (1172, .newarray .int, 119, 0, 0)]
set_option maxRecDepth 100000 in
set_option maxHeartbeats 4000000 in
theorem tC12_14_ok : ctok cX12_init RX12 tC12_14 = true := by decide +kernel
set_option maxRecDepth 100000 in
set_option maxHeartbeats 4000000 in
theorem tC12_14_w : ∀ x ∈ tC12_14.flatMap (cwd RX12), x ∈ lwg := wds_of (by decide +kernel)
