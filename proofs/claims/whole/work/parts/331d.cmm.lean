/-! ===== constructors: MoorGuidesModel, the table ===== -/
def tC12_15 : List CE := [
  (1174, .putfield 154, 12, 88, 0), (1177, .aload_n 0, 0, 0, 0), (1178, .bipush 8, 0, 0, 8), (1180, .newarray .int, 120, 0, 0), (1182, .putfield 157, 12, 89, 0), (1185, .aload_n 0, 0, 0, 0),
  (1186, .bipush 12, 0, 0, 12), (1188, .newarray .int, 121, 0, 0), (1190, .putfield 160, 12, 94, 0), (1193, .aload_n 0, 0, 0, 0), (1194, .bipush 12, 0, 0, 12), (1196, .newarray .int, 122, 0, 0),
  (1198, .putfield 163, 12, 95, 0), (1201, .aload_n 0, 0, 0, 0), (1202, .bipush 12, 0, 0, 12), (1204, .newarray .int, 123, 0, 0), (1206, .putfield 166, 12, 96, 0), (1209, .aload_n 0, 0, 0, 0),
  (1210, .bipush 48, 0, 0, 48), (1212, .newarray .int, 124, 0, 0), (1214, .putfield 169, 12, 101, 0), (1217, .aload_n 0, 0, 0, 0), (1218, .bipush 48, 0, 0, 48), (1220, .newarray .boolean, 125, 0, 0),
  (1222, .putfield 172, 12, 102, 0), (1225, .aload_n 0, 0, 0, 0), (1226, .bipush 6, 0, 0, 6), (1228, .newarray .boolean, 126, 0, 0), (1230, .putfield 175, 12, 103, 0), (1233, .aload_n 0, 0, 0, 0),
  (1234, .bipush 6, 0, 0, 6), (1236, .newarray .int, 127, 0, 0), (1238, .putfield 178, 12, 104, 0), (1241, .aload_n 0, 0, 0, 0), (1242, .bipush 6, 0, 0, 6), (1244, .newarray .int, 128, 0, 0),
  (1246, .putfield 181, 12, 105, 0), (1249, .aload_n 0, 0, 0, 0), (1250, .bipush 12, 0, 0, 12), (1252, .newarray .int, 129, 0, 0), (1254, .putfield 184, 12, 106, 0), (1257, .aload_n 0, 0, 0, 0),
  (1258, .bipush 12, 0, 0, 12), (1260, .newarray .int, 130, 0, 0), (1262, .putfield 187, 12, 107, 0), (1265, .aload_n 0, 0, 0, 0), (1266, .invokevirtual 190, 100, 1, 0), (1269, .aload_n 0, 0, 0, 0)]
set_option maxRecDepth 100000 in
set_option maxHeartbeats 4000000 in
theorem tC12_15_ok : ctok cX12_init RX12 tC12_15 = true := by decide +kernel
set_option maxRecDepth 100000 in
set_option maxHeartbeats 4000000 in
theorem tC12_15_w : ∀ x ∈ tC12_15.flatMap (cwd RX12), x ∈ lwg := wds_of (by decide +kernel)
def tC12_16 : List CE := [
  (1270, .invokevirtual 193, 101, 1, 0), (1273, .return_, 0, 0, 0)]
set_option maxRecDepth 100000 in
set_option maxHeartbeats 4000000 in
theorem tC12_16_ok : ctok cX12_init RX12 tC12_16 = true := by decide +kernel
set_option maxRecDepth 100000 in
set_option maxHeartbeats 4000000 in
theorem tC12_16_w : ∀ x ∈ tC12_16.flatMap (cwd RX12), x ∈ lwg := wds_of (by decide +kernel)
