/-! ===== constructors: MoorGuidesModel, the table ===== -/
def tC12_5 : List CE := [
  (360, .iastore, 0, 0, 0), (361, .dup, 0, 0, 0), (362, .bipush 58, 0, 0, 58), (364, .bipush 32, 0, 0, 32), (366, .iastore, 0, 0, 0), (367, .dup, 0, 0, 0),
  (368, .bipush 59, 0, 0, 59), (370, .bipush 99, 0, 0, 99), (372, .iastore, 0, 0, 0), (373, .dup, 0, 0, 0), (374, .bipush 60, 0, 0, 60), (376, .bipush 111, 0, 0, 111),
  (378, .iastore, 0, 0, 0), (379, .dup, 0, 0, 0), (380, .bipush 61, 0, 0, 61), (382, .bipush 115, 0, 0, 115), (384, .iastore, 0, 0, 0), (385, .dup, 0, 0, 0),
  (386, .bipush 62, 0, 0, 62), (388, .bipush 116, 0, 0, 116), (390, .iastore, 0, 0, 0), (391, .dup, 0, 0, 0), (392, .bipush 63, 0, 0, 63), (394, .bipush 32, 0, 0, 32),
  (396, .iastore, 0, 0, 0), (397, .dup, 0, 0, 0), (398, .bipush 64, 0, 0, 64), (400, .bipush 102, 0, 0, 102), (402, .iastore, 0, 0, 0), (403, .dup, 0, 0, 0),
  (404, .bipush 65, 0, 0, 65), (406, .bipush 114, 0, 0, 114), (408, .iastore, 0, 0, 0), (409, .dup, 0, 0, 0), (410, .bipush 66, 0, 0, 66), (412, .bipush 111, 0, 0, 111),
  (414, .iastore, 0, 0, 0), (415, .dup, 0, 0, 0), (416, .bipush 67, 0, 0, 67), (418, .bipush 109, 0, 0, 109), (420, .iastore, 0, 0, 0), (421, .dup, 0, 0, 0),
  (422, .bipush 68, 0, 0, 68), (424, .bipush 32, 0, 0, 32), (426, .iastore, 0, 0, 0), (427, .dup, 0, 0, 0), (428, .bipush 69, 0, 0, 69), (430, .bipush 116, 0, 0, 116)]
set_option maxRecDepth 100000 in
set_option maxHeartbeats 4000000 in
theorem tC12_5_ok : ctok cX12_init RX12 tC12_5 = true := by decide +kernel
set_option maxRecDepth 100000 in
set_option maxHeartbeats 4000000 in
theorem tC12_5_w : ∀ x ∈ tC12_5.flatMap (cwd RX12), x ∈ lwg := wds_of (by decide +kernel)
def tC12_6 : List CE := [
  (432, .iastore, 0, 0, 0), (433, .dup, 0, 0, 0), (434, .bipush 70, 0, 0, 70), (436, .bipush 105, 0, 0, 105), (438, .iastore, 0, 0, 0), (439, .dup, 0, 0, 0),
  (440, .bipush 71, 0, 0, 71), (442, .bipush 108, 0, 0, 108), (444, .iastore, 0, 0, 0), (445, .dup, 0, 0, 0), (446, .bipush 72, 0, 0, 72), (448, .bipush 108, 0, 0, 108),
  (450, .iastore, 0, 0, 0), (451, .dup, 0, 0, 0), (452, .bipush 73, 0, 0, 73), (454, .bipush 32, 0, 0, 32), (456, .iastore, 0, 0, 0), (457, .dup, 0, 0, 0),
  (458, .bipush 74, 0, 0, 74), (460, .bipush 102, 0, 0, 102), (462, .iastore, 0, 0, 0), (463, .dup, 0, 0, 0), (464, .bipush 75, 0, 0, 75), (466, .bipush 111, 0, 0, 111),
  (468, .iastore, 0, 0, 0), (469, .dup, 0, 0, 0), (470, .bipush 76, 0, 0, 76), (472, .bipush 114, 0, 0, 114), (474, .iastore, 0, 0, 0), (475, .dup, 0, 0, 0),
  (476, .bipush 77, 0, 0, 77), (478, .bipush 103, 0, 0, 103), (480, .iastore, 0, 0, 0), (481, .dup, 0, 0, 0), (482, .bipush 78, 0, 0, 78), (484, .bipush 101, 0, 0, 101),
  (486, .iastore, 0, 0, 0), (487, .dup, 0, 0, 0), (488, .bipush 79, 0, 0, 79), (490, .bipush 116, 0, 0, 116), (492, .iastore, 0, 0, 0), (493, .dup, 0, 0, 0),
  (494, .bipush 80, 0, 0, 80), (496, .bipush 32, 0, 0, 32), (498, .iastore, 0, 0, 0), (499, .dup, 0, 0, 0), (500, .bipush 81, 0, 0, 81), (502, .bipush 111, 0, 0, 111)]
set_option maxRecDepth 100000 in
set_option maxHeartbeats 4000000 in
theorem tC12_6_ok : ctok cX12_init RX12 tC12_6 = true := by decide +kernel
set_option maxRecDepth 100000 in
set_option maxHeartbeats 4000000 in
theorem tC12_6_w : ∀ x ∈ tC12_6.flatMap (cwd RX12), x ∈ lwg := wds_of (by decide +kernel)
def tC12_7 : List CE := [
  (504, .iastore, 0, 0, 0), (505, .dup, 0, 0, 0), (506, .bipush 82, 0, 0, 82), (508, .bipush 117, 0, 0, 117), (510, .iastore, 0, 0, 0), (511, .dup, 0, 0, 0),
  (512, .bipush 83, 0, 0, 83), (514, .bipush 116, 0, 0, 116), (516, .iastore, 0, 0, 0), (517, .dup, 0, 0, 0), (518, .bipush 84, 0, 0, 84), (520, .bipush 32, 0, 0, 32),
  (522, .iastore, 0, 0, 0), (523, .dup, 0, 0, 0), (524, .bipush 85, 0, 0, 85), (526, .bipush 112, 0, 0, 112), (528, .iastore, 0, 0, 0), (529, .dup, 0, 0, 0),
  (530, .bipush 86, 0, 0, 86), (532, .bipush 105, 0, 0, 105), (534, .iastore, 0, 0, 0), (535, .dup, 0, 0, 0), (536, .bipush 87, 0, 0, 87), (538, .bipush 99, 0, 0, 99),
  (540, .iastore, 0, 0, 0), (541, .dup, 0, 0, 0), (542, .bipush 88, 0, 0, 88), (544, .bipush 107, 0, 0, 107), (546, .iastore, 0, 0, 0), (547, .dup, 0, 0, 0),
  (548, .bipush 89, 0, 0, 89), (550, .bipush 32, 0, 0, 32), (552, .iastore, 0, 0, 0), (553, .dup, 0, 0, 0), (554, .bipush 90, 0, 0, 90), (556, .bipush 97, 0, 0, 97),
  (558, .iastore, 0, 0, 0), (559, .dup, 0, 0, 0), (560, .bipush 91, 0, 0, 91), (562, .bipush 110, 0, 0, 110), (564, .iastore, 0, 0, 0), (565, .dup, 0, 0, 0),
  (566, .bipush 92, 0, 0, 92), (568, .bipush 100, 0, 0, 100), (570, .iastore, 0, 0, 0), (571, .dup, 0, 0, 0), (572, .bipush 93, 0, 0, 93), (574, .bipush 32, 0, 0, 32)]
set_option maxRecDepth 100000 in
set_option maxHeartbeats 4000000 in
theorem tC12_7_ok : ctok cX12_init RX12 tC12_7 = true := by decide +kernel
set_option maxRecDepth 100000 in
set_option maxHeartbeats 4000000 in
theorem tC12_7_w : ∀ x ∈ tC12_7.flatMap (cwd RX12), x ∈ lwg := wds_of (by decide +kernel)
def tC12_8 : List CE := [
  (576, .iastore, 0, 0, 0), (577, .dup, 0, 0, 0), (578, .bipush 94, 0, 0, 94), (580, .bipush 111, 0, 0, 111), (582, .iastore, 0, 0, 0), (583, .dup, 0, 0, 0),
  (584, .bipush 95, 0, 0, 95), (586, .bipush 114, 0, 0, 114), (588, .iastore, 0, 0, 0), (589, .dup, 0, 0, 0), (590, .bipush 96, 0, 0, 96), (592, .bipush 32, 0, 0, 32),
  (594, .iastore, 0, 0, 0), (595, .dup, 0, 0, 0), (596, .bipush 97, 0, 0, 97), (598, .bipush 110, 0, 0, 110), (600, .iastore, 0, 0, 0), (601, .dup, 0, 0, 0),
  (602, .bipush 98, 0, 0, 98), (604, .bipush 111, 0, 0, 111), (606, .iastore, 0, 0, 0), (607, .dup, 0, 0, 0), (608, .bipush 99, 0, 0, 99), (610, .bipush 116, 0, 0, 116),
  (612, .iastore, 0, 0, 0), (613, .dup, 0, 0, 0), (614, .bipush 100, 0, 0, 100), (616, .bipush 32, 0, 0, 32), (618, .iastore, 0, 0, 0), (619, .dup, 0, 0, 0),
  (620, .bipush 101, 0, 0, 101), (622, .bipush 111, 0, 0, 111), (624, .iastore, 0, 0, 0), (625, .dup, 0, 0, 0), (626, .bipush 102, 0, 0, 102), (628, .bipush 100, 0, 0, 100),
  (630, .iastore, 0, 0, 0), (631, .dup, 0, 0, 0), (632, .bipush 103, 0, 0, 103), (634, .bipush 100, 0, 0, 100), (636, .iastore, 0, 0, 0), (637, .dup, 0, 0, 0),
  (638, .bipush 104, 0, 0, 104), (640, .bipush 115, 0, 0, 115), (642, .iastore, 0, 0, 0), (643, .dup, 0, 0, 0), (644, .bipush 105, 0, 0, 105), (646, .bipush 32, 0, 0, 32)]
set_option maxRecDepth 100000 in
set_option maxHeartbeats 4000000 in
theorem tC12_8_ok : ctok cX12_init RX12 tC12_8 = true := by decide +kernel
set_option maxRecDepth 100000 in
set_option maxHeartbeats 4000000 in
theorem tC12_8_w : ∀ x ∈ tC12_8.flatMap (cwd RX12), x ∈ lwg := wds_of (by decide +kernel)
def tC12_9 : List CE := [
  (648, .iastore, 0, 0, 0), (649, .dup, 0, 0, 0), (650, .bipush 106, 0, 0, 106), (652, .bipush 97, 0, 0, 97), (654, .iastore, 0, 0, 0), (655, .dup, 0, 0, 0),
  (656, .bipush 107, 0, 0, 107), (658, .bipush 114, 0, 0, 114), (660, .iastore, 0, 0, 0), (661, .dup, 0, 0, 0), (662, .bipush 108, 0, 0, 108), (664, .bipush 111, 0, 0, 111),
  (666, .iastore, 0, 0, 0), (667, .dup, 0, 0, 0), (668, .bipush 109, 0, 0, 109), (670, .bipush 117, 0, 0, 117), (672, .iastore, 0, 0, 0), (673, .dup, 0, 0, 0),
  (674, .bipush 110, 0, 0, 110), (676, .bipush 110, 0, 0, 110), (678, .iastore, 0, 0, 0), (679, .dup, 0, 0, 0), (680, .bipush 111, 0, 0, 111), (682, .bipush 100, 0, 0, 100),
  (684, .iastore, 0, 0, 0), (685, .dup, 0, 0, 0), (686, .bipush 112, 0, 0, 112), (688, .bipush 32, 0, 0, 32), (690, .iastore, 0, 0, 0), (691, .dup, 0, 0, 0),
  (692, .bipush 113, 0, 0, 113), (694, .bipush 116, 0, 0, 116), (696, .iastore, 0, 0, 0), (697, .dup, 0, 0, 0), (698, .bipush 114, 0, 0, 114), (700, .bipush 105, 0, 0, 105),
  (702, .iastore, 0, 0, 0), (703, .dup, 0, 0, 0), (704, .bipush 115, 0, 0, 115), (706, .bipush 109, 0, 0, 109), (708, .iastore, 0, 0, 0), (709, .dup, 0, 0, 0),
  (710, .bipush 116, 0, 0, 116), (712, .bipush 101, 0, 0, 101), (714, .iastore, 0, 0, 0), (715, .dup, 0, 0, 0), (716, .bipush 117, 0, 0, 117), (718, .bipush 115, 0, 0, 115)]
set_option maxRecDepth 100000 in
set_option maxHeartbeats 4000000 in
theorem tC12_9_ok : ctok cX12_init RX12 tC12_9 = true := by decide +kernel
set_option maxRecDepth 100000 in
set_option maxHeartbeats 4000000 in
theorem tC12_9_w : ∀ x ∈ tC12_9.flatMap (cwd RX12), x ∈ lwg := wds_of (by decide +kernel)
