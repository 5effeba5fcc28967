section z_walks
theorem zcV_RX8_38 : z_CV RX8 38 yX6_hasRoomFor cX6_hasRoomFor 2 (some .boolean) 1 := ⟨⟨z_k362, z_k363, z_k364, z_k2, z_k365⟩, by decide +kernel, by decide⟩
theorem zcV_RX8_42 : z_CV RX8 42 yX6_put cX6_put 3 none 1 := ⟨⟨z_k366, z_k367, z_k368, z_k2, z_k369⟩, by decide +kernel, by decide⟩
theorem zcV_RX8_66 : z_CV RX8 66 yX7_isKeeper cX7_isKeeper 2 (some .boolean) 1 := ⟨⟨z_k513, z_k514, z_k515, z_k3, z_k516⟩, by decide +kernel, by decide⟩
theorem zcV_RX8_69 : z_CV RX8 69 yX7_askBy cX7_askBy 5 (some .int) 1 := ⟨⟨z_k517, z_k518, z_k519, z_k3, z_k520⟩, by decide +kernel, by decide⟩
theorem zcV_RX8_77 : z_CV RX8 77 yX3_isFull cX3_isFull 2 (some .boolean) 1 := ⟨⟨z_k575, z_k576, z_k577, z_k6, z_k578⟩, by decide +kernel, by decide⟩
theorem zcV_RX8_82 : z_CV RX8 82 yX7_deliverFrom cX7_deliverFrom 4 (some .int) 1 := ⟨⟨z_k579, z_k580, z_k581, z_k3, z_k582⟩, by decide +kernel, by decide⟩
theorem zcV_RX8_94 : z_CV RX8 94 yX3_leastEmpty cX3_leastEmpty 2 (some .int) 0 := ⟨⟨z_k712, z_k538, z_k539, z_k6, z_k540⟩, by decide +kernel, by decide⟩
theorem zcV_RX8_98 : z_CV RX8 98 yX2_copyFrom cX2_copyFrom 2 none 1 := ⟨⟨z_k713, z_k589, z_k590, z_k7, z_k591⟩, by decide +kernel, by decide⟩
theorem zcV_RX8_102 : z_CV RX8 102 yX7_isUp cX7_isUp 2 (some .boolean) 1 := ⟨⟨z_k718, z_k601, z_k602, z_k3, z_k603⟩, by decide +kernel, by decide⟩
theorem zcV_RX8_109 : z_CV RX8 109 yX1_goDown cX1_goDown 1 none 0 := ⟨⟨z_k719, z_k720, z_k721, z_k4, z_k722⟩, by decide +kernel, by decide⟩
theorem zcV_RX8_118 : z_CV RX8 118 yX7_isLeading cX7_isLeading 2 (some .boolean) 1 := ⟨⟨z_k731, z_k732, z_k733, z_k3, z_k734⟩, by decide +kernel, by decide⟩
theorem zcS_RX8_121 : z_CS RX8 121 yX8_canBe cX8_canBe 4 (some .boolean) 4 := ⟨⟨z_k735, z_k736, z_k1, z_k737⟩, by decide +kernel, by decide⟩
theorem zcV_RX8_125 : z_CV RX8 125 yX7_addCommand cX7_addCommand 9 (some .int) 6 := ⟨⟨z_k743, z_k744, z_k745, z_k3, z_k746⟩, by decide +kernel, by decide⟩
theorem zcV_RX8_129 : z_CV RX8 129 yX7_sendOn cX7_sendOn 6 (some .int) 2 := ⟨⟨z_k751, z_k752, z_k753, z_k3, z_k754⟩, by decide +kernel, by decide⟩
theorem zcV_RX8_139 : z_CV RX8 139 yX1_foldUpTo cX1_foldUpTo 4 none 1 := ⟨⟨z_k769, z_k770, z_k771, z_k4, z_k772⟩, by decide +kernel, by decide⟩
theorem zcS_RX8_145 : z_CS RX8 145 yX8_isCell cX8_isCell 1 (some .boolean) 1 := ⟨⟨z_k742, z_k648, z_k1, z_k649⟩, by decide +kernel, by decide⟩
theorem zcV_RX8_148 : z_CV RX8 148 yX7_beginRead cX7_beginRead 4 (some .int) 2 := ⟨⟨z_k777, z_k778, z_k779, z_k3, z_k780⟩, by decide +kernel, by decide⟩
theorem zcV_RX8_155 : z_CV RX8 155 yX4_isThere cX4_isThere 2 (some .boolean) 1 := ⟨⟨z_k789, z_k790, z_k791, z_k8, z_k792⟩, by decide +kernel, by decide⟩
theorem zcV_RX8_160 : z_CV RX8 160 yX7_isGood cX7_isGood 5 (some .boolean) 1 := ⟨⟨z_k793, z_k794, z_k795, z_k3, z_k796⟩, by decide +kernel, by decide⟩
theorem zcV_RX8_163 : z_CV RX8 163 yX7_readCell cX7_readCell 3 (some .int) 1 := ⟨⟨z_k798, z_k799, z_k800, z_k3, z_k801⟩, by decide +kernel, by decide⟩
theorem zcV_RX8_167 : z_CV RX8 167 yX1_tell cX1_tell 2 (some .int) 1 := ⟨⟨z_k813, z_k814, z_k815, z_k4, z_k816⟩, by decide +kernel, by decide⟩
theorem zcV_RX8_170 : z_CV RX8 170 yX1_part cX1_part 4 (some .int) 2 := ⟨⟨z_k821, z_k822, z_k823, z_k4, z_k824⟩, by decide +kernel, by decide⟩
theorem zcV_RX8_177 : z_CV RX8 177 yX5_cellAt cX5_cellAt 2 (some .int) 1 := ⟨⟨z_k830, z_k803, z_k804, z_k5, z_k805⟩, by decide +kernel, by decide⟩
theorem zcS_RX8_182 : z_CS RX8 182 yX8_isClient cX8_isClient 1 (some .boolean) 1 := ⟨⟨z_k738, z_k645, z_k1, z_k646⟩, by decide +kernel, by decide⟩
theorem zcV_RX8_185 : z_CV RX8 185 yX5_latestOf cX5_latestOf 2 (some .int) 1 := ⟨⟨z_k835, z_k836, z_k837, z_k5, z_k838⟩, by decide +kernel, by decide⟩
theorem zcV_RX8_188 : z_CV RX8 188 yX5_answerOf cX5_answerOf 2 (some .int) 1 := ⟨⟨z_k839, z_k840, z_k841, z_k5, z_k842⟩, by decide +kernel, by decide⟩
theorem zcV_RX8_201 : z_CV RX8 201 yX2_tell cX2_tell 2 (some .int) 1 := ⟨⟨z_k851, z_k852, z_k853, z_k7, z_k854⟩, by decide +kernel, by decide⟩
theorem zcS_RX8_202 : z_CS RX8 202 yX8_isWhat cX8_isWhat 1 (some .boolean) 1 := ⟨⟨z_k739, z_k740, z_k1, z_k741⟩, by decide +kernel, by decide⟩
theorem zcV_RX8_205 : z_CV RX8 205 yX0_isFull cX0_isFull 1 (some .boolean) 0 := ⟨⟨z_k859, z_k860, z_k861, z_k9, z_k862⟩, by decide +kernel, by decide⟩
theorem zcV_RX8_208 : z_CV RX8 208 yX0_add cX0_add 6 (some .int) 5 := ⟨⟨z_k863, z_k864, z_k865, z_k9, z_k866⟩, by decide +kernel, by decide⟩
theorem zcV_RX8_212 : z_CV RX8 212 yX0_clear cX0_clear 2 (some .int) 0 := ⟨⟨z_k872, z_k873, z_k874, z_k9, z_k875⟩, by decide +kernel, by decide⟩
theorem zcV_RX8_230 : z_CV RX8 230 yX3_countFull cX3_countFull 3 (some .int) 0 := ⟨⟨z_k922, z_k522, z_k523, z_k6, z_k524⟩, by decide +kernel, by decide⟩
theorem zcV_RX8_236 : z_CV RX8 236 yX7_most cX7_most 1 (some .int) 0 := ⟨⟨z_k931, z_k564, z_k565, z_k3, z_k566⟩, by decide +kernel, by decide⟩
theorem zcV_RX8_240 : z_CV RX8 240 yX7_countUp cX7_countUp 3 (some .int) 0 := ⟨⟨z_k932, z_k933, z_k934, z_k3, z_k935⟩, by decide +kernel, by decide⟩
theorem zcV_RX0_37 : z_CV RX0 37 yX0_isFull cX0_isFull 1 (some .boolean) 0 := ⟨⟨z_k867, z_k860, z_k861, z_k9, z_k862⟩, by decide +kernel, by decide⟩
theorem zcV_RX1_63 : z_CV RX1 63 yX5_clear cX5_clear 2 none 0 := ⟨⟨z_k493, z_k494, z_k495, z_k5, z_k496⟩, by decide +kernel, by decide⟩
theorem zcV_RX1_66 : z_CV RX1 66 yX1_follow cX1_follow 1 none 0 := ⟨⟨z_k497, z_k498, z_k499, z_k4, z_k500⟩, by decide +kernel, by decide⟩
theorem zcV_RX1_84 : z_CV RX1 84 yX5_copyFrom cX5_copyFrom 2 none 1 := ⟨⟨z_k676, z_k596, z_k597, z_k5, z_k598⟩, by decide +kernel, by decide⟩
theorem zcV_RX1_88 : z_CV RX1 88 yX1_placeOf cX1_placeOf 2 (some .int) 1 := ⟨⟨z_k549, z_k550, z_k551, z_k4, z_k552⟩, by decide +kernel, by decide⟩
theorem zcV_RX1_93 : z_CV RX1 93 yX1_hasRoom cX1_hasRoom 1 (some .boolean) 0 := ⟨⟨z_k699, z_k700, z_k701, z_k4, z_k702⟩, by decide +kernel, by decide⟩
theorem zcV_RX1_106 : z_CV RX1 106 yX5_take cX5_take 7 none 2 := ⟨⟨z_k640, z_k641, z_k642, z_k5, z_k643⟩, by decide +kernel, by decide⟩
theorem zcV_RX1_110 : z_CV RX1 110 yX1_termOf cX1_termOf 3 (some .int) 1 := ⟨⟨z_k670, z_k546, z_k547, z_k4, z_k548⟩, by decide +kernel, by decide⟩
theorem zcV_RX1_113 : z_CV RX1 113 yX1_forgetUpTo cX1_forgetUpTo 3 none 1 := ⟨⟨z_k671, z_k672, z_k673, z_k4, z_k674⟩, by decide +kernel, by decide⟩
theorem zcV_RX2_59 : z_CV RX2 59 yX5_copyFrom cX5_copyFrom 2 none 1 := ⟨⟨z_k595, z_k596, z_k597, z_k5, z_k598⟩, by decide +kernel, by decide⟩
theorem zcV_RX2_74 : z_CV RX2 74 yX1_termOf cX1_termOf 3 (some .int) 1 := ⟨⟨z_k763, z_k546, z_k547, z_k4, z_k548⟩, by decide +kernel, by decide⟩
theorem zcV_RX2_79 : z_CV RX2 79 yX1_placeOf cX1_placeOf 2 (some .int) 1 := ⟨⟨z_k764, z_k550, z_k551, z_k4, z_k552⟩, by decide +kernel, by decide⟩
theorem zcV_RX3_26 : z_CV RX3 26 yX2_copyFrom cX2_copyFrom 2 none 1 := ⟨⟨z_k588, z_k589, z_k590, z_k7, z_k591⟩, by decide +kernel, by decide⟩
theorem zcV_RX3_30 : z_CV RX3 30 yX3_isFull cX3_isFull 2 (some .boolean) 1 := ⟨⟨z_k587, z_k576, z_k577, z_k6, z_k578⟩, by decide +kernel, by decide⟩
theorem zcN_RX5_21 : z_CN RX5 21 yX8_isCell RX8 cX8_isCell 1 (some .boolean) 1 := ⟨⟨z_n647, z_k648, z_k1, z_k649⟩, by decide +kernel, by decide⟩
theorem zcN_RX5_26 : z_CN RX5 26 yX8_isClient RX8 cX8_isClient 1 (some .boolean) 1 := ⟨⟨z_n644, z_k645, z_k1, z_k646⟩, by decide +kernel, by decide⟩
theorem zcN_RX5_29 : z_CN RX5 29 yX8_cellBehind RX8 cX8_cellBehind 3 (some .int) 3 := ⟨⟨z_n650, z_k651, z_k1, z_k652⟩, by decide +kernel, by decide⟩
theorem zcN_RX5_33 : z_CN RX5 33 yX8_answerTo RX8 cX8_answerTo 3 (some .int) 3 := ⟨⟨z_n654, z_k655, z_k1, z_k656⟩, by decide +kernel, by decide⟩
theorem zcV_RX6_50 : z_CV RX6 50 yX6_blame cX6_blame 3 none 2 := ⟨⟨z_k402, z_k403, z_k404, z_k2, z_k405⟩, by decide +kernel, by decide⟩
theorem zcV_RX6_58 : z_CV RX6 58 yX6_byteAt cX6_byteAt 2 (some .int) 1 := ⟨⟨z_k390, z_k391, z_k392, z_k2, z_k393⟩, by decide +kernel, by decide⟩
theorem zcV_RX6_64 : z_CV RX6 64 yX6_isBlank cX6_isBlank 3 (some .boolean) 1 := ⟨⟨z_k386, z_k387, z_k388, z_k2, z_k389⟩, by decide +kernel, by decide⟩
theorem zcV_RX6_68 : z_CV RX6 68 yX6_endOfLetters cX6_endOfLetters 3 (some .int) 1 := ⟨⟨z_k394, z_k395, z_k396, z_k2, z_k397⟩, by decide +kernel, by decide⟩
theorem zcV_RX6_71 : z_CV RX6 71 yX6_isLetter cX6_isLetter 3 (some .boolean) 1 := ⟨⟨z_k398, z_k399, z_k400, z_k2, z_k401⟩, by decide +kernel, by decide⟩
theorem zcV_RX6_89 : z_CV RX6 89 yX6_tokenIsName cX6_tokenIsName 4 (some .boolean) 1 := ⟨⟨z_k468, z_k469, z_k470, z_k2, z_k471⟩, by decide +kernel, by decide⟩
theorem zcV_RX7_47 : z_CV RX7 47 yX6_countVoters cX6_countVoters 3 (some .int) 0 := ⟨⟨z_k488, z_k478, z_k479, z_k2, z_k480⟩, by decide +kernel, by decide⟩
theorem zcV_RX7_58 : z_CV RX7 58 yX1_begin cX1_begin 2 none 1 := ⟨⟨z_k489, z_k490, z_k491, z_k4, z_k492⟩, by decide +kernel, by decide⟩
theorem zcV_RX7_62 : z_CV RX7 62 yX3_clear cX3_clear 2 none 0 := ⟨⟨z_k501, z_k502, z_k503, z_k6, z_k504⟩, by decide +kernel, by decide⟩
theorem zcV_RX7_68 : z_CV RX7 68 yX1_copyFrom cX1_copyFrom 2 none 1 := ⟨⟨z_k909, z_k910, z_k911, z_k4, z_k912⟩, by decide +kernel, by decide⟩
theorem zcV_RX7_72 : z_CV RX7 72 yX3_copyFrom cX3_copyFrom 3 none 1 := ⟨⟨z_k913, z_k914, z_k915, z_k6, z_k916⟩, by decide +kernel, by decide⟩
theorem zcV_RX7_75 : z_CV RX7 75 yX4_copyFrom cX4_copyFrom 2 none 1 := ⟨⟨z_k917, z_k918, z_k919, z_k8, z_k920⟩, by decide +kernel, by decide⟩
theorem zcV_RX7_78 : z_CV RX7 78 yX7_isKeeper cX7_isKeeper 2 (some .boolean) 1 := ⟨⟨z_k604, z_k514, z_k515, z_k3, z_k516⟩, by decide +kernel, by decide⟩
theorem zcV_RX7_86 : z_CV RX7 86 yX7_isUp cX7_isUp 2 (some .boolean) 1 := ⟨⟨z_k600, z_k601, z_k602, z_k3, z_k603⟩, by decide +kernel, by decide⟩
theorem zcV_RX7_92 : z_CV RX7 92 yX3_countFull cX3_countFull 3 (some .int) 0 := ⟨⟨z_k521, z_k522, z_k523, z_k6, z_k524⟩, by decide +kernel, by decide⟩
theorem zcV_RX7_101 : z_CV RX7 101 yX1_enterTerm cX1_enterTerm 2 none 1 := ⟨⟨z_k525, z_k526, z_k527, z_k4, z_k528⟩, by decide +kernel, by decide⟩
theorem zcV_RX7_111 : z_CV RX7 111 yX7_sendAsk cX7_sendAsk 5 none 2 := ⟨⟨z_k529, z_k530, z_k531, z_k3, z_k532⟩, by decide +kernel, by decide⟩
theorem zcV_RX7_115 : z_CV RX7 115 yX7_leadIfChosen cX7_leadIfChosen 2 none 1 := ⟨⟨z_k553, z_k554, z_k555, z_k3, z_k556⟩, by decide +kernel, by decide⟩
theorem zcV_RX7_118 : z_CV RX7 118 yX7_send cX7_send 6 (some (.object "LogKeepers$Letter")) 3 := ⟨⟨z_k533, z_k534, z_k535, z_k3, z_k536⟩, by decide +kernel, by decide⟩
theorem zcV_RX7_130 : z_CV RX7 130 yX1_termOf cX1_termOf 3 (some .int) 1 := ⟨⟨z_k545, z_k546, z_k547, z_k4, z_k548⟩, by decide +kernel, by decide⟩
theorem zcS_RX7_137 : z_CS RX7 137 yJ6_bitCount_0f7a4 cJ6_bitCount_0f7a4 1 (some .int) 1 := ⟨⟨z_k557, z_k558, z_k16, z_k559⟩, by decide +kernel, by decide⟩
theorem zcV_RX7_142 : z_CV RX7 142 yX7_most cX7_most 1 (some .int) 0 := ⟨⟨z_k563, z_k564, z_k565, z_k3, z_k566⟩, by decide +kernel, by decide⟩
theorem zcV_RX7_145 : z_CV RX7 145 yX1_lead cX1_lead 2 none 0 := ⟨⟨z_k567, z_k568, z_k569, z_k4, z_k570⟩, by decide +kernel, by decide⟩
theorem zcV_RX7_148 : z_CV RX7 148 yX3_leastEmpty cX3_leastEmpty 2 (some .int) 0 := ⟨⟨z_k537, z_k538, z_k539, z_k6, z_k540⟩, by decide +kernel, by decide⟩
theorem zcV_RX7_155 : z_CV RX7 155 yX2_write cX2_write 5 none 4 := ⟨⟨z_k541, z_k542, z_k543, z_k7, z_k544⟩, by decide +kernel, by decide⟩
theorem zcV_RX7_159 : z_CV RX7 159 yX1_grow cX1_grow 1 (some .int) 0 := ⟨⟨z_k695, z_k696, z_k697, z_k4, z_k698⟩, by decide +kernel, by decide⟩
theorem zcV_RX7_166 : z_CV RX7 166 yX7_settle cX7_settle 4 none 1 := ⟨⟨z_k628, z_k629, z_k630, z_k3, z_k631⟩, by decide +kernel, by decide⟩
theorem zcV_RX7_172 : z_CV RX7 172 yX7_countSure cX7_countSure 5 (some .int) 2 := ⟨⟨z_k632, z_k633, z_k634, z_k3, z_k635⟩, by decide +kernel, by decide⟩
theorem zcV_RX7_175 : z_CV RX7 175 yX1_advanceTo cX1_advanceTo 2 none 1 := ⟨⟨z_k636, z_k637, z_k638, z_k4, z_k639⟩, by decide +kernel, by decide⟩
theorem zcV_RX7_194 : z_CV RX7 194 yX2_takeFold cX2_takeFold 2 none 1 := ⟨⟨z_k755, z_k756, z_k757, z_k7, z_k758⟩, by decide +kernel, by decide⟩
theorem zcV_RX7_197 : z_CV RX7 197 yX2_takeEntries cX2_takeEntries 5 none 2 := ⟨⟨z_k759, z_k760, z_k761, z_k7, z_k762⟩, by decide +kernel, by decide⟩
theorem zcV_RX7_201 : z_CV RX7 201 yX3_takeOut cX3_takeOut 2 (some (.object "LogKeepers$Letter")) 1 := ⟨⟨z_k583, z_k584, z_k585, z_k6, z_k586⟩, by decide +kernel, by decide⟩
theorem zcV_RX7_212 : z_CV RX7 212 yX7_takeAsk cX7_takeAsk 5 (some .int) 2 := ⟨⟨z_k605, z_k606, z_k607, z_k3, z_k608⟩, by decide +kernel, by decide⟩
theorem zcV_RX7_216 : z_CV RX7 216 yX7_takeBallot cX7_takeBallot 3 (some .int) 2 := ⟨⟨z_k617, z_k618, z_k619, z_k3, z_k620⟩, by decide +kernel, by decide⟩
theorem zcV_RX7_219 : z_CV RX7 219 yX7_takeAnswer cX7_takeAnswer 4 (some .int) 2 := ⟨⟨z_k621, z_k622, z_k623, z_k3, z_k624⟩, by decide +kernel, by decide⟩
theorem zcV_RX7_222 : z_CV RX7 222 yX7_takeFromLeader cX7_takeFromLeader 3 (some .int) 2 := ⟨⟨z_k657, z_k658, z_k659, z_k3, z_k660⟩, by decide +kernel, by decide⟩
theorem zcV_RX7_228 : z_CV RX7 228 yX7_isAhead cX7_isAhead 4 (some .boolean) 2 := ⟨⟨z_k609, z_k610, z_k611, z_k3, z_k612⟩, by decide +kernel, by decide⟩
theorem zcV_RX7_232 : z_CV RX7 232 yX7_reply cX7_reply 6 (some .int) 4 := ⟨⟨z_k613, z_k614, z_k615, z_k3, z_k616⟩, by decide +kernel, by decide⟩
theorem zcV_RX7_245 : z_CV RX7 245 yX1_follow cX1_follow 1 none 0 := ⟨⟨z_k661, z_k498, z_k499, z_k4, z_k500⟩, by decide +kernel, by decide⟩
theorem zcV_RX7_248 : z_CV RX7 248 yX7_takeFolding cX7_takeFolding 3 (some .int) 2 := ⟨⟨z_k662, z_k663, z_k664, z_k3, z_k665⟩, by decide +kernel, by decide⟩
theorem zcV_RX7_251 : z_CV RX7 251 yX7_takeAppend cX7_takeAppend 5 (some .int) 2 := ⟨⟨z_k677, z_k678, z_k679, z_k3, z_k680⟩, by decide +kernel, by decide⟩
theorem zcV_RX7_258 : z_CV RX7 258 yX1_takeFold cX1_takeFold 4 none 3 := ⟨⟨z_k666, z_k667, z_k668, z_k4, z_k669⟩, by decide +kernel, by decide⟩
theorem zcV_RX7_261 : z_CV RX7 261 yX1_cutFrom cX1_cutFrom 2 none 1 := ⟨⟨z_k681, z_k682, z_k683, z_k4, z_k684⟩, by decide +kernel, by decide⟩
theorem zcV_RX7_264 : z_CV RX7 264 yX7_takeEntries cX7_takeEntries 7 (some .int) 2 := ⟨⟨z_k687, z_k688, z_k689, z_k3, z_k690⟩, by decide +kernel, by decide⟩
theorem zcV_RX7_268 : z_CV RX7 268 yX2_termAt cX2_termAt 2 (some .int) 1 := ⟨⟨z_k691, z_k692, z_k693, z_k7, z_k694⟩, by decide +kernel, by decide⟩
theorem zcV_RX7_278 : z_CV RX7 278 yX4_add cX4_add 5 (some .int) 4 := ⟨⟨z_k781, z_k782, z_k783, z_k8, z_k784⟩, by decide +kernel, by decide⟩
theorem zcV_RX7_285 : z_CV RX7 285 yX7_isLeading cX7_isLeading 2 (some .boolean) 1 := ⟨⟨z_k797, z_k732, z_k733, z_k3, z_k734⟩, by decide +kernel, by decide⟩
theorem zcV_RX7_298 : z_CV RX7 298 yX5_cellAt cX5_cellAt 2 (some .int) 1 := ⟨⟨z_k802, z_k803, z_k804, z_k5, z_k805⟩, by decide +kernel, by decide⟩
variable {p : Program} {l : Launch} {e : Env} {s : State} {m : MethodId} {args : Array Value} {below : List Frame} {meth : Method} {c : Code} {E : zE} {A : Nat → Prop}

def fJ_bitCount (x0 : Int32) (σ : zS) : Option (Int32 × zS) :=
  z_let (x0 - (((x0.toUInt32 >>> ((1 : Int32).toUInt32 &&& Int32.toUInt32 31)).toInt32) &&& 1431655765)) (fun y1 =>
  z_let ((y1 &&& 858993459) + (((y1.toUInt32 >>> ((2 : Int32).toUInt32 &&& Int32.toUInt32 31)).toInt32) &&& 858993459)) (fun y2 =>
  z_let ((y2 + ((y2.toUInt32 >>> ((4 : Int32).toUInt32 &&& Int32.toUInt32 31)).toInt32)) &&& 252645135) (fun y3 =>
  z_let (y3 + ((y3.toUInt32 >>> ((8 : Int32).toUInt32 &&& Int32.toUInt32 31)).toInt32)) (fun y4 =>
  z_let (y4 + ((y4.toUInt32 >>> ((16 : Int32).toUInt32 &&& Int32.toUInt32 31)).toInt32)) (fun y5 =>
  some (y5 &&& 63, σ))))))
set_option maxHeartbeats 4000000 in
set_option maxRecDepth 20000 in
theorem wJ_bitCount {x0 : Int32} (C : z_C E RJ6 cJ6_bitCount_0f7a4 1 A p s m args meth c) (hr : meth.sig.returnType = (some .int)) {ro : Int32} {σo : zS} (σ : zS) (H : Heap) (locs : List Loc) (ls : Array Slot) (hs : z_H E A s σ H locs) (hl : lv_has ls 1 [(0, .int x0)]) (hf : fJ_bitCount x0 σ = some (ro, σo)) : W p l e (z_rm 1) s m args below meth c H locs 0 0 (MQ below (z_QI E ro σo A) args s 0 0 A) (F0 m 0 ls []) := by
  have hx := C.1
  have hb := C.2.1
  unfold fJ_bitCount at hf
  refine lv_iload_n hx hb dJ6_bitCount_0f7a4_0 rfl (lv_at hl 0 rfl) ?_
  refine lv_iload_n hx hb dJ6_bitCount_0f7a4_1 rfl (lv_at hl 0 rfl) ?_
  refine lv_iconst (v := 1) hx hb dJ6_bitCount_0f7a4_2 (by decide) ?_
  refine lv_iushr hx hb dJ6_bitCount_0f7a4_3 rfl ?_
  refine lv_ldcw (v := 1431655765) hx hb C.2.2.2.1 (C.2.2.2.2.1 _ z_k560) dJ6_bitCount_0f7a4_4 ?_
  refine lv_iand hx hb dJ6_bitCount_0f7a4_7 ?_
  refine lv_isub hx hb dJ6_bitCount_0f7a4_8 ?_
  refine lv_topi (fun y1 e_y1 => ?_)
  have hf := z_lte e_y1 hf
  refine lv_istore_n (lv' := [(0, .int y1)]) hx hb dJ6_bitCount_0f7a4_9 rfl hl (by decide) rfl (fun ls hl => ?_)
  refine lv_iload_n hx hb dJ6_bitCount_0f7a4_10 rfl (lv_at hl 0 rfl) ?_
  refine lv_ldcw (v := 858993459) hx hb C.2.2.2.1 (C.2.2.2.2.1 _ z_k561) dJ6_bitCount_0f7a4_11 ?_
  refine lv_iand hx hb dJ6_bitCount_0f7a4_14 ?_
  refine lv_iload_n hx hb dJ6_bitCount_0f7a4_15 rfl (lv_at hl 0 rfl) ?_
  refine lv_iconst (v := 2) hx hb dJ6_bitCount_0f7a4_16 (by decide) ?_
  refine lv_iushr hx hb dJ6_bitCount_0f7a4_17 rfl ?_
  refine lv_ldcw (v := 858993459) hx hb C.2.2.2.1 (C.2.2.2.2.1 _ z_k561) dJ6_bitCount_0f7a4_18 ?_
  refine lv_iand hx hb dJ6_bitCount_0f7a4_21 ?_
  refine lv_iadd hx hb dJ6_bitCount_0f7a4_22 ?_
  refine lv_topi (fun y2 e_y2 => ?_)
  have hf := z_lte e_y2 hf
  refine lv_istore_n (lv' := [(0, .int y2)]) hx hb dJ6_bitCount_0f7a4_23 rfl hl (by decide) rfl (fun ls hl => ?_)
  refine lv_iload_n hx hb dJ6_bitCount_0f7a4_24 rfl (lv_at hl 0 rfl) ?_
  refine lv_iload_n hx hb dJ6_bitCount_0f7a4_25 rfl (lv_at hl 0 rfl) ?_
  refine lv_iconst (v := 4) hx hb dJ6_bitCount_0f7a4_26 (by decide) ?_
  refine lv_iushr hx hb dJ6_bitCount_0f7a4_27 rfl ?_
  refine lv_iadd hx hb dJ6_bitCount_0f7a4_28 ?_
  refine lv_ldcw (v := 252645135) hx hb C.2.2.2.1 (C.2.2.2.2.1 _ z_k562) dJ6_bitCount_0f7a4_29 ?_
  refine lv_iand hx hb dJ6_bitCount_0f7a4_32 ?_
  refine lv_topi (fun y3 e_y3 => ?_)
  have hf := z_lte e_y3 hf
  refine lv_istore_n (lv' := [(0, .int y3)]) hx hb dJ6_bitCount_0f7a4_33 rfl hl (by decide) rfl (fun ls hl => ?_)
  refine lv_iload_n hx hb dJ6_bitCount_0f7a4_34 rfl (lv_at hl 0 rfl) ?_
  refine lv_iload_n hx hb dJ6_bitCount_0f7a4_35 rfl (lv_at hl 0 rfl) ?_
  refine lv_bipush (v := 8) hx hb dJ6_bitCount_0f7a4_36 (by decide) ?_
  refine lv_iushr hx hb dJ6_bitCount_0f7a4_38 rfl ?_
  refine lv_iadd hx hb dJ6_bitCount_0f7a4_39 ?_
  refine lv_topi (fun y4 e_y4 => ?_)
  have hf := z_lte e_y4 hf
  refine lv_istore_n (lv' := [(0, .int y4)]) hx hb dJ6_bitCount_0f7a4_40 rfl hl (by decide) rfl (fun ls hl => ?_)
  refine lv_iload_n hx hb dJ6_bitCount_0f7a4_41 rfl (lv_at hl 0 rfl) ?_
  refine lv_iload_n hx hb dJ6_bitCount_0f7a4_42 rfl (lv_at hl 0 rfl) ?_
  refine lv_bipush (v := 16) hx hb dJ6_bitCount_0f7a4_43 (by decide) ?_
  refine lv_iushr hx hb dJ6_bitCount_0f7a4_45 rfl ?_
  refine lv_iadd hx hb dJ6_bitCount_0f7a4_46 ?_
  refine lv_topi (fun y5 e_y5 => ?_)
  have hf := z_lte e_y5 hf
  refine lv_istore_n (lv' := [(0, .int y5)]) hx hb dJ6_bitCount_0f7a4_47 rfl hl (by decide) rfl (fun ls hl => ?_)
  refine lv_iload_n hx hb dJ6_bitCount_0f7a4_48 rfl (lv_at hl 0 rfl) ?_
  refine lv_bipush (v := 63) hx hb dJ6_bitCount_0f7a4_49 (by decide) ?_
  refine lv_iand hx hb dJ6_bitCount_0f7a4_51 ?_
  exact z_reti C hr hs hf dJ6_bitCount_0f7a4_52
set_option maxHeartbeats 4000000 in
set_option maxRecDepth 20000 in
theorem cJ_bitCount (l : Launch) (E : zE) {x0 : Int32} {σ σo : zS} {ro : Int32} (hf : fJ_bitCount x0 σ = some (ro, σo)) : z_T l E yJ6_bitCount_0f7a4 cJ6_bitCount_0f7a4 1 (some .int) (z_rm 1) (z_QI E ro σo) [.int x0] σ :=
  z_enter (by decide) (Nat.le_of_ble_eq_true rfl) rfl (fun p e s m below meth c A ls C hr hs hl => wJ_bitCount C hr σ _ _ ls hs hl hf)
def fT_hasRoomFor (x1 : Int32) (σ : zS) : Option (Int32 × zS) :=
  if 400 < ((σ.1 (31, 0, 0) 4) + x1) then
    (some (0, σ))
  else
    (some (1, σ))
set_option maxHeartbeats 4000000 in
set_option maxRecDepth 20000 in
theorem wT_hasRoomFor {x1 : Int32} (C : z_C E RX6 cX6_hasRoomFor 2 A p s m args meth c) (hr : meth.sig.returnType = (some .boolean)) (hB : z_B E) {ro : Int32} {σo : zS} (σ : zS) (H : Heap) (locs : List Loc) (ls : Array Slot) (hs : z_H E A s σ H locs) (hl : lv_has ls 2 [(0, .ref (z_ad E (31, 0, 0))), (1, .int x1)]) (hf : fT_hasRoomFor x1 σ = some (ro, σo)) : W p l e (z_rm 1) s m args below meth c H locs 0 0 (MQ below (z_QI E ro σo A) args s 0 0 A) (F0 m 0 ls []) := by
  have hx := C.1
  have hb := C.2.1
  unfold fT_hasRoomFor at hf
  refine lv_aload_n hx hb dX6_hasRoomFor_0 rfl (lv_at hl 0 rfl) ?_
  refine zg_T_length C hs (hB 31 (by decide) (by decide)) z_k37 dX6_hasRoomFor_1 ?_
  refine lv_iload_n hx hb dX6_hasRoomFor_4 rfl (lv_at hl 1 rfl) ?_
  refine lv_iadd hx hb dX6_hasRoomFor_5 ?_
  refine lv_sipush (v := 400) hx hb dX6_hasRoomFor_6 (by decide) ?_
  refine lv_icmp_gt (tgt := 16) hx hb dX6_hasRoomFor_9 (by decide) (fun c1 => ?_) (fun c1 => ?_)
  · have hf := z_t hf c1
    refine lv_iconst (v := 0) hx hb dX6_hasRoomFor_16 (by decide) ?_
    exact z_retz C hr hs (by decide +kernel) hf dX6_hasRoomFor_17
  · have hf := z_f hf c1
    refine lv_iconst (v := 1) hx hb dX6_hasRoomFor_12 (by decide) ?_
    refine lv_goto (tgt := 17) hx hb dX6_hasRoomFor_13 (by decide) ?_
    exact z_retz C hr hs (by decide +kernel) hf dX6_hasRoomFor_17
set_option maxHeartbeats 4000000 in
set_option maxRecDepth 20000 in
theorem cT_hasRoomFor (l : Launch) (E : zE) {x1 : Int32} (hB : z_B E) {σ σo : zS} {ro : Int32} (hf : fT_hasRoomFor x1 σ = some (ro, σo)) : z_T l E yX6_hasRoomFor cX6_hasRoomFor 2 (some .boolean) (z_rm 1) (z_QI E ro σo) [.ref (z_ad E (31, 0, 0)), .int x1] σ :=
  z_enter (by decide) (Nat.le_of_ble_eq_true rfl) rfl (fun p e s m below meth c A ls C hr hs hl => wT_hasRoomFor C hr hB σ _ _ ls hs hl hf)
def fT_put_3 : Nat → Int32 → Int32 → zS → Option (Unit × zS)
  | 0, _, _, _ => none
  | n + 1, x1, x2, σ =>
    if x2 < 0 then
      (some ((), σ))
    else
      (if 400 ≤ (σ.1 (31, 0, 0) 4) then
        (z_let (x2 + (-8)) (fun y3 =>
        fT_put_3 n x1 y3 σ))
      else
        (if z_in (σ.1 (31, 0, 0) 4) 400 = true then (
        z_let (z_up σ (32, 0, 0) ((σ.1 (31, 0, 0) 4).toNatClampNeg) (vp_nar .byte ((x1 >>> (x2 &&& 31)).toInt8.toInt32))) (fun σ5 =>
        z_let (z_up σ5 (31, 0, 0) 4 ((σ5.1 (31, 0, 0) 4) + 1)) (fun σ6 =>
        z_let (x2 + (-8)) (fun y7 =>
        fT_put_3 n x1 y7 σ6)))) else none))
def fT_put (x1 : Int32) (σ : zS) : Option (Unit × zS) :=
  fT_put_3 z_fu x1 24 σ
set_option maxHeartbeats 4000000 in
set_option maxRecDepth 20000 in
theorem wT_put_3 (C : z_C E RX6 cX6_put 3 A p s m args meth c) (hr : meth.sig.returnType = none) (hB : z_B E) {ro : Unit} {σo : zS} (n : Nat) : ∀ (x1 : Int32) (x2 : Int32) (σ : zS) (H : Heap) (locs : List Loc) (ls : Array Slot), z_H E A s σ H locs → lv_has ls 3 [(0, .ref (z_ad E (31, 0, 0))), (1, .int x1), (2, .int x2)] → fT_put_3 n x1 x2 σ = some (ro, σo) → W p l e (z_rm 1) s m args below meth c H locs 0 0 (MQ below (z_QV E ro σo A) args s 0 0 A) (F0 m 3 ls []) := by
  induction n with
  | zero =>
    intro x1 x2 σ H locs ls hs hl hf
    have hf : none = some (ro, σo) := hf
    cases hf
  | succ n ih =>
    intro x1 x2 σ H locs ls hs hl hf
    have hx := C.1
    have hb := C.2.1
    rw [fT_put_3.eq_2] at hf
    refine lv_iload_n hx hb dX6_put_3 rfl (lv_at hl 2 rfl) ?_
    refine lv_if_lt (tgt := 46) hx hb dX6_put_4 (by decide) (fun c1 => ?_) (fun c1 => ?_)
    · have hf := z_t hf c1
      exact z_retv C hr hs hf dX6_put_46
    · have hf := z_f hf c1
      refine lv_aload_n hx hb dX6_put_7 rfl (lv_at hl 0 rfl) ?_
      refine zg_T_length C hs (hB 31 (by decide) (by decide)) z_k37 dX6_put_8 ?_
      refine lv_sipush (v := 400) hx hb dX6_put_11 (by decide) ?_
      refine lv_icmp_ge (tgt := 40) hx hb dX6_put_14 (by decide) (fun c2 => ?_) (fun c2 => ?_)
      · have hf := z_t hf c2
        obtain ⟨y3, e_y3⟩ : ∃ y : Int32, y = x2 + (-8) := ⟨_, rfl⟩
        have hf := z_lte e_y3 hf
        refine lv_iinc (v := y3) (lv' := [(2, .int y3), (0, .ref (z_ad E (31, 0, 0))), (1, .int x1)]) hx hb dX6_put_40 hl (k := 2) rfl (by rw [e_y3]; rfl) (by decide) rfl (fun ls hl => ?_)
        refine lv_goto (tgt := 3) hx hb dX6_put_43 (by decide) ?_
        exact ih x1 y3 σ _ _ _ hs (lv_sub hl [1, 2, 0] rfl) hf
      · have hf := z_f hf c2
        refine lv_aload_n hx hb dX6_put_17 rfl (lv_at hl 0 rfl) ?_
        refine zg_T_bytes C hs (hB 31 (by decide) (by decide)) z_k32 dX6_put_18 ?_
        refine lv_aload_n hx hb dX6_put_21 rfl (lv_at hl 0 rfl) ?_
        refine zg_T_length C hs (hB 31 (by decide) (by decide)) z_k37 dX6_put_22 ?_
        refine lv_iload_n hx hb dX6_put_25 rfl (lv_at hl 1 rfl) ?_
        refine lv_iload_n hx hb dX6_put_26 rfl (lv_at hl 2 rfl) ?_
        refine lv_ishr hx hb dX6_put_27 ?_
        refine lv_i2b hx hb dX6_put_28 rfl ?_
        obtain ⟨g4, hf⟩ := z_gd hf
        refine z_bast C hs (hB 32 (by decide) (by decide)) (fun r h => z_c32 E r h _ _) g4 rfl dX6_put_29 (fun H locs hs => ?_)
        obtain ⟨σ5, -, hs, hf⟩ := z_top hs hf
        refine lv_aload_n hx hb dX6_put_30 rfl (lv_at hl 0 rfl) ?_
        refine lv_dup hx hb dX6_put_31 rfl ?_
        refine zg_T_length C hs (hB 31 (by decide) (by decide)) z_k37 dX6_put_32 ?_
        refine lv_iconst (v := 1) hx hb dX6_put_35 (by decide) ?_
        refine lv_iadd hx hb dX6_put_36 ?_
        refine zp_T_length C hs (hB 31 (by decide) (by decide)) z_k37 dX6_put_37 (fun H locs hs => ?_)
        obtain ⟨σ6, -, hs, hf⟩ := z_top hs hf
        obtain ⟨y7, e_y7⟩ : ∃ y : Int32, y = x2 + (-8) := ⟨_, rfl⟩
        have hf := z_lte e_y7 hf
        refine lv_iinc (v := y7) (lv' := [(2, .int y7), (0, .ref (z_ad E (31, 0, 0))), (1, .int x1)]) hx hb dX6_put_40 hl (k := 2) rfl (by rw [e_y7]; rfl) (by decide) rfl (fun ls hl => ?_)
        refine lv_goto (tgt := 3) hx hb dX6_put_43 (by decide) ?_
        exact ih x1 y7 σ6 _ _ _ hs (lv_sub hl [1, 2, 0] rfl) hf
set_option maxHeartbeats 4000000 in
set_option maxRecDepth 20000 in
theorem wT_put {x1 : Int32} (C : z_C E RX6 cX6_put 3 A p s m args meth c) (hr : meth.sig.returnType = none) (hB : z_B E) {ro : Unit} {σo : zS} (σ : zS) (H : Heap) (locs : List Loc) (ls : Array Slot) (hs : z_H E A s σ H locs) (hl : lv_has ls 3 [(0, .ref (z_ad E (31, 0, 0))), (1, .int x1)]) (hf : fT_put x1 σ = some (ro, σo)) : W p l e (z_rm 1) s m args below meth c H locs 0 0 (MQ below (z_QV E ro σo A) args s 0 0 A) (F0 m 0 ls []) := by
  have hx := C.1
  have hb := C.2.1
  unfold fT_put at hf
  refine lv_bipush (v := 24) hx hb dX6_put_0 (by decide) ?_
  refine lv_istore_n (lv' := [(2, .int 24), (0, .ref (z_ad E (31, 0, 0))), (1, .int x1)]) hx hb dX6_put_2 rfl hl (by decide) rfl (fun ls hl => ?_)
  exact wT_put_3 C hr hB z_fu x1 24 σ _ _ _ hs (lv_sub hl [1, 2, 0] rfl) hf
set_option maxHeartbeats 4000000 in
set_option maxRecDepth 20000 in
theorem cT_put (l : Launch) (E : zE) {x1 : Int32} (hB : z_B E) {σ σo : zS} {ro : Unit} (hf : fT_put x1 σ = some (ro, σo)) : z_T l E yX6_put cX6_put 3 none (z_rm 1) (z_QV E ro σo) [.ref (z_ad E (31, 0, 0)), .int x1] σ :=
  z_enter (by decide) (Nat.le_of_ble_eq_true rfl) rfl (fun p e s m below meth c A ls C hr hs hl => wT_put C hr hB σ _ _ ls hs hl hf)
def fX_feed (x1 : Int32) (x2 : Int32) (x3 : Int32) (x4 : Int32) (x5 : Int32) (σ : zS) : Option (Int32 × zS) :=
  z_bd (fT_hasRoomFor 20 σ) (fun r1 σ1 =>
  if r1 = 0 then
    (some ((-1), σ1))
  else
    (z_bd (fT_put x1 σ1) (fun _ σ3 =>
    z_bd (fT_put x2 σ3) (fun _ σ4 =>
    z_bd (fT_put x3 σ4) (fun _ σ5 =>
    z_bd (fT_put x4 σ5) (fun _ σ6 =>
    z_bd (fT_put x5 σ6) (fun _ σ7 =>
    some (σ7.1 (31, 0, 0) 4, σ7))))))))
set_option maxHeartbeats 4000000 in
set_option maxRecDepth 20000 in
theorem wX_feed {x1 : Int32} {x2 : Int32} {x3 : Int32} {x4 : Int32} {x5 : Int32} (C : z_C E RX8 cX8_feed 6 A p s m args meth c) (hr : meth.sig.returnType = (some .int)) (hB : z_B E) (hW0 : z_W E 0) {ro : Int32} {σo : zS} (σ : zS) (H : Heap) (locs : List Loc) (ls : Array Slot) (hs : z_H E A s σ H locs) (hl : lv_has ls 6 [(0, .ref (z_ad E (30, 0, 0))), (1, .int x1), (2, .int x2), (3, .int x3), (4, .int x4), (5, .int x5)]) (hf : fX_feed x1 x2 x3 x4 x5 σ = some (ro, σo)) : W p l e (z_rm 2) s m args below meth c H locs 0 0 (MQ below (z_QI E ro σo A) args s 0 0 A) (F0 m 0 ls []) := by
  have hx := C.1
  have hb := C.2.1
  unfold fX_feed at hf
  refine lv_aload_n hx hb dX8_feed_0 rfl (lv_at hl 0 rfl) ?_
  refine zg_X_tape C hs (hB 30 (by decide) (by decide)) z_k342 dX8_feed_1 ?_
  refine lv_bipush (v := 20) hx hb dX8_feed_4 (by decide) ?_
  obtain ⟨r1, σ1, h_1, hf⟩ := z_bds hf
  refine z_goI C hs (z_runV C hs hl.1 (cT_hasRoomFor l E hB h_1) zcV_RX8_38 (hB 31 (by decide) (by decide)) (z_c31 E _ _ _ _) rfl rfl rfl (by decide) (Nat.le_of_ble_eq_true rfl) dX8_feed_6) (fun H locs hs => ?_)
  refine lv_if_ne (tgt := 14) hx hb dX8_feed_9 (by decide) (fun c2 => ?_) (fun c2 => ?_)
  · have hf := z_f hf c2
    refine lv_aload_n hx hb dX8_feed_14 rfl (lv_at hl 0 rfl) ?_
    refine zg_X_tape C hs (hB 30 (by decide) (by decide)) z_k342 dX8_feed_15 ?_
    refine lv_iload_n hx hb dX8_feed_18 rfl (lv_at hl 1 rfl) ?_
    obtain ⟨r3, σ3, h_3, hf⟩ := z_bds hf
    refine z_goV C hs (z_runV C hs hl.1 (cT_put l E hB h_3) zcV_RX8_42 (hB 31 (by decide) (by decide)) (z_c31 E _ _ _ _) rfl rfl rfl (by decide) (Nat.le_of_ble_eq_true rfl) dX8_feed_19) (fun H locs hs => ?_)
    refine lv_aload_n hx hb dX8_feed_22 rfl (lv_at hl 0 rfl) ?_
    refine zg_X_tape C hs (hB 30 (by decide) (by decide)) z_k342 dX8_feed_23 ?_
    refine lv_iload_n hx hb dX8_feed_26 rfl (lv_at hl 2 rfl) ?_
    obtain ⟨r4, σ4, h_4, hf⟩ := z_bds hf
    refine z_goV C hs (z_runV C hs hl.1 (cT_put l E hB h_4) zcV_RX8_42 (hB 31 (by decide) (by decide)) (z_c31 E _ _ _ _) rfl rfl rfl (by decide) (Nat.le_of_ble_eq_true rfl) dX8_feed_27) (fun H locs hs => ?_)
    refine lv_aload_n hx hb dX8_feed_30 rfl (lv_at hl 0 rfl) ?_
    refine zg_X_tape C hs (hB 30 (by decide) (by decide)) z_k342 dX8_feed_31 ?_
    refine lv_iload_n hx hb dX8_feed_34 rfl (lv_at hl 3 rfl) ?_
    obtain ⟨r5, σ5, h_5, hf⟩ := z_bds hf
    refine z_goV C hs (z_runV C hs hl.1 (cT_put l E hB h_5) zcV_RX8_42 (hB 31 (by decide) (by decide)) (z_c31 E _ _ _ _) rfl rfl rfl (by decide) (Nat.le_of_ble_eq_true rfl) dX8_feed_35) (fun H locs hs => ?_)
    refine lv_aload_n hx hb dX8_feed_38 rfl (lv_at hl 0 rfl) ?_
    refine zg_X_tape C hs (hB 30 (by decide) (by decide)) z_k342 dX8_feed_39 ?_
    refine lv_iload hx hb dX8_feed_42 (lv_at hl 4 rfl) ?_
    obtain ⟨r6, σ6, h_6, hf⟩ := z_bds hf
    refine z_goV C hs (z_runV C hs hl.1 (cT_put l E hB h_6) zcV_RX8_42 (hB 31 (by decide) (by decide)) (z_c31 E _ _ _ _) rfl rfl rfl (by decide) (Nat.le_of_ble_eq_true rfl) dX8_feed_44) (fun H locs hs => ?_)
    refine lv_aload_n hx hb dX8_feed_47 rfl (lv_at hl 0 rfl) ?_
    refine zg_X_tape C hs (hB 30 (by decide) (by decide)) z_k342 dX8_feed_48 ?_
    refine lv_iload hx hb dX8_feed_51 (lv_at hl 5 rfl) ?_
    obtain ⟨r7, σ7, h_7, hf⟩ := z_bds hf
    refine z_goV C hs (z_runV C hs hl.1 (cT_put l E hB h_7) zcV_RX8_42 (hB 31 (by decide) (by decide)) (z_c31 E _ _ _ _) rfl rfl rfl (by decide) (Nat.le_of_ble_eq_true rfl) dX8_feed_53) (fun H locs hs => ?_)
    refine lv_aload_n hx hb dX8_feed_56 rfl (lv_at hl 0 rfl) ?_
    refine zg_X_tape C hs (hB 30 (by decide) (by decide)) z_k342 dX8_feed_57 ?_
    refine zg_T_length C hs (hB 31 (by decide) (by decide)) z_k38 dX8_feed_60 ?_
    exact z_reti C hr hs hf dX8_feed_63
  · have hf := z_t hf c2
    refine lv_iconst (v := (-1)) hx hb dX8_feed_12 (by decide) ?_
    exact z_reti C hr hs hf dX8_feed_13
set_option maxHeartbeats 4000000 in
set_option maxRecDepth 20000 in
theorem cX_feed (l : Launch) (E : zE) {x1 : Int32} {x2 : Int32} {x3 : Int32} {x4 : Int32} {x5 : Int32} (hB : z_B E) (hW0 : z_W E 0) {σ σo : zS} {ro : Int32} (hf : fX_feed x1 x2 x3 x4 x5 σ = some (ro, σo)) : z_T l E yX8_feed cX8_feed 6 (some .int) (z_rm 2) (z_QI E ro σo) [.ref (z_ad E (30, 0, 0)), .int x1, .int x2, .int x3, .int x4, .int x5] σ :=
  z_enter (by decide) (Nat.le_of_ble_eq_true rfl) rfl (fun p e s m below meth c A ls C hr hs hl => wX_feed C hr hB hW0 σ _ _ ls hs hl hf)
def fX_end (x1 : Int32) (σ : zS) : Option (Int32 × zS) :=
  if x1 < 0 then
    (some ((-1), σ))
  else
    (if x1 ≤ (σ.1 (31, 0, 0) 4) then
      (z_let (z_up σ (31, 0, 0) 4 x1) (fun σ3 =>
      some (x1, σ3)))
    else
      (some ((-1), σ)))
set_option maxHeartbeats 4000000 in
set_option maxRecDepth 20000 in
theorem wX_end {x1 : Int32} (C : z_C E RX8 cX8_end 2 A p s m args meth c) (hr : meth.sig.returnType = (some .int)) (hB : z_B E) (hW0 : z_W E 0) {ro : Int32} {σo : zS} (σ : zS) (H : Heap) (locs : List Loc) (ls : Array Slot) (hs : z_H E A s σ H locs) (hl : lv_has ls 2 [(0, .ref (z_ad E (30, 0, 0))), (1, .int x1)]) (hf : fX_end x1 σ = some (ro, σo)) : W p l e (z_rm 1) s m args below meth c H locs 0 0 (MQ below (z_QI E ro σo A) args s 0 0 A) (F0 m 0 ls []) := by
  have hx := C.1
  have hb := C.2.1
  unfold fX_end at hf
  refine lv_iload_n hx hb dX8_end_0 rfl (lv_at hl 1 rfl) ?_
  refine lv_if_lt (tgt := 15) hx hb dX8_end_1 (by decide) (fun c1 => ?_) (fun c1 => ?_)
  · have hf := z_t hf c1
    refine lv_iconst (v := (-1)) hx hb dX8_end_15 (by decide) ?_
    exact z_reti C hr hs hf dX8_end_16
  · have hf := z_f hf c1
    refine lv_iload_n hx hb dX8_end_4 rfl (lv_at hl 1 rfl) ?_
    refine lv_aload_n hx hb dX8_end_5 rfl (lv_at hl 0 rfl) ?_
    refine zg_X_tape C hs (hB 30 (by decide) (by decide)) z_k342 dX8_end_6 ?_
    refine zg_T_length C hs (hB 31 (by decide) (by decide)) z_k38 dX8_end_9 ?_
    refine lv_icmp_le (tgt := 17) hx hb dX8_end_12 (by decide) (fun c2 => ?_) (fun c2 => ?_)
    · have hf := z_t hf c2
      refine lv_aload_n hx hb dX8_end_17 rfl (lv_at hl 0 rfl) ?_
      refine zg_X_tape C hs (hB 30 (by decide) (by decide)) z_k342 dX8_end_18 ?_
      refine lv_iload_n hx hb dX8_end_21 rfl (lv_at hl 1 rfl) ?_
      refine zp_T_length C hs (hB 31 (by decide) (by decide)) z_k38 dX8_end_22 (fun H locs hs => ?_)
      obtain ⟨σ3, -, hs, hf⟩ := z_top hs hf
      refine lv_iload_n hx hb dX8_end_25 rfl (lv_at hl 1 rfl) ?_
      exact z_reti C hr hs hf dX8_end_26
    · have hf := z_f hf c2
      refine lv_iconst (v := (-1)) hx hb dX8_end_15 (by decide) ?_
      exact z_reti C hr hs hf dX8_end_16
set_option maxHeartbeats 4000000 in
set_option maxRecDepth 20000 in
theorem cX_end (l : Launch) (E : zE) {x1 : Int32} (hB : z_B E) (hW0 : z_W E 0) {σ σo : zS} {ro : Int32} (hf : fX_end x1 σ = some (ro, σo)) : z_T l E yX8_end cX8_end 2 (some .int) (z_rm 1) (z_QI E ro σo) [.ref (z_ad E (30, 0, 0)), .int x1] σ :=
  z_enter (by decide) (Nat.le_of_ble_eq_true rfl) rfl (fun p e s m below meth c A ls C hr hs hl => wX_end C hr hB hW0 σ _ _ ls hs hl hf)
def fX_fault (x1 : Int32) (σ : zS) : Option (Int32 × zS) :=
  if x1 = 0 then
    (some (σ.1 (31, 0, 0) 6, σ))
  else
    (if x1 = 1 then
      (some (σ.1 (31, 0, 0) 7, σ))
    else
      (some ((-1), σ)))
set_option maxHeartbeats 4000000 in
set_option maxRecDepth 20000 in
theorem wX_fault {x1 : Int32} (C : z_C E RX8 cX8_fault 2 A p s m args meth c) (hr : meth.sig.returnType = (some .int)) (hB : z_B E) (hW0 : z_W E 0) {ro : Int32} {σo : zS} (σ : zS) (H : Heap) (locs : List Loc) (ls : Array Slot) (hs : z_H E A s σ H locs) (hl : lv_has ls 2 [(0, .ref (z_ad E (30, 0, 0))), (1, .int x1)]) (hf : fX_fault x1 σ = some (ro, σo)) : W p l e (z_rm 1) s m args below meth c H locs 0 0 (MQ below (z_QI E ro σo A) args s 0 0 A) (F0 m 0 ls []) := by
  have hx := C.1
  have hb := C.2.1
  unfold fX_fault at hf
  refine lv_iload_n hx hb dX8_fault_0 rfl (lv_at hl 1 rfl) ?_
  by_cases c1 : x1 = 0
  · have hf := z_t hf c1
    refine lv_lookup (off := 27) (tgt := 28) hx hb dX8_fault_1 (by decide) (by rw [c1]; decide) (by decide) ?_
    refine lv_aload_n hx hb dX8_fault_28 rfl (lv_at hl 0 rfl) ?_
    refine zg_X_tape C hs (hB 30 (by decide) (by decide)) z_k342 dX8_fault_29 ?_
    refine zg_T_fault C hs (hB 31 (by decide) (by decide)) z_k42 dX8_fault_32 ?_
    exact z_reti C hr hs hf dX8_fault_35
  · have hf := z_f hf c1
    by_cases c2 : x1 = 1
    · have hf := z_t hf c2
      refine lv_lookup (off := 35) (tgt := 36) hx hb dX8_fault_1 (by decide) (by rw [c2]; decide) (by decide) ?_
      refine lv_aload_n hx hb dX8_fault_36 rfl (lv_at hl 0 rfl) ?_
      refine zg_X_tape C hs (hB 30 (by decide) (by decide)) z_k342 dX8_fault_37 ?_
      refine zg_T_faultPlace C hs (hB 31 (by decide) (by decide)) z_k44 dX8_fault_40 ?_
      exact z_reti C hr hs hf dX8_fault_43
    · have hf := z_f hf c2
      refine lv_lookup (off := 43) (tgt := 44) hx hb dX8_fault_1 (by decide) (by
        have q0 := z_ne (k := 0) (n := 0) (by decide +kernel) c1
        have q1 := z_ne (k := 1) (n := 1) (by decide +kernel) c2
        simp [Op.lookupswitch.offset, q0, q0.symm, q1, q1.symm]) (by decide) ?_
      refine lv_iconst (v := (-1)) hx hb dX8_fault_44 (by decide) ?_
      exact z_reti C hr hs hf dX8_fault_45
set_option maxHeartbeats 4000000 in
set_option maxRecDepth 20000 in
theorem cX_fault (l : Launch) (E : zE) {x1 : Int32} (hB : z_B E) (hW0 : z_W E 0) {σ σo : zS} {ro : Int32} (hf : fX_fault x1 σ = some (ro, σo)) : z_T l E yX8_fault cX8_fault 2 (some .int) (z_rm 1) (z_QI E ro σo) [.ref (z_ad E (30, 0, 0)), .int x1] σ :=
  z_enter (by decide) (Nat.le_of_ble_eq_true rfl) rfl (fun p e s m below meth c A ls C hr hs hl => wX_fault C hr hB hW0 σ _ _ ls hs hl hf)
def fW_isKeeper (w0 : Nat) (x1 : Int32) (σ : zS) : Option (Int32 × zS) :=
  if x1 < 0 then
    (some (0, σ))
  else
    (if (σ.1 (0, w0, 0) 3) ≤ x1 then
      (some (0, σ))
    else
      (if 7 ≤ x1 then
        (some (0, σ))
      else
        (some (1, σ))))
set_option maxHeartbeats 4000000 in
set_option maxRecDepth 20000 in
theorem wW_isKeeper {w0 : Nat} {x1 : Int32} (C : z_C E RX7 cX7_isKeeper 2 A p s m args meth c) (hr : meth.sig.returnType = (some .boolean)) (hV0 : z_W E w0) {ro : Int32} {σo : zS} (σ : zS) (H : Heap) (locs : List Loc) (ls : Array Slot) (hs : z_H E A s σ H locs) (hl : lv_has ls 2 [(0, .ref (z_ad E (0, w0, 0))), (1, .int x1)]) (hf : fW_isKeeper w0 x1 σ = some (ro, σo)) : W p l e (z_rm 1) s m args below meth c H locs 0 0 (MQ below (z_QI E ro σo A) args s 0 0 A) (F0 m 0 ls []) := by
  have hx := C.1
  have hb := C.2.1
  unfold fW_isKeeper at hf
  refine lv_iload_n hx hb dX7_isKeeper_0 rfl (lv_at hl 1 rfl) ?_
  refine lv_if_lt (tgt := 22) hx hb dX7_isKeeper_1 (by decide) (fun c1 => ?_) (fun c1 => ?_)
  · have hf := z_t hf c1
    refine lv_iconst (v := 0) hx hb dX7_isKeeper_22 (by decide) ?_
    exact z_retz C hr hs (by decide +kernel) hf dX7_isKeeper_23
  · have hf := z_f hf c1
    refine lv_iload_n hx hb dX7_isKeeper_4 rfl (lv_at hl 1 rfl) ?_
    refine lv_aload_n hx hb dX7_isKeeper_5 rfl (lv_at hl 0 rfl) ?_
    refine zg_W_count C hs (hV0.1 0 (by decide)) z_k287 dX7_isKeeper_6 ?_
    refine lv_icmp_ge (tgt := 22) hx hb dX7_isKeeper_9 (by decide) (fun c2 => ?_) (fun c2 => ?_)
    · have hf := z_t hf c2
      refine lv_iconst (v := 0) hx hb dX7_isKeeper_22 (by decide) ?_
      exact z_retz C hr hs (by decide +kernel) hf dX7_isKeeper_23
    · have hf := z_f hf c2
      refine lv_iload_n hx hb dX7_isKeeper_12 rfl (lv_at hl 1 rfl) ?_
      refine lv_bipush (v := 7) hx hb dX7_isKeeper_13 (by decide) ?_
      refine lv_icmp_ge (tgt := 22) hx hb dX7_isKeeper_15 (by decide) (fun c3 => ?_) (fun c3 => ?_)
      · have hf := z_t hf c3
        refine lv_iconst (v := 0) hx hb dX7_isKeeper_22 (by decide) ?_
        exact z_retz C hr hs (by decide +kernel) hf dX7_isKeeper_23
      · have hf := z_f hf c3
        refine lv_iconst (v := 1) hx hb dX7_isKeeper_18 (by decide) ?_
        refine lv_goto (tgt := 23) hx hb dX7_isKeeper_19 (by decide) ?_
        exact z_retz C hr hs (by decide +kernel) hf dX7_isKeeper_23
set_option maxHeartbeats 4000000 in
set_option maxRecDepth 20000 in
theorem cW_isKeeper (l : Launch) (E : zE) {w0 : Nat} {x1 : Int32} (hV0 : z_W E w0) {σ σo : zS} {ro : Int32} (hf : fW_isKeeper w0 x1 σ = some (ro, σo)) : z_T l E yX7_isKeeper cX7_isKeeper 2 (some .boolean) (z_rm 1) (z_QI E ro σo) [.ref (z_ad E (0, w0, 0)), .int x1] σ :=
  z_enter (by decide) (Nat.le_of_ble_eq_true rfl) rfl (fun p e s m below meth c A ls C hr hs hl => wW_isKeeper C hr hV0 σ _ _ ls hs hl hf)
def fP_countFull_4 (w0 : Nat) : Nat → Int32 → Int32 → zS → Option (Int32 × zS)
  | 0, _, _, _ => none
  | n + 1, x1, x2, σ =>
    if 40 ≤ x2 then
      (some (x1, σ))
    else
      (if z_in x2 40 = true then (
      if (σ.1 (20, w0, x2.toNatClampNeg) 0) = ((-1)) then
        (z_let (x1 + 0) (fun y6 =>
        z_let (x2 + 1) (fun y7 =>
        fP_countFull_4 w0 n y6 y7 σ)))
      else
        (z_let (x1 + 1) (fun y4 =>
        z_let (x2 + 1) (fun y5 =>
        fP_countFull_4 w0 n y4 y5 σ)))) else none)
def fP_countFull (w0 : Nat) (σ : zS) : Option (Int32 × zS) :=
  fP_countFull_4 w0 z_fu 0 0 σ
set_option maxHeartbeats 4000000 in
set_option maxRecDepth 20000 in
theorem wP_countFull_4 {w0 : Nat} (C : z_C E RX3 cX3_countFull 3 A p s m args meth c) (hr : meth.sig.returnType = (some .int)) (hV0 : z_W E w0) {ro : Int32} {σo : zS} (n : Nat) : ∀ (x1 : Int32) (x2 : Int32) (σ : zS) (H : Heap) (locs : List Loc) (ls : Array Slot), z_H E A s σ H locs → lv_has ls 3 [(0, .ref (z_ad E (2, w0, 0))), (1, .int x1), (2, .int x2)] → fP_countFull_4 w0 n x1 x2 σ = some (ro, σo) → W p l e (z_rm 1) s m args below meth c H locs 0 0 (MQ below (z_QI E ro σo A) args s 0 0 A) (F0 m 4 ls []) := by
  induction n with
  | zero =>
    intro x1 x2 σ H locs ls hs hl hf
    have hf : none = some (ro, σo) := hf
    cases hf
  | succ n ih =>
    intro x1 x2 σ H locs ls hs hl hf
    have hx := C.1
    have hb := C.2.1
    rw [fP_countFull_4.eq_2] at hf
    refine lv_iload_n hx hb dX3_countFull_4 rfl (lv_at hl 2 rfl) ?_
    refine lv_bipush (v := 40) hx hb dX3_countFull_5 (by decide) ?_
    refine lv_icmp_ge (tgt := 37) hx hb dX3_countFull_7 (by decide) (fun c1 => ?_) (fun c1 => ?_)
    · have hf := z_t hf c1
      refine lv_iload_n hx hb dX3_countFull_37 rfl (lv_at hl 1 rfl) ?_
      exact z_reti C hr hs hf dX3_countFull_38
    · have hf := z_f hf c1
      refine lv_iload_n hx hb dX3_countFull_10 rfl (lv_at hl 1 rfl) ?_
      refine lv_aload_n hx hb dX3_countFull_11 rfl (lv_at hl 0 rfl) ?_
      refine zg_P_letters C hs (hV0.1 2 (by decide)) z_k244 dX3_countFull_12 ?_
      refine lv_iload_n hx hb dX3_countFull_15 rfl (lv_at hl 2 rfl) ?_
      obtain ⟨g2, hf⟩ := z_gd hf
      refine z_aald C hs (hV0.1 3 (by decide)) (z_c3 E _ _ _ _) (t0 := 5) rfl g2 rfl dX3_countFull_16 ?_
      refine zg_L_kind C hs (hV0.2.2 x2.toNatClampNeg (Nat.lt_succ_of_lt (z_in_lt g2)) 20 (by decide) (by decide)) z_k194 dX3_countFull_17 ?_
      refine lv_iconst (v := (-1)) hx hb dX3_countFull_20 (by decide) ?_
      refine lv_icmp_ne (tgt := 28) hx hb dX3_countFull_21 (by decide) (fun c3 => ?_) (fun c3 => ?_)
      · have hf := z_f hf c3
        refine lv_iconst (v := 1) hx hb dX3_countFull_28 (by decide) ?_
        refine lv_iadd hx hb dX3_countFull_29 ?_
        refine lv_topi (fun y4 e_y4 => ?_)
        have hf := z_lte e_y4 hf
        refine lv_istore_n (lv' := [(1, .int y4), (0, .ref (z_ad E (2, w0, 0))), (2, .int x2)]) hx hb dX3_countFull_30 rfl hl (by decide) rfl (fun ls hl => ?_)
        obtain ⟨y5, e_y5⟩ : ∃ y : Int32, y = x2 + 1 := ⟨_, rfl⟩
        have hf := z_lte e_y5 hf
        refine lv_iinc (v := y5) (lv' := [(2, .int y5), (1, .int y4), (0, .ref (z_ad E (2, w0, 0)))]) hx hb dX3_countFull_31 hl (k := 2) rfl (by rw [e_y5]; rfl) (by decide) rfl (fun ls hl => ?_)
        refine lv_goto (tgt := 4) hx hb dX3_countFull_34 (by decide) ?_
        exact ih y4 y5 σ _ _ _ hs (lv_sub hl [2, 1, 0] rfl) hf
      · have hf := z_t hf c3
        refine lv_iconst (v := 0) hx hb dX3_countFull_24 (by decide) ?_
        refine lv_goto (tgt := 29) hx hb dX3_countFull_25 (by decide) ?_
        refine lv_iadd hx hb dX3_countFull_29 ?_
        refine lv_topi (fun y6 e_y6 => ?_)
        have hf := z_lte e_y6 hf
        refine lv_istore_n (lv' := [(1, .int y6), (0, .ref (z_ad E (2, w0, 0))), (2, .int x2)]) hx hb dX3_countFull_30 rfl hl (by decide) rfl (fun ls hl => ?_)
        obtain ⟨y7, e_y7⟩ : ∃ y : Int32, y = x2 + 1 := ⟨_, rfl⟩
        have hf := z_lte e_y7 hf
        refine lv_iinc (v := y7) (lv' := [(2, .int y7), (1, .int y6), (0, .ref (z_ad E (2, w0, 0)))]) hx hb dX3_countFull_31 hl (k := 2) rfl (by rw [e_y7]; rfl) (by decide) rfl (fun ls hl => ?_)
        refine lv_goto (tgt := 4) hx hb dX3_countFull_34 (by decide) ?_
        exact ih y6 y7 σ _ _ _ hs (lv_sub hl [2, 1, 0] rfl) hf
set_option maxHeartbeats 4000000 in
set_option maxRecDepth 20000 in
theorem wP_countFull {w0 : Nat} (C : z_C E RX3 cX3_countFull 3 A p s m args meth c) (hr : meth.sig.returnType = (some .int)) (hV0 : z_W E w0) {ro : Int32} {σo : zS} (σ : zS) (H : Heap) (locs : List Loc) (ls : Array Slot) (hs : z_H E A s σ H locs) (hl : lv_has ls 3 [(0, .ref (z_ad E (2, w0, 0)))]) (hf : fP_countFull w0 σ = some (ro, σo)) : W p l e (z_rm 1) s m args below meth c H locs 0 0 (MQ below (z_QI E ro σo A) args s 0 0 A) (F0 m 0 ls []) := by
  have hx := C.1
  have hb := C.2.1
  unfold fP_countFull at hf
  refine lv_iconst (v := 0) hx hb dX3_countFull_0 (by decide) ?_
  refine lv_istore_n (lv' := [(1, .int 0), (0, .ref (z_ad E (2, w0, 0)))]) hx hb dX3_countFull_1 rfl hl (by decide) rfl (fun ls hl => ?_)
  refine lv_iconst (v := 0) hx hb dX3_countFull_2 (by decide) ?_
  refine lv_istore_n (lv' := [(2, .int 0), (1, .int 0), (0, .ref (z_ad E (2, w0, 0)))]) hx hb dX3_countFull_3 rfl hl (by decide) rfl (fun ls hl => ?_)
  exact wP_countFull_4 C hr hV0 z_fu 0 0 σ _ _ _ hs (lv_sub hl [2, 1, 0] rfl) hf
set_option maxHeartbeats 4000000 in
set_option maxRecDepth 20000 in
theorem cP_countFull (l : Launch) (E : zE) {w0 : Nat} (hV0 : z_W E w0) {σ σo : zS} {ro : Int32} (hf : fP_countFull w0 σ = some (ro, σo)) : z_T l E yX3_countFull cX3_countFull 3 (some .int) (z_rm 1) (z_QI E ro σo) [.ref (z_ad E (2, w0, 0))] σ :=
  z_enter (by decide) (Nat.le_of_ble_eq_true rfl) rfl (fun p e s m below meth c A ls C hr hs hl => wP_countFull C hr hV0 σ _ _ ls hs hl hf)
def fK_follow (w0 : Nat) (i0 : Nat) (σ : zS) : Option (Unit × zS) :=
  z_let (z_up σ (10, w0, i0) 4 0) (fun σ1 =>
  z_let (z_up σ1 (10, w0, i0) 9 0) (fun σ2 =>
  z_let (z_up σ2 (10, w0, i0) 10 0) (fun σ3 =>
  some ((), σ3))))
set_option maxHeartbeats 4000000 in
set_option maxRecDepth 20000 in
theorem wK_follow {w0 : Nat} {i0 : Nat} (C : z_C E RX1 cX1_follow 1 A p s m args meth c) (hr : meth.sig.returnType = none) (hV0 : z_W E w0) (hi0 : i0 < 7) {ro : Unit} {σo : zS} (σ : zS) (H : Heap) (locs : List Loc) (ls : Array Slot) (hs : z_H E A s σ H locs) (hl : lv_has ls 1 [(0, .ref (z_ad E (10, w0, i0)))]) (hf : fK_follow w0 i0 σ = some (ro, σo)) : W p l e (z_rm 1) s m args below meth c H locs 0 0 (MQ below (z_QV E ro σo A) args s 0 0 A) (F0 m 0 ls []) := by
  have hx := C.1
  have hb := C.2.1
  unfold fK_follow at hf
  refine lv_aload_n hx hb dX1_follow_0 rfl (lv_at hl 0 rfl) ?_
  refine lv_iconst (v := 0) hx hb dX1_follow_1 (by decide) ?_
  refine zp_K_role C hs (hV0.2.1 i0 hi0 10 (by decide) (by decide)) z_k103 dX1_follow_2 (fun H locs hs => ?_)
  obtain ⟨σ1, -, hs, hf⟩ := z_top hs hf
  refine lv_aload_n hx hb dX1_follow_5 rfl (lv_at hl 0 rfl) ?_
  refine lv_iconst (v := 0) hx hb dX1_follow_6 (by decide) ?_
  refine zp_K_ballots C hs (hV0.2.1 i0 hi0 10 (by decide) (by decide)) z_k118 dX1_follow_7 (fun H locs hs => ?_)
  obtain ⟨σ2, -, hs, hf⟩ := z_top hs hf
  refine lv_aload_n hx hb dX1_follow_10 rfl (lv_at hl 0 rfl) ?_
  refine lv_iconst (v := 0) hx hb dX1_follow_11 (by decide) ?_
  refine zp_K_round C hs (hV0.2.1 i0 hi0 10 (by decide) (by decide)) z_k120 dX1_follow_12 (fun H locs hs => ?_)
  obtain ⟨σ3, -, hs, hf⟩ := z_top hs hf
  exact z_retv C hr hs hf dX1_follow_15
set_option maxHeartbeats 4000000 in
set_option maxRecDepth 20000 in
theorem cK_follow (l : Launch) (E : zE) {w0 : Nat} {i0 : Nat} (hV0 : z_W E w0) (hi0 : i0 < 7) {σ σo : zS} {ro : Unit} (hf : fK_follow w0 i0 σ = some (ro, σo)) : z_T l E yX1_follow cX1_follow 1 none (z_rm 1) (z_QV E ro σo) [.ref (z_ad E (10, w0, i0))] σ :=
  z_enter (by decide) (Nat.le_of_ble_eq_true rfl) rfl (fun p e s m below meth c A ls C hr hs hl => wK_follow C hr hV0 hi0 σ _ _ ls hs hl hf)
def fK_enterTerm (w0 : Nat) (i0 : Nat) (x1 : Int32) (σ : zS) : Option (Unit × zS) :=
  z_let (z_up σ (10, w0, i0) 2 x1) (fun σ1 =>
  z_let (z_up σ1 (10, w0, i0) 3 ((-1))) (fun σ2 =>
  z_bd (fK_follow w0 i0 σ2) (fun _ σ3 =>
  some ((), σ3))))
set_option maxHeartbeats 4000000 in
set_option maxRecDepth 20000 in
theorem wK_enterTerm {w0 : Nat} {i0 : Nat} {x1 : Int32} (C : z_C E RX1 cX1_enterTerm 2 A p s m args meth c) (hr : meth.sig.returnType = none) (hV0 : z_W E w0) (hi0 : i0 < 7) {ro : Unit} {σo : zS} (σ : zS) (H : Heap) (locs : List Loc) (ls : Array Slot) (hs : z_H E A s σ H locs) (hl : lv_has ls 2 [(0, .ref (z_ad E (10, w0, i0))), (1, .int x1)]) (hf : fK_enterTerm w0 i0 x1 σ = some (ro, σo)) : W p l e (z_rm 2) s m args below meth c H locs 0 0 (MQ below (z_QV E ro σo A) args s 0 0 A) (F0 m 0 ls []) := by
  have hx := C.1
  have hb := C.2.1
  unfold fK_enterTerm at hf
  refine lv_aload_n hx hb dX1_enterTerm_0 rfl (lv_at hl 0 rfl) ?_
  refine lv_iload_n hx hb dX1_enterTerm_1 rfl (lv_at hl 1 rfl) ?_
  refine zp_K_term C hs (hV0.2.1 i0 hi0 10 (by decide) (by decide)) z_k99 dX1_enterTerm_2 (fun H locs hs => ?_)
  obtain ⟨σ1, -, hs, hf⟩ := z_top hs hf
  refine lv_aload_n hx hb dX1_enterTerm_5 rfl (lv_at hl 0 rfl) ?_
  refine lv_iconst (v := (-1)) hx hb dX1_enterTerm_6 (by decide) ?_
  refine zp_K_vote C hs (hV0.2.1 i0 hi0 10 (by decide) (by decide)) z_k101 dX1_enterTerm_7 (fun H locs hs => ?_)
  obtain ⟨σ2, -, hs, hf⟩ := z_top hs hf
  refine lv_aload_n hx hb dX1_enterTerm_10 rfl (lv_at hl 0 rfl) ?_
  obtain ⟨r3, σ3, h_3, hf⟩ := z_bds hf
  refine z_goV C hs (z_runV C hs hl.1 (cK_follow l E hV0 hi0 h_3) zcV_RX1_66 (hV0.2.1 i0 hi0 10 (by decide) (by decide)) (z_c10 E _ _ _ _) rfl rfl rfl (by decide) (Nat.le_of_ble_eq_true rfl) dX1_enterTerm_11) (fun H locs hs => ?_)
  exact z_retv C hr hs hf dX1_enterTerm_14
set_option maxHeartbeats 4000000 in
set_option maxRecDepth 20000 in
theorem cK_enterTerm (l : Launch) (E : zE) {w0 : Nat} {i0 : Nat} {x1 : Int32} (hV0 : z_W E w0) (hi0 : i0 < 7) {σ σo : zS} {ro : Unit} (hf : fK_enterTerm w0 i0 x1 σ = some (ro, σo)) : z_T l E yX1_enterTerm cX1_enterTerm 2 none (z_rm 2) (z_QV E ro σo) [.ref (z_ad E (10, w0, i0)), .int x1] σ :=
  z_enter (by decide) (Nat.le_of_ble_eq_true rfl) rfl (fun p e s m below meth c A ls C hr hs hl => wK_enterTerm C hr hV0 hi0 σ _ _ ls hs hl hf)
def fP_leastEmpty_2 (w0 : Nat) : Nat → Int32 → zS → Option (Int32 × zS)
  | 0, _, _ => none
  | n + 1, x1, σ =>
    if 40 ≤ x1 then
      (some ((-1), σ))
    else
      (if z_in x1 40 = true then (
      if (σ.1 (20, w0, x1.toNatClampNeg) 0) = ((-1)) then
        (some (x1, σ))
      else
        (z_let (x1 + 1) (fun y4 =>
        fP_leastEmpty_2 w0 n y4 σ))) else none)
def fP_leastEmpty (w0 : Nat) (σ : zS) : Option (Int32 × zS) :=
  fP_leastEmpty_2 w0 z_fu 0 σ
set_option maxHeartbeats 4000000 in
set_option maxRecDepth 20000 in
theorem wP_leastEmpty_2 {w0 : Nat} (C : z_C E RX3 cX3_leastEmpty 2 A p s m args meth c) (hr : meth.sig.returnType = (some .int)) (hV0 : z_W E w0) {ro : Int32} {σo : zS} (n : Nat) : ∀ (x1 : Int32) (σ : zS) (H : Heap) (locs : List Loc) (ls : Array Slot), z_H E A s σ H locs → lv_has ls 2 [(0, .ref (z_ad E (2, w0, 0))), (1, .int x1)] → fP_leastEmpty_2 w0 n x1 σ = some (ro, σo) → W p l e (z_rm 1) s m args below meth c H locs 0 0 (MQ below (z_QI E ro σo A) args s 0 0 A) (F0 m 2 ls []) := by
  induction n with
  | zero =>
    intro x1 σ H locs ls hs hl hf
    have hf : none = some (ro, σo) := hf
    cases hf
  | succ n ih =>
    intro x1 σ H locs ls hs hl hf
    have hx := C.1
    have hb := C.2.1
    rw [fP_leastEmpty_2.eq_2] at hf
    refine lv_iload_n hx hb dX3_leastEmpty_2 rfl (lv_at hl 1 rfl) ?_
    refine lv_bipush (v := 40) hx hb dX3_leastEmpty_3 (by decide) ?_
    refine lv_icmp_ge (tgt := 29) hx hb dX3_leastEmpty_5 (by decide) (fun c1 => ?_) (fun c1 => ?_)
    · have hf := z_t hf c1
      refine lv_iconst (v := (-1)) hx hb dX3_leastEmpty_29 (by decide) ?_
      exact z_reti C hr hs hf dX3_leastEmpty_30
    · have hf := z_f hf c1
      refine lv_aload_n hx hb dX3_leastEmpty_8 rfl (lv_at hl 0 rfl) ?_
      refine zg_P_letters C hs (hV0.1 2 (by decide)) z_k244 dX3_leastEmpty_9 ?_
      refine lv_iload_n hx hb dX3_leastEmpty_12 rfl (lv_at hl 1 rfl) ?_
      obtain ⟨g2, hf⟩ := z_gd hf
      refine z_aald C hs (hV0.1 3 (by decide)) (z_c3 E _ _ _ _) (t0 := 5) rfl g2 rfl dX3_leastEmpty_13 ?_
      refine zg_L_kind C hs (hV0.2.2 x1.toNatClampNeg (Nat.lt_succ_of_lt (z_in_lt g2)) 20 (by decide) (by decide)) z_k194 dX3_leastEmpty_14 ?_
      refine lv_iconst (v := (-1)) hx hb dX3_leastEmpty_17 (by decide) ?_
      refine lv_icmp_ne (tgt := 23) hx hb dX3_leastEmpty_18 (by decide) (fun c3 => ?_) (fun c3 => ?_)
      · have hf := z_f hf c3
        obtain ⟨y4, e_y4⟩ : ∃ y : Int32, y = x1 + 1 := ⟨_, rfl⟩
        have hf := z_lte e_y4 hf
        refine lv_iinc (v := y4) (lv' := [(1, .int y4), (0, .ref (z_ad E (2, w0, 0)))]) hx hb dX3_leastEmpty_23 hl (k := 1) rfl (by rw [e_y4]; rfl) (by decide) rfl (fun ls hl => ?_)
        refine lv_goto (tgt := 2) hx hb dX3_leastEmpty_26 (by decide) ?_
        exact ih y4 σ _ _ _ hs (lv_sub hl [1, 0] rfl) hf
      · have hf := z_t hf c3
        refine lv_iload_n hx hb dX3_leastEmpty_21 rfl (lv_at hl 1 rfl) ?_
        exact z_reti C hr hs hf dX3_leastEmpty_22
set_option maxHeartbeats 4000000 in
set_option maxRecDepth 20000 in
theorem wP_leastEmpty {w0 : Nat} (C : z_C E RX3 cX3_leastEmpty 2 A p s m args meth c) (hr : meth.sig.returnType = (some .int)) (hV0 : z_W E w0) {ro : Int32} {σo : zS} (σ : zS) (H : Heap) (locs : List Loc) (ls : Array Slot) (hs : z_H E A s σ H locs) (hl : lv_has ls 2 [(0, .ref (z_ad E (2, w0, 0)))]) (hf : fP_leastEmpty w0 σ = some (ro, σo)) : W p l e (z_rm 1) s m args below meth c H locs 0 0 (MQ below (z_QI E ro σo A) args s 0 0 A) (F0 m 0 ls []) := by
  have hx := C.1
  have hb := C.2.1
  unfold fP_leastEmpty at hf
  refine lv_iconst (v := 0) hx hb dX3_leastEmpty_0 (by decide) ?_
  refine lv_istore_n (lv' := [(1, .int 0), (0, .ref (z_ad E (2, w0, 0)))]) hx hb dX3_leastEmpty_1 rfl hl (by decide) rfl (fun ls hl => ?_)
  exact wP_leastEmpty_2 C hr hV0 z_fu 0 σ _ _ _ hs (lv_sub hl [1, 0] rfl) hf
set_option maxHeartbeats 4000000 in
set_option maxRecDepth 20000 in
theorem cP_leastEmpty (l : Launch) (E : zE) {w0 : Nat} (hV0 : z_W E w0) {σ σo : zS} {ro : Int32} (hf : fP_leastEmpty w0 σ = some (ro, σo)) : z_T l E yX3_leastEmpty cX3_leastEmpty 2 (some .int) (z_rm 1) (z_QI E ro σo) [.ref (z_ad E (2, w0, 0))] σ :=
  z_enter (by decide) (Nat.le_of_ble_eq_true rfl) rfl (fun p e s m below meth c A ls C hr hs hl => wP_leastEmpty C hr hV0 σ _ _ ls hs hl hf)
def fL_write (w0 : Nat) (i0 : Nat) (x1 : Int32) (x2 : Int32) (x3 : Int32) (x4 : Int32) (σ : zS) : Option (Unit × zS) :=
  z_let (z_up σ (20, w0, i0) 0 x1) (fun σ1 =>
  z_let (z_up σ1 (20, w0, i0) 1 x2) (fun σ2 =>
  z_let (z_up σ2 (20, w0, i0) 2 x3) (fun σ3 =>
  z_let (z_up σ3 (20, w0, i0) 3 x4) (fun σ4 =>
  z_let (z_up σ4 (20, w0, i0) 4 0) (fun σ5 =>
  z_let (z_up σ5 (20, w0, i0) 5 0) (fun σ6 =>
  z_let (z_up σ6 (20, w0, i0) 6 0) (fun σ7 =>
  z_let (z_up σ7 (20, w0, i0) 7 0) (fun σ8 =>
  z_let (z_up σ8 (20, w0, i0) 8 0) (fun σ9 =>
  z_let (z_up σ9 (20, w0, i0) 9 x4) (fun σ10 =>
  some ((), σ10)))))))))))
set_option maxHeartbeats 4000000 in
set_option maxRecDepth 20000 in
theorem wL_write {w0 : Nat} {i0 : Nat} {x1 : Int32} {x2 : Int32} {x3 : Int32} {x4 : Int32} (C : z_C E RX2 cX2_write 5 A p s m args meth c) (hr : meth.sig.returnType = none) (hV0 : z_W E w0) (hi0 : i0 < 41) {ro : Unit} {σo : zS} (σ : zS) (H : Heap) (locs : List Loc) (ls : Array Slot) (hs : z_H E A s σ H locs) (hl : lv_has ls 5 [(0, .ref (z_ad E (20, w0, i0))), (1, .int x1), (2, .int x2), (3, .int x3), (4, .int x4)]) (hf : fL_write w0 i0 x1 x2 x3 x4 σ = some (ro, σo)) : W p l e (z_rm 1) s m args below meth c H locs 0 0 (MQ below (z_QV E ro σo A) args s 0 0 A) (F0 m 0 ls []) := by
  have hx := C.1
  have hb := C.2.1
  unfold fL_write at hf
  refine lv_aload_n hx hb dX2_write_0 rfl (lv_at hl 0 rfl) ?_
  refine lv_iload_n hx hb dX2_write_1 rfl (lv_at hl 1 rfl) ?_
  refine zp_L_kind C hs (hV0.2.2 i0 hi0 20 (by decide) (by decide)) z_k193 dX2_write_2 (fun H locs hs => ?_)
  obtain ⟨σ1, -, hs, hf⟩ := z_top hs hf
  refine lv_aload_n hx hb dX2_write_5 rfl (lv_at hl 0 rfl) ?_
  refine lv_iload_n hx hb dX2_write_6 rfl (lv_at hl 2 rfl) ?_
  refine zp_L_sender C hs (hV0.2.2 i0 hi0 20 (by decide) (by decide)) z_k197 dX2_write_7 (fun H locs hs => ?_)
  obtain ⟨σ2, -, hs, hf⟩ := z_top hs hf
  refine lv_aload_n hx hb dX2_write_10 rfl (lv_at hl 0 rfl) ?_
  refine lv_iload_n hx hb dX2_write_11 rfl (lv_at hl 3 rfl) ?_
  refine zp_L_receiver C hs (hV0.2.2 i0 hi0 20 (by decide) (by decide)) z_k199 dX2_write_12 (fun H locs hs => ?_)
  obtain ⟨σ3, -, hs, hf⟩ := z_top hs hf
  refine lv_aload_n hx hb dX2_write_15 rfl (lv_at hl 0 rfl) ?_
  refine lv_iload hx hb dX2_write_16 (lv_at hl 4 rfl) ?_
  refine zp_L_term C hs (hV0.2.2 i0 hi0 20 (by decide) (by decide)) z_k201 dX2_write_18 (fun H locs hs => ?_)
  obtain ⟨σ4, -, hs, hf⟩ := z_top hs hf
  refine lv_aload_n hx hb dX2_write_21 rfl (lv_at hl 0 rfl) ?_
  refine lv_iconst (v := 0) hx hb dX2_write_22 (by decide) ?_
  refine zp_L_first C hs (hV0.2.2 i0 hi0 20 (by decide) (by decide)) z_k203 dX2_write_23 (fun H locs hs => ?_)
  obtain ⟨σ5, -, hs, hf⟩ := z_top hs hf
  refine lv_aload_n hx hb dX2_write_26 rfl (lv_at hl 0 rfl) ?_
  refine lv_iconst (v := 0) hx hb dX2_write_27 (by decide) ?_
  refine zp_L_second C hs (hV0.2.2 i0 hi0 20 (by decide) (by decide)) z_k205 dX2_write_28 (fun H locs hs => ?_)
  obtain ⟨σ6, -, hs, hf⟩ := z_top hs hf
  refine lv_aload_n hx hb dX2_write_31 rfl (lv_at hl 0 rfl) ?_
  refine lv_iconst (v := 0) hx hb dX2_write_32 (by decide) ?_
  refine zp_L_count C hs (hV0.2.2 i0 hi0 20 (by decide) (by decide)) z_k207 dX2_write_33 (fun H locs hs => ?_)
  obtain ⟨σ7, -, hs, hf⟩ := z_top hs hf
  refine lv_aload_n hx hb dX2_write_36 rfl (lv_at hl 0 rfl) ?_
  refine lv_iconst (v := 0) hx hb dX2_write_37 (by decide) ?_
  refine zp_L_done C hs (hV0.2.2 i0 hi0 20 (by decide) (by decide)) z_k209 dX2_write_38 (fun H locs hs => ?_)
  obtain ⟨σ8, -, hs, hf⟩ := z_top hs hf
  refine lv_aload_n hx hb dX2_write_41 rfl (lv_at hl 0 rfl) ?_
  refine lv_iconst (v := 0) hx hb dX2_write_42 (by decide) ?_
  refine zp_L_round C hs (hV0.2.2 i0 hi0 20 (by decide) (by decide)) z_k211 dX2_write_43 (fun H locs hs => ?_)
  obtain ⟨σ9, -, hs, hf⟩ := z_top hs hf
  refine lv_aload_n hx hb dX2_write_46 rfl (lv_at hl 0 rfl) ?_
  refine lv_iload hx hb dX2_write_47 (lv_at hl 4 rfl) ?_
  refine zp_L_roundTerm C hs (hV0.2.2 i0 hi0 20 (by decide) (by decide)) z_k213 dX2_write_49 (fun H locs hs => ?_)
  obtain ⟨σ10, -, hs, hf⟩ := z_top hs hf
  exact z_retv C hr hs hf dX2_write_52
set_option maxHeartbeats 4000000 in
set_option maxRecDepth 20000 in
theorem cL_write (l : Launch) (E : zE) {w0 : Nat} {i0 : Nat} {x1 : Int32} {x2 : Int32} {x3 : Int32} {x4 : Int32} (hV0 : z_W E w0) (hi0 : i0 < 41) {σ σo : zS} {ro : Unit} (hf : fL_write w0 i0 x1 x2 x3 x4 σ = some (ro, σo)) : z_T l E yX2_write cX2_write 5 none (z_rm 1) (z_QV E ro σo) [.ref (z_ad E (20, w0, i0)), .int x1, .int x2, .int x3, .int x4] σ :=
  z_enter (by decide) (Nat.le_of_ble_eq_true rfl) rfl (fun p e s m below meth c A ls C hr hs hl => wL_write C hr hV0 hi0 σ _ _ ls hs hl hf)
def fW_send (w0 : Nat) (x1 : Int32) (x2 : Int32) (x3 : Int32) (σ : zS) : Option (Option Nat × zS) :=
  z_bd (fP_leastEmpty w0 σ) (fun r1 σ1 =>
  if r1 = ((-1)) then
    (some (none, σ1))
  else
    (if z_in r1 40 = true then (
    if z_in x2 7 = true then (
    z_bd (fL_write w0 (r1.toNatClampNeg) x1 x2 x3 (σ1.1 (10, w0, x2.toNatClampNeg) 2) σ1) (fun _ σ5 =>
    some (some (r1.toNatClampNeg), σ5))) else none) else none))
set_option maxHeartbeats 4000000 in
set_option maxRecDepth 20000 in
theorem wW_send {w0 : Nat} {x1 : Int32} {x2 : Int32} {x3 : Int32} (C : z_C E RX7 cX7_send 6 A p s m args meth c) (hr : meth.sig.returnType = (some (.object "LogKeepers$Letter"))) (hV0 : z_W E w0) {ro : Option Nat} {σo : zS} (σ : zS) (H : Heap) (locs : List Loc) (ls : Array Slot) (hs : z_H E A s σ H locs) (hl : lv_has ls 6 [(0, .ref (z_ad E (0, w0, 0))), (1, .int x1), (2, .int x2), (3, .int x3)]) (hf : fW_send w0 x1 x2 x3 σ = some (ro, σo)) : W p l e (z_rm 2) s m args below meth c H locs 0 0 (MQ below (z_QL E w0 ro σo A) args s 0 0 A) (F0 m 0 ls []) := by
  have hx := C.1
  have hb := C.2.1
  unfold fW_send at hf
  refine lv_aload_n hx hb dX7_send_0 rfl (lv_at hl 0 rfl) ?_
  refine zg_W_post C hs (hV0.1 0 (by decide)) z_k283 dX7_send_1 ?_
  obtain ⟨r1, σ1, h_1, hf⟩ := z_bds hf
  refine z_goI C hs (z_runV C hs hl.1 (cP_leastEmpty l E hV0 h_1) zcV_RX7_148 (hV0.1 2 (by decide)) (z_c2 E _ _ _ _) rfl rfl rfl (by decide) (Nat.le_of_ble_eq_true rfl) dX7_send_4) (fun H locs hs => ?_)
  refine lv_istore (lv' := [(4, .int r1), (0, .ref (z_ad E (0, w0, 0))), (1, .int x1), (2, .int x2), (3, .int x3)]) hx hb dX7_send_7 hl (by decide) rfl (fun ls hl => ?_)
  refine lv_iload hx hb dX7_send_9 (lv_at hl 0 rfl) ?_
  refine lv_iconst (v := (-1)) hx hb dX7_send_11 (by decide) ?_
  refine lv_icmp_ne (tgt := 17) hx hb dX7_send_12 (by decide) (fun c2 => ?_) (fun c2 => ?_)
  · have hf := z_f hf c2
    refine lv_aload_n hx hb dX7_send_17 rfl (lv_at hl 1 rfl) ?_
    refine zg_W_post C hs (hV0.1 0 (by decide)) z_k283 dX7_send_18 ?_
    refine zg_P_letters C hs (hV0.1 2 (by decide)) z_k246 dX7_send_21 ?_
    refine lv_iload hx hb dX7_send_24 (lv_at hl 0 rfl) ?_
    obtain ⟨g3, hf⟩ := z_gd hf
    refine z_aald C hs (hV0.1 3 (by decide)) (z_c3 E _ _ _ _) (t0 := 5) rfl g3 rfl dX7_send_26 ?_
    refine lv_astore (lv' := [(5, .ref (z_ad E (20, w0, r1.toNatClampNeg))), (4, .int r1), (0, .ref (z_ad E (0, w0, 0))), (1, .int x1), (2, .int x2), (3, .int x3)]) hx hb dX7_send_27 hl (by decide) rfl (fun ls hl => ?_)
    refine lv_aload hx hb dX7_send_29 (lv_at hl 0 rfl) ?_
    refine lv_iload_n hx hb dX7_send_31 rfl (lv_at hl 3 rfl) ?_
    refine lv_iload_n hx hb dX7_send_32 rfl (lv_at hl 4 rfl) ?_
    refine lv_iload_n hx hb dX7_send_33 rfl (lv_at hl 5 rfl) ?_
    refine lv_aload_n hx hb dX7_send_34 rfl (lv_at hl 2 rfl) ?_
    refine zg_W_keepers C hs (hV0.1 0 (by decide)) z_k281 dX7_send_35 ?_
    refine lv_iload_n hx hb dX7_send_38 rfl (lv_at hl 4 rfl) ?_
    obtain ⟨g4, hf⟩ := z_gd hf
    refine z_aald C hs (hV0.1 1 (by decide)) (z_c1 E _ _ _ _) (t0 := 4) rfl g4 rfl dX7_send_39 ?_
    refine zg_K_term C hs (hV0.2.1 x2.toNatClampNeg (z_in_lt g4) 10 (by decide) (by decide)) z_k100 dX7_send_40 ?_
    obtain ⟨r5, σ5, h_5, hf⟩ := z_bds hf
    refine z_goV C hs (z_runV C hs hl.1 (cL_write l E hV0 (Nat.lt_succ_of_lt (z_in_lt g3)) h_5) zcV_RX7_155 (hV0.2.2 r1.toNatClampNeg (Nat.lt_succ_of_lt (z_in_lt g3)) 20 (by decide) (by decide)) (z_c20 E _ _ _ _) rfl rfl rfl (by decide) (Nat.le_of_ble_eq_true rfl) dX7_send_43) (fun H locs hs => ?_)
    refine lv_aload hx hb dX7_send_46 (lv_at hl 0 rfl) ?_
    exact z_retl C hr hs rfl (fun _ h => by cases h; exact (Nat.lt_succ_of_lt (z_in_lt g3))) hf dX7_send_48
  · have hf := z_t hf c2
    refine lv_null hx hb dX7_send_15 ?_
    exact z_retl C hr hs rfl (fun _ h => by cases h) hf dX7_send_16
set_option maxHeartbeats 4000000 in
set_option maxRecDepth 20000 in
theorem cW_send (l : Launch) (E : zE) {w0 : Nat} {x1 : Int32} {x2 : Int32} {x3 : Int32} (hV0 : z_W E w0) {σ σo : zS} {ro : Option Nat} (hf : fW_send w0 x1 x2 x3 σ = some (ro, σo)) : z_T l E yX7_send cX7_send 6 (some (.object "LogKeepers$Letter")) (z_rm 2) (z_QL E w0 ro σo) [.ref (z_ad E (0, w0, 0)), .int x1, .int x2, .int x3] σ :=
  z_enter (by decide) (Nat.le_of_ble_eq_true rfl) rfl (fun p e s m below meth c A ls C hr hs hl => wW_send C hr hV0 σ _ _ ls hs hl hf)
def fK_placeOf (w0 : Nat) (i0 : Nat) (x1 : Int32) (σ : zS) : Option (Int32 × zS) :=
  if x1 ≤ (σ.1 (10, w0, i0) 5) then
    (some ((-1), σ))
  else
    (if (σ.1 (10, w0, i0) 7) < x1 then
      (some ((-1), σ))
    else
      (if (x1 - (σ.1 (10, w0, i0) 5)) ≤ 40 then
        (some (((x1 - (σ.1 (10, w0, i0) 5)) - 1) * 6, σ))
      else
        (some ((-1), σ))))
set_option maxHeartbeats 4000000 in
set_option maxRecDepth 20000 in
theorem wK_placeOf {w0 : Nat} {i0 : Nat} {x1 : Int32} (C : z_C E RX1 cX1_placeOf 2 A p s m args meth c) (hr : meth.sig.returnType = (some .int)) (hV0 : z_W E w0) (hi0 : i0 < 7) {ro : Int32} {σo : zS} (σ : zS) (H : Heap) (locs : List Loc) (ls : Array Slot) (hs : z_H E A s σ H locs) (hl : lv_has ls 2 [(0, .ref (z_ad E (10, w0, i0))), (1, .int x1)]) (hf : fK_placeOf w0 i0 x1 σ = some (ro, σo)) : W p l e (z_rm 1) s m args below meth c H locs 0 0 (MQ below (z_QI E ro σo A) args s 0 0 A) (F0 m 0 ls []) := by
  have hx := C.1
  have hb := C.2.1
  unfold fK_placeOf at hf
  refine lv_iload_n hx hb dX1_placeOf_0 rfl (lv_at hl 1 rfl) ?_
  refine lv_aload_n hx hb dX1_placeOf_1 rfl (lv_at hl 0 rfl) ?_
  refine zg_K_folded C hs (hV0.2.1 i0 hi0 10 (by decide) (by decide)) z_k105 dX1_placeOf_2 ?_
  refine lv_icmp_le (tgt := 27) hx hb dX1_placeOf_5 (by decide) (fun c1 => ?_) (fun c1 => ?_)
  · have hf := z_t hf c1
    refine lv_iconst (v := (-1)) hx hb dX1_placeOf_27 (by decide) ?_
    exact z_reti C hr hs hf dX1_placeOf_28
  · have hf := z_f hf c1
    refine lv_iload_n hx hb dX1_placeOf_8 rfl (lv_at hl 1 rfl) ?_
    refine lv_aload_n hx hb dX1_placeOf_9 rfl (lv_at hl 0 rfl) ?_
    refine zg_K_last C hs (hV0.2.1 i0 hi0 10 (by decide) (by decide)) z_k111 dX1_placeOf_10 ?_
    refine lv_icmp_gt (tgt := 27) hx hb dX1_placeOf_13 (by decide) (fun c2 => ?_) (fun c2 => ?_)
    · have hf := z_t hf c2
      refine lv_iconst (v := (-1)) hx hb dX1_placeOf_27 (by decide) ?_
      exact z_reti C hr hs hf dX1_placeOf_28
    · have hf := z_f hf c2
      refine lv_iload_n hx hb dX1_placeOf_16 rfl (lv_at hl 1 rfl) ?_
      refine lv_aload_n hx hb dX1_placeOf_17 rfl (lv_at hl 0 rfl) ?_
      refine zg_K_folded C hs (hV0.2.1 i0 hi0 10 (by decide) (by decide)) z_k105 dX1_placeOf_18 ?_
      refine lv_isub hx hb dX1_placeOf_21 ?_
      refine lv_bipush (v := 40) hx hb dX1_placeOf_22 (by decide) ?_
      refine lv_icmp_le (tgt := 29) hx hb dX1_placeOf_24 (by decide) (fun c3 => ?_) (fun c3 => ?_)
      · have hf := z_t hf c3
        refine lv_iload_n hx hb dX1_placeOf_29 rfl (lv_at hl 1 rfl) ?_
        refine lv_aload_n hx hb dX1_placeOf_30 rfl (lv_at hl 0 rfl) ?_
        refine zg_K_folded C hs (hV0.2.1 i0 hi0 10 (by decide) (by decide)) z_k105 dX1_placeOf_31 ?_
        refine lv_isub hx hb dX1_placeOf_34 ?_
        refine lv_iconst (v := 1) hx hb dX1_placeOf_35 (by decide) ?_
        refine lv_isub hx hb dX1_placeOf_36 ?_
        refine lv_bipush (v := 6) hx hb dX1_placeOf_37 (by decide) ?_
        refine lv_imul hx hb dX1_placeOf_39 ?_
        exact z_reti C hr hs hf dX1_placeOf_40
      · have hf := z_f hf c3
        refine lv_iconst (v := (-1)) hx hb dX1_placeOf_27 (by decide) ?_
        exact z_reti C hr hs hf dX1_placeOf_28
set_option maxHeartbeats 4000000 in
set_option maxRecDepth 20000 in
theorem cK_placeOf (l : Launch) (E : zE) {w0 : Nat} {i0 : Nat} {x1 : Int32} (hV0 : z_W E w0) (hi0 : i0 < 7) {σ σo : zS} {ro : Int32} (hf : fK_placeOf w0 i0 x1 σ = some (ro, σo)) : z_T l E yX1_placeOf cX1_placeOf 2 (some .int) (z_rm 1) (z_QI E ro σo) [.ref (z_ad E (10, w0, i0)), .int x1] σ :=
  z_enter (by decide) (Nat.le_of_ble_eq_true rfl) rfl (fun p e s m below meth c A ls C hr hs hl => wK_placeOf C hr hV0 hi0 σ _ _ ls hs hl hf)
def fK_termOf (w0 : Nat) (i0 : Nat) (x1 : Int32) (σ : zS) : Option (Int32 × zS) :=
  if x1 = (σ.1 (10, w0, i0) 5) then
    (some (σ.1 (10, w0, i0) 6, σ))
  else
    (z_bd (fK_placeOf w0 i0 x1 σ) (fun r2 σ2 =>
    if r2 = ((-1)) then
      (some ((-1), σ2))
    else
      (if z_in (r2 + 0) 240 = true then (
      some (σ2.1 (11, w0, i0) (r2 + 0).toNatClampNeg, σ2)) else none)))
set_option maxHeartbeats 4000000 in
set_option maxRecDepth 20000 in
theorem wK_termOf {w0 : Nat} {i0 : Nat} {x1 : Int32} (C : z_C E RX1 cX1_termOf 3 A p s m args meth c) (hr : meth.sig.returnType = (some .int)) (hV0 : z_W E w0) (hi0 : i0 < 7) {ro : Int32} {σo : zS} (σ : zS) (H : Heap) (locs : List Loc) (ls : Array Slot) (hs : z_H E A s σ H locs) (hl : lv_has ls 3 [(0, .ref (z_ad E (10, w0, i0))), (1, .int x1)]) (hf : fK_termOf w0 i0 x1 σ = some (ro, σo)) : W p l e (z_rm 2) s m args below meth c H locs 0 0 (MQ below (z_QI E ro σo A) args s 0 0 A) (F0 m 0 ls []) := by
  have hx := C.1
  have hb := C.2.1
  unfold fK_termOf at hf
  refine lv_iload_n hx hb dX1_termOf_0 rfl (lv_at hl 1 rfl) ?_
  refine lv_aload_n hx hb dX1_termOf_1 rfl (lv_at hl 0 rfl) ?_
  refine zg_K_folded C hs (hV0.2.1 i0 hi0 10 (by decide) (by decide)) z_k105 dX1_termOf_2 ?_
  refine lv_icmp_ne (tgt := 13) hx hb dX1_termOf_5 (by decide) (fun c1 => ?_) (fun c1 => ?_)
  · have hf := z_f hf c1
    refine lv_aload_n hx hb dX1_termOf_13 rfl (lv_at hl 0 rfl) ?_
    refine lv_iload_n hx hb dX1_termOf_14 rfl (lv_at hl 1 rfl) ?_
    obtain ⟨r2, σ2, h_2, hf⟩ := z_bds hf
    refine z_goI C hs (z_runV C hs hl.1 (cK_placeOf l E hV0 hi0 h_2) zcV_RX1_88 (hV0.2.1 i0 hi0 10 (by decide) (by decide)) (z_c10 E _ _ _ _) rfl rfl rfl (by decide) (Nat.le_of_ble_eq_true rfl) dX1_termOf_15) (fun H locs hs => ?_)
    refine lv_istore_n (lv' := [(2, .int r2), (0, .ref (z_ad E (10, w0, i0))), (1, .int x1)]) hx hb dX1_termOf_18 rfl hl (by decide) rfl (fun ls hl => ?_)
    refine lv_iload_n hx hb dX1_termOf_19 rfl (lv_at hl 0 rfl) ?_
    refine lv_iconst (v := (-1)) hx hb dX1_termOf_20 (by decide) ?_
    refine lv_icmp_ne (tgt := 28) hx hb dX1_termOf_21 (by decide) (fun c3 => ?_) (fun c3 => ?_)
    · have hf := z_f hf c3
      refine lv_aload_n hx hb dX1_termOf_28 rfl (lv_at hl 1 rfl) ?_
      refine zg_K_entries C hs (hV0.2.1 i0 hi0 10 (by decide) (by decide)) z_k122 dX1_termOf_29 ?_
      refine lv_iload_n hx hb dX1_termOf_32 rfl (lv_at hl 0 rfl) ?_
      refine lv_iconst (v := 0) hx hb dX1_termOf_33 (by decide) ?_
      refine lv_iadd hx hb dX1_termOf_34 ?_
      obtain ⟨g4, hf⟩ := z_gd hf
      refine z_ald C hs (hV0.2.1 i0 hi0 11 (by decide) (by decide)) (z_c11 E _ _ _ _) g4 rfl dX1_termOf_35 ?_
      exact z_reti C hr hs hf dX1_termOf_36
    · have hf := z_t hf c3
      refine lv_iconst (v := (-1)) hx hb dX1_termOf_24 (by decide) ?_
      refine lv_goto (tgt := 36) hx hb dX1_termOf_25 (by decide) ?_
      exact z_reti C hr hs hf dX1_termOf_36
  · have hf := z_t hf c1
    refine lv_aload_n hx hb dX1_termOf_8 rfl (lv_at hl 0 rfl) ?_
    refine zg_K_foldTerm C hs (hV0.2.1 i0 hi0 10 (by decide) (by decide)) z_k109 dX1_termOf_9 ?_
    exact z_reti C hr hs hf dX1_termOf_12
set_option maxHeartbeats 4000000 in
set_option maxRecDepth 20000 in
theorem cK_termOf (l : Launch) (E : zE) {w0 : Nat} {i0 : Nat} {x1 : Int32} (hV0 : z_W E w0) (hi0 : i0 < 7) {σ σo : zS} {ro : Int32} (hf : fK_termOf w0 i0 x1 σ = some (ro, σo)) : z_T l E yX1_termOf cX1_termOf 3 (some .int) (z_rm 2) (z_QI E ro σo) [.ref (z_ad E (10, w0, i0)), .int x1] σ :=
  z_enter (by decide) (Nat.le_of_ble_eq_true rfl) rfl (fun p e s m below meth c A ls C hr hs hl => wK_termOf C hr hV0 hi0 σ _ _ ls hs hl hf)
def fW_sendAsk (w0 : Nat) (x1 : Int32) (x2 : Int32) (σ : zS) : Option (Unit × zS) :=
  z_bd (fW_send w0 0 x1 x2 σ) (fun r1 σ1 =>
  z_om r1 (some ((), σ1)) (fun j1 => if z_in x1 7 = true then (
  z_let (z_up σ1 (20, w0, j1) 4 (σ1.1 (10, w0, x1.toNatClampNeg) 7)) (fun σ3 =>
  z_bd (fK_termOf w0 (x1.toNatClampNeg) (σ3.1 (10, w0, x1.toNatClampNeg) 7) σ3) (fun r4 σ4 =>
  z_let (z_up σ4 (20, w0, j1) 5 r4) (fun σ5 =>
  some ((), σ5))))) else none))
set_option maxHeartbeats 4000000 in
set_option maxRecDepth 20000 in
theorem wW_sendAsk {w0 : Nat} {x1 : Int32} {x2 : Int32} (C : z_C E RX7 cX7_sendAsk 5 A p s m args meth c) (hr : meth.sig.returnType = none) (hV0 : z_W E w0) {ro : Unit} {σo : zS} (σ : zS) (H : Heap) (locs : List Loc) (ls : Array Slot) (hs : z_H E A s σ H locs) (hl : lv_has ls 5 [(0, .ref (z_ad E (0, w0, 0))), (1, .int x1), (2, .int x2)]) (hf : fW_sendAsk w0 x1 x2 σ = some (ro, σo)) : W p l e (z_rm 3) s m args below meth c H locs 0 0 (MQ below (z_QV E ro σo A) args s 0 0 A) (F0 m 0 ls []) := by
  have hx := C.1
  have hb := C.2.1
  unfold fW_sendAsk at hf
  refine lv_aload_n hx hb dX7_sendAsk_0 rfl (lv_at hl 0 rfl) ?_
  refine lv_iconst (v := 0) hx hb dX7_sendAsk_1 (by decide) ?_
  refine lv_iload_n hx hb dX7_sendAsk_2 rfl (lv_at hl 1 rfl) ?_
  refine lv_iload_n hx hb dX7_sendAsk_3 rfl (lv_at hl 2 rfl) ?_
  obtain ⟨r1, σ1, h_1, hf⟩ := z_bds hf
  refine z_goL C hs (z_runV C hs hl.1 (cW_send l E hV0 h_1) zcV_RX7_118 (hV0.1 0 (by decide)) (z_c0 E _ _ _ _) rfl rfl rfl (by decide) (Nat.le_of_ble_eq_true rfl) dX7_sendAsk_4) (fun H locs hq_1 hs => ?_)
  cases r1 with
  | none =>
    have hf := z_omn hf
    refine lv_astore_nN (lv' := [(3, .null), (0, .ref (z_ad E (0, w0, 0))), (1, .int x1), (2, .int x2)]) hx hb dX7_sendAsk_7 rfl hl (by decide) rfl (fun ls hl => ?_)
    refine lv_aload_nN hx hb dX7_sendAsk_8 rfl (lv_at hl 0 rfl) ?_
    refine lv_ifnullN (tgt := 43) hx hb dX7_sendAsk_9 (by decide) ?_
    exact z_retv C hr hs hf dX7_sendAsk_43
  | some j1 =>
    have hf := z_oms hf
    refine lv_astore_n (lv' := [(3, .ref (z_ad E (20, w0, j1))), (0, .ref (z_ad E (0, w0, 0))), (1, .int x1), (2, .int x2)]) hx hb dX7_sendAsk_7 rfl hl (by decide) rfl (fun ls hl => ?_)
    refine lv_aload_n hx hb dX7_sendAsk_8 rfl (lv_at hl 0 rfl) ?_
    refine lv_ifnull hx hb dX7_sendAsk_9 ?_
    refine lv_aload_n hx hb dX7_sendAsk_12 rfl (lv_at hl 1 rfl) ?_
    refine zg_W_keepers C hs (hV0.1 0 (by decide)) z_k281 dX7_sendAsk_13 ?_
    refine lv_iload_n hx hb dX7_sendAsk_16 rfl (lv_at hl 2 rfl) ?_
    obtain ⟨g2, hf⟩ := z_gd hf
    refine z_aald C hs (hV0.1 1 (by decide)) (z_c1 E _ _ _ _) (t0 := 4) rfl g2 rfl dX7_sendAsk_17 ?_
    refine lv_astore (lv' := [(4, .ref (z_ad E (10, w0, x1.toNatClampNeg))), (3, .ref (z_ad E (20, w0, j1))), (0, .ref (z_ad E (0, w0, 0))), (1, .int x1), (2, .int x2)]) hx hb dX7_sendAsk_18 hl (by decide) rfl (fun ls hl => ?_)
    refine lv_aload_n hx hb dX7_sendAsk_20 rfl (lv_at hl 1 rfl) ?_
    refine lv_aload hx hb dX7_sendAsk_21 (lv_at hl 0 rfl) ?_
    refine zg_K_last C hs (hV0.2.1 x1.toNatClampNeg (z_in_lt g2) 10 (by decide) (by decide)) z_k112 dX7_sendAsk_23 ?_
    refine zp_L_first C hs (hV0.2.2 j1 (hq_1 j1 rfl) 20 (by decide) (by decide)) z_k204 dX7_sendAsk_26 (fun H locs hs => ?_)
    obtain ⟨σ3, -, hs, hf⟩ := z_top hs hf
    refine lv_aload_n hx hb dX7_sendAsk_29 rfl (lv_at hl 1 rfl) ?_
    refine lv_aload hx hb dX7_sendAsk_30 (lv_at hl 0 rfl) ?_
    refine lv_aload hx hb dX7_sendAsk_32 (lv_at hl 0 rfl) ?_
    refine zg_K_last C hs (hV0.2.1 x1.toNatClampNeg (z_in_lt g2) 10 (by decide) (by decide)) z_k112 dX7_sendAsk_34 ?_
    obtain ⟨r4, σ4, h_4, hf⟩ := z_bds hf
    refine z_goI C hs (z_runV C hs hl.1 (cK_termOf l E hV0 (z_in_lt g2) h_4) zcV_RX7_130 (hV0.2.1 x1.toNatClampNeg (z_in_lt g2) 10 (by decide) (by decide)) (z_c10 E _ _ _ _) rfl rfl rfl (by decide) (Nat.le_of_ble_eq_true rfl) dX7_sendAsk_37) (fun H locs hs => ?_)
    refine zp_L_second C hs (hV0.2.2 j1 (hq_1 j1 rfl) 20 (by decide) (by decide)) z_k206 dX7_sendAsk_40 (fun H locs hs => ?_)
    obtain ⟨σ5, -, hs, hf⟩ := z_top hs hf
    exact z_retv C hr hs hf dX7_sendAsk_43
set_option maxHeartbeats 4000000 in
set_option maxRecDepth 20000 in
theorem cW_sendAsk (l : Launch) (E : zE) {w0 : Nat} {x1 : Int32} {x2 : Int32} (hV0 : z_W E w0) {σ σo : zS} {ro : Unit} (hf : fW_sendAsk w0 x1 x2 σ = some (ro, σo)) : z_T l E yX7_sendAsk cX7_sendAsk 5 none (z_rm 3) (z_QV E ro σo) [.ref (z_ad E (0, w0, 0)), .int x1, .int x2] σ :=
  z_enter (by decide) (Nat.le_of_ble_eq_true rfl) rfl (fun p e s m below meth c A ls C hr hs hl => wW_sendAsk C hr hV0 σ _ _ ls hs hl hf)
def fW_most (w0 : Nat) (σ : zS) : Option (Int32 × zS) :=
  if (σ.1 (0, w0, 0) 4) = 0 then
    (some (0, σ))
  else
    (some (((σ.1 (0, w0, 0) 4) / 2) + 1, σ))
set_option maxHeartbeats 4000000 in
set_option maxRecDepth 20000 in
theorem wW_most {w0 : Nat} (C : z_C E RX7 cX7_most 1 A p s m args meth c) (hr : meth.sig.returnType = (some .int)) (hV0 : z_W E w0) {ro : Int32} {σo : zS} (σ : zS) (H : Heap) (locs : List Loc) (ls : Array Slot) (hs : z_H E A s σ H locs) (hl : lv_has ls 1 [(0, .ref (z_ad E (0, w0, 0)))]) (hf : fW_most w0 σ = some (ro, σo)) : W p l e (z_rm 1) s m args below meth c H locs 0 0 (MQ below (z_QI E ro σo A) args s 0 0 A) (F0 m 0 ls []) := by
  have hx := C.1
  have hb := C.2.1
  unfold fW_most at hf
  refine lv_aload_n hx hb dX7_most_0 rfl (lv_at hl 0 rfl) ?_
  refine zg_W_voters C hs (hV0.1 0 (by decide)) z_k289 dX7_most_1 ?_
  refine lv_if_ne (tgt := 11) hx hb dX7_most_4 (by decide) (fun c1 => ?_) (fun c1 => ?_)
  · have hf := z_f hf c1
    refine lv_aload_n hx hb dX7_most_11 rfl (lv_at hl 0 rfl) ?_
    refine zg_W_voters C hs (hV0.1 0 (by decide)) z_k289 dX7_most_12 ?_
    refine lv_iconst (v := 2) hx hb dX7_most_15 (by decide) ?_
    refine lv_idiv hx hb dX7_most_16 (by decide) ?_
    refine lv_iconst (v := 1) hx hb dX7_most_17 (by decide) ?_
    refine lv_iadd hx hb dX7_most_18 ?_
    exact z_reti C hr hs hf dX7_most_19
  · have hf := z_t hf c1
    refine lv_iconst (v := 0) hx hb dX7_most_7 (by decide) ?_
    refine lv_goto (tgt := 19) hx hb dX7_most_8 (by decide) ?_
    exact z_reti C hr hs hf dX7_most_19
set_option maxHeartbeats 4000000 in
set_option maxRecDepth 20000 in
theorem cW_most (l : Launch) (E : zE) {w0 : Nat} (hV0 : z_W E w0) {σ σo : zS} {ro : Int32} (hf : fW_most w0 σ = some (ro, σo)) : z_T l E yX7_most cX7_most 1 (some .int) (z_rm 1) (z_QI E ro σo) [.ref (z_ad E (0, w0, 0))] σ :=
  z_enter (by decide) (Nat.le_of_ble_eq_true rfl) rfl (fun p e s m below meth c A ls C hr hs hl => wW_most C hr hV0 σ _ _ ls hs hl hf)
def fK_lead_12 (w0 : Nat) (i0 : Nat) : Nat → Int32 → zS → Option (Unit × zS)
  | 0, _, _ => none
  | n + 1, x1, σ =>
    if 7 ≤ x1 then
      (some ((), σ))
    else
      (if z_in x1 7 = true then (
      z_let (z_up σ (16, w0, i0) (x1.toNatClampNeg) ((σ.1 (10, w0, i0) 7) + 1)) (fun σ5 =>
      if z_in x1 7 = true then (
      z_let (z_up σ5 (17, w0, i0) (x1.toNatClampNeg) 0) (fun σ7 =>
      if z_in x1 7 = true then (
      z_let (z_up σ7 (18, w0, i0) (x1.toNatClampNeg) 0) (fun σ9 =>
      if z_in x1 7 = true then (
      z_let (z_up σ9 (19, w0, i0) (x1.toNatClampNeg) 0) (fun σ11 =>
      z_let (x1 + 1) (fun y12 =>
      fK_lead_12 w0 i0 n y12 σ11))) else none)) else none)) else none)) else none)
def fK_lead (w0 : Nat) (i0 : Nat) (σ : zS) : Option (Unit × zS) :=
  z_let (z_up σ (10, w0, i0) 4 2) (fun σ1 =>
  z_let (z_up σ1 (10, w0, i0) 10 0) (fun σ2 =>
  fK_lead_12 w0 i0 z_fu 0 σ2))
set_option maxHeartbeats 4000000 in
set_option maxRecDepth 20000 in
theorem wK_lead_12 {w0 : Nat} {i0 : Nat} (C : z_C E RX1 cX1_lead 2 A p s m args meth c) (hr : meth.sig.returnType = none) (hV0 : z_W E w0) (hi0 : i0 < 7) {ro : Unit} {σo : zS} (n : Nat) : ∀ (x1 : Int32) (σ : zS) (H : Heap) (locs : List Loc) (ls : Array Slot), z_H E A s σ H locs → lv_has ls 2 [(0, .ref (z_ad E (10, w0, i0))), (1, .int x1)] → fK_lead_12 w0 i0 n x1 σ = some (ro, σo) → W p l e (z_rm 1) s m args below meth c H locs 0 0 (MQ below (z_QV E ro σo A) args s 0 0 A) (F0 m 12 ls []) := by
  induction n with
  | zero =>
    intro x1 σ H locs ls hs hl hf
    have hf : none = some (ro, σo) := hf
    cases hf
  | succ n ih =>
    intro x1 σ H locs ls hs hl hf
    have hx := C.1
    have hb := C.2.1
    rw [fK_lead_12.eq_2] at hf
    refine lv_iload_n hx hb dX1_lead_12 rfl (lv_at hl 1 rfl) ?_
    refine lv_bipush (v := 7) hx hb dX1_lead_13 (by decide) ?_
    refine lv_icmp_ge (tgt := 57) hx hb dX1_lead_15 (by decide) (fun c3 => ?_) (fun c3 => ?_)
    · have hf := z_t hf c3
      exact z_retv C hr hs hf dX1_lead_57
    · have hf := z_f hf c3
      refine lv_aload_n hx hb dX1_lead_18 rfl (lv_at hl 0 rfl) ?_
      refine zg_K_next C hs (hV0.2.1 i0 hi0 10 (by decide) (by decide)) z_k130 dX1_lead_19 ?_
      refine lv_iload_n hx hb dX1_lead_22 rfl (lv_at hl 1 rfl) ?_
      refine lv_aload_n hx hb dX1_lead_23 rfl (lv_at hl 0 rfl) ?_
      refine zg_K_last C hs (hV0.2.1 i0 hi0 10 (by decide) (by decide)) z_k111 dX1_lead_24 ?_
      refine lv_iconst (v := 1) hx hb dX1_lead_27 (by decide) ?_
      refine lv_iadd hx hb dX1_lead_28 ?_
      obtain ⟨g4, hf⟩ := z_gd hf
      refine z_ast C hs (hV0.2.1 i0 hi0 16 (by decide) (by decide)) (fun r h => z_c16 E r h _ _) g4 rfl dX1_lead_29 (fun H locs hs => ?_)
      obtain ⟨σ5, -, hs, hf⟩ := z_top hs hf
      refine lv_aload_n hx hb dX1_lead_30 rfl (lv_at hl 0 rfl) ?_
      refine zg_K_sure C hs (hV0.2.1 i0 hi0 10 (by decide) (by decide)) z_k133 dX1_lead_31 ?_
      refine lv_iload_n hx hb dX1_lead_34 rfl (lv_at hl 1 rfl) ?_
      refine lv_iconst (v := 0) hx hb dX1_lead_35 (by decide) ?_
      obtain ⟨g6, hf⟩ := z_gd hf
      refine z_ast C hs (hV0.2.1 i0 hi0 17 (by decide) (by decide)) (fun r h => z_c17 E r h _ _) g6 rfl dX1_lead_36 (fun H locs hs => ?_)
      obtain ⟨σ7, -, hs, hf⟩ := z_top hs hf
      refine lv_aload_n hx hb dX1_lead_37 rfl (lv_at hl 0 rfl) ?_
      refine zg_K_answered C hs (hV0.2.1 i0 hi0 10 (by decide) (by decide)) z_k136 dX1_lead_38 ?_
      refine lv_iload_n hx hb dX1_lead_41 rfl (lv_at hl 1 rfl) ?_
      refine lv_iconst (v := 0) hx hb dX1_lead_42 (by decide) ?_
      obtain ⟨g8, hf⟩ := z_gd hf
      refine z_ast C hs (hV0.2.1 i0 hi0 18 (by decide) (by decide)) (fun r h => z_c18 E r h _ _) g8 rfl dX1_lead_43 (fun H locs hs => ?_)
      obtain ⟨σ9, -, hs, hf⟩ := z_top hs hf
      refine lv_aload_n hx hb dX1_lead_44 rfl (lv_at hl 0 rfl) ?_
      refine zg_K_heard C hs (hV0.2.1 i0 hi0 10 (by decide) (by decide)) z_k139 dX1_lead_45 ?_
      refine lv_iload_n hx hb dX1_lead_48 rfl (lv_at hl 1 rfl) ?_
      refine lv_iconst (v := 0) hx hb dX1_lead_49 (by decide) ?_
      obtain ⟨g10, hf⟩ := z_gd hf
      refine z_ast C hs (hV0.2.1 i0 hi0 19 (by decide) (by decide)) (fun r h => z_c19 E r h _ _) g10 rfl dX1_lead_50 (fun H locs hs => ?_)
      obtain ⟨σ11, -, hs, hf⟩ := z_top hs hf
      obtain ⟨y12, e_y12⟩ : ∃ y : Int32, y = x1 + 1 := ⟨_, rfl⟩
      have hf := z_lte e_y12 hf
      refine lv_iinc (v := y12) (lv' := [(1, .int y12), (0, .ref (z_ad E (10, w0, i0)))]) hx hb dX1_lead_51 hl (k := 1) rfl (by rw [e_y12]; rfl) (by decide) rfl (fun ls hl => ?_)
      refine lv_goto (tgt := 12) hx hb dX1_lead_54 (by decide) ?_
      exact ih y12 σ11 _ _ _ hs (lv_sub hl [1, 0] rfl) hf
set_option maxHeartbeats 4000000 in
set_option maxRecDepth 20000 in
theorem wK_lead {w0 : Nat} {i0 : Nat} (C : z_C E RX1 cX1_lead 2 A p s m args meth c) (hr : meth.sig.returnType = none) (hV0 : z_W E w0) (hi0 : i0 < 7) {ro : Unit} {σo : zS} (σ : zS) (H : Heap) (locs : List Loc) (ls : Array Slot) (hs : z_H E A s σ H locs) (hl : lv_has ls 2 [(0, .ref (z_ad E (10, w0, i0)))]) (hf : fK_lead w0 i0 σ = some (ro, σo)) : W p l e (z_rm 1) s m args below meth c H locs 0 0 (MQ below (z_QV E ro σo A) args s 0 0 A) (F0 m 0 ls []) := by
  have hx := C.1
  have hb := C.2.1
  unfold fK_lead at hf
  refine lv_aload_n hx hb dX1_lead_0 rfl (lv_at hl 0 rfl) ?_
  refine lv_iconst (v := 2) hx hb dX1_lead_1 (by decide) ?_
  refine zp_K_role C hs (hV0.2.1 i0 hi0 10 (by decide) (by decide)) z_k103 dX1_lead_2 (fun H locs hs => ?_)
  obtain ⟨σ1, -, hs, hf⟩ := z_top hs hf
  refine lv_aload_n hx hb dX1_lead_5 rfl (lv_at hl 0 rfl) ?_
  refine lv_iconst (v := 0) hx hb dX1_lead_6 (by decide) ?_
  refine zp_K_round C hs (hV0.2.1 i0 hi0 10 (by decide) (by decide)) z_k120 dX1_lead_7 (fun H locs hs => ?_)
  obtain ⟨σ2, -, hs, hf⟩ := z_top hs hf
  refine lv_iconst (v := 0) hx hb dX1_lead_10 (by decide) ?_
  refine lv_istore_n (lv' := [(1, .int 0), (0, .ref (z_ad E (10, w0, i0)))]) hx hb dX1_lead_11 rfl hl (by decide) rfl (fun ls hl => ?_)
  exact wK_lead_12 C hr hV0 hi0 z_fu 0 σ2 _ _ _ hs (lv_sub hl [1, 0] rfl) hf
set_option maxHeartbeats 4000000 in
set_option maxRecDepth 20000 in
theorem cK_lead (l : Launch) (E : zE) {w0 : Nat} {i0 : Nat} (hV0 : z_W E w0) (hi0 : i0 < 7) {σ σo : zS} {ro : Unit} (hf : fK_lead w0 i0 σ = some (ro, σo)) : z_T l E yX1_lead cX1_lead 2 none (z_rm 1) (z_QV E ro σo) [.ref (z_ad E (10, w0, i0))] σ :=
  z_enter (by decide) (Nat.le_of_ble_eq_true rfl) rfl (fun p e s m below meth c A ls C hr hs hl => wK_lead C hr hV0 hi0 σ _ _ ls hs hl hf)
def fW_leadIfChosen (w0 : Nat) (w1 : Nat) (i1 : Nat) (σ : zS) : Option (Unit × zS) :=
  if (σ.1 (10, w1, i1) 4) = 1 then
    (z_bd (fJ_bitCount (σ.1 (10, w1, i1) 9) σ) (fun r2 σ2 =>
    z_bd (fW_most w0 σ2) (fun r3 σ3 =>
    if r2 < r3 then
      (some ((), σ3))
    else
      (z_bd (fK_lead w1 i1 σ3) (fun _ σ5 =>
      some ((), σ5))))))
  else
    (some ((), σ))
set_option maxHeartbeats 4000000 in
set_option maxRecDepth 20000 in
theorem wW_leadIfChosen {w0 : Nat} {w1 : Nat} {i1 : Nat} (C : z_C E RX7 cX7_leadIfChosen 2 A p s m args meth c) (hr : meth.sig.returnType = none) (hV0 : z_W E w0) (hV1 : z_W E w1) (hi1 : i1 < 7) {ro : Unit} {σo : zS} (σ : zS) (H : Heap) (locs : List Loc) (ls : Array Slot) (hs : z_H E A s σ H locs) (hl : lv_has ls 2 [(0, .ref (z_ad E (0, w0, 0))), (1, .ref (z_ad E (10, w1, i1)))]) (hf : fW_leadIfChosen w0 w1 i1 σ = some (ro, σo)) : W p l e (z_rm 2) s m args below meth c H locs 0 0 (MQ below (z_QV E ro σo A) args s 0 0 A) (F0 m 0 ls []) := by
  have hx := C.1
  have hb := C.2.1
  unfold fW_leadIfChosen at hf
  refine lv_aload_n hx hb dX7_leadIfChosen_0 rfl (lv_at hl 1 rfl) ?_
  refine zg_K_role C hs (hV1.2.1 i1 hi1 10 (by decide) (by decide)) z_k104 dX7_leadIfChosen_1 ?_
  refine lv_iconst (v := 1) hx hb dX7_leadIfChosen_4 (by decide) ?_
  refine lv_icmp_ne (tgt := 26) hx hb dX7_leadIfChosen_5 (by decide) (fun c1 => ?_) (fun c1 => ?_)
  · have hf := z_f hf c1
    exact z_retv C hr hs hf dX7_leadIfChosen_26
  · have hf := z_t hf c1
    refine lv_aload_n hx hb dX7_leadIfChosen_8 rfl (lv_at hl 1 rfl) ?_
    refine zg_K_ballots C hs (hV1.2.1 i1 hi1 10 (by decide) (by decide)) z_k119 dX7_leadIfChosen_9 ?_
    obtain ⟨r2, σ2, h_2, hf⟩ := z_bds hf
    refine z_goI C hs (z_runS2 C hs hl.1 (cJ_bitCount l E h_2) zcS_RX7_137 rfl rfl (by decide) (Nat.le_of_ble_eq_true rfl) dX7_leadIfChosen_12) (fun H locs hs => ?_)
    refine lv_aload_n hx hb dX7_leadIfChosen_15 rfl (lv_at hl 0 rfl) ?_
    obtain ⟨r3, σ3, h_3, hf⟩ := z_bds hf
    refine z_goI C hs (z_runV C hs hl.1 (cW_most l E hV0 h_3) zcV_RX7_142 (hV0.1 0 (by decide)) (z_c0 E _ _ _ _) rfl rfl rfl (by decide) (Nat.le_of_ble_eq_true rfl) dX7_leadIfChosen_16) (fun H locs hs => ?_)
    refine lv_icmp_lt (tgt := 26) hx hb dX7_leadIfChosen_19 (by decide) (fun c4 => ?_) (fun c4 => ?_)
    · have hf := z_t hf c4
      exact z_retv C hr hs hf dX7_leadIfChosen_26
    · have hf := z_f hf c4
      refine lv_aload_n hx hb dX7_leadIfChosen_22 rfl (lv_at hl 1 rfl) ?_
      obtain ⟨r5, σ5, h_5, hf⟩ := z_bds hf
      refine z_goV C hs (z_runV C hs hl.1 (cK_lead l E hV1 hi1 h_5) zcV_RX7_145 (hV1.2.1 i1 hi1 10 (by decide) (by decide)) (z_c10 E _ _ _ _) rfl rfl rfl (by decide) (Nat.le_of_ble_eq_true rfl) dX7_leadIfChosen_23) (fun H locs hs => ?_)
      exact z_retv C hr hs hf dX7_leadIfChosen_26
set_option maxHeartbeats 4000000 in
set_option maxRecDepth 20000 in
theorem cW_leadIfChosen (l : Launch) (E : zE) {w0 : Nat} {w1 : Nat} {i1 : Nat} (hV0 : z_W E w0) (hV1 : z_W E w1) (hi1 : i1 < 7) {σ σo : zS} {ro : Unit} (hf : fW_leadIfChosen w0 w1 i1 σ = some (ro, σo)) : z_T l E yX7_leadIfChosen cX7_leadIfChosen 2 none (z_rm 2) (z_QV E ro σo) [.ref (z_ad E (0, w0, 0)), .ref (z_ad E (10, w1, i1))] σ :=
  z_enter (by decide) (Nat.le_of_ble_eq_true rfl) rfl (fun p e s m below meth c A ls C hr hs hl => wW_leadIfChosen C hr hV0 hV1 hi1 σ _ _ ls hs hl hf)
def fW_askBy_82 (w0 : Nat) : Nat → Int32 → Nat → Int32 → zS → Option (Int32 × zS)
  | 0, _, _, _, _ => none
  | n + 1, x1, i2, x4, σ =>
    if (σ.1 (0, w0, 0) 3) ≤ x4 then
      (z_bd (fW_leadIfChosen w0 w0 i2 σ) (fun _ σ13 =>
      some (σ13.1 (10, w0, i2) 2, σ13)))
    else
      (if x4 = x1 then
        (z_let (x4 + 1) (fun y15 =>
        fW_askBy_82 w0 n x1 i2 y15 σ))
      else
        (if z_in x4 7 = true then (
        if (σ.1 (10, w0, x4.toNatClampNeg) 0) = 0 then
          (z_let (x4 + 1) (fun y18 =>
          fW_askBy_82 w0 n x1 i2 y18 σ))
        else
          (z_bd (fW_sendAsk w0 x1 x4 σ) (fun _ σ19 =>
          z_let (x4 + 1) (fun y20 =>
          fW_askBy_82 w0 n x1 i2 y20 σ19)))) else none))
def fW_askBy (w0 : Nat) (x1 : Int32) (σ : zS) : Option (Int32 × zS) :=
  if z_in x1 7 = true then (
  z_bd (fP_countFull w0 σ) (fun r2 σ2 =>
  z_let (40 - r2) (fun y3 =>
  if (σ2.1 (10, w0, x1.toNatClampNeg) 1) = 0 then
    (if (σ2.1 (10, w0, x1.toNatClampNeg) 0) = 0 then
      (some ((-1), σ2))
    else
      (if (σ2.1 (10, w0, x1.toNatClampNeg) 4) = 2 then
        (some ((-1), σ2))
      else
        (if ((σ2.1 (0, w0, 0) 4) - 1) ≤ y3 then
          (z_bd (fK_enterTerm w0 (x1.toNatClampNeg) ((σ2.1 (10, w0, x1.toNatClampNeg) 2) + 1) σ2) (fun _ σ8 =>
          z_let (z_up σ8 (10, w0, x1.toNatClampNeg) 3 x1) (fun σ9 =>
          z_let (z_up σ9 (10, w0, x1.toNatClampNeg) 4 1) (fun σ10 =>
          z_let (z_up σ10 (10, w0, x1.toNatClampNeg) 9 (1 <<< (x1 &&& 31))) (fun σ11 =>
          fW_askBy_82 w0 z_fu x1 (x1.toNatClampNeg) 0 σ11)))))
        else
          (some ((-1), σ2)))))
  else
    (some ((-1), σ2))))) else none
set_option maxHeartbeats 4000000 in
set_option maxRecDepth 20000 in
theorem wW_askBy_82 {w0 : Nat} (C : z_C E RX7 cX7_askBy 5 A p s m args meth c) (hr : meth.sig.returnType = (some .int)) (hV0 : z_W E w0) {ro : Int32} {σo : zS} (n : Nat) : ∀ (x1 : Int32) (i2 : Nat) (x4 : Int32) (σ : zS) (H : Heap) (locs : List Loc) (ls : Array Slot) (hi2 : i2 < 7), z_H E A s σ H locs → lv_has ls 5 [(0, .ref (z_ad E (0, w0, 0))), (1, .int x1), (2, .ref (z_ad E (10, w0, i2))), (4, .int x4)] → fW_askBy_82 w0 n x1 i2 x4 σ = some (ro, σo) → W p l e (z_rm 4) s m args below meth c H locs 0 0 (MQ below (z_QI E ro σo A) args s 0 0 A) (F0 m 82 ls []) := by
  induction n with
  | zero =>
    intro x1 i2 x4 σ H locs ls hi2 hs hl hf
    have hf : none = some (ro, σo) := hf
    cases hf
  | succ n ih =>
    intro x1 i2 x4 σ H locs ls hi2 hs hl hf
    have hx := C.1
    have hb := C.2.1
    rw [fW_askBy_82.eq_2] at hf
    refine lv_iload hx hb dX7_askBy_82 (lv_at hl 3 rfl) ?_
    refine lv_aload_n hx hb dX7_askBy_84 rfl (lv_at hl 0 rfl) ?_
    refine zg_W_count C hs (hV0.1 0 (by decide)) z_k287 dX7_askBy_85 ?_
    refine lv_icmp_ge (tgt := 123) hx hb dX7_askBy_88 (by decide) (fun c12 => ?_) (fun c12 => ?_)
    · have hf := z_t hf c12
      refine lv_aload_n hx hb dX7_askBy_123 rfl (lv_at hl 0 rfl) ?_
      refine lv_aload_n hx hb dX7_askBy_124 rfl (lv_at hl 2 rfl) ?_
      obtain ⟨r13, σ13, h_13, hf⟩ := z_bds hf
      refine z_goV C hs (z_runV C hs hl.1 (cW_leadIfChosen l E hV0 hV0 hi2 h_13) zcV_RX7_115 (hV0.1 0 (by decide)) (z_c0 E _ _ _ _) rfl rfl rfl (by decide) (Nat.le_of_ble_eq_true rfl) dX7_askBy_125) (fun H locs hs => ?_)
      refine lv_aload_n hx hb dX7_askBy_128 rfl (lv_at hl 2 rfl) ?_
      refine zg_K_term C hs (hV0.2.1 i2 hi2 10 (by decide) (by decide)) z_k100 dX7_askBy_129 ?_
      exact z_reti C hr hs hf dX7_askBy_132
    · have hf := z_f hf c12
      refine lv_iload hx hb dX7_askBy_91 (lv_at hl 3 rfl) ?_
      refine lv_iload_n hx hb dX7_askBy_93 rfl (lv_at hl 1 rfl) ?_
      refine lv_icmp_eq (tgt := 117) hx hb dX7_askBy_94 (by decide) (fun c14 => ?_) (fun c14 => ?_)
      · have hf := z_t hf c14
        obtain ⟨y15, e_y15⟩ : ∃ y : Int32, y = x4 + 1 := ⟨_, rfl⟩
        have hf := z_lte e_y15 hf
        refine lv_iinc (v := y15) (lv' := [(4, .int y15), (0, .ref (z_ad E (0, w0, 0))), (1, .int x1), (2, .ref (z_ad E (10, w0, i2)))]) hx hb dX7_askBy_117 hl (k := 3) rfl (by rw [e_y15]; rfl) (by decide) rfl (fun ls hl => ?_)
        refine lv_goto (tgt := 82) hx hb dX7_askBy_120 (by decide) ?_
        exact ih x1 i2 y15 σ _ _ _ hi2 hs (lv_sub hl [1, 2, 3, 0] rfl) hf
      · have hf := z_f hf c14
        refine lv_aload_n hx hb dX7_askBy_97 rfl (lv_at hl 0 rfl) ?_
        refine zg_W_keepers C hs (hV0.1 0 (by decide)) z_k281 dX7_askBy_98 ?_
        refine lv_iload hx hb dX7_askBy_101 (lv_at hl 3 rfl) ?_
        obtain ⟨g16, hf⟩ := z_gd hf
        refine z_aald C hs (hV0.1 1 (by decide)) (z_c1 E _ _ _ _) (t0 := 4) rfl g16 rfl dX7_askBy_103 ?_
        refine zg_K_voter C hs (hV0.2.1 x4.toNatClampNeg (z_in_lt g16) 10 (by decide) (by decide)) z_k95 dX7_askBy_104 ?_
        refine lv_if_eq (tgt := 117) hx hb dX7_askBy_107 (by decide) (fun c17 => ?_) (fun c17 => ?_)
        · have hf := z_t hf c17
          obtain ⟨y18, e_y18⟩ : ∃ y : Int32, y = x4 + 1 := ⟨_, rfl⟩
          have hf := z_lte e_y18 hf
          refine lv_iinc (v := y18) (lv' := [(4, .int y18), (0, .ref (z_ad E (0, w0, 0))), (1, .int x1), (2, .ref (z_ad E (10, w0, i2)))]) hx hb dX7_askBy_117 hl (k := 3) rfl (by rw [e_y18]; rfl) (by decide) rfl (fun ls hl => ?_)
          refine lv_goto (tgt := 82) hx hb dX7_askBy_120 (by decide) ?_
          exact ih x1 i2 y18 σ _ _ _ hi2 hs (lv_sub hl [1, 2, 3, 0] rfl) hf
        · have hf := z_f hf c17
          refine lv_aload_n hx hb dX7_askBy_110 rfl (lv_at hl 0 rfl) ?_
          refine lv_iload_n hx hb dX7_askBy_111 rfl (lv_at hl 1 rfl) ?_
          refine lv_iload hx hb dX7_askBy_112 (lv_at hl 3 rfl) ?_
          obtain ⟨r19, σ19, h_19, hf⟩ := z_bds hf
          refine z_goV C hs (z_runV C hs hl.1 (cW_sendAsk l E hV0 h_19) zcV_RX7_111 (hV0.1 0 (by decide)) (z_c0 E _ _ _ _) rfl rfl rfl (by decide) (Nat.le_of_ble_eq_true rfl) dX7_askBy_114) (fun H locs hs => ?_)
          obtain ⟨y20, e_y20⟩ : ∃ y : Int32, y = x4 + 1 := ⟨_, rfl⟩
          have hf := z_lte e_y20 hf
          refine lv_iinc (v := y20) (lv' := [(4, .int y20), (0, .ref (z_ad E (0, w0, 0))), (1, .int x1), (2, .ref (z_ad E (10, w0, i2)))]) hx hb dX7_askBy_117 hl (k := 3) rfl (by rw [e_y20]; rfl) (by decide) rfl (fun ls hl => ?_)
          refine lv_goto (tgt := 82) hx hb dX7_askBy_120 (by decide) ?_
          exact ih x1 i2 y20 σ19 _ _ _ hi2 hs (lv_sub hl [1, 2, 3, 0] rfl) hf
set_option maxHeartbeats 4000000 in
set_option maxRecDepth 20000 in
theorem wW_askBy {w0 : Nat} {x1 : Int32} (C : z_C E RX7 cX7_askBy 5 A p s m args meth c) (hr : meth.sig.returnType = (some .int)) (hV0 : z_W E w0) {ro : Int32} {σo : zS} (σ : zS) (H : Heap) (locs : List Loc) (ls : Array Slot) (hs : z_H E A s σ H locs) (hl : lv_has ls 5 [(0, .ref (z_ad E (0, w0, 0))), (1, .int x1)]) (hf : fW_askBy w0 x1 σ = some (ro, σo)) : W p l e (z_rm 4) s m args below meth c H locs 0 0 (MQ below (z_QI E ro σo A) args s 0 0 A) (F0 m 0 ls []) := by
  have hx := C.1
  have hb := C.2.1
  unfold fW_askBy at hf
  refine lv_aload_n hx hb dX7_askBy_0 rfl (lv_at hl 0 rfl) ?_
  refine zg_W_keepers C hs (hV0.1 0 (by decide)) z_k281 dX7_askBy_1 ?_
  refine lv_iload_n hx hb dX7_askBy_4 rfl (lv_at hl 1 rfl) ?_
  obtain ⟨g1, hf⟩ := z_gd hf
  refine z_aald C hs (hV0.1 1 (by decide)) (z_c1 E _ _ _ _) (t0 := 4) rfl g1 rfl dX7_askBy_5 ?_
  refine lv_astore_n (lv' := [(2, .ref (z_ad E (10, w0, x1.toNatClampNeg))), (0, .ref (z_ad E (0, w0, 0))), (1, .int x1)]) hx hb dX7_askBy_6 rfl hl (by decide) rfl (fun ls hl => ?_)
  refine lv_bipush (v := 40) hx hb dX7_askBy_7 (by decide) ?_
  refine lv_aload_n hx hb dX7_askBy_9 rfl (lv_at hl 1 rfl) ?_
  refine zg_W_post C hs (hV0.1 0 (by decide)) z_k283 dX7_askBy_10 ?_
  obtain ⟨r2, σ2, h_2, hf⟩ := z_bds hf
  refine z_goI C hs (z_runV C hs hl.1 (cP_countFull l E hV0 h_2) zcV_RX7_92 (hV0.1 2 (by decide)) (z_c2 E _ _ _ _) rfl rfl rfl (by decide) (Nat.le_of_ble_eq_true rfl) dX7_askBy_13) (fun H locs hs => ?_)
  refine lv_isub hx hb dX7_askBy_16 ?_
  refine lv_topi (fun y3 e_y3 => ?_)
  have hf := z_lte e_y3 hf
  refine lv_istore_n (lv' := [(3, .int y3), (2, .ref (z_ad E (10, w0, x1.toNatClampNeg))), (0, .ref (z_ad E (0, w0, 0))), (1, .int x1)]) hx hb dX7_askBy_17 rfl hl (by decide) rfl (fun ls hl => ?_)
  refine lv_aload_n hx hb dX7_askBy_18 rfl (lv_at hl 1 rfl) ?_
  refine zg_K_fallen C hs (hV0.2.1 x1.toNatClampNeg (z_in_lt g1) 10 (by decide) (by decide)) z_k97 dX7_askBy_19 ?_
  refine lv_if_ne (tgt := 50) hx hb dX7_askBy_22 (by decide) (fun c4 => ?_) (fun c4 => ?_)
  · have hf := z_f hf c4
    refine lv_iconst (v := (-1)) hx hb dX7_askBy_50 (by decide) ?_
    exact z_reti C hr hs hf dX7_askBy_51
  · have hf := z_t hf c4
    refine lv_aload_n hx hb dX7_askBy_25 rfl (lv_at hl 1 rfl) ?_
    refine zg_K_voter C hs (hV0.2.1 x1.toNatClampNeg (z_in_lt g1) 10 (by decide) (by decide)) z_k95 dX7_askBy_26 ?_
    refine lv_if_eq (tgt := 50) hx hb dX7_askBy_29 (by decide) (fun c5 => ?_) (fun c5 => ?_)
    · have hf := z_t hf c5
      refine lv_iconst (v := (-1)) hx hb dX7_askBy_50 (by decide) ?_
      exact z_reti C hr hs hf dX7_askBy_51
    · have hf := z_f hf c5
      refine lv_aload_n hx hb dX7_askBy_32 rfl (lv_at hl 1 rfl) ?_
      refine zg_K_role C hs (hV0.2.1 x1.toNatClampNeg (z_in_lt g1) 10 (by decide) (by decide)) z_k104 dX7_askBy_33 ?_
      refine lv_iconst (v := 2) hx hb dX7_askBy_36 (by decide) ?_
      refine lv_icmp_eq (tgt := 50) hx hb dX7_askBy_37 (by decide) (fun c6 => ?_) (fun c6 => ?_)
      · have hf := z_t hf c6
        refine lv_iconst (v := (-1)) hx hb dX7_askBy_50 (by decide) ?_
        exact z_reti C hr hs hf dX7_askBy_51
      · have hf := z_f hf c6
        refine lv_iload_n hx hb dX7_askBy_40 rfl (lv_at hl 0 rfl) ?_
        refine lv_aload_n hx hb dX7_askBy_41 rfl (lv_at hl 2 rfl) ?_
        refine zg_W_voters C hs (hV0.1 0 (by decide)) z_k289 dX7_askBy_42 ?_
        refine lv_iconst (v := 1) hx hb dX7_askBy_45 (by decide) ?_
        refine lv_isub hx hb dX7_askBy_46 ?_
        refine lv_icmp_ge (tgt := 52) hx hb dX7_askBy_47 (by decide) (fun c7 => ?_) (fun c7 => ?_)
        · have hf := z_t hf c7
          refine lv_aload_n hx hb dX7_askBy_52 rfl (lv_at hl 1 rfl) ?_
          refine lv_aload_n hx hb dX7_askBy_53 rfl (lv_at hl 1 rfl) ?_
          refine zg_K_term C hs (hV0.2.1 x1.toNatClampNeg (z_in_lt g1) 10 (by decide) (by decide)) z_k100 dX7_askBy_54 ?_
          refine lv_iconst (v := 1) hx hb dX7_askBy_57 (by decide) ?_
          refine lv_iadd hx hb dX7_askBy_58 ?_
          obtain ⟨r8, σ8, h_8, hf⟩ := z_bds hf
          refine z_goV C hs (z_runV C hs hl.1 (cK_enterTerm l E hV0 (z_in_lt g1) h_8) zcV_RX7_101 (hV0.2.1 x1.toNatClampNeg (z_in_lt g1) 10 (by decide) (by decide)) (z_c10 E _ _ _ _) rfl rfl rfl (by decide) (Nat.le_of_ble_eq_true rfl) dX7_askBy_59) (fun H locs hs => ?_)
          refine lv_aload_n hx hb dX7_askBy_62 rfl (lv_at hl 1 rfl) ?_
          refine lv_iload_n hx hb dX7_askBy_63 rfl (lv_at hl 3 rfl) ?_
          refine zp_K_vote C hs (hV0.2.1 x1.toNatClampNeg (z_in_lt g1) 10 (by decide) (by decide)) z_k102 dX7_askBy_64 (fun H locs hs => ?_)
          obtain ⟨σ9, -, hs, hf⟩ := z_top hs hf
          refine lv_aload_n hx hb dX7_askBy_67 rfl (lv_at hl 1 rfl) ?_
          refine lv_iconst (v := 1) hx hb dX7_askBy_68 (by decide) ?_
          refine zp_K_role C hs (hV0.2.1 x1.toNatClampNeg (z_in_lt g1) 10 (by decide) (by decide)) z_k104 dX7_askBy_69 (fun H locs hs => ?_)
          obtain ⟨σ10, -, hs, hf⟩ := z_top hs hf
          refine lv_aload_n hx hb dX7_askBy_72 rfl (lv_at hl 1 rfl) ?_
          refine lv_iconst (v := 1) hx hb dX7_askBy_73 (by decide) ?_
          refine lv_iload_n hx hb dX7_askBy_74 rfl (lv_at hl 3 rfl) ?_
          refine lv_ishl hx hb dX7_askBy_75 ?_
          refine zp_K_ballots C hs (hV0.2.1 x1.toNatClampNeg (z_in_lt g1) 10 (by decide) (by decide)) z_k119 dX7_askBy_76 (fun H locs hs => ?_)
          obtain ⟨σ11, -, hs, hf⟩ := z_top hs hf
          refine lv_iconst (v := 0) hx hb dX7_askBy_79 (by decide) ?_
          refine lv_istore (lv' := [(4, .int 0), (3, .int y3), (2, .ref (z_ad E (10, w0, x1.toNatClampNeg))), (0, .ref (z_ad E (0, w0, 0))), (1, .int x1)]) hx hb dX7_askBy_80 hl (by decide) rfl (fun ls hl => ?_)
          exact wW_askBy_82 C hr hV0 z_fu x1 (x1.toNatClampNeg) 0 σ11 _ _ _ (z_in_lt g1) hs (lv_sub hl [3, 4, 2, 0] rfl) hf
        · have hf := z_f hf c7
          refine lv_iconst (v := (-1)) hx hb dX7_askBy_50 (by decide) ?_
          exact z_reti C hr hs hf dX7_askBy_51
set_option maxHeartbeats 4000000 in
set_option maxRecDepth 20000 in
theorem cW_askBy (l : Launch) (E : zE) {w0 : Nat} {x1 : Int32} (hV0 : z_W E w0) {σ σo : zS} {ro : Int32} (hf : fW_askBy w0 x1 σ = some (ro, σo)) : z_T l E yX7_askBy cX7_askBy 5 (some .int) (z_rm 4) (z_QI E ro σo) [.ref (z_ad E (0, w0, 0)), .int x1] σ :=
  z_enter (by decide) (Nat.le_of_ble_eq_true rfl) rfl (fun p e s m below meth c A ls C hr hs hl => wW_askBy C hr hV0 σ _ _ ls hs hl hf)
def fX_ask (x1 : Int32) (σ : zS) : Option (Int32 × zS) :=
  z_bd (fW_isKeeper 0 x1 σ) (fun r1 σ1 =>
  if r1 = 0 then
    (some ((-1), σ1))
  else
    (z_bd (fW_askBy 0 x1 σ1) (fun r3 σ3 =>
    some (r3, σ3))))
set_option maxHeartbeats 4000000 in
set_option maxRecDepth 20000 in
theorem wX_ask {x1 : Int32} (C : z_C E RX8 cX8_ask 2 A p s m args meth c) (hr : meth.sig.returnType = (some .int)) (hB : z_B E) (hW0 : z_W E 0) {ro : Int32} {σo : zS} (σ : zS) (H : Heap) (locs : List Loc) (ls : Array Slot) (hs : z_H E A s σ H locs) (hl : lv_has ls 2 [(0, .ref (z_ad E (30, 0, 0))), (1, .int x1)]) (hf : fX_ask x1 σ = some (ro, σo)) : W p l e (z_rm 5) s m args below meth c H locs 0 0 (MQ below (z_QI E ro σo A) args s 0 0 A) (F0 m 0 ls []) := by
  have hx := C.1
  have hb := C.2.1
  unfold fX_ask at hf
  refine lv_aload_n hx hb dX8_ask_0 rfl (lv_at hl 0 rfl) ?_
  refine zg_X_world C hs (hB 30 (by decide) (by decide)) z_k343 dX8_ask_1 ?_
  refine lv_iload_n hx hb dX8_ask_4 rfl (lv_at hl 1 rfl) ?_
  obtain ⟨r1, σ1, h_1, hf⟩ := z_bds hf
  refine z_goI C hs (z_runV C hs hl.1 (cW_isKeeper l E hW0 h_1) zcV_RX8_66 (hW0.1 0 (by decide)) (z_c0 E _ _ _ _) rfl rfl rfl (by decide) (Nat.le_of_ble_eq_true rfl) dX8_ask_5) (fun H locs hs => ?_)
  refine lv_if_eq (tgt := 22) hx hb dX8_ask_8 (by decide) (fun c2 => ?_) (fun c2 => ?_)
  · have hf := z_t hf c2
    refine lv_iconst (v := (-1)) hx hb dX8_ask_22 (by decide) ?_
    exact z_reti C hr hs hf dX8_ask_23
  · have hf := z_f hf c2
    refine lv_aload_n hx hb dX8_ask_11 rfl (lv_at hl 0 rfl) ?_
    refine zg_X_world C hs (hB 30 (by decide) (by decide)) z_k343 dX8_ask_12 ?_
    refine lv_iload_n hx hb dX8_ask_15 rfl (lv_at hl 1 rfl) ?_
    obtain ⟨r3, σ3, h_3, hf⟩ := z_bds hf
    refine z_goI C hs (z_runV C hs hl.1 (cW_askBy l E hW0 h_3) zcV_RX8_69 (hW0.1 0 (by decide)) (z_c0 E _ _ _ _) rfl rfl rfl (by decide) (Nat.le_of_ble_eq_true rfl) dX8_ask_16) (fun H locs hs => ?_)
    refine lv_goto (tgt := 23) hx hb dX8_ask_19 (by decide) ?_
    exact z_reti C hr hs hf dX8_ask_23
set_option maxHeartbeats 4000000 in
set_option maxRecDepth 20000 in
theorem cX_ask (l : Launch) (E : zE) {x1 : Int32} (hB : z_B E) (hW0 : z_W E 0) {σ σo : zS} {ro : Int32} (hf : fX_ask x1 σ = some (ro, σo)) : z_T l E yX8_ask cX8_ask 2 (some .int) (z_rm 5) (z_QI E ro σo) [.ref (z_ad E (30, 0, 0)), .int x1] σ :=
  z_enter (by decide) (Nat.le_of_ble_eq_true rfl) rfl (fun p e s m below meth c A ls C hr hs hl => wX_ask C hr hB hW0 σ _ _ ls hs hl hf)
def fP_isFull (w0 : Nat) (x1 : Int32) (σ : zS) : Option (Int32 × zS) :=
  if x1 < 0 then
    (some (0, σ))
  else
    (if 40 ≤ x1 then
      (some (0, σ))
    else
      (if z_in x1 40 = true then (
      if (σ.1 (20, w0, x1.toNatClampNeg) 0) = ((-1)) then
        (some (0, σ))
      else
        (some (1, σ))) else none))
set_option maxHeartbeats 4000000 in
set_option maxRecDepth 20000 in
theorem wP_isFull {w0 : Nat} {x1 : Int32} (C : z_C E RX3 cX3_isFull 2 A p s m args meth c) (hr : meth.sig.returnType = (some .boolean)) (hV0 : z_W E w0) {ro : Int32} {σo : zS} (σ : zS) (H : Heap) (locs : List Loc) (ls : Array Slot) (hs : z_H E A s σ H locs) (hl : lv_has ls 2 [(0, .ref (z_ad E (2, w0, 0))), (1, .int x1)]) (hf : fP_isFull w0 x1 σ = some (ro, σo)) : W p l e (z_rm 1) s m args below meth c H locs 0 0 (MQ below (z_QI E ro σo A) args s 0 0 A) (F0 m 0 ls []) := by
  have hx := C.1
  have hb := C.2.1
  unfold fP_isFull at hf
  refine lv_iload_n hx hb dX3_isFull_0 rfl (lv_at hl 1 rfl) ?_
  refine lv_if_lt (tgt := 27) hx hb dX3_isFull_1 (by decide) (fun c1 => ?_) (fun c1 => ?_)
  · have hf := z_t hf c1
    refine lv_iconst (v := 0) hx hb dX3_isFull_27 (by decide) ?_
    exact z_retz C hr hs (by decide +kernel) hf dX3_isFull_28
  · have hf := z_f hf c1
    refine lv_iload_n hx hb dX3_isFull_4 rfl (lv_at hl 1 rfl) ?_
    refine lv_bipush (v := 40) hx hb dX3_isFull_5 (by decide) ?_
    refine lv_icmp_ge (tgt := 27) hx hb dX3_isFull_7 (by decide) (fun c2 => ?_) (fun c2 => ?_)
    · have hf := z_t hf c2
      refine lv_iconst (v := 0) hx hb dX3_isFull_27 (by decide) ?_
      exact z_retz C hr hs (by decide +kernel) hf dX3_isFull_28
    · have hf := z_f hf c2
      refine lv_aload_n hx hb dX3_isFull_10 rfl (lv_at hl 0 rfl) ?_
      refine zg_P_letters C hs (hV0.1 2 (by decide)) z_k244 dX3_isFull_11 ?_
      refine lv_iload_n hx hb dX3_isFull_14 rfl (lv_at hl 1 rfl) ?_
      obtain ⟨g3, hf⟩ := z_gd hf
      refine z_aald C hs (hV0.1 3 (by decide)) (z_c3 E _ _ _ _) (t0 := 5) rfl g3 rfl dX3_isFull_15 ?_
      refine zg_L_kind C hs (hV0.2.2 x1.toNatClampNeg (Nat.lt_succ_of_lt (z_in_lt g3)) 20 (by decide) (by decide)) z_k194 dX3_isFull_16 ?_
      refine lv_iconst (v := (-1)) hx hb dX3_isFull_19 (by decide) ?_
      refine lv_icmp_eq (tgt := 27) hx hb dX3_isFull_20 (by decide) (fun c4 => ?_) (fun c4 => ?_)
      · have hf := z_t hf c4
        refine lv_iconst (v := 0) hx hb dX3_isFull_27 (by decide) ?_
        exact z_retz C hr hs (by decide +kernel) hf dX3_isFull_28
      · have hf := z_f hf c4
        refine lv_iconst (v := 1) hx hb dX3_isFull_23 (by decide) ?_
        refine lv_goto (tgt := 28) hx hb dX3_isFull_24 (by decide) ?_
        exact z_retz C hr hs (by decide +kernel) hf dX3_isFull_28
set_option maxHeartbeats 4000000 in
set_option maxRecDepth 20000 in
theorem cP_isFull (l : Launch) (E : zE) {w0 : Nat} {x1 : Int32} (hV0 : z_W E w0) {σ σo : zS} {ro : Int32} (hf : fP_isFull w0 x1 σ = some (ro, σo)) : z_T l E yX3_isFull cX3_isFull 2 (some .boolean) (z_rm 1) (z_QI E ro σo) [.ref (z_ad E (2, w0, 0)), .int x1] σ :=
  z_enter (by decide) (Nat.le_of_ble_eq_true rfl) rfl (fun p e s m below meth c A ls C hr hs hl => wP_isFull C hr hV0 σ _ _ ls hs hl hf)
def fS_copyFrom (a0 : zJ) (a1 : zJ) (σ : zS) : Option (Unit × zS) :=
  if z_cp 0 0 20 20 20 = true then (
  z_let (z_cpR σ (z_nx a1) (z_nx a0) 0 0 20) (fun σ2 =>
  some ((), σ2))) else none
set_option maxHeartbeats 4000000 in
set_option maxRecDepth 20000 in
theorem wS_copyFrom {a0 : zJ} {a1 : zJ} (C : z_C E RX5 cX5_copyFrom 2 A p s m args meth c) (hr : meth.sig.returnType = none) (hS0 : z_St E a0) (hS1 : z_St E a1) {ro : Unit} {σo : zS} (σ : zS) (H : Heap) (locs : List Loc) (ls : Array Slot) (hs : z_H E A s σ H locs) (hl : lv_has ls 2 [(0, .ref (z_ad E a0)), (1, .ref (z_ad E a1))]) (hf : fS_copyFrom a0 a1 σ = some (ro, σo)) : W p l e (z_rm 2) s m args below meth c H locs 0 0 (MQ below (z_QV E ro σo A) args s 0 0 A) (F0 m 0 ls []) := by
  have hx := C.1
  have hb := C.2.1
  unfold fS_copyFrom at hf
  refine lv_aload_n hx hb dX5_copyFrom_0 rfl (lv_at hl 1 rfl) ?_
  refine zg_S_parts C hs hS1.1 hS1.2.1 z_k90 dX5_copyFrom_1 ?_
  refine lv_iconst (v := 0) hx hb dX5_copyFrom_4 (by decide) ?_
  refine lv_aload_n hx hb dX5_copyFrom_5 rfl (lv_at hl 0 rfl) ?_
  refine zg_S_parts C hs hS0.1 hS0.2.1 z_k90 dX5_copyFrom_6 ?_
  refine lv_iconst (v := 0) hx hb dX5_copyFrom_9 (by decide) ?_
  refine lv_bipush (v := 20) hx hb dX5_copyFrom_10 (by decide) ?_
  obtain ⟨g1, hf⟩ := z_gd hf
  refine z_acp C hs hl.1 hS1.2.2 hS0.2.2 (fun r h => z_cSn E r h hS1.1) (fun r h => z_cSn E r h hS0.1) z_k599 g1 (by decide) (by decide) (Nat.le_of_ble_eq_true rfl) z_k594 z_k593 z_k17 dX5_copyFrom_12 (fun H locs hs => ?_)
  obtain ⟨σ2, -, hs, hf⟩ := z_top hs hf
  exact z_retv C hr hs hf dX5_copyFrom_15
set_option maxHeartbeats 4000000 in
set_option maxRecDepth 20000 in
theorem cS_copyFrom (l : Launch) (E : zE) {a0 : zJ} {a1 : zJ} (hS0 : z_St E a0) (hS1 : z_St E a1) {σ σo : zS} {ro : Unit} (hf : fS_copyFrom a0 a1 σ = some (ro, σo)) : z_T l E yX5_copyFrom cX5_copyFrom 2 none (z_rm 2) (z_QV E ro σo) [.ref (z_ad E a0), .ref (z_ad E a1)] σ :=
  z_enter (by decide) (Nat.le_of_ble_eq_true rfl) rfl (fun p e s m below meth c A ls C hr hs hl => wS_copyFrom C hr hS0 hS1 σ _ _ ls hs hl hf)
def fL_copyFrom (w0 : Nat) (i0 : Nat) (w1 : Nat) (i1 : Nat) (σ : zS) : Option (Unit × zS) :=
  z_let (z_up σ (20, w0, i0) 0 (σ.1 (20, w1, i1) 0)) (fun σ1 =>
  z_let (z_up σ1 (20, w0, i0) 1 (σ1.1 (20, w1, i1) 1)) (fun σ2 =>
  z_let (z_up σ2 (20, w0, i0) 2 (σ2.1 (20, w1, i1) 2)) (fun σ3 =>
  z_let (z_up σ3 (20, w0, i0) 3 (σ3.1 (20, w1, i1) 3)) (fun σ4 =>
  z_let (z_up σ4 (20, w0, i0) 4 (σ4.1 (20, w1, i1) 4)) (fun σ5 =>
  z_let (z_up σ5 (20, w0, i0) 5 (σ5.1 (20, w1, i1) 5)) (fun σ6 =>
  z_let (z_up σ6 (20, w0, i0) 6 (σ6.1 (20, w1, i1) 6)) (fun σ7 =>
  z_let (z_up σ7 (20, w0, i0) 7 (σ7.1 (20, w1, i1) 7)) (fun σ8 =>
  z_let (z_up σ8 (20, w0, i0) 8 (σ8.1 (20, w1, i1) 8)) (fun σ9 =>
  z_let (z_up σ9 (20, w0, i0) 9 (σ9.1 (20, w1, i1) 9)) (fun σ10 =>
  if z_cp 0 0 30 30 30 = true then (
  z_let (z_cpR σ10 (21, w1, i1) (21, w0, i0) 0 0 30) (fun σ12 =>
  z_bd (fS_copyFrom (22, w0, i0) (22, w1, i1) σ12) (fun _ σ13 =>
  some ((), σ13)))) else none))))))))))
set_option maxHeartbeats 4000000 in
set_option maxRecDepth 20000 in
theorem wL_copyFrom {w0 : Nat} {i0 : Nat} {w1 : Nat} {i1 : Nat} (C : z_C E RX2 cX2_copyFrom 2 A p s m args meth c) (hr : meth.sig.returnType = none) (hV0 : z_W E w0) (hi0 : i0 < 41) (hV1 : z_W E w1) (hi1 : i1 < 41) {ro : Unit} {σo : zS} (σ : zS) (H : Heap) (locs : List Loc) (ls : Array Slot) (hs : z_H E A s σ H locs) (hl : lv_has ls 2 [(0, .ref (z_ad E (20, w0, i0))), (1, .ref (z_ad E (20, w1, i1)))]) (hf : fL_copyFrom w0 i0 w1 i1 σ = some (ro, σo)) : W p l e (z_rm 3) s m args below meth c H locs 0 0 (MQ below (z_QV E ro σo A) args s 0 0 A) (F0 m 0 ls []) := by
  have hx := C.1
  have hb := C.2.1
  unfold fL_copyFrom at hf
  refine lv_aload_n hx hb dX2_copyFrom_0 rfl (lv_at hl 0 rfl) ?_
  refine lv_aload_n hx hb dX2_copyFrom_1 rfl (lv_at hl 1 rfl) ?_
  refine zg_L_kind C hs (hV1.2.2 i1 hi1 20 (by decide) (by decide)) z_k193 dX2_copyFrom_2 ?_
  refine zp_L_kind C hs (hV0.2.2 i0 hi0 20 (by decide) (by decide)) z_k193 dX2_copyFrom_5 (fun H locs hs => ?_)
  obtain ⟨σ1, -, hs, hf⟩ := z_top hs hf
  refine lv_aload_n hx hb dX2_copyFrom_8 rfl (lv_at hl 0 rfl) ?_
  refine lv_aload_n hx hb dX2_copyFrom_9 rfl (lv_at hl 1 rfl) ?_
  refine zg_L_sender C hs (hV1.2.2 i1 hi1 20 (by decide) (by decide)) z_k197 dX2_copyFrom_10 ?_
  refine zp_L_sender C hs (hV0.2.2 i0 hi0 20 (by decide) (by decide)) z_k197 dX2_copyFrom_13 (fun H locs hs => ?_)
  obtain ⟨σ2, -, hs, hf⟩ := z_top hs hf
  refine lv_aload_n hx hb dX2_copyFrom_16 rfl (lv_at hl 0 rfl) ?_
  refine lv_aload_n hx hb dX2_copyFrom_17 rfl (lv_at hl 1 rfl) ?_
  refine zg_L_receiver C hs (hV1.2.2 i1 hi1 20 (by decide) (by decide)) z_k199 dX2_copyFrom_18 ?_
  refine zp_L_receiver C hs (hV0.2.2 i0 hi0 20 (by decide) (by decide)) z_k199 dX2_copyFrom_21 (fun H locs hs => ?_)
  obtain ⟨σ3, -, hs, hf⟩ := z_top hs hf
  refine lv_aload_n hx hb dX2_copyFrom_24 rfl (lv_at hl 0 rfl) ?_
  refine lv_aload_n hx hb dX2_copyFrom_25 rfl (lv_at hl 1 rfl) ?_
  refine zg_L_term C hs (hV1.2.2 i1 hi1 20 (by decide) (by decide)) z_k201 dX2_copyFrom_26 ?_
  refine zp_L_term C hs (hV0.2.2 i0 hi0 20 (by decide) (by decide)) z_k201 dX2_copyFrom_29 (fun H locs hs => ?_)
  obtain ⟨σ4, -, hs, hf⟩ := z_top hs hf
  refine lv_aload_n hx hb dX2_copyFrom_32 rfl (lv_at hl 0 rfl) ?_
  refine lv_aload_n hx hb dX2_copyFrom_33 rfl (lv_at hl 1 rfl) ?_
  refine zg_L_first C hs (hV1.2.2 i1 hi1 20 (by decide) (by decide)) z_k203 dX2_copyFrom_34 ?_
  refine zp_L_first C hs (hV0.2.2 i0 hi0 20 (by decide) (by decide)) z_k203 dX2_copyFrom_37 (fun H locs hs => ?_)
  obtain ⟨σ5, -, hs, hf⟩ := z_top hs hf
  refine lv_aload_n hx hb dX2_copyFrom_40 rfl (lv_at hl 0 rfl) ?_
  refine lv_aload_n hx hb dX2_copyFrom_41 rfl (lv_at hl 1 rfl) ?_
  refine zg_L_second C hs (hV1.2.2 i1 hi1 20 (by decide) (by decide)) z_k205 dX2_copyFrom_42 ?_
  refine zp_L_second C hs (hV0.2.2 i0 hi0 20 (by decide) (by decide)) z_k205 dX2_copyFrom_45 (fun H locs hs => ?_)
  obtain ⟨σ6, -, hs, hf⟩ := z_top hs hf
  refine lv_aload_n hx hb dX2_copyFrom_48 rfl (lv_at hl 0 rfl) ?_
  refine lv_aload_n hx hb dX2_copyFrom_49 rfl (lv_at hl 1 rfl) ?_
  refine zg_L_count C hs (hV1.2.2 i1 hi1 20 (by decide) (by decide)) z_k207 dX2_copyFrom_50 ?_
  refine zp_L_count C hs (hV0.2.2 i0 hi0 20 (by decide) (by decide)) z_k207 dX2_copyFrom_53 (fun H locs hs => ?_)
  obtain ⟨σ7, -, hs, hf⟩ := z_top hs hf
  refine lv_aload_n hx hb dX2_copyFrom_56 rfl (lv_at hl 0 rfl) ?_
  refine lv_aload_n hx hb dX2_copyFrom_57 rfl (lv_at hl 1 rfl) ?_
  refine zg_L_done C hs (hV1.2.2 i1 hi1 20 (by decide) (by decide)) z_k209 dX2_copyFrom_58 ?_
  refine zp_L_done C hs (hV0.2.2 i0 hi0 20 (by decide) (by decide)) z_k209 dX2_copyFrom_61 (fun H locs hs => ?_)
  obtain ⟨σ8, -, hs, hf⟩ := z_top hs hf
  refine lv_aload_n hx hb dX2_copyFrom_64 rfl (lv_at hl 0 rfl) ?_
  refine lv_aload_n hx hb dX2_copyFrom_65 rfl (lv_at hl 1 rfl) ?_
  refine zg_L_round C hs (hV1.2.2 i1 hi1 20 (by decide) (by decide)) z_k211 dX2_copyFrom_66 ?_
  refine zp_L_round C hs (hV0.2.2 i0 hi0 20 (by decide) (by decide)) z_k211 dX2_copyFrom_69 (fun H locs hs => ?_)
  obtain ⟨σ9, -, hs, hf⟩ := z_top hs hf
  refine lv_aload_n hx hb dX2_copyFrom_72 rfl (lv_at hl 0 rfl) ?_
  refine lv_aload_n hx hb dX2_copyFrom_73 rfl (lv_at hl 1 rfl) ?_
  refine zg_L_roundTerm C hs (hV1.2.2 i1 hi1 20 (by decide) (by decide)) z_k213 dX2_copyFrom_74 ?_
  refine zp_L_roundTerm C hs (hV0.2.2 i0 hi0 20 (by decide) (by decide)) z_k213 dX2_copyFrom_77 (fun H locs hs => ?_)
  obtain ⟨σ10, -, hs, hf⟩ := z_top hs hf
  refine lv_aload_n hx hb dX2_copyFrom_80 rfl (lv_at hl 1 rfl) ?_
  refine zg_L_entries C hs (hV1.2.2 i1 hi1 20 (by decide) (by decide)) z_k215 dX2_copyFrom_81 ?_
  refine lv_iconst (v := 0) hx hb dX2_copyFrom_84 (by decide) ?_
  refine lv_aload_n hx hb dX2_copyFrom_85 rfl (lv_at hl 0 rfl) ?_
  refine zg_L_entries C hs (hV0.2.2 i0 hi0 20 (by decide) (by decide)) z_k215 dX2_copyFrom_86 ?_
  refine lv_iconst (v := 0) hx hb dX2_copyFrom_89 (by decide) ?_
  refine lv_bipush (v := 30) hx hb dX2_copyFrom_90 (by decide) ?_
  obtain ⟨g11, hf⟩ := z_gd hf
  refine z_acp C hs hl.1 (hV1.2.2 i1 hi1 21 (by decide) (by decide)) (hV0.2.2 i0 hi0 21 (by decide) (by decide)) (fun r h => z_c21 E r h _ _) (fun r h => z_c21 E r h _ _) z_k592 g11 (by decide) (by decide) (Nat.le_of_ble_eq_true rfl) z_k594 z_k593 z_k17 dX2_copyFrom_92 (fun H locs hs => ?_)
  obtain ⟨σ12, -, hs, hf⟩ := z_top hs hf
  refine lv_aload_n hx hb dX2_copyFrom_95 rfl (lv_at hl 0 rfl) ?_
  refine zg_L_fold C hs (hV0.2.2 i0 hi0 20 (by decide) (by decide)) z_k217 dX2_copyFrom_96 ?_
  refine lv_aload_n hx hb dX2_copyFrom_99 rfl (lv_at hl 1 rfl) ?_
  refine zg_L_fold C hs (hV1.2.2 i1 hi1 20 (by decide) (by decide)) z_k217 dX2_copyFrom_100 ?_
  obtain ⟨r13, σ13, h_13, hf⟩ := z_bds hf
  refine z_goV C hs (z_runV C hs hl.1 (cS_copyFrom l E ⟨(show z_isS (22, w0, i0) from (Or.inr (Or.inr rfl))), (hV0.2.2 i0 hi0 22 (by decide) (by decide)), (hV0.2.2 i0 hi0 23 (by decide) (by decide))⟩ ⟨(show z_isS (22, w1, i1) from (Or.inr (Or.inr rfl))), (hV1.2.2 i1 hi1 22 (by decide) (by decide)), (hV1.2.2 i1 hi1 23 (by decide) (by decide))⟩ h_13) zcV_RX2_59 (hV0.2.2 i0 hi0 22 (by decide) (by decide)) (z_cS E _ _ (show z_isS (22, w0, i0) from (Or.inr (Or.inr rfl)))) rfl rfl rfl (by decide) (Nat.le_of_ble_eq_true rfl) dX2_copyFrom_103) (fun H locs hs => ?_)
  exact z_retv C hr hs hf dX2_copyFrom_106
set_option maxHeartbeats 4000000 in
set_option maxRecDepth 20000 in
theorem cL_copyFrom (l : Launch) (E : zE) {w0 : Nat} {i0 : Nat} {w1 : Nat} {i1 : Nat} (hV0 : z_W E w0) (hi0 : i0 < 41) (hV1 : z_W E w1) (hi1 : i1 < 41) {σ σo : zS} {ro : Unit} (hf : fL_copyFrom w0 i0 w1 i1 σ = some (ro, σo)) : z_T l E yX2_copyFrom cX2_copyFrom 2 none (z_rm 3) (z_QV E ro σo) [.ref (z_ad E (20, w0, i0)), .ref (z_ad E (20, w1, i1))] σ :=
  z_enter (by decide) (Nat.le_of_ble_eq_true rfl) rfl (fun p e s m below meth c A ls C hr hs hl => wL_copyFrom C hr hV0 hi0 hV1 hi1 σ _ _ ls hs hl hf)
def fP_takeOut (w0 : Nat) (x1 : Int32) (σ : zS) : Option (Option Nat × zS) :=
  z_bd (fP_isFull w0 x1 σ) (fun r1 σ1 =>
  if r1 = 0 then
    (some (some 40, σ1))
  else
    (if z_in x1 40 = true then (
    z_bd (fL_copyFrom w0 40 w0 (x1.toNatClampNeg) σ1) (fun _ σ4 =>
    if z_in x1 40 = true then (
    z_let (z_up σ4 (20, w0, x1.toNatClampNeg) 0 ((-1))) (fun σ6 =>
    some (some 40, σ6))) else none)) else none))
set_option maxHeartbeats 4000000 in
set_option maxRecDepth 20000 in
theorem wP_takeOut {w0 : Nat} {x1 : Int32} (C : z_C E RX3 cX3_takeOut 2 A p s m args meth c) (hr : meth.sig.returnType = (some (.object "LogKeepers$Letter"))) (hV0 : z_W E w0) {ro : Option Nat} {σo : zS} (σ : zS) (H : Heap) (locs : List Loc) (ls : Array Slot) (hs : z_H E A s σ H locs) (hl : lv_has ls 2 [(0, .ref (z_ad E (2, w0, 0))), (1, .int x1)]) (hf : fP_takeOut w0 x1 σ = some (ro, σo)) : W p l e (z_rm 4) s m args below meth c H locs 0 0 (MQ below (z_QL E w0 ro σo A) args s 0 0 A) (F0 m 0 ls []) := by
  have hx := C.1
  have hb := C.2.1
  unfold fP_takeOut at hf
  refine lv_aload_n hx hb dX3_takeOut_0 rfl (lv_at hl 0 rfl) ?_
  refine lv_iload_n hx hb dX3_takeOut_1 rfl (lv_at hl 1 rfl) ?_
  obtain ⟨r1, σ1, h_1, hf⟩ := z_bds hf
  refine z_goI C hs (z_runV C hs hl.1 (cP_isFull l E hV0 h_1) zcV_RX3_30 (hV0.1 2 (by decide)) (z_c2 E _ _ _ _) rfl rfl rfl (by decide) (Nat.le_of_ble_eq_true rfl) dX3_takeOut_2) (fun H locs hs => ?_)
  refine lv_if_eq (tgt := 31) hx hb dX3_takeOut_5 (by decide) (fun c2 => ?_) (fun c2 => ?_)
  · have hf := z_t hf c2
    refine lv_aload_n hx hb dX3_takeOut_31 rfl (lv_at hl 0 rfl) ?_
    refine zg_P_hand C hs (hV0.1 2 (by decide)) z_k247 dX3_takeOut_32 ?_
    exact z_retl C hr hs rfl (fun _ h => by cases h; exact (by decide)) hf dX3_takeOut_35
  · have hf := z_f hf c2
    refine lv_aload_n hx hb dX3_takeOut_8 rfl (lv_at hl 0 rfl) ?_
    refine zg_P_hand C hs (hV0.1 2 (by decide)) z_k247 dX3_takeOut_9 ?_
    refine lv_aload_n hx hb dX3_takeOut_12 rfl (lv_at hl 0 rfl) ?_
    refine zg_P_letters C hs (hV0.1 2 (by decide)) z_k244 dX3_takeOut_13 ?_
    refine lv_iload_n hx hb dX3_takeOut_16 rfl (lv_at hl 1 rfl) ?_
    obtain ⟨g3, hf⟩ := z_gd hf
    refine z_aald C hs (hV0.1 3 (by decide)) (z_c3 E _ _ _ _) (t0 := 5) rfl g3 rfl dX3_takeOut_17 ?_
    obtain ⟨r4, σ4, h_4, hf⟩ := z_bds hf
    refine z_goV C hs (z_runV C hs hl.1 (cL_copyFrom l E hV0 (by decide) hV0 (Nat.lt_succ_of_lt (z_in_lt g3)) h_4) zcV_RX3_26 (hV0.2.2 40 (by decide) 20 (by decide) (by decide)) (z_c20 E _ _ _ _) rfl rfl rfl (by decide) (Nat.le_of_ble_eq_true rfl) dX3_takeOut_18) (fun H locs hs => ?_)
    refine lv_aload_n hx hb dX3_takeOut_21 rfl (lv_at hl 0 rfl) ?_
    refine zg_P_letters C hs (hV0.1 2 (by decide)) z_k244 dX3_takeOut_22 ?_
    refine lv_iload_n hx hb dX3_takeOut_25 rfl (lv_at hl 1 rfl) ?_
    obtain ⟨g5, hf⟩ := z_gd hf
    refine z_aald C hs (hV0.1 3 (by decide)) (z_c3 E _ _ _ _) (t0 := 5) rfl g5 rfl dX3_takeOut_26 ?_
    refine lv_iconst (v := (-1)) hx hb dX3_takeOut_27 (by decide) ?_
    refine zp_L_kind C hs (hV0.2.2 x1.toNatClampNeg (Nat.lt_succ_of_lt (z_in_lt g5)) 20 (by decide) (by decide)) z_k194 dX3_takeOut_28 (fun H locs hs => ?_)
    obtain ⟨σ6, -, hs, hf⟩ := z_top hs hf
    refine lv_aload_n hx hb dX3_takeOut_31 rfl (lv_at hl 0 rfl) ?_
    refine zg_P_hand C hs (hV0.1 2 (by decide)) z_k247 dX3_takeOut_32 ?_
    exact z_retl C hr hs rfl (fun _ h => by cases h; exact (by decide)) hf dX3_takeOut_35
set_option maxHeartbeats 4000000 in
set_option maxRecDepth 20000 in
theorem cP_takeOut (l : Launch) (E : zE) {w0 : Nat} {x1 : Int32} (hV0 : z_W E w0) {σ σo : zS} {ro : Option Nat} (hf : fP_takeOut w0 x1 σ = some (ro, σo)) : z_T l E yX3_takeOut cX3_takeOut 2 (some (.object "LogKeepers$Letter")) (z_rm 4) (z_QL E w0 ro σo) [.ref (z_ad E (2, w0, 0)), .int x1] σ :=
  z_enter (by decide) (Nat.le_of_ble_eq_true rfl) rfl (fun p e s m below meth c A ls C hr hs hl => wP_takeOut C hr hV0 σ _ _ ls hs hl hf)
def fW_isUp (w0 : Nat) (x1 : Int32) (σ : zS) : Option (Int32 × zS) :=
  z_bd (fW_isKeeper w0 x1 σ) (fun r1 σ1 =>
  if r1 = 0 then
    (some (0, σ1))
  else
    (if z_in x1 7 = true then (
    if (σ1.1 (10, w0, x1.toNatClampNeg) 1) = 0 then
      (some (1, σ1))
    else
      (some (0, σ1))) else none))
set_option maxHeartbeats 4000000 in
set_option maxRecDepth 20000 in
theorem wW_isUp {w0 : Nat} {x1 : Int32} (C : z_C E RX7 cX7_isUp 2 A p s m args meth c) (hr : meth.sig.returnType = (some .boolean)) (hV0 : z_W E w0) {ro : Int32} {σo : zS} (σ : zS) (H : Heap) (locs : List Loc) (ls : Array Slot) (hs : z_H E A s σ H locs) (hl : lv_has ls 2 [(0, .ref (z_ad E (0, w0, 0))), (1, .int x1)]) (hf : fW_isUp w0 x1 σ = some (ro, σo)) : W p l e (z_rm 2) s m args below meth c H locs 0 0 (MQ below (z_QI E ro σo A) args s 0 0 A) (F0 m 0 ls []) := by
  have hx := C.1
  have hb := C.2.1
  unfold fW_isUp at hf
  refine lv_aload_n hx hb dX7_isUp_0 rfl (lv_at hl 0 rfl) ?_
  refine lv_iload_n hx hb dX7_isUp_1 rfl (lv_at hl 1 rfl) ?_
  obtain ⟨r1, σ1, h_1, hf⟩ := z_bds hf
  refine z_goI C hs (z_runV C hs hl.1 (cW_isKeeper l E hV0 h_1) zcV_RX7_78 (hV0.1 0 (by decide)) (z_c0 E _ _ _ _) rfl rfl rfl (by decide) (Nat.le_of_ble_eq_true rfl) dX7_isUp_2) (fun H locs hs => ?_)
  refine lv_if_eq (tgt := 24) hx hb dX7_isUp_5 (by decide) (fun c2 => ?_) (fun c2 => ?_)
  · have hf := z_t hf c2
    refine lv_iconst (v := 0) hx hb dX7_isUp_24 (by decide) ?_
    exact z_retz C hr hs (by decide +kernel) hf dX7_isUp_25
  · have hf := z_f hf c2
    refine lv_aload_n hx hb dX7_isUp_8 rfl (lv_at hl 0 rfl) ?_
    refine zg_W_keepers C hs (hV0.1 0 (by decide)) z_k281 dX7_isUp_9 ?_
    refine lv_iload_n hx hb dX7_isUp_12 rfl (lv_at hl 1 rfl) ?_
    obtain ⟨g3, hf⟩ := z_gd hf
    refine z_aald C hs (hV0.1 1 (by decide)) (z_c1 E _ _ _ _) (t0 := 4) rfl g3 rfl dX7_isUp_13 ?_
    refine zg_K_fallen C hs (hV0.2.1 x1.toNatClampNeg (z_in_lt g3) 10 (by decide) (by decide)) z_k97 dX7_isUp_14 ?_
    refine lv_if_ne (tgt := 24) hx hb dX7_isUp_17 (by decide) (fun c4 => ?_) (fun c4 => ?_)
    · have hf := z_f hf c4
      refine lv_iconst (v := 0) hx hb dX7_isUp_24 (by decide) ?_
      exact z_retz C hr hs (by decide +kernel) hf dX7_isUp_25
    · have hf := z_t hf c4
      refine lv_iconst (v := 1) hx hb dX7_isUp_20 (by decide) ?_
      refine lv_goto (tgt := 25) hx hb dX7_isUp_21 (by decide) ?_
      exact z_retz C hr hs (by decide +kernel) hf dX7_isUp_25
set_option maxHeartbeats 4000000 in
set_option maxRecDepth 20000 in
theorem cW_isUp (l : Launch) (E : zE) {w0 : Nat} {x1 : Int32} (hV0 : z_W E w0) {σ σo : zS} {ro : Int32} (hf : fW_isUp w0 x1 σ = some (ro, σo)) : z_T l E yX7_isUp cX7_isUp 2 (some .boolean) (z_rm 2) (z_QI E ro σo) [.ref (z_ad E (0, w0, 0)), .int x1] σ :=
  z_enter (by decide) (Nat.le_of_ble_eq_true rfl) rfl (fun p e s m below meth c A ls C hr hs hl => wW_isUp C hr hV0 σ _ _ ls hs hl hf)
def fW_isAhead (w0 : Nat) (w1 : Nat) (i1 : Nat) (w2 : Nat) (i2 : Nat) (σ : zS) : Option (Int32 × zS) :=
  z_bd (fK_termOf w1 i1 (σ.1 (10, w1, i1) 7) σ) (fun r1 σ1 =>
  if (σ1.1 (20, w2, i2) 5) < r1 then
    (some (1, σ1))
  else
    (if r1 = (σ1.1 (20, w2, i2) 5) then
      (if (σ1.1 (10, w1, i1) 7) ≤ (σ1.1 (20, w2, i2) 4) then
        (some (0, σ1))
      else
        (some (1, σ1)))
    else
      (some (0, σ1))))
set_option maxHeartbeats 4000000 in
set_option maxRecDepth 20000 in
theorem wW_isAhead {w0 : Nat} {w1 : Nat} {i1 : Nat} {w2 : Nat} {i2 : Nat} (C : z_C E RX7 cX7_isAhead 4 A p s m args meth c) (hr : meth.sig.returnType = (some .boolean)) (hV0 : z_W E w0) (hV1 : z_W E w1) (hi1 : i1 < 7) (hV2 : z_W E w2) (hi2 : i2 < 41) {ro : Int32} {σo : zS} (σ : zS) (H : Heap) (locs : List Loc) (ls : Array Slot) (hs : z_H E A s σ H locs) (hl : lv_has ls 4 [(0, .ref (z_ad E (0, w0, 0))), (1, .ref (z_ad E (10, w1, i1))), (2, .ref (z_ad E (20, w2, i2)))]) (hf : fW_isAhead w0 w1 i1 w2 i2 σ = some (ro, σo)) : W p l e (z_rm 3) s m args below meth c H locs 0 0 (MQ below (z_QI E ro σo A) args s 0 0 A) (F0 m 0 ls []) := by
  have hx := C.1
  have hb := C.2.1
  unfold fW_isAhead at hf
  refine lv_aload_n hx hb dX7_isAhead_0 rfl (lv_at hl 1 rfl) ?_
  refine lv_aload_n hx hb dX7_isAhead_1 rfl (lv_at hl 1 rfl) ?_
  refine zg_K_last C hs (hV1.2.1 i1 hi1 10 (by decide) (by decide)) z_k112 dX7_isAhead_2 ?_
  obtain ⟨r1, σ1, h_1, hf⟩ := z_bds hf
  refine z_goI C hs (z_runV C hs hl.1 (cK_termOf l E hV1 hi1 h_1) zcV_RX7_130 (hV1.2.1 i1 hi1 10 (by decide) (by decide)) (z_c10 E _ _ _ _) rfl rfl rfl (by decide) (Nat.le_of_ble_eq_true rfl) dX7_isAhead_5) (fun H locs hs => ?_)
  refine lv_istore_n (lv' := [(3, .int r1), (0, .ref (z_ad E (0, w0, 0))), (1, .ref (z_ad E (10, w1, i1))), (2, .ref (z_ad E (20, w2, i2)))]) hx hb dX7_isAhead_8 rfl hl (by decide) rfl (fun ls hl => ?_)
  refine lv_iload_n hx hb dX7_isAhead_9 rfl (lv_at hl 0 rfl) ?_
  refine lv_aload_n hx hb dX7_isAhead_10 rfl (lv_at hl 3 rfl) ?_
  refine zg_L_second C hs (hV2.2.2 i2 hi2 20 (by decide) (by decide)) z_k206 dX7_isAhead_11 ?_
  refine lv_icmp_gt (tgt := 36) hx hb dX7_isAhead_14 (by decide) (fun c2 => ?_) (fun c2 => ?_)
  · have hf := z_t hf c2
    refine lv_iconst (v := 1) hx hb dX7_isAhead_36 (by decide) ?_
    refine lv_goto (tgt := 41) hx hb dX7_isAhead_37 (by decide) ?_
    exact z_retz C hr hs (by decide +kernel) hf dX7_isAhead_41
  · have hf := z_f hf c2
    refine lv_iload_n hx hb dX7_isAhead_17 rfl (lv_at hl 0 rfl) ?_
    refine lv_aload_n hx hb dX7_isAhead_18 rfl (lv_at hl 3 rfl) ?_
    refine zg_L_second C hs (hV2.2.2 i2 hi2 20 (by decide) (by decide)) z_k206 dX7_isAhead_19 ?_
    refine lv_icmp_ne (tgt := 40) hx hb dX7_isAhead_22 (by decide) (fun c3 => ?_) (fun c3 => ?_)
    · have hf := z_f hf c3
      refine lv_iconst (v := 0) hx hb dX7_isAhead_40 (by decide) ?_
      exact z_retz C hr hs (by decide +kernel) hf dX7_isAhead_41
    · have hf := z_t hf c3
      refine lv_aload_n hx hb dX7_isAhead_25 rfl (lv_at hl 2 rfl) ?_
      refine zg_K_last C hs (hV1.2.1 i1 hi1 10 (by decide) (by decide)) z_k112 dX7_isAhead_26 ?_
      refine lv_aload_n hx hb dX7_isAhead_29 rfl (lv_at hl 3 rfl) ?_
      refine zg_L_first C hs (hV2.2.2 i2 hi2 20 (by decide) (by decide)) z_k204 dX7_isAhead_30 ?_
      refine lv_icmp_le (tgt := 40) hx hb dX7_isAhead_33 (by decide) (fun c4 => ?_) (fun c4 => ?_)
      · have hf := z_t hf c4
        refine lv_iconst (v := 0) hx hb dX7_isAhead_40 (by decide) ?_
        exact z_retz C hr hs (by decide +kernel) hf dX7_isAhead_41
      · have hf := z_f hf c4
        refine lv_iconst (v := 1) hx hb dX7_isAhead_36 (by decide) ?_
        refine lv_goto (tgt := 41) hx hb dX7_isAhead_37 (by decide) ?_
        exact z_retz C hr hs (by decide +kernel) hf dX7_isAhead_41
set_option maxHeartbeats 4000000 in
set_option maxRecDepth 20000 in
theorem cW_isAhead (l : Launch) (E : zE) {w0 : Nat} {w1 : Nat} {i1 : Nat} {w2 : Nat} {i2 : Nat} (hV0 : z_W E w0) (hV1 : z_W E w1) (hi1 : i1 < 7) (hV2 : z_W E w2) (hi2 : i2 < 41) {σ σo : zS} {ro : Int32} (hf : fW_isAhead w0 w1 i1 w2 i2 σ = some (ro, σo)) : z_T l E yX7_isAhead cX7_isAhead 4 (some .boolean) (z_rm 3) (z_QI E ro σo) [.ref (z_ad E (0, w0, 0)), .ref (z_ad E (10, w1, i1)), .ref (z_ad E (20, w2, i2))] σ :=
  z_enter (by decide) (Nat.le_of_ble_eq_true rfl) rfl (fun p e s m below meth c A ls C hr hs hl => wW_isAhead C hr hV0 hV1 hi1 hV2 hi2 σ _ _ ls hs hl hf)
def fW_reply_33 (w0 : Nat) (w1 : Nat) (i1 : Nat) (x4 : Int32) (i5 : Nat) (it0 : Nat) (t1 : Int32) (σ : zS) : Option (Int32 × zS) :=
  z_let (z_up σ (20, w0, it0) 4 t1) (fun σ3 =>
  z_let (z_up σ3 (20, w0, i5) 5 x4) (fun σ4 =>
  z_let (z_up σ4 (20, w0, i5) 8 (σ4.1 (20, w1, i1) 8)) (fun σ5 =>
  z_let (z_up σ5 (20, w0, i5) 9 (σ5.1 (20, w1, i1) 9)) (fun σ6 =>
  some (1, σ6)))))
def fW_reply (w0 : Nat) (w1 : Nat) (i1 : Nat) (x2 : Int32) (x3 : Int32) (x4 : Int32) (σ : zS) : Option (Int32 × zS) :=
  z_bd (fW_send w0 x2 (σ.1 (20, w1, i1) 2) (σ.1 (20, w1, i1) 1) σ) (fun r1 σ1 =>
  z_om r1 (some (0, σ1)) (fun j1 => if x3 = 0 then
    (fW_reply_33 w0 w1 i1 x4 j1 j1 0 σ1)
  else
    (fW_reply_33 w0 w1 i1 x4 j1 j1 1 σ1)))
set_option maxHeartbeats 4000000 in
set_option maxRecDepth 20000 in
theorem wW_reply_33 {w0 : Nat} {w1 : Nat} {i1 : Nat} (C : z_C E RX7 cX7_reply 6 A p s m args meth c) (hr : meth.sig.returnType = (some .int)) (hV0 : z_W E w0) (hV1 : z_W E w1) (hi1 : i1 < 41) {ro : Int32} {σo : zS} (x4 : Int32) (i5 : Nat) (it0 : Nat) (t1 : Int32) (σ : zS) (H : Heap) (locs : List Loc) (ls : Array Slot) (hi5 : i5 < 41) (hit0 : it0 < 41) (hs : z_H E A s σ H locs) (hl : lv_has ls 6 [(1, .ref (z_ad E (20, w1, i1))), (4, .int x4), (5, .ref (z_ad E (20, w0, i5)))]) (hf : fW_reply_33 w0 w1 i1 x4 i5 it0 t1 σ = some (ro, σo)) : W p l e (z_rm 3) s m args below meth c H locs 0 0 (MQ below (z_QI E ro σo A) args s 0 0 A) (F0 m 33 ls [.int t1, .ref (z_ad E (20, w0, it0))]) := by
  have hx := C.1
  have hb := C.2.1
  unfold fW_reply_33 at hf
  refine zp_L_first C hs (hV0.2.2 it0 hit0 20 (by decide) (by decide)) z_k204 dX7_reply_33 (fun H locs hs => ?_)
  obtain ⟨σ3, -, hs, hf⟩ := z_top hs hf
  refine lv_aload hx hb dX7_reply_36 (lv_at hl 2 rfl) ?_
  refine lv_iload hx hb dX7_reply_38 (lv_at hl 1 rfl) ?_
  refine zp_L_second C hs (hV0.2.2 i5 hi5 20 (by decide) (by decide)) z_k206 dX7_reply_40 (fun H locs hs => ?_)
  obtain ⟨σ4, -, hs, hf⟩ := z_top hs hf
  refine lv_aload hx hb dX7_reply_43 (lv_at hl 2 rfl) ?_
  refine lv_aload_n hx hb dX7_reply_45 rfl (lv_at hl 0 rfl) ?_
  refine zg_L_round C hs (hV1.2.2 i1 hi1 20 (by decide) (by decide)) z_k212 dX7_reply_46 ?_
  refine zp_L_round C hs (hV0.2.2 i5 hi5 20 (by decide) (by decide)) z_k212 dX7_reply_49 (fun H locs hs => ?_)
  obtain ⟨σ5, -, hs, hf⟩ := z_top hs hf
  refine lv_aload hx hb dX7_reply_52 (lv_at hl 2 rfl) ?_
  refine lv_aload_n hx hb dX7_reply_54 rfl (lv_at hl 0 rfl) ?_
  refine zg_L_roundTerm C hs (hV1.2.2 i1 hi1 20 (by decide) (by decide)) z_k214 dX7_reply_55 ?_
  refine zp_L_roundTerm C hs (hV0.2.2 i5 hi5 20 (by decide) (by decide)) z_k214 dX7_reply_58 (fun H locs hs => ?_)
  obtain ⟨σ6, -, hs, hf⟩ := z_top hs hf
  refine lv_iconst (v := 1) hx hb dX7_reply_61 (by decide) ?_
  exact z_reti C hr hs hf dX7_reply_62
set_option maxHeartbeats 4000000 in
set_option maxRecDepth 20000 in
theorem wW_reply {w0 : Nat} {w1 : Nat} {i1 : Nat} {x2 : Int32} {x3 : Int32} {x4 : Int32} (C : z_C E RX7 cX7_reply 6 A p s m args meth c) (hr : meth.sig.returnType = (some .int)) (hV0 : z_W E w0) (hV1 : z_W E w1) (hi1 : i1 < 41) {ro : Int32} {σo : zS} (σ : zS) (H : Heap) (locs : List Loc) (ls : Array Slot) (hs : z_H E A s σ H locs) (hl : lv_has ls 6 [(0, .ref (z_ad E (0, w0, 0))), (1, .ref (z_ad E (20, w1, i1))), (2, .int x2), (3, .int x3), (4, .int x4)]) (hf : fW_reply w0 w1 i1 x2 x3 x4 σ = some (ro, σo)) : W p l e (z_rm 3) s m args below meth c H locs 0 0 (MQ below (z_QI E ro σo A) args s 0 0 A) (F0 m 0 ls []) := by
  have hx := C.1
  have hb := C.2.1
  unfold fW_reply at hf
  refine lv_aload_n hx hb dX7_reply_0 rfl (lv_at hl 0 rfl) ?_
  refine lv_iload_n hx hb dX7_reply_1 rfl (lv_at hl 2 rfl) ?_
  refine lv_aload_n hx hb dX7_reply_2 rfl (lv_at hl 1 rfl) ?_
  refine zg_L_receiver C hs (hV1.2.2 i1 hi1 20 (by decide) (by decide)) z_k200 dX7_reply_3 ?_
  refine lv_aload_n hx hb dX7_reply_6 rfl (lv_at hl 1 rfl) ?_
  refine zg_L_sender C hs (hV1.2.2 i1 hi1 20 (by decide) (by decide)) z_k198 dX7_reply_7 ?_
  obtain ⟨r1, σ1, h_1, hf⟩ := z_bds hf
  refine z_goL C hs (z_runV C hs hl.1 (cW_send l E hV0 h_1) zcV_RX7_118 (hV0.1 0 (by decide)) (z_c0 E _ _ _ _) rfl rfl rfl (by decide) (Nat.le_of_ble_eq_true rfl) dX7_reply_10) (fun H locs hq_1 hs => ?_)
  cases r1 with
  | none =>
    have hf := z_omn hf
    refine lv_astoreN (lv' := [(5, .null), (0, .ref (z_ad E (0, w0, 0))), (1, .ref (z_ad E (20, w1, i1))), (2, .int x2), (3, .int x3), (4, .int x4)]) hx hb dX7_reply_13 hl (by decide) rfl (fun ls hl => ?_)
    refine lv_aloadN hx hb dX7_reply_15 (lv_at hl 0 rfl) ?_
    refine lv_ifnonnullN hx hb dX7_reply_17 ?_
    refine lv_iconst (v := 0) hx hb dX7_reply_20 (by decide) ?_
    exact z_reti C hr hs hf dX7_reply_21
  | some j1 =>
    have hf := z_oms hf
    refine lv_astore (lv' := [(5, .ref (z_ad E (20, w0, j1))), (0, .ref (z_ad E (0, w0, 0))), (1, .ref (z_ad E (20, w1, i1))), (2, .int x2), (3, .int x3), (4, .int x4)]) hx hb dX7_reply_13 hl (by decide) rfl (fun ls hl => ?_)
    refine lv_aload hx hb dX7_reply_15 (lv_at hl 0 rfl) ?_
    refine lv_ifnonnull (tgt := 22) hx hb dX7_reply_17 (by decide) ?_
    refine lv_aload hx hb dX7_reply_22 (lv_at hl 0 rfl) ?_
    refine lv_iload_n hx hb dX7_reply_24 rfl (lv_at hl 4 rfl) ?_
    refine lv_if_eq (tgt := 32) hx hb dX7_reply_25 (by decide) (fun c2 => ?_) (fun c2 => ?_)
    · have hf := z_t hf c2
      refine lv_iconst (v := 0) hx hb dX7_reply_32 (by decide) ?_
      exact wW_reply_33 C hr hV0 hV1 hi1 x4 j1 j1 0 σ1 _ _ _ (hq_1 j1 rfl) (hq_1 j1 rfl) hs (lv_sub hl [2, 5, 0] rfl) hf
    · have hf := z_f hf c2
      refine lv_iconst (v := 1) hx hb dX7_reply_28 (by decide) ?_
      refine lv_goto (tgt := 33) hx hb dX7_reply_29 (by decide) ?_
      exact wW_reply_33 C hr hV0 hV1 hi1 x4 j1 j1 1 σ1 _ _ _ (hq_1 j1 rfl) (hq_1 j1 rfl) hs (lv_sub hl [2, 5, 0] rfl) hf
set_option maxHeartbeats 4000000 in
set_option maxRecDepth 20000 in
theorem cW_reply (l : Launch) (E : zE) {w0 : Nat} {w1 : Nat} {i1 : Nat} {x2 : Int32} {x3 : Int32} {x4 : Int32} (hV0 : z_W E w0) (hV1 : z_W E w1) (hi1 : i1 < 41) {σ σo : zS} {ro : Int32} (hf : fW_reply w0 w1 i1 x2 x3 x4 σ = some (ro, σo)) : z_T l E yX7_reply cX7_reply 6 (some .int) (z_rm 3) (z_QI E ro σo) [.ref (z_ad E (0, w0, 0)), .ref (z_ad E (20, w1, i1)), .int x2, .int x3, .int x4] σ :=
  z_enter (by decide) (Nat.le_of_ble_eq_true rfl) rfl (fun p e s m below meth c A ls C hr hs hl => wW_reply C hr hV0 hV1 hi1 σ _ _ ls hs hl hf)
def fW_takeAsk_76 (w0 : Nat) (w1 : Nat) (i1 : Nat) (w2 : Nat) (i2 : Nat) (x4 : Int32) (σ : zS) : Option (Int32 × zS) :=
  z_bd (fW_reply w0 w2 i2 1 x4 0 σ) (fun r4 σ4 =>
  some (r4, σ4))
def fW_takeAsk_61 (w0 : Nat) (w1 : Nat) (i1 : Nat) (w2 : Nat) (i2 : Nat) (t0 : Int32) (σ : zS) : Option (Int32 × zS) :=
  if t0 = 0 then
    (fW_takeAsk_76 w0 w1 i1 w2 i2 t0 σ)
  else
    (z_let (z_up σ (10, w1, i1) 3 (σ.1 (20, w2, i2) 1)) (fun σ5 =>
    fW_takeAsk_76 w0 w1 i1 w2 i2 t0 σ5))
def fW_takeAsk_60 (w0 : Nat) (w1 : Nat) (i1 : Nat) (w2 : Nat) (i2 : Nat) (σ : zS) : Option (Int32 × zS) :=
  fW_takeAsk_61 w0 w1 i1 w2 i2 0 σ
def fW_takeAsk_24 (w0 : Nat) (w1 : Nat) (i1 : Nat) (w2 : Nat) (i2 : Nat) (t0 : Int32) (σ : zS) : Option (Int32 × zS) :=
  if (σ.1 (10, w1, i1) 0) = 0 then
    (fW_takeAsk_60 w0 w1 i1 w2 i2 σ)
  else
    (if (σ.1 (10, w1, i1) 2) = (σ.1 (20, w2, i2) 3) then
      (if t0 = 0 then
        (fW_takeAsk_60 w0 w1 i1 w2 i2 σ)
      else
        (z_bd (fW_isAhead w0 w1 i1 w2 i2 σ) (fun r8 σ8 =>
        if r8 = 0 then
          (fW_takeAsk_61 w0 w1 i1 w2 i2 1 σ8)
        else
          (fW_takeAsk_60 w0 w1 i1 w2 i2 σ8))))
    else
      (fW_takeAsk_60 w0 w1 i1 w2 i2 σ))
def fW_takeAsk_19 (w0 : Nat) (w1 : Nat) (i1 : Nat) (w2 : Nat) (i2 : Nat) (σ : zS) : Option (Int32 × zS) :=
  fW_takeAsk_24 w0 w1 i1 w2 i2 1 σ
def fW_takeAsk (w0 : Nat) (w1 : Nat) (i1 : Nat) (w2 : Nat) (i2 : Nat) (σ : zS) : Option (Int32 × zS) :=
  if (σ.1 (10, w1, i1) 3) = ((-1)) then
    (fW_takeAsk_19 w0 w1 i1 w2 i2 σ)
  else
    (if (σ.1 (10, w1, i1) 3) = (σ.1 (20, w2, i2) 1) then
      (fW_takeAsk_19 w0 w1 i1 w2 i2 σ)
    else
      (fW_takeAsk_24 w0 w1 i1 w2 i2 0 σ))
set_option maxHeartbeats 4000000 in
set_option maxRecDepth 20000 in
theorem wW_takeAsk_76 {w0 : Nat} {w1 : Nat} {i1 : Nat} {w2 : Nat} {i2 : Nat} (C : z_C E RX7 cX7_takeAsk 5 A p s m args meth c) (hr : meth.sig.returnType = (some .int)) (hV0 : z_W E w0) (hV1 : z_W E w1) (hi1 : i1 < 7) (hV2 : z_W E w2) (hi2 : i2 < 41) {ro : Int32} {σo : zS} (x4 : Int32) (σ : zS) (H : Heap) (locs : List Loc) (ls : Array Slot) (hs : z_H E A s σ H locs) (hl : lv_has ls 5 [(0, .ref (z_ad E (0, w0, 0))), (2, .ref (z_ad E (20, w2, i2))), (4, .int x4)]) (hf : fW_takeAsk_76 w0 w1 i1 w2 i2 x4 σ = some (ro, σo)) : W p l e (z_rm 4) s m args below meth c H locs 0 0 (MQ below (z_QI E ro σo A) args s 0 0 A) (F0 m 76 ls []) := by
  have hx := C.1
  have hb := C.2.1
  unfold fW_takeAsk_76 at hf
  refine lv_aload_n hx hb dX7_takeAsk_76 rfl (lv_at hl 0 rfl) ?_
  refine lv_aload_n hx hb dX7_takeAsk_77 rfl (lv_at hl 1 rfl) ?_
  refine lv_iconst (v := 1) hx hb dX7_takeAsk_78 (by decide) ?_
  refine lv_iload hx hb dX7_takeAsk_79 (lv_at hl 2 rfl) ?_
  refine lv_iconst (v := 0) hx hb dX7_takeAsk_81 (by decide) ?_
  obtain ⟨r4, σ4, h_4, hf⟩ := z_bds hf
  refine z_goI C hs (z_runV C hs hl.1 (cW_reply l E hV0 hV2 hi2 h_4) zcV_RX7_232 (hV0.1 0 (by decide)) (z_c0 E _ _ _ _) rfl rfl rfl (by decide) (Nat.le_of_ble_eq_true rfl) dX7_takeAsk_82) (fun H locs hs => ?_)
  exact z_reti C hr hs hf dX7_takeAsk_85
set_option maxHeartbeats 4000000 in
set_option maxRecDepth 20000 in
theorem wW_takeAsk_61 {w0 : Nat} {w1 : Nat} {i1 : Nat} {w2 : Nat} {i2 : Nat} (C : z_C E RX7 cX7_takeAsk 5 A p s m args meth c) (hr : meth.sig.returnType = (some .int)) (hV0 : z_W E w0) (hV1 : z_W E w1) (hi1 : i1 < 7) (hV2 : z_W E w2) (hi2 : i2 < 41) {ro : Int32} {σo : zS} (t0 : Int32) (σ : zS) (H : Heap) (locs : List Loc) (ls : Array Slot) (hs : z_H E A s σ H locs) (hl : lv_has ls 5 [(0, .ref (z_ad E (0, w0, 0))), (1, .ref (z_ad E (10, w1, i1))), (2, .ref (z_ad E (20, w2, i2)))]) (hf : fW_takeAsk_61 w0 w1 i1 w2 i2 t0 σ = some (ro, σo)) : W p l e (z_rm 4) s m args below meth c H locs 0 0 (MQ below (z_QI E ro σo A) args s 0 0 A) (F0 m 61 ls [.int t0]) := by
  have hx := C.1
  have hb := C.2.1
  unfold fW_takeAsk_61 at hf
  refine lv_istore (lv' := [(4, .int t0), (0, .ref (z_ad E (0, w0, 0))), (1, .ref (z_ad E (10, w1, i1))), (2, .ref (z_ad E (20, w2, i2)))]) hx hb dX7_takeAsk_61 hl (by decide) rfl (fun ls hl => ?_)
  refine lv_iload hx hb dX7_takeAsk_63 (lv_at hl 0 rfl) ?_
  refine lv_if_eq (tgt := 76) hx hb dX7_takeAsk_65 (by decide) (fun c3 => ?_) (fun c3 => ?_)
  · have hf := z_t hf c3
    exact wW_takeAsk_76 C hr hV0 hV1 hi1 hV2 hi2 t0 σ _ _ _ hs (lv_sub hl [1, 3, 0] rfl) hf
  · have hf := z_f hf c3
    refine lv_aload_n hx hb dX7_takeAsk_68 rfl (lv_at hl 2 rfl) ?_
    refine lv_aload_n hx hb dX7_takeAsk_69 rfl (lv_at hl 3 rfl) ?_
    refine zg_L_sender C hs (hV2.2.2 i2 hi2 20 (by decide) (by decide)) z_k198 dX7_takeAsk_70 ?_
    refine zp_K_vote C hs (hV1.2.1 i1 hi1 10 (by decide) (by decide)) z_k102 dX7_takeAsk_73 (fun H locs hs => ?_)
    obtain ⟨σ5, -, hs, hf⟩ := z_top hs hf
    exact wW_takeAsk_76 C hr hV0 hV1 hi1 hV2 hi2 t0 σ5 _ _ _ hs (lv_sub hl [1, 3, 0] rfl) hf
set_option maxHeartbeats 4000000 in
set_option maxRecDepth 20000 in
theorem wW_takeAsk_60 {w0 : Nat} {w1 : Nat} {i1 : Nat} {w2 : Nat} {i2 : Nat} (C : z_C E RX7 cX7_takeAsk 5 A p s m args meth c) (hr : meth.sig.returnType = (some .int)) (hV0 : z_W E w0) (hV1 : z_W E w1) (hi1 : i1 < 7) (hV2 : z_W E w2) (hi2 : i2 < 41) {ro : Int32} {σo : zS} (σ : zS) (H : Heap) (locs : List Loc) (ls : Array Slot) (hs : z_H E A s σ H locs) (hl : lv_has ls 5 [(0, .ref (z_ad E (0, w0, 0))), (1, .ref (z_ad E (10, w1, i1))), (2, .ref (z_ad E (20, w2, i2)))]) (hf : fW_takeAsk_60 w0 w1 i1 w2 i2 σ = some (ro, σo)) : W p l e (z_rm 4) s m args below meth c H locs 0 0 (MQ below (z_QI E ro σo A) args s 0 0 A) (F0 m 60 ls []) := by
  have hx := C.1
  have hb := C.2.1
  unfold fW_takeAsk_60 at hf
  refine lv_iconst (v := 0) hx hb dX7_takeAsk_60 (by decide) ?_
  exact wW_takeAsk_61 C hr hV0 hV1 hi1 hV2 hi2 0 σ _ _ _ hs (lv_sub hl [0, 1, 2] rfl) hf
set_option maxHeartbeats 4000000 in
set_option maxRecDepth 20000 in
theorem wW_takeAsk_24 {w0 : Nat} {w1 : Nat} {i1 : Nat} {w2 : Nat} {i2 : Nat} (C : z_C E RX7 cX7_takeAsk 5 A p s m args meth c) (hr : meth.sig.returnType = (some .int)) (hV0 : z_W E w0) (hV1 : z_W E w1) (hi1 : i1 < 7) (hV2 : z_W E w2) (hi2 : i2 < 41) {ro : Int32} {σo : zS} (t0 : Int32) (σ : zS) (H : Heap) (locs : List Loc) (ls : Array Slot) (hs : z_H E A s σ H locs) (hl : lv_has ls 5 [(0, .ref (z_ad E (0, w0, 0))), (1, .ref (z_ad E (10, w1, i1))), (2, .ref (z_ad E (20, w2, i2)))]) (hf : fW_takeAsk_24 w0 w1 i1 w2 i2 t0 σ = some (ro, σo)) : W p l e (z_rm 4) s m args below meth c H locs 0 0 (MQ below (z_QI E ro σo A) args s 0 0 A) (F0 m 24 ls [.int t0]) := by
  have hx := C.1
  have hb := C.2.1
  unfold fW_takeAsk_24 at hf
  refine lv_istore_n (lv' := [(3, .int t0), (0, .ref (z_ad E (0, w0, 0))), (1, .ref (z_ad E (10, w1, i1))), (2, .ref (z_ad E (20, w2, i2)))]) hx hb dX7_takeAsk_24 rfl hl (by decide) rfl (fun ls hl => ?_)
  refine lv_aload_n hx hb dX7_takeAsk_25 rfl (lv_at hl 2 rfl) ?_
  refine zg_K_voter C hs (hV1.2.1 i1 hi1 10 (by decide) (by decide)) z_k95 dX7_takeAsk_26 ?_
  refine lv_if_eq (tgt := 60) hx hb dX7_takeAsk_29 (by decide) (fun c2 => ?_) (fun c2 => ?_)
  · have hf := z_t hf c2
    exact wW_takeAsk_60 C hr hV0 hV1 hi1 hV2 hi2 σ _ _ _ hs (lv_sub hl [1, 2, 3] rfl) hf
  · have hf := z_f hf c2
    refine lv_aload_n hx hb dX7_takeAsk_32 rfl (lv_at hl 2 rfl) ?_
    refine zg_K_term C hs (hV1.2.1 i1 hi1 10 (by decide) (by decide)) z_k100 dX7_takeAsk_33 ?_
    refine lv_aload_n hx hb dX7_takeAsk_36 rfl (lv_at hl 3 rfl) ?_
    refine zg_L_term C hs (hV2.2.2 i2 hi2 20 (by decide) (by decide)) z_k202 dX7_takeAsk_37 ?_
    refine lv_icmp_ne (tgt := 60) hx hb dX7_takeAsk_40 (by decide) (fun c6 => ?_) (fun c6 => ?_)
    · have hf := z_f hf c6
      exact wW_takeAsk_60 C hr hV0 hV1 hi1 hV2 hi2 σ _ _ _ hs (lv_sub hl [1, 2, 3] rfl) hf
    · have hf := z_t hf c6
      refine lv_iload_n hx hb dX7_takeAsk_43 rfl (lv_at hl 0 rfl) ?_
      refine lv_if_eq (tgt := 60) hx hb dX7_takeAsk_44 (by decide) (fun c7 => ?_) (fun c7 => ?_)
      · have hf := z_t hf c7
        exact wW_takeAsk_60 C hr hV0 hV1 hi1 hV2 hi2 σ _ _ _ hs (lv_sub hl [1, 2, 3] rfl) hf
      · have hf := z_f hf c7
        refine lv_aload_n hx hb dX7_takeAsk_47 rfl (lv_at hl 1 rfl) ?_
        refine lv_aload_n hx hb dX7_takeAsk_48 rfl (lv_at hl 2 rfl) ?_
        refine lv_aload_n hx hb dX7_takeAsk_49 rfl (lv_at hl 3 rfl) ?_
        obtain ⟨r8, σ8, h_8, hf⟩ := z_bds hf
        refine z_goI C hs (z_runV C hs hl.1 (cW_isAhead l E hV0 hV1 hi1 hV2 hi2 h_8) zcV_RX7_228 (hV0.1 0 (by decide)) (z_c0 E _ _ _ _) rfl rfl rfl (by decide) (Nat.le_of_ble_eq_true rfl) dX7_takeAsk_50) (fun H locs hs => ?_)
        refine lv_if_ne (tgt := 60) hx hb dX7_takeAsk_53 (by decide) (fun c9 => ?_) (fun c9 => ?_)
        · have hf := z_f hf c9
          exact wW_takeAsk_60 C hr hV0 hV1 hi1 hV2 hi2 σ8 _ _ _ hs (lv_sub hl [1, 2, 3] rfl) hf
        · have hf := z_t hf c9
          refine lv_iconst (v := 1) hx hb dX7_takeAsk_56 (by decide) ?_
          refine lv_goto (tgt := 61) hx hb dX7_takeAsk_57 (by decide) ?_
          exact wW_takeAsk_61 C hr hV0 hV1 hi1 hV2 hi2 1 σ8 _ _ _ hs (lv_sub hl [1, 2, 3] rfl) hf
set_option maxHeartbeats 4000000 in
set_option maxRecDepth 20000 in
theorem wW_takeAsk_19 {w0 : Nat} {w1 : Nat} {i1 : Nat} {w2 : Nat} {i2 : Nat} (C : z_C E RX7 cX7_takeAsk 5 A p s m args meth c) (hr : meth.sig.returnType = (some .int)) (hV0 : z_W E w0) (hV1 : z_W E w1) (hi1 : i1 < 7) (hV2 : z_W E w2) (hi2 : i2 < 41) {ro : Int32} {σo : zS} (σ : zS) (H : Heap) (locs : List Loc) (ls : Array Slot) (hs : z_H E A s σ H locs) (hl : lv_has ls 5 [(0, .ref (z_ad E (0, w0, 0))), (1, .ref (z_ad E (10, w1, i1))), (2, .ref (z_ad E (20, w2, i2)))]) (hf : fW_takeAsk_19 w0 w1 i1 w2 i2 σ = some (ro, σo)) : W p l e (z_rm 4) s m args below meth c H locs 0 0 (MQ below (z_QI E ro σo A) args s 0 0 A) (F0 m 19 ls []) := by
  have hx := C.1
  have hb := C.2.1
  unfold fW_takeAsk_19 at hf
  refine lv_iconst (v := 1) hx hb dX7_takeAsk_19 (by decide) ?_
  refine lv_goto (tgt := 24) hx hb dX7_takeAsk_20 (by decide) ?_
  exact wW_takeAsk_24 C hr hV0 hV1 hi1 hV2 hi2 1 σ _ _ _ hs (lv_sub hl [0, 1, 2] rfl) hf
set_option maxHeartbeats 4000000 in
set_option maxRecDepth 20000 in
theorem wW_takeAsk {w0 : Nat} {w1 : Nat} {i1 : Nat} {w2 : Nat} {i2 : Nat} (C : z_C E RX7 cX7_takeAsk 5 A p s m args meth c) (hr : meth.sig.returnType = (some .int)) (hV0 : z_W E w0) (hV1 : z_W E w1) (hi1 : i1 < 7) (hV2 : z_W E w2) (hi2 : i2 < 41) {ro : Int32} {σo : zS} (σ : zS) (H : Heap) (locs : List Loc) (ls : Array Slot) (hs : z_H E A s σ H locs) (hl : lv_has ls 5 [(0, .ref (z_ad E (0, w0, 0))), (1, .ref (z_ad E (10, w1, i1))), (2, .ref (z_ad E (20, w2, i2)))]) (hf : fW_takeAsk w0 w1 i1 w2 i2 σ = some (ro, σo)) : W p l e (z_rm 4) s m args below meth c H locs 0 0 (MQ below (z_QI E ro σo A) args s 0 0 A) (F0 m 0 ls []) := by
  have hx := C.1
  have hb := C.2.1
  unfold fW_takeAsk at hf
  refine lv_aload_n hx hb dX7_takeAsk_0 rfl (lv_at hl 1 rfl) ?_
  refine zg_K_vote C hs (hV1.2.1 i1 hi1 10 (by decide) (by decide)) z_k102 dX7_takeAsk_1 ?_
  refine lv_iconst (v := (-1)) hx hb dX7_takeAsk_4 (by decide) ?_
  refine lv_icmp_eq (tgt := 19) hx hb dX7_takeAsk_5 (by decide) (fun c1 => ?_) (fun c1 => ?_)
  · have hf := z_t hf c1
    exact wW_takeAsk_19 C hr hV0 hV1 hi1 hV2 hi2 σ _ _ _ hs (lv_sub hl [0, 1, 2] rfl) hf
  · have hf := z_f hf c1
    refine lv_aload_n hx hb dX7_takeAsk_8 rfl (lv_at hl 1 rfl) ?_
    refine zg_K_vote C hs (hV1.2.1 i1 hi1 10 (by decide) (by decide)) z_k102 dX7_takeAsk_9 ?_
    refine lv_aload_n hx hb dX7_takeAsk_12 rfl (lv_at hl 2 rfl) ?_
    refine zg_L_sender C hs (hV2.2.2 i2 hi2 20 (by decide) (by decide)) z_k198 dX7_takeAsk_13 ?_
    refine lv_icmp_ne (tgt := 23) hx hb dX7_takeAsk_16 (by decide) (fun c10 => ?_) (fun c10 => ?_)
    · have hf := z_f hf c10
      refine lv_iconst (v := 0) hx hb dX7_takeAsk_23 (by decide) ?_
      exact wW_takeAsk_24 C hr hV0 hV1 hi1 hV2 hi2 0 σ _ _ _ hs (lv_sub hl [0, 1, 2] rfl) hf
    · have hf := z_t hf c10
      exact wW_takeAsk_19 C hr hV0 hV1 hi1 hV2 hi2 σ _ _ _ hs (lv_sub hl [0, 1, 2] rfl) hf
set_option maxHeartbeats 4000000 in
set_option maxRecDepth 20000 in
theorem cW_takeAsk (l : Launch) (E : zE) {w0 : Nat} {w1 : Nat} {i1 : Nat} {w2 : Nat} {i2 : Nat} (hV0 : z_W E w0) (hV1 : z_W E w1) (hi1 : i1 < 7) (hV2 : z_W E w2) (hi2 : i2 < 41) {σ σo : zS} {ro : Int32} (hf : fW_takeAsk w0 w1 i1 w2 i2 σ = some (ro, σo)) : z_T l E yX7_takeAsk cX7_takeAsk 5 (some .int) (z_rm 4) (z_QI E ro σo) [.ref (z_ad E (0, w0, 0)), .ref (z_ad E (10, w1, i1)), .ref (z_ad E (20, w2, i2))] σ :=
  z_enter (by decide) (Nat.le_of_ble_eq_true rfl) rfl (fun p e s m below meth c A ls C hr hs hl => wW_takeAsk C hr hV0 hV1 hi1 hV2 hi2 σ _ _ ls hs hl hf)
def fW_takeBallot (w0 : Nat) (w1 : Nat) (i1 : Nat) (w2 : Nat) (i2 : Nat) (σ : zS) : Option (Int32 × zS) :=
  if (σ.1 (10, w1, i1) 4) = 1 then
    (if (σ.1 (10, w1, i1) 2) = (σ.1 (20, w2, i2) 3) then
      (if (σ.1 (20, w2, i2) 4) = 1 then
        (z_let (z_up σ (10, w1, i1) 9 ((σ.1 (10, w1, i1) 9) ||| (1 <<< ((σ.1 (20, w2, i2) 1) &&& 31)))) (fun σ4 =>
        z_bd (fW_leadIfChosen w0 w1 i1 σ4) (fun _ σ5 =>
        some (0, σ5))))
      else
        (some (0, σ)))
    else
      (some (0, σ)))
  else
    (some (0, σ))
set_option maxHeartbeats 4000000 in
set_option maxRecDepth 20000 in
theorem wW_takeBallot {w0 : Nat} {w1 : Nat} {i1 : Nat} {w2 : Nat} {i2 : Nat} (C : z_C E RX7 cX7_takeBallot 3 A p s m args meth c) (hr : meth.sig.returnType = (some .int)) (hV0 : z_W E w0) (hV1 : z_W E w1) (hi1 : i1 < 7) (hV2 : z_W E w2) (hi2 : i2 < 41) {ro : Int32} {σo : zS} (σ : zS) (H : Heap) (locs : List Loc) (ls : Array Slot) (hs : z_H E A s σ H locs) (hl : lv_has ls 3 [(0, .ref (z_ad E (0, w0, 0))), (1, .ref (z_ad E (10, w1, i1))), (2, .ref (z_ad E (20, w2, i2)))]) (hf : fW_takeBallot w0 w1 i1 w2 i2 σ = some (ro, σo)) : W p l e (z_rm 3) s m args below meth c H locs 0 0 (MQ below (z_QI E ro σo A) args s 0 0 A) (F0 m 0 ls []) := by
  have hx := C.1
  have hb := C.2.1
  unfold fW_takeBallot at hf
  refine lv_aload_n hx hb dX7_takeBallot_0 rfl (lv_at hl 1 rfl) ?_
  refine zg_K_role C hs (hV1.2.1 i1 hi1 10 (by decide) (by decide)) z_k104 dX7_takeBallot_1 ?_
  refine lv_iconst (v := 1) hx hb dX7_takeBallot_4 (by decide) ?_
  refine lv_icmp_ne (tgt := 47) hx hb dX7_takeBallot_5 (by decide) (fun c1 => ?_) (fun c1 => ?_)
  · have hf := z_f hf c1
    refine lv_iconst (v := 0) hx hb dX7_takeBallot_47 (by decide) ?_
    exact z_reti C hr hs hf dX7_takeBallot_48
  · have hf := z_t hf c1
    refine lv_aload_n hx hb dX7_takeBallot_8 rfl (lv_at hl 1 rfl) ?_
    refine zg_K_term C hs (hV1.2.1 i1 hi1 10 (by decide) (by decide)) z_k100 dX7_takeBallot_9 ?_
    refine lv_aload_n hx hb dX7_takeBallot_12 rfl (lv_at hl 2 rfl) ?_
    refine zg_L_term C hs (hV2.2.2 i2 hi2 20 (by decide) (by decide)) z_k202 dX7_takeBallot_13 ?_
    refine lv_icmp_ne (tgt := 47) hx hb dX7_takeBallot_16 (by decide) (fun c2 => ?_) (fun c2 => ?_)
    · have hf := z_f hf c2
      refine lv_iconst (v := 0) hx hb dX7_takeBallot_47 (by decide) ?_
      exact z_reti C hr hs hf dX7_takeBallot_48
    · have hf := z_t hf c2
      refine lv_aload_n hx hb dX7_takeBallot_19 rfl (lv_at hl 2 rfl) ?_
      refine zg_L_first C hs (hV2.2.2 i2 hi2 20 (by decide) (by decide)) z_k204 dX7_takeBallot_20 ?_
      refine lv_iconst (v := 1) hx hb dX7_takeBallot_23 (by decide) ?_
      refine lv_icmp_ne (tgt := 47) hx hb dX7_takeBallot_24 (by decide) (fun c3 => ?_) (fun c3 => ?_)
      · have hf := z_f hf c3
        refine lv_iconst (v := 0) hx hb dX7_takeBallot_47 (by decide) ?_
        exact z_reti C hr hs hf dX7_takeBallot_48
      · have hf := z_t hf c3
        refine lv_aload_n hx hb dX7_takeBallot_27 rfl (lv_at hl 1 rfl) ?_
        refine lv_dup hx hb dX7_takeBallot_28 rfl ?_
        refine zg_K_ballots C hs (hV1.2.1 i1 hi1 10 (by decide) (by decide)) z_k119 dX7_takeBallot_29 ?_
        refine lv_iconst (v := 1) hx hb dX7_takeBallot_32 (by decide) ?_
        refine lv_aload_n hx hb dX7_takeBallot_33 rfl (lv_at hl 2 rfl) ?_
        refine zg_L_sender C hs (hV2.2.2 i2 hi2 20 (by decide) (by decide)) z_k198 dX7_takeBallot_34 ?_
        refine lv_ishl hx hb dX7_takeBallot_37 ?_
        refine lv_ior hx hb dX7_takeBallot_38 ?_
        refine zp_K_ballots C hs (hV1.2.1 i1 hi1 10 (by decide) (by decide)) z_k119 dX7_takeBallot_39 (fun H locs hs => ?_)
        obtain ⟨σ4, -, hs, hf⟩ := z_top hs hf
        refine lv_aload_n hx hb dX7_takeBallot_42 rfl (lv_at hl 0 rfl) ?_
        refine lv_aload_n hx hb dX7_takeBallot_43 rfl (lv_at hl 1 rfl) ?_
        obtain ⟨r5, σ5, h_5, hf⟩ := z_bds hf
        refine z_goV C hs (z_runV C hs hl.1 (cW_leadIfChosen l E hV0 hV1 hi1 h_5) zcV_RX7_115 (hV0.1 0 (by decide)) (z_c0 E _ _ _ _) rfl rfl rfl (by decide) (Nat.le_of_ble_eq_true rfl) dX7_takeBallot_44) (fun H locs hs => ?_)
        refine lv_iconst (v := 0) hx hb dX7_takeBallot_47 (by decide) ?_
        exact z_reti C hr hs hf dX7_takeBallot_48
set_option maxHeartbeats 4000000 in
set_option maxRecDepth 20000 in
theorem cW_takeBallot (l : Launch) (E : zE) {w0 : Nat} {w1 : Nat} {i1 : Nat} {w2 : Nat} {i2 : Nat} (hV0 : z_W E w0) (hV1 : z_W E w1) (hi1 : i1 < 7) (hV2 : z_W E w2) (hi2 : i2 < 41) {σ σo : zS} {ro : Int32} (hf : fW_takeBallot w0 w1 i1 w2 i2 σ = some (ro, σo)) : z_T l E yX7_takeBallot cX7_takeBallot 3 (some .int) (z_rm 3) (z_QI E ro σo) [.ref (z_ad E (0, w0, 0)), .ref (z_ad E (10, w1, i1)), .ref (z_ad E (20, w2, i2))] σ :=
  z_enter (by decide) (Nat.le_of_ble_eq_true rfl) rfl (fun p e s m below meth c A ls C hr hs hl => wW_takeBallot C hr hV0 hV1 hi1 hV2 hi2 σ _ _ ls hs hl hf)
def fW_countSure_5 (w0 : Nat) : Nat → Int32 → Int32 → Int32 → Int32 → zS → Option (Int32 × zS)
  | 0, _, _, _, _, _ => none
  | n + 1, x1, x2, x3, x4, σ =>
    if (σ.1 (0, w0, 0) 3) ≤ x4 then
      (some (x3, σ))
    else
      (if z_in x4 7 = true then (
      if (σ.1 (10, w0, x4.toNatClampNeg) 0) = 0 then
        (z_let (x4 + 1) (fun y4 =>
        fW_countSure_5 w0 n x1 x2 x3 y4 σ))
      else
        (if x4 = x1 then
          (z_let (x3 + 1) (fun y6 =>
          z_let (x4 + 1) (fun y7 =>
          fW_countSure_5 w0 n x1 x2 y6 y7 σ)))
        else
          (if z_in x1 7 = true then (
          if z_in x4 7 = true then (
          if (σ.1 (17, w0, x1.toNatClampNeg) x4.toNatClampNeg) < x2 then
            (z_let (x4 + 1) (fun y11 =>
            fW_countSure_5 w0 n x1 x2 x3 y11 σ))
          else
            (z_let (x3 + 1) (fun y12 =>
            z_let (x4 + 1) (fun y13 =>
            fW_countSure_5 w0 n x1 x2 y12 y13 σ)))) else none) else none))) else none)
def fW_countSure (w0 : Nat) (x1 : Int32) (x2 : Int32) (σ : zS) : Option (Int32 × zS) :=
  fW_countSure_5 w0 z_fu x1 x2 0 0 σ
set_option maxHeartbeats 4000000 in
set_option maxRecDepth 20000 in
theorem wW_countSure_5 {w0 : Nat} (C : z_C E RX7 cX7_countSure 5 A p s m args meth c) (hr : meth.sig.returnType = (some .int)) (hV0 : z_W E w0) {ro : Int32} {σo : zS} (n : Nat) : ∀ (x1 : Int32) (x2 : Int32) (x3 : Int32) (x4 : Int32) (σ : zS) (H : Heap) (locs : List Loc) (ls : Array Slot), z_H E A s σ H locs → lv_has ls 5 [(0, .ref (z_ad E (0, w0, 0))), (1, .int x1), (2, .int x2), (3, .int x3), (4, .int x4)] → fW_countSure_5 w0 n x1 x2 x3 x4 σ = some (ro, σo) → W p l e (z_rm 1) s m args below meth c H locs 0 0 (MQ below (z_QI E ro σo A) args s 0 0 A) (F0 m 5 ls []) := by
  induction n with
  | zero =>
    intro x1 x2 x3 x4 σ H locs ls hs hl hf
    have hf : none = some (ro, σo) := hf
    cases hf
  | succ n ih =>
    intro x1 x2 x3 x4 σ H locs ls hs hl hf
    have hx := C.1
    have hb := C.2.1
    rw [fW_countSure_5.eq_2] at hf
    refine lv_iload hx hb dX7_countSure_5 (lv_at hl 4 rfl) ?_
    refine lv_aload_n hx hb dX7_countSure_7 rfl (lv_at hl 0 rfl) ?_
    refine zg_W_count C hs (hV0.1 0 (by decide)) z_k287 dX7_countSure_8 ?_
    refine lv_icmp_ge (tgt := 58) hx hb dX7_countSure_11 (by decide) (fun c1 => ?_) (fun c1 => ?_)
    · have hf := z_t hf c1
      refine lv_iload_n hx hb dX7_countSure_58 rfl (lv_at hl 3 rfl) ?_
      exact z_reti C hr hs hf dX7_countSure_59
    · have hf := z_f hf c1
      refine lv_aload_n hx hb dX7_countSure_14 rfl (lv_at hl 0 rfl) ?_
      refine zg_W_keepers C hs (hV0.1 0 (by decide)) z_k281 dX7_countSure_15 ?_
      refine lv_iload hx hb dX7_countSure_18 (lv_at hl 4 rfl) ?_
      obtain ⟨g2, hf⟩ := z_gd hf
      refine z_aald C hs (hV0.1 1 (by decide)) (z_c1 E _ _ _ _) (t0 := 4) rfl g2 rfl dX7_countSure_20 ?_
      refine zg_K_voter C hs (hV0.2.1 x4.toNatClampNeg (z_in_lt g2) 10 (by decide) (by decide)) z_k95 dX7_countSure_21 ?_
      refine lv_if_eq (tgt := 52) hx hb dX7_countSure_24 (by decide) (fun c3 => ?_) (fun c3 => ?_)
      · have hf := z_t hf c3
        obtain ⟨y4, e_y4⟩ : ∃ y : Int32, y = x4 + 1 := ⟨_, rfl⟩
        have hf := z_lte e_y4 hf
        refine lv_iinc (v := y4) (lv' := [(4, .int y4), (0, .ref (z_ad E (0, w0, 0))), (1, .int x1), (2, .int x2), (3, .int x3)]) hx hb dX7_countSure_52 hl (k := 4) rfl (by rw [e_y4]; rfl) (by decide) rfl (fun ls hl => ?_)
        refine lv_goto (tgt := 5) hx hb dX7_countSure_55 (by decide) ?_
        exact ih x1 x2 x3 y4 σ _ _ _ hs (lv_sub hl [1, 2, 3, 4, 0] rfl) hf
      · have hf := z_f hf c3
        refine lv_iload hx hb dX7_countSure_27 (lv_at hl 4 rfl) ?_
        refine lv_iload_n hx hb dX7_countSure_29 rfl (lv_at hl 1 rfl) ?_
        refine lv_icmp_eq (tgt := 49) hx hb dX7_countSure_30 (by decide) (fun c5 => ?_) (fun c5 => ?_)
        · have hf := z_t hf c5
          obtain ⟨y6, e_y6⟩ : ∃ y : Int32, y = x3 + 1 := ⟨_, rfl⟩
          have hf := z_lte e_y6 hf
          refine lv_iinc (v := y6) (lv' := [(3, .int y6), (0, .ref (z_ad E (0, w0, 0))), (1, .int x1), (2, .int x2), (4, .int x4)]) hx hb dX7_countSure_49 hl (k := 3) rfl (by rw [e_y6]; rfl) (by decide) rfl (fun ls hl => ?_)
          obtain ⟨y7, e_y7⟩ : ∃ y : Int32, y = x4 + 1 := ⟨_, rfl⟩
          have hf := z_lte e_y7 hf
          refine lv_iinc (v := y7) (lv' := [(4, .int y7), (3, .int y6), (0, .ref (z_ad E (0, w0, 0))), (1, .int x1), (2, .int x2)]) hx hb dX7_countSure_52 hl (k := 4) rfl (by rw [e_y7]; rfl) (by decide) rfl (fun ls hl => ?_)
          refine lv_goto (tgt := 5) hx hb dX7_countSure_55 (by decide) ?_
          exact ih x1 x2 y6 y7 σ _ _ _ hs (lv_sub hl [2, 3, 4, 1, 0] rfl) hf
        · have hf := z_f hf c5
          refine lv_aload_n hx hb dX7_countSure_33 rfl (lv_at hl 0 rfl) ?_
          refine zg_W_keepers C hs (hV0.1 0 (by decide)) z_k281 dX7_countSure_34 ?_
          refine lv_iload_n hx hb dX7_countSure_37 rfl (lv_at hl 1 rfl) ?_
          obtain ⟨g8, hf⟩ := z_gd hf
          refine z_aald C hs (hV0.1 1 (by decide)) (z_c1 E _ _ _ _) (t0 := 4) rfl g8 rfl dX7_countSure_38 ?_
          refine zg_K_sure C hs (hV0.2.1 x1.toNatClampNeg (z_in_lt g8) 10 (by decide) (by decide)) z_k134 dX7_countSure_39 ?_
          refine lv_iload hx hb dX7_countSure_42 (lv_at hl 4 rfl) ?_
          obtain ⟨g9, hf⟩ := z_gd hf
          refine z_ald C hs (hV0.2.1 x1.toNatClampNeg (z_in_lt g8) 17 (by decide) (by decide)) (z_c17 E _ _ _ _) g9 rfl dX7_countSure_44 ?_
          refine lv_iload_n hx hb dX7_countSure_45 rfl (lv_at hl 2 rfl) ?_
          refine lv_icmp_lt (tgt := 52) hx hb dX7_countSure_46 (by decide) (fun c10 => ?_) (fun c10 => ?_)
          · have hf := z_t hf c10
            obtain ⟨y11, e_y11⟩ : ∃ y : Int32, y = x4 + 1 := ⟨_, rfl⟩
            have hf := z_lte e_y11 hf
            refine lv_iinc (v := y11) (lv' := [(4, .int y11), (0, .ref (z_ad E (0, w0, 0))), (1, .int x1), (2, .int x2), (3, .int x3)]) hx hb dX7_countSure_52 hl (k := 4) rfl (by rw [e_y11]; rfl) (by decide) rfl (fun ls hl => ?_)
            refine lv_goto (tgt := 5) hx hb dX7_countSure_55 (by decide) ?_
            exact ih x1 x2 x3 y11 σ _ _ _ hs (lv_sub hl [1, 2, 3, 4, 0] rfl) hf
          · have hf := z_f hf c10
            obtain ⟨y12, e_y12⟩ : ∃ y : Int32, y = x3 + 1 := ⟨_, rfl⟩
            have hf := z_lte e_y12 hf
            refine lv_iinc (v := y12) (lv' := [(3, .int y12), (0, .ref (z_ad E (0, w0, 0))), (1, .int x1), (2, .int x2), (4, .int x4)]) hx hb dX7_countSure_49 hl (k := 3) rfl (by rw [e_y12]; rfl) (by decide) rfl (fun ls hl => ?_)
            obtain ⟨y13, e_y13⟩ : ∃ y : Int32, y = x4 + 1 := ⟨_, rfl⟩
            have hf := z_lte e_y13 hf
            refine lv_iinc (v := y13) (lv' := [(4, .int y13), (3, .int y12), (0, .ref (z_ad E (0, w0, 0))), (1, .int x1), (2, .int x2)]) hx hb dX7_countSure_52 hl (k := 4) rfl (by rw [e_y13]; rfl) (by decide) rfl (fun ls hl => ?_)
            refine lv_goto (tgt := 5) hx hb dX7_countSure_55 (by decide) ?_
            exact ih x1 x2 y12 y13 σ _ _ _ hs (lv_sub hl [2, 3, 4, 1, 0] rfl) hf
set_option maxHeartbeats 4000000 in
set_option maxRecDepth 20000 in
theorem wW_countSure {w0 : Nat} {x1 : Int32} {x2 : Int32} (C : z_C E RX7 cX7_countSure 5 A p s m args meth c) (hr : meth.sig.returnType = (some .int)) (hV0 : z_W E w0) {ro : Int32} {σo : zS} (σ : zS) (H : Heap) (locs : List Loc) (ls : Array Slot) (hs : z_H E A s σ H locs) (hl : lv_has ls 5 [(0, .ref (z_ad E (0, w0, 0))), (1, .int x1), (2, .int x2)]) (hf : fW_countSure w0 x1 x2 σ = some (ro, σo)) : W p l e (z_rm 1) s m args below meth c H locs 0 0 (MQ below (z_QI E ro σo A) args s 0 0 A) (F0 m 0 ls []) := by
  have hx := C.1
  have hb := C.2.1
  unfold fW_countSure at hf
  refine lv_iconst (v := 0) hx hb dX7_countSure_0 (by decide) ?_
  refine lv_istore_n (lv' := [(3, .int 0), (0, .ref (z_ad E (0, w0, 0))), (1, .int x1), (2, .int x2)]) hx hb dX7_countSure_1 rfl hl (by decide) rfl (fun ls hl => ?_)
  refine lv_iconst (v := 0) hx hb dX7_countSure_2 (by decide) ?_
  refine lv_istore (lv' := [(4, .int 0), (3, .int 0), (0, .ref (z_ad E (0, w0, 0))), (1, .int x1), (2, .int x2)]) hx hb dX7_countSure_3 hl (by decide) rfl (fun ls hl => ?_)
  exact wW_countSure_5 C hr hV0 z_fu x1 x2 0 0 σ _ _ _ hs (lv_sub hl [2, 3, 4, 1, 0] rfl) hf
set_option maxHeartbeats 4000000 in
set_option maxRecDepth 20000 in
theorem cW_countSure (l : Launch) (E : zE) {w0 : Nat} {x1 : Int32} {x2 : Int32} (hV0 : z_W E w0) {σ σo : zS} {ro : Int32} (hf : fW_countSure w0 x1 x2 σ = some (ro, σo)) : z_T l E yX7_countSure cX7_countSure 5 (some .int) (z_rm 1) (z_QI E ro σo) [.ref (z_ad E (0, w0, 0)), .int x1, .int x2] σ :=
  z_enter (by decide) (Nat.le_of_ble_eq_true rfl) rfl (fun p e s m below meth c A ls C hr hs hl => wW_countSure C hr hV0 σ _ _ ls hs hl hf)
def fX_isClient (x0 : Int32) (σ : zS) : Option (Int32 × zS) :=
  if x0 < 0 then
    (some (0, σ))
  else
    (if 6 ≤ x0 then
      (some (0, σ))
    else
      (some (1, σ)))
set_option maxHeartbeats 4000000 in
set_option maxRecDepth 20000 in
theorem wX_isClient {x0 : Int32} (C : z_C E RX8 cX8_isClient 1 A p s m args meth c) (hr : meth.sig.returnType = (some .boolean)) {ro : Int32} {σo : zS} (σ : zS) (H : Heap) (locs : List Loc) (ls : Array Slot) (hs : z_H E A s σ H locs) (hl : lv_has ls 1 [(0, .int x0)]) (hf : fX_isClient x0 σ = some (ro, σo)) : W p l e (z_rm 1) s m args below meth c H locs 0 0 (MQ below (z_QI E ro σo A) args s 0 0 A) (F0 m 0 ls []) := by
  have hx := C.1
  have hb := C.2.1
  unfold fX_isClient at hf
  refine lv_iload_n hx hb dX8_isClient_0 rfl (lv_at hl 0 rfl) ?_
  refine lv_if_lt (tgt := 14) hx hb dX8_isClient_1 (by decide) (fun c1 => ?_) (fun c1 => ?_)
  · have hf := z_t hf c1
    refine lv_iconst (v := 0) hx hb dX8_isClient_14 (by decide) ?_
    exact z_retz C hr hs (by decide +kernel) hf dX8_isClient_15
  · have hf := z_f hf c1
    refine lv_iload_n hx hb dX8_isClient_4 rfl (lv_at hl 0 rfl) ?_
    refine lv_bipush (v := 6) hx hb dX8_isClient_5 (by decide) ?_
    refine lv_icmp_ge (tgt := 14) hx hb dX8_isClient_7 (by decide) (fun c2 => ?_) (fun c2 => ?_)
    · have hf := z_t hf c2
      refine lv_iconst (v := 0) hx hb dX8_isClient_14 (by decide) ?_
      exact z_retz C hr hs (by decide +kernel) hf dX8_isClient_15
    · have hf := z_f hf c2
      refine lv_iconst (v := 1) hx hb dX8_isClient_10 (by decide) ?_
      refine lv_goto (tgt := 15) hx hb dX8_isClient_11 (by decide) ?_
      exact z_retz C hr hs (by decide +kernel) hf dX8_isClient_15
set_option maxHeartbeats 4000000 in
set_option maxRecDepth 20000 in
theorem cX_isClient (l : Launch) (E : zE) {x0 : Int32} {σ σo : zS} {ro : Int32} (hf : fX_isClient x0 σ = some (ro, σo)) : z_T l E yX8_isClient cX8_isClient 1 (some .boolean) (z_rm 1) (z_QI E ro σo) [.int x0] σ :=
  z_enter (by decide) (Nat.le_of_ble_eq_true rfl) rfl (fun p e s m below meth c A ls C hr hs hl => wX_isClient C hr σ _ _ ls hs hl hf)
def fX_isCell (x0 : Int32) (σ : zS) : Option (Int32 × zS) :=
  if x0 < 0 then
    (some (0, σ))
  else
    (if 8 ≤ x0 then
      (some (0, σ))
    else
      (some (1, σ)))
set_option maxHeartbeats 4000000 in
set_option maxRecDepth 20000 in
theorem wX_isCell {x0 : Int32} (C : z_C E RX8 cX8_isCell 1 A p s m args meth c) (hr : meth.sig.returnType = (some .boolean)) {ro : Int32} {σo : zS} (σ : zS) (H : Heap) (locs : List Loc) (ls : Array Slot) (hs : z_H E A s σ H locs) (hl : lv_has ls 1 [(0, .int x0)]) (hf : fX_isCell x0 σ = some (ro, σo)) : W p l e (z_rm 1) s m args below meth c H locs 0 0 (MQ below (z_QI E ro σo A) args s 0 0 A) (F0 m 0 ls []) := by
  have hx := C.1
  have hb := C.2.1
  unfold fX_isCell at hf
  refine lv_iload_n hx hb dX8_isCell_0 rfl (lv_at hl 0 rfl) ?_
  refine lv_if_lt (tgt := 14) hx hb dX8_isCell_1 (by decide) (fun c1 => ?_) (fun c1 => ?_)
  · have hf := z_t hf c1
    refine lv_iconst (v := 0) hx hb dX8_isCell_14 (by decide) ?_
    exact z_retz C hr hs (by decide +kernel) hf dX8_isCell_15
  · have hf := z_f hf c1
    refine lv_iload_n hx hb dX8_isCell_4 rfl (lv_at hl 0 rfl) ?_
    refine lv_bipush (v := 8) hx hb dX8_isCell_5 (by decide) ?_
    refine lv_icmp_ge (tgt := 14) hx hb dX8_isCell_7 (by decide) (fun c2 => ?_) (fun c2 => ?_)
    · have hf := z_t hf c2
      refine lv_iconst (v := 0) hx hb dX8_isCell_14 (by decide) ?_
      exact z_retz C hr hs (by decide +kernel) hf dX8_isCell_15
    · have hf := z_f hf c2
      refine lv_iconst (v := 1) hx hb dX8_isCell_10 (by decide) ?_
      refine lv_goto (tgt := 15) hx hb dX8_isCell_11 (by decide) ?_
      exact z_retz C hr hs (by decide +kernel) hf dX8_isCell_15
set_option maxHeartbeats 4000000 in
set_option maxRecDepth 20000 in
theorem cX_isCell (l : Launch) (E : zE) {x0 : Int32} {σ σo : zS} {ro : Int32} (hf : fX_isCell x0 σ = some (ro, σo)) : z_T l E yX8_isCell cX8_isCell 1 (some .boolean) (z_rm 1) (z_QI E ro σo) [.int x0] σ :=
  z_enter (by decide) (Nat.le_of_ble_eq_true rfl) rfl (fun p e s m below meth c A ls C hr hs hl => wX_isCell C hr σ _ _ ls hs hl hf)
def fX_cellBehind (x0 : Int32) (x1 : Int32) (x2 : Int32) (σ : zS) : Option (Int32 × zS) :=
  if x0 = 0 then
    (some (x2, σ))
  else
    (if x0 = 1 then
      (some (x1 + x2, σ))
    else
      (if x0 = 2 then
        (some (if x1 < x2 then x2 else x1, σ))
      else
        (if x1 = 0 then
          (some (x2, σ))
        else
          (some (x1, σ)))))
set_option maxHeartbeats 4000000 in
set_option maxRecDepth 20000 in
theorem wX_cellBehind {x0 : Int32} {x1 : Int32} {x2 : Int32} (C : z_C E RX8 cX8_cellBehind 3 A p s m args meth c) (hr : meth.sig.returnType = (some .int)) {ro : Int32} {σo : zS} (σ : zS) (H : Heap) (locs : List Loc) (ls : Array Slot) (hs : z_H E A s σ H locs) (hl : lv_has ls 3 [(0, .int x0), (1, .int x1), (2, .int x2)]) (hf : fX_cellBehind x0 x1 x2 σ = some (ro, σo)) : W p l e (z_rm 2) s m args below meth c H locs 0 0 (MQ below (z_QI E ro σo A) args s 0 0 A) (F0 m 0 ls []) := by
  have hx := C.1
  have hb := C.2.1
  unfold fX_cellBehind at hf
  refine lv_iload_n hx hb dX8_cellBehind_0 rfl (lv_at hl 0 rfl) ?_
  by_cases c1 : x0 = 0
  · have hf := z_t hf c1
    refine lv_tableIn (off := 27) (tgt := 28) hx hb dX8_cellBehind_1 (by rw [c1]; decide) (by rw [c1]; decide) (by rw [c1]; decide) (by decide) ?_
    refine lv_iload_n hx hb dX8_cellBehind_28 rfl (lv_at hl 2 rfl) ?_
    exact z_reti C hr hs hf dX8_cellBehind_29
  · have hf := z_f hf c1
    by_cases c2 : x0 = 1
    · have hf := z_t hf c2
      refine lv_tableIn (off := 29) (tgt := 30) hx hb dX8_cellBehind_1 (by rw [c2]; decide) (by rw [c2]; decide) (by rw [c2]; decide) (by decide) ?_
      refine lv_iload_n hx hb dX8_cellBehind_30 rfl (lv_at hl 1 rfl) ?_
      refine lv_iload_n hx hb dX8_cellBehind_31 rfl (lv_at hl 2 rfl) ?_
      refine lv_iadd hx hb dX8_cellBehind_32 ?_
      exact z_reti C hr hs hf dX8_cellBehind_33
    · have hf := z_f hf c2
      by_cases c3 : x0 = 2
      · have hf := z_t hf c3
        refine lv_tableIn (off := 33) (tgt := 34) hx hb dX8_cellBehind_1 (by rw [c3]; decide) (by rw [c3]; decide) (by rw [c3]; decide) (by decide) ?_
        refine lv_iload_n hx hb dX8_cellBehind_34 rfl (lv_at hl 1 rfl) ?_
        refine lv_iload_n hx hb dX8_cellBehind_35 rfl (lv_at hl 2 rfl) ?_
        refine z_max C hl.1 z_k653 (by decide) (Nat.le_of_ble_eq_true rfl) dX8_cellBehind_36 ?_
        exact z_reti C hr hs hf dX8_cellBehind_39
      · have hf := z_f hf c3
        have hq : (x0).toInt < 0 ∨ 2 < (x0).toInt := by
          have q0 := z_ne (k := 0) (n := 0) (by decide +kernel) c1
          have q1 := z_ne (k := 1) (n := 1) (by decide +kernel) c2
          have q2 := z_ne (k := 2) (n := 2) (by decide +kernel) c3
          omega
        refine lv_tableOut (tgt := 40) hx hb dX8_cellBehind_1 hq (by decide) ?_
        refine lv_iload_n hx hb dX8_cellBehind_40 rfl (lv_at hl 1 rfl) ?_
        refine lv_if_ne (tgt := 48) hx hb dX8_cellBehind_41 (by decide) (fun c4 => ?_) (fun c4 => ?_)
        · have hf := z_f hf c4
          refine lv_iload_n hx hb dX8_cellBehind_48 rfl (lv_at hl 1 rfl) ?_
          exact z_reti C hr hs hf dX8_cellBehind_49
        · have hf := z_t hf c4
          refine lv_iload_n hx hb dX8_cellBehind_44 rfl (lv_at hl 2 rfl) ?_
          refine lv_goto (tgt := 49) hx hb dX8_cellBehind_45 (by decide) ?_
          exact z_reti C hr hs hf dX8_cellBehind_49
set_option maxHeartbeats 4000000 in
set_option maxRecDepth 20000 in
theorem cX_cellBehind (l : Launch) (E : zE) {x0 : Int32} {x1 : Int32} {x2 : Int32} {σ σo : zS} {ro : Int32} (hf : fX_cellBehind x0 x1 x2 σ = some (ro, σo)) : z_T l E yX8_cellBehind cX8_cellBehind 3 (some .int) (z_rm 2) (z_QI E ro σo) [.int x0, .int x1, .int x2] σ :=
  z_enter (by decide) (Nat.le_of_ble_eq_true rfl) rfl (fun p e s m below meth c A ls C hr hs hl => wX_cellBehind C hr σ _ _ ls hs hl hf)
def fX_answerTo (x0 : Int32) (x1 : Int32) (x2 : Int32) (σ : zS) : Option (Int32 × zS) :=
  if x0 = 0 then
    (some (x1, σ))
  else
    (if x0 = 3 then
      (if x1 = 0 then
        (some (1, σ))
      else
        (some (0, σ)))
    else
      (some (x2, σ)))
set_option maxHeartbeats 4000000 in
set_option maxRecDepth 20000 in
theorem wX_answerTo {x0 : Int32} {x1 : Int32} {x2 : Int32} (C : z_C E RX8 cX8_answerTo 3 A p s m args meth c) (hr : meth.sig.returnType = (some .int)) {ro : Int32} {σo : zS} (σ : zS) (H : Heap) (locs : List Loc) (ls : Array Slot) (hs : z_H E A s σ H locs) (hl : lv_has ls 3 [(0, .int x0), (1, .int x1), (2, .int x2)]) (hf : fX_answerTo x0 x1 x2 σ = some (ro, σo)) : W p l e (z_rm 1) s m args below meth c H locs 0 0 (MQ below (z_QI E ro σo A) args s 0 0 A) (F0 m 0 ls []) := by
  have hx := C.1
  have hb := C.2.1
  unfold fX_answerTo at hf
  refine lv_iload_n hx hb dX8_answerTo_0 rfl (lv_at hl 0 rfl) ?_
  by_cases c1 : x0 = 0
  · have hf := z_t hf c1
    refine lv_lookup (off := 27) (tgt := 28) hx hb dX8_answerTo_1 (by decide) (by rw [c1]; decide) (by decide) ?_
    refine lv_iload_n hx hb dX8_answerTo_28 rfl (lv_at hl 1 rfl) ?_
    exact z_reti C hr hs hf dX8_answerTo_29
  · have hf := z_f hf c1
    by_cases c2 : x0 = 3
    · have hf := z_t hf c2
      refine lv_lookup (off := 29) (tgt := 30) hx hb dX8_answerTo_1 (by decide) (by rw [c2]; decide) (by decide) ?_
      refine lv_iload_n hx hb dX8_answerTo_30 rfl (lv_at hl 1 rfl) ?_
      refine lv_if_ne (tgt := 38) hx hb dX8_answerTo_31 (by decide) (fun c3 => ?_) (fun c3 => ?_)
      · have hf := z_f hf c3
        refine lv_iconst (v := 0) hx hb dX8_answerTo_38 (by decide) ?_
        exact z_reti C hr hs hf dX8_answerTo_39
      · have hf := z_t hf c3
        refine lv_iconst (v := 1) hx hb dX8_answerTo_34 (by decide) ?_
        refine lv_goto (tgt := 39) hx hb dX8_answerTo_35 (by decide) ?_
        exact z_reti C hr hs hf dX8_answerTo_39
    · have hf := z_f hf c2
      refine lv_lookup (off := 39) (tgt := 40) hx hb dX8_answerTo_1 (by decide) (by
        have q0 := z_ne (k := 0) (n := 0) (by decide +kernel) c1
        have q1 := z_ne (k := 3) (n := 3) (by decide +kernel) c2
        simp [Op.lookupswitch.offset, q0, q0.symm, q1, q1.symm]) (by decide) ?_
      refine lv_iload_n hx hb dX8_answerTo_40 rfl (lv_at hl 2 rfl) ?_
      exact z_reti C hr hs hf dX8_answerTo_41
set_option maxHeartbeats 4000000 in
set_option maxRecDepth 20000 in
theorem cX_answerTo (l : Launch) (E : zE) {x0 : Int32} {x1 : Int32} {x2 : Int32} {σ σo : zS} {ro : Int32} (hf : fX_answerTo x0 x1 x2 σ = some (ro, σo)) : z_T l E yX8_answerTo cX8_answerTo 3 (some .int) (z_rm 1) (z_QI E ro σo) [.int x0, .int x1, .int x2] σ :=
  z_enter (by decide) (Nat.le_of_ble_eq_true rfl) rfl (fun p e s m below meth c A ls C hr hs hl => wX_answerTo C hr σ _ _ ls hs hl hf)
def fS_take (a0 : zJ) (w1 : Nat) (i1 : Nat) (x2 : Int32) (σ : zS) : Option (Unit × zS) :=
  if x2 < 0 then
    (some ((), σ))
  else
    (if x2 ≤ (240 - 6) then
      (if z_in (x2 + 1) 240 = true then (
      z_let (σ.1 (11, w1, i1) (x2 + 1).toNatClampNeg) (fun y4 =>
      if z_in (x2 + 4) 240 = true then (
      z_let (σ.1 (11, w1, i1) (x2 + 4).toNatClampNeg) (fun y6 =>
      z_bd (fX_isClient y4 σ) (fun r7 σ7 =>
      if r7 = 0 then
        (some ((), σ7))
      else
        (z_bd (fX_isCell y6 σ7) (fun r9 σ9 =>
        if r9 = 0 then
          (some ((), σ9))
        else
          (if z_in (x2 + 2) 240 = true then (
          if z_in (8 + y4) 20 = true then (
          if (σ9.1 (z_nx a0) (8 + y4).toNatClampNeg) < (σ9.1 (11, w1, i1) (x2 + 2).toNatClampNeg) then
            (if z_in (x2 + 3) 240 = true then (
            z_let (σ9.1 (11, w1, i1) (x2 + 3).toNatClampNeg) (fun y15 =>
            if z_in y6 20 = true then (
            z_let (σ9.1 (z_nx a0) y6.toNatClampNeg) (fun y17 =>
            if z_in (x2 + 5) 240 = true then (
            z_bd (fX_cellBehind y15 y17 (σ9.1 (11, w1, i1) (x2 + 5).toNatClampNeg) σ9) (fun r19 σ19 =>
            if z_in y6 20 = true then (
            z_let (z_up σ19 (z_nx a0) (y6.toNatClampNeg) r19) (fun σ21 =>
            if z_in (x2 + 2) 240 = true then (
            if z_in (8 + y4) 20 = true then (
            z_let (z_up σ21 (z_nx a0) ((8 + y4).toNatClampNeg) (σ21.1 (11, w1, i1) (x2 + 2).toNatClampNeg)) (fun σ24 =>
            if z_in y6 20 = true then (
            z_bd (fX_answerTo y15 y17 (σ24.1 (z_nx a0) y6.toNatClampNeg) σ24) (fun r26 σ26 =>
            if z_in (14 + y4) 20 = true then (
            z_let (z_up σ26 (z_nx a0) ((14 + y4).toNatClampNeg) r26) (fun σ28 =>
            some ((), σ28))) else none)) else none)) else none) else none)) else none)) else none)) else none)) else none)
          else
            (some ((), σ9))) else none) else none)))))) else none)) else none)
    else
      (some ((), σ)))
set_option maxHeartbeats 4000000 in
set_option maxRecDepth 20000 in
theorem wS_take {a0 : zJ} {w1 : Nat} {i1 : Nat} {x2 : Int32} (C : z_C E RX5 cX5_take 7 A p s m args meth c) (hr : meth.sig.returnType = none) (hS0 : z_St E a0) (hE1 : ((11, w1, i1) : zJ) ∈ z_ids E) {ro : Unit} {σo : zS} (σ : zS) (H : Heap) (locs : List Loc) (ls : Array Slot) (hs : z_H E A s σ H locs) (hl : lv_has ls 7 [(0, .ref (z_ad E a0)), (1, .ref (z_ad E (11, w1, i1))), (2, .int x2)]) (hf : fS_take a0 w1 i1 x2 σ = some (ro, σo)) : W p l e (z_rm 3) s m args below meth c H locs 0 0 (MQ below (z_QV E ro σo A) args s 0 0 A) (F0 m 0 ls []) := by
  have hx := C.1
  have hb := C.2.1
  unfold fS_take at hf
  refine lv_iload_n hx hb dX5_take_0 rfl (lv_at hl 2 rfl) ?_
  refine lv_if_lt (tgt := 13) hx hb dX5_take_1 (by decide) (fun c1 => ?_) (fun c1 => ?_)
  · have hf := z_t hf c1
    exact z_retv C hr hs hf dX5_take_13
  · have hf := z_f hf c1
    refine lv_iload_n hx hb dX5_take_4 rfl (lv_at hl 2 rfl) ?_
    refine lv_aload_n hx hb dX5_take_5 rfl (lv_at hl 1 rfl) ?_
    refine z_alen (v := 240) C hs hE1 (z_c11 E _ _ _ _) (by decide +kernel) dX5_take_6 ?_
    refine lv_bipush (v := 6) hx hb dX5_take_7 (by decide) ?_
    refine lv_isub hx hb dX5_take_9 ?_
    refine lv_icmp_le (tgt := 14) hx hb dX5_take_10 (by decide) (fun c2 => ?_) (fun c2 => ?_)
    · have hf := z_t hf c2
      refine lv_aload_n hx hb dX5_take_14 rfl (lv_at hl 1 rfl) ?_
      refine lv_iload_n hx hb dX5_take_15 rfl (lv_at hl 2 rfl) ?_
      refine lv_iconst (v := 1) hx hb dX5_take_16 (by decide) ?_
      refine lv_iadd hx hb dX5_take_17 ?_
      obtain ⟨g3, hf⟩ := z_gd hf
      refine z_ald C hs hE1 (z_c11 E _ _ _ _) g3 rfl dX5_take_18 ?_
      refine lv_topi (fun y4 e_y4 => ?_)
      have hf := z_lte e_y4 hf
      refine lv_istore_n (lv' := [(3, .int y4), (0, .ref (z_ad E a0)), (1, .ref (z_ad E (11, w1, i1))), (2, .int x2)]) hx hb dX5_take_19 rfl hl (by decide) rfl (fun ls hl => ?_)
      refine lv_aload_n hx hb dX5_take_20 rfl (lv_at hl 2 rfl) ?_
      refine lv_iload_n hx hb dX5_take_21 rfl (lv_at hl 3 rfl) ?_
      refine lv_iconst (v := 4) hx hb dX5_take_22 (by decide) ?_
      refine lv_iadd hx hb dX5_take_23 ?_
      obtain ⟨g5, hf⟩ := z_gd hf
      refine z_ald C hs hE1 (z_c11 E _ _ _ _) g5 rfl dX5_take_24 ?_
      refine lv_topi (fun y6 e_y6 => ?_)
      have hf := z_lte e_y6 hf
      refine lv_istore (lv' := [(4, .int y6), (3, .int y4), (0, .ref (z_ad E a0)), (1, .ref (z_ad E (11, w1, i1))), (2, .int x2)]) hx hb dX5_take_25 hl (by decide) rfl (fun ls hl => ?_)
      refine lv_iload_n hx hb dX5_take_27 rfl (lv_at hl 1 rfl) ?_
      obtain ⟨r7, σ7, h_7, hf⟩ := z_bds hf
      refine z_goI C hs (z_runN C hs hl.1 (cX_isClient l E h_7) zcN_RX5_26 rfl rfl (by decide) (Nat.le_of_ble_eq_true rfl) dX5_take_28) (fun H locs hs => ?_)
      refine lv_if_eq (tgt := 59) hx hb dX5_take_31 (by decide) (fun c8 => ?_) (fun c8 => ?_)
      · have hf := z_t hf c8
        exact z_retv C hr hs hf dX5_take_59
      · have hf := z_f hf c8
        refine lv_iload hx hb dX5_take_34 (lv_at hl 0 rfl) ?_
        obtain ⟨r9, σ9, h_9, hf⟩ := z_bds hf
        refine z_goI C hs (z_runN C hs hl.1 (cX_isCell l E h_9) zcN_RX5_21 rfl rfl (by decide) (Nat.le_of_ble_eq_true rfl) dX5_take_36) (fun H locs hs => ?_)
        refine lv_if_eq (tgt := 59) hx hb dX5_take_39 (by decide) (fun c10 => ?_) (fun c10 => ?_)
        · have hf := z_t hf c10
          exact z_retv C hr hs hf dX5_take_59
        · have hf := z_f hf c10
          refine lv_aload_n hx hb dX5_take_42 rfl (lv_at hl 3 rfl) ?_
          refine lv_iload_n hx hb dX5_take_43 rfl (lv_at hl 4 rfl) ?_
          refine lv_iconst (v := 2) hx hb dX5_take_44 (by decide) ?_
          refine lv_iadd hx hb dX5_take_45 ?_
          obtain ⟨g11, hf⟩ := z_gd hf
          refine z_ald C hs hE1 (z_c11 E _ _ _ _) g11 rfl dX5_take_46 ?_
          refine lv_aload_n hx hb dX5_take_47 rfl (lv_at hl 2 rfl) ?_
          refine zg_S_parts C hs hS0.1 hS0.2.1 z_k90 dX5_take_48 ?_
          refine lv_bipush (v := 8) hx hb dX5_take_51 (by decide) ?_
          refine lv_iload_n hx hb dX5_take_53 rfl (lv_at hl 1 rfl) ?_
          refine lv_iadd hx hb dX5_take_54 ?_
          obtain ⟨g12, hf⟩ := z_gd hf
          refine z_ald C hs hS0.2.2 (z_cSn E _ _ hS0.1) g12 rfl dX5_take_55 ?_
          refine lv_icmp_gt (tgt := 60) hx hb dX5_take_56 (by decide) (fun c13 => ?_) (fun c13 => ?_)
          · have hf := z_t hf c13
            refine lv_aload_n hx hb dX5_take_60 rfl (lv_at hl 3 rfl) ?_
            refine lv_iload_n hx hb dX5_take_61 rfl (lv_at hl 4 rfl) ?_
            refine lv_iconst (v := 3) hx hb dX5_take_62 (by decide) ?_
            refine lv_iadd hx hb dX5_take_63 ?_
            obtain ⟨g14, hf⟩ := z_gd hf
            refine z_ald C hs hE1 (z_c11 E _ _ _ _) g14 rfl dX5_take_64 ?_
            refine lv_topi (fun y15 e_y15 => ?_)
            have hf := z_lte e_y15 hf
            refine lv_istore (lv' := [(5, .int y15), (4, .int y6), (3, .int y4), (0, .ref (z_ad E a0)), (1, .ref (z_ad E (11, w1, i1))), (2, .int x2)]) hx hb dX5_take_65 hl (by decide) rfl (fun ls hl => ?_)
            refine lv_aload_n hx hb dX5_take_67 rfl (lv_at hl 3 rfl) ?_
            refine zg_S_parts C hs hS0.1 hS0.2.1 z_k90 dX5_take_68 ?_
            refine lv_iload hx hb dX5_take_71 (lv_at hl 1 rfl) ?_
            obtain ⟨g16, hf⟩ := z_gd hf
            refine z_ald C hs hS0.2.2 (z_cSn E _ _ hS0.1) g16 rfl dX5_take_73 ?_
            refine lv_topi (fun y17 e_y17 => ?_)
            have hf := z_lte e_y17 hf
            refine lv_istore (lv' := [(6, .int y17), (5, .int y15), (4, .int y6), (3, .int y4), (0, .ref (z_ad E a0)), (1, .ref (z_ad E (11, w1, i1))), (2, .int x2)]) hx hb dX5_take_74 hl (by decide) rfl (fun ls hl => ?_)
            refine lv_aload_n hx hb dX5_take_76 rfl (lv_at hl 4 rfl) ?_
            refine zg_S_parts C hs hS0.1 hS0.2.1 z_k90 dX5_take_77 ?_
            refine lv_iload hx hb dX5_take_80 (lv_at hl 2 rfl) ?_
            refine lv_iload hx hb dX5_take_82 (lv_at hl 1 rfl) ?_
            refine lv_iload hx hb dX5_take_84 (lv_at hl 0 rfl) ?_
            refine lv_aload_n hx hb dX5_take_86 rfl (lv_at hl 5 rfl) ?_
            refine lv_iload_n hx hb dX5_take_87 rfl (lv_at hl 6 rfl) ?_
            refine lv_iconst (v := 5) hx hb dX5_take_88 (by decide) ?_
            refine lv_iadd hx hb dX5_take_89 ?_
            obtain ⟨g18, hf⟩ := z_gd hf
            refine z_ald C hs hE1 (z_c11 E _ _ _ _) g18 rfl dX5_take_90 ?_
            obtain ⟨r19, σ19, h_19, hf⟩ := z_bds hf
            refine z_goI C hs (z_runN C hs hl.1 (cX_cellBehind l E h_19) zcN_RX5_29 rfl rfl (by decide) (Nat.le_of_ble_eq_true rfl) dX5_take_91) (fun H locs hs => ?_)
            obtain ⟨g20, hf⟩ := z_gd hf
            refine z_ast C hs hS0.2.2 (fun r h => z_cSn E r h hS0.1) g20 rfl dX5_take_94 (fun H locs hs => ?_)
            obtain ⟨σ21, -, hs, hf⟩ := z_top hs hf
            refine lv_aload_n hx hb dX5_take_95 rfl (lv_at hl 4 rfl) ?_
            refine zg_S_parts C hs hS0.1 hS0.2.1 z_k90 dX5_take_96 ?_
            refine lv_bipush (v := 8) hx hb dX5_take_99 (by decide) ?_
            refine lv_iload_n hx hb dX5_take_101 rfl (lv_at hl 3 rfl) ?_
            refine lv_iadd hx hb dX5_take_102 ?_
            refine lv_aload_n hx hb dX5_take_103 rfl (lv_at hl 5 rfl) ?_
            refine lv_iload_n hx hb dX5_take_104 rfl (lv_at hl 6 rfl) ?_
            refine lv_iconst (v := 2) hx hb dX5_take_105 (by decide) ?_
            refine lv_iadd hx hb dX5_take_106 ?_
            obtain ⟨g22, hf⟩ := z_gd hf
            refine z_ald C hs hE1 (z_c11 E _ _ _ _) g22 rfl dX5_take_107 ?_
            obtain ⟨g23, hf⟩ := z_gd hf
            refine z_ast C hs hS0.2.2 (fun r h => z_cSn E r h hS0.1) g23 rfl dX5_take_108 (fun H locs hs => ?_)
            obtain ⟨σ24, -, hs, hf⟩ := z_top hs hf
            refine lv_aload_n hx hb dX5_take_109 rfl (lv_at hl 4 rfl) ?_
            refine zg_S_parts C hs hS0.1 hS0.2.1 z_k90 dX5_take_110 ?_
            refine lv_bipush (v := 14) hx hb dX5_take_113 (by decide) ?_
            refine lv_iload_n hx hb dX5_take_115 rfl (lv_at hl 3 rfl) ?_
            refine lv_iadd hx hb dX5_take_116 ?_
            refine lv_iload hx hb dX5_take_117 (lv_at hl 1 rfl) ?_
            refine lv_iload hx hb dX5_take_119 (lv_at hl 0 rfl) ?_
            refine lv_aload_n hx hb dX5_take_121 rfl (lv_at hl 4 rfl) ?_
            refine zg_S_parts C hs hS0.1 hS0.2.1 z_k90 dX5_take_122 ?_
            refine lv_iload hx hb dX5_take_125 (lv_at hl 2 rfl) ?_
            obtain ⟨g25, hf⟩ := z_gd hf
            refine z_ald C hs hS0.2.2 (z_cSn E _ _ hS0.1) g25 rfl dX5_take_127 ?_
            obtain ⟨r26, σ26, h_26, hf⟩ := z_bds hf
            refine z_goI C hs (z_runN C hs hl.1 (cX_answerTo l E h_26) zcN_RX5_33 rfl rfl (by decide) (Nat.le_of_ble_eq_true rfl) dX5_take_128) (fun H locs hs => ?_)
            obtain ⟨g27, hf⟩ := z_gd hf
            refine z_ast C hs hS0.2.2 (fun r h => z_cSn E r h hS0.1) g27 rfl dX5_take_131 (fun H locs hs => ?_)
            obtain ⟨σ28, -, hs, hf⟩ := z_top hs hf
            exact z_retv C hr hs hf dX5_take_132
          · have hf := z_f hf c13
            exact z_retv C hr hs hf dX5_take_59
    · have hf := z_f hf c2
      exact z_retv C hr hs hf dX5_take_13
set_option maxHeartbeats 4000000 in
set_option maxRecDepth 20000 in
theorem cS_take (l : Launch) (E : zE) {a0 : zJ} {w1 : Nat} {i1 : Nat} {x2 : Int32} (hS0 : z_St E a0) (hE1 : ((11, w1, i1) : zJ) ∈ z_ids E) {σ σo : zS} {ro : Unit} (hf : fS_take a0 w1 i1 x2 σ = some (ro, σo)) : z_T l E yX5_take cX5_take 7 none (z_rm 3) (z_QV E ro σo) [.ref (z_ad E a0), .ref (z_ad E (11, w1, i1)), .int x2] σ :=
  z_enter (by decide) (Nat.le_of_ble_eq_true rfl) rfl (fun p e s m below meth c A ls C hr hs hl => wS_take C hr hS0 hE1 σ _ _ ls hs hl hf)
def fK_advanceTo_0 (w0 : Nat) (i0 : Nat) : Nat → Int32 → zS → Option (Unit × zS)
  | 0, _, _ => none
  | n + 1, x1, σ =>
    if x1 ≤ (σ.1 (10, w0, i0) 8) then
      (some ((), σ))
    else
      (if (σ.1 (10, w0, i0) 7) ≤ (σ.1 (10, w0, i0) 8) then
        (some ((), σ))
      else
        (z_let (z_up σ (10, w0, i0) 8 ((σ.1 (10, w0, i0) 8) + 1)) (fun σ3 =>
        z_bd (fK_placeOf w0 i0 (σ3.1 (10, w0, i0) 8) σ3) (fun r4 σ4 =>
        z_bd (fS_take (14, w0, i0) w0 i0 r4 σ4) (fun _ σ5 =>
        fK_advanceTo_0 w0 i0 n x1 σ5)))))
def fK_advanceTo (w0 : Nat) (i0 : Nat) (x1 : Int32) (σ : zS) : Option (Unit × zS) :=
  fK_advanceTo_0 w0 i0 z_fu x1 σ
set_option maxHeartbeats 4000000 in
set_option maxRecDepth 20000 in
theorem wK_advanceTo_0 {w0 : Nat} {i0 : Nat} (C : z_C E RX1 cX1_advanceTo 2 A p s m args meth c) (hr : meth.sig.returnType = none) (hV0 : z_W E w0) (hi0 : i0 < 7) {ro : Unit} {σo : zS} (n : Nat) : ∀ (x1 : Int32) (σ : zS) (H : Heap) (locs : List Loc) (ls : Array Slot), z_H E A s σ H locs → lv_has ls 2 [(0, .ref (z_ad E (10, w0, i0))), (1, .int x1)] → fK_advanceTo_0 w0 i0 n x1 σ = some (ro, σo) → W p l e (z_rm 4) s m args below meth c H locs 0 0 (MQ below (z_QV E ro σo A) args s 0 0 A) (F0 m 0 ls []) := by
  induction n with
  | zero =>
    intro x1 σ H locs ls hs hl hf
    have hf : none = some (ro, σo) := hf
    cases hf
  | succ n ih =>
    intro x1 σ H locs ls hs hl hf
    have hx := C.1
    have hb := C.2.1
    rw [fK_advanceTo_0.eq_2] at hf
    refine lv_aload_n hx hb dX1_advanceTo_0 rfl (lv_at hl 0 rfl) ?_
    refine zg_K_done C hs (hV0.2.1 i0 hi0 10 (by decide) (by decide)) z_k114 dX1_advanceTo_1 ?_
    refine lv_iload_n hx hb dX1_advanceTo_4 rfl (lv_at hl 1 rfl) ?_
    refine lv_icmp_ge (tgt := 51) hx hb dX1_advanceTo_5 (by decide) (fun c1 => ?_) (fun c1 => ?_)
    · have hf := z_t hf c1
      exact z_retv C hr hs hf dX1_advanceTo_51
    · have hf := z_f hf c1
      refine lv_aload_n hx hb dX1_advanceTo_8 rfl (lv_at hl 0 rfl) ?_
      refine zg_K_done C hs (hV0.2.1 i0 hi0 10 (by decide) (by decide)) z_k114 dX1_advanceTo_9 ?_
      refine lv_aload_n hx hb dX1_advanceTo_12 rfl (lv_at hl 0 rfl) ?_
      refine zg_K_last C hs (hV0.2.1 i0 hi0 10 (by decide) (by decide)) z_k111 dX1_advanceTo_13 ?_
      refine lv_icmp_ge (tgt := 51) hx hb dX1_advanceTo_16 (by decide) (fun c2 => ?_) (fun c2 => ?_)
      · have hf := z_t hf c2
        exact z_retv C hr hs hf dX1_advanceTo_51
      · have hf := z_f hf c2
        refine lv_aload_n hx hb dX1_advanceTo_19 rfl (lv_at hl 0 rfl) ?_
        refine lv_dup hx hb dX1_advanceTo_20 rfl ?_
        refine zg_K_done C hs (hV0.2.1 i0 hi0 10 (by decide) (by decide)) z_k114 dX1_advanceTo_21 ?_
        refine lv_iconst (v := 1) hx hb dX1_advanceTo_24 (by decide) ?_
        refine lv_iadd hx hb dX1_advanceTo_25 ?_
        refine zp_K_done C hs (hV0.2.1 i0 hi0 10 (by decide) (by decide)) z_k114 dX1_advanceTo_26 (fun H locs hs => ?_)
        obtain ⟨σ3, -, hs, hf⟩ := z_top hs hf
        refine lv_aload_n hx hb dX1_advanceTo_29 rfl (lv_at hl 0 rfl) ?_
        refine zg_K_doneState C hs (hV0.2.1 i0 hi0 10 (by decide) (by decide)) z_k127 dX1_advanceTo_30 ?_
        refine lv_aload_n hx hb dX1_advanceTo_33 rfl (lv_at hl 0 rfl) ?_
        refine zg_K_entries C hs (hV0.2.1 i0 hi0 10 (by decide) (by decide)) z_k122 dX1_advanceTo_34 ?_
        refine lv_aload_n hx hb dX1_advanceTo_37 rfl (lv_at hl 0 rfl) ?_
        refine lv_aload_n hx hb dX1_advanceTo_38 rfl (lv_at hl 0 rfl) ?_
        refine zg_K_done C hs (hV0.2.1 i0 hi0 10 (by decide) (by decide)) z_k114 dX1_advanceTo_39 ?_
        obtain ⟨r4, σ4, h_4, hf⟩ := z_bds hf
        refine z_goI C hs (z_runV C hs hl.1 (cK_placeOf l E hV0 hi0 h_4) zcV_RX1_88 (hV0.2.1 i0 hi0 10 (by decide) (by decide)) (z_c10 E _ _ _ _) rfl rfl rfl (by decide) (Nat.le_of_ble_eq_true rfl) dX1_advanceTo_42) (fun H locs hs => ?_)
        obtain ⟨r5, σ5, h_5, hf⟩ := z_bds hf
        refine z_goV C hs (z_runV C hs hl.1 (cS_take l E ⟨(show z_isS (14, w0, i0) from (Or.inr (Or.inl rfl))), (hV0.2.1 i0 hi0 14 (by decide) (by decide)), (hV0.2.1 i0 hi0 15 (by decide) (by decide))⟩ (hV0.2.1 i0 hi0 11 (by decide) (by decide)) h_5) zcV_RX1_106 (hV0.2.1 i0 hi0 14 (by decide) (by decide)) (z_cS E _ _ (show z_isS (14, w0, i0) from (Or.inr (Or.inl rfl)))) rfl rfl rfl (by decide) (Nat.le_of_ble_eq_true rfl) dX1_advanceTo_45) (fun H locs hs => ?_)
        refine lv_goto (tgt := 0) hx hb dX1_advanceTo_48 (by decide) ?_
        exact ih x1 σ5 _ _ _ hs (lv_sub hl [0, 1] rfl) hf
set_option maxHeartbeats 4000000 in
set_option maxRecDepth 20000 in
theorem wK_advanceTo {w0 : Nat} {i0 : Nat} {x1 : Int32} (C : z_C E RX1 cX1_advanceTo 2 A p s m args meth c) (hr : meth.sig.returnType = none) (hV0 : z_W E w0) (hi0 : i0 < 7) {ro : Unit} {σo : zS} (σ : zS) (H : Heap) (locs : List Loc) (ls : Array Slot) (hs : z_H E A s σ H locs) (hl : lv_has ls 2 [(0, .ref (z_ad E (10, w0, i0))), (1, .int x1)]) (hf : fK_advanceTo w0 i0 x1 σ = some (ro, σo)) : W p l e (z_rm 4) s m args below meth c H locs 0 0 (MQ below (z_QV E ro σo A) args s 0 0 A) (F0 m 0 ls []) := by
  have hx := C.1
  have hb := C.2.1
  unfold fK_advanceTo at hf
  exact wK_advanceTo_0 C hr hV0 hi0 z_fu x1 σ _ _ _ hs (lv_sub hl [0, 1] rfl) hf
set_option maxHeartbeats 4000000 in
set_option maxRecDepth 20000 in
theorem cK_advanceTo (l : Launch) (E : zE) {w0 : Nat} {i0 : Nat} {x1 : Int32} (hV0 : z_W E w0) (hi0 : i0 < 7) {σ σo : zS} {ro : Unit} (hf : fK_advanceTo w0 i0 x1 σ = some (ro, σo)) : z_T l E yX1_advanceTo cX1_advanceTo 2 none (z_rm 4) (z_QV E ro σo) [.ref (z_ad E (10, w0, i0)), .int x1] σ :=
  z_enter (by decide) (Nat.le_of_ble_eq_true rfl) rfl (fun p e s m below meth c A ls C hr hs hl => wK_advanceTo C hr hV0 hi0 σ _ _ ls hs hl hf)
def fW_settle_12 (w0 : Nat) : Nat → Int32 → Nat → Int32 → zS → Option (Unit × zS)
  | 0, _, _, _, _ => none
  | n + 1, x1, i2, x3, σ =>
    if x3 ≤ (σ.1 (10, w0, i2) 8) then
      (some ((), σ))
    else
      (z_bd (fK_termOf w0 i2 x3 σ) (fun r4 σ4 =>
      if r4 = (σ4.1 (10, w0, i2) 2) then
        (z_bd (fW_countSure w0 x1 x3 σ4) (fun r7 σ7 =>
        z_bd (fW_most w0 σ7) (fun r8 σ8 =>
        if r7 < r8 then
          (z_let (x3 + (-1)) (fun y10 =>
          fW_settle_12 w0 n x1 i2 y10 σ8))
        else
          (z_bd (fK_advanceTo w0 i2 x3 σ8) (fun _ σ11 =>
          some ((), σ11))))))
      else
        (z_let (x3 + (-1)) (fun y6 =>
        fW_settle_12 w0 n x1 i2 y6 σ4))))
def fW_settle (w0 : Nat) (x1 : Int32) (σ : zS) : Option (Unit × zS) :=
  if z_in x1 7 = true then (
  z_let (σ.1 (10, w0, x1.toNatClampNeg) 7) (fun y2 =>
  fW_settle_12 w0 z_fu x1 (x1.toNatClampNeg) y2 σ)) else none
set_option maxHeartbeats 4000000 in
set_option maxRecDepth 20000 in
theorem wW_settle_12 {w0 : Nat} (C : z_C E RX7 cX7_settle 4 A p s m args meth c) (hr : meth.sig.returnType = none) (hV0 : z_W E w0) {ro : Unit} {σo : zS} (n : Nat) : ∀ (x1 : Int32) (i2 : Nat) (x3 : Int32) (σ : zS) (H : Heap) (locs : List Loc) (ls : Array Slot) (hi2 : i2 < 7), z_H E A s σ H locs → lv_has ls 4 [(0, .ref (z_ad E (0, w0, 0))), (1, .int x1), (2, .ref (z_ad E (10, w0, i2))), (3, .int x3)] → fW_settle_12 w0 n x1 i2 x3 σ = some (ro, σo) → W p l e (z_rm 5) s m args below meth c H locs 0 0 (MQ below (z_QV E ro σo A) args s 0 0 A) (F0 m 12 ls []) := by
  induction n with
  | zero =>
    intro x1 i2 x3 σ H locs ls hi2 hs hl hf
    have hf : none = some (ro, σo) := hf
    cases hf
  | succ n ih =>
    intro x1 i2 x3 σ H locs ls hi2 hs hl hf
    have hx := C.1
    have hb := C.2.1
    rw [fW_settle_12.eq_2] at hf
    refine lv_iload_n hx hb dX7_settle_12 rfl (lv_at hl 3 rfl) ?_
    refine lv_aload_n hx hb dX7_settle_13 rfl (lv_at hl 2 rfl) ?_
    refine zg_K_done C hs (hV0.2.1 i2 hi2 10 (by decide) (by decide)) z_k116 dX7_settle_14 ?_
    refine lv_icmp_le (tgt := 57) hx hb dX7_settle_17 (by decide) (fun c3 => ?_) (fun c3 => ?_)
    · have hf := z_t hf c3
      exact z_retv C hr hs hf dX7_settle_57
    · have hf := z_f hf c3
      refine lv_aload_n hx hb dX7_settle_20 rfl (lv_at hl 2 rfl) ?_
      refine lv_iload_n hx hb dX7_settle_21 rfl (lv_at hl 3 rfl) ?_
      obtain ⟨r4, σ4, h_4, hf⟩ := z_bds hf
      refine z_goI C hs (z_runV C hs hl.1 (cK_termOf l E hV0 hi2 h_4) zcV_RX7_130 (hV0.2.1 i2 hi2 10 (by decide) (by decide)) (z_c10 E _ _ _ _) rfl rfl rfl (by decide) (Nat.le_of_ble_eq_true rfl) dX7_settle_22) (fun H locs hs => ?_)
      refine lv_aload_n hx hb dX7_settle_25 rfl (lv_at hl 2 rfl) ?_
      refine zg_K_term C hs (hV0.2.1 i2 hi2 10 (by decide) (by decide)) z_k100 dX7_settle_26 ?_
      refine lv_icmp_ne (tgt := 51) hx hb dX7_settle_29 (by decide) (fun c5 => ?_) (fun c5 => ?_)
      · have hf := z_f hf c5
        obtain ⟨y6, e_y6⟩ : ∃ y : Int32, y = x3 + (-1) := ⟨_, rfl⟩
        have hf := z_lte e_y6 hf
        refine lv_iinc (v := y6) (lv' := [(3, .int y6), (0, .ref (z_ad E (0, w0, 0))), (1, .int x1), (2, .ref (z_ad E (10, w0, i2)))]) hx hb dX7_settle_51 hl (k := 3) rfl (by rw [e_y6]; rfl) (by decide) rfl (fun ls hl => ?_)
        refine lv_goto (tgt := 12) hx hb dX7_settle_54 (by decide) ?_
        exact ih x1 i2 y6 σ4 _ _ _ hi2 hs (lv_sub hl [1, 2, 3, 0] rfl) hf
      · have hf := z_t hf c5
        refine lv_aload_n hx hb dX7_settle_32 rfl (lv_at hl 0 rfl) ?_
        refine lv_iload_n hx hb dX7_settle_33 rfl (lv_at hl 1 rfl) ?_
        refine lv_iload_n hx hb dX7_settle_34 rfl (lv_at hl 3 rfl) ?_
        obtain ⟨r7, σ7, h_7, hf⟩ := z_bds hf
        refine z_goI C hs (z_runV C hs hl.1 (cW_countSure l E hV0 h_7) zcV_RX7_172 (hV0.1 0 (by decide)) (z_c0 E _ _ _ _) rfl rfl rfl (by decide) (Nat.le_of_ble_eq_true rfl) dX7_settle_35) (fun H locs hs => ?_)
        refine lv_aload_n hx hb dX7_settle_38 rfl (lv_at hl 0 rfl) ?_
        obtain ⟨r8, σ8, h_8, hf⟩ := z_bds hf
        refine z_goI C hs (z_runV C hs hl.1 (cW_most l E hV0 h_8) zcV_RX7_142 (hV0.1 0 (by decide)) (z_c0 E _ _ _ _) rfl rfl rfl (by decide) (Nat.le_of_ble_eq_true rfl) dX7_settle_39) (fun H locs hs => ?_)
        refine lv_icmp_lt (tgt := 51) hx hb dX7_settle_42 (by decide) (fun c9 => ?_) (fun c9 => ?_)
        · have hf := z_t hf c9
          obtain ⟨y10, e_y10⟩ : ∃ y : Int32, y = x3 + (-1) := ⟨_, rfl⟩
          have hf := z_lte e_y10 hf
          refine lv_iinc (v := y10) (lv' := [(3, .int y10), (0, .ref (z_ad E (0, w0, 0))), (1, .int x1), (2, .ref (z_ad E (10, w0, i2)))]) hx hb dX7_settle_51 hl (k := 3) rfl (by rw [e_y10]; rfl) (by decide) rfl (fun ls hl => ?_)
          refine lv_goto (tgt := 12) hx hb dX7_settle_54 (by decide) ?_
          exact ih x1 i2 y10 σ8 _ _ _ hi2 hs (lv_sub hl [1, 2, 3, 0] rfl) hf
        · have hf := z_f hf c9
          refine lv_aload_n hx hb dX7_settle_45 rfl (lv_at hl 2 rfl) ?_
          refine lv_iload_n hx hb dX7_settle_46 rfl (lv_at hl 3 rfl) ?_
          obtain ⟨r11, σ11, h_11, hf⟩ := z_bds hf
          refine z_goV C hs (z_runV C hs hl.1 (cK_advanceTo l E hV0 hi2 h_11) zcV_RX7_175 (hV0.2.1 i2 hi2 10 (by decide) (by decide)) (z_c10 E _ _ _ _) rfl rfl rfl (by decide) (Nat.le_of_ble_eq_true rfl) dX7_settle_47) (fun H locs hs => ?_)
          exact z_retv C hr hs hf dX7_settle_50
set_option maxHeartbeats 4000000 in
set_option maxRecDepth 20000 in
theorem wW_settle {w0 : Nat} {x1 : Int32} (C : z_C E RX7 cX7_settle 4 A p s m args meth c) (hr : meth.sig.returnType = none) (hV0 : z_W E w0) {ro : Unit} {σo : zS} (σ : zS) (H : Heap) (locs : List Loc) (ls : Array Slot) (hs : z_H E A s σ H locs) (hl : lv_has ls 4 [(0, .ref (z_ad E (0, w0, 0))), (1, .int x1)]) (hf : fW_settle w0 x1 σ = some (ro, σo)) : W p l e (z_rm 5) s m args below meth c H locs 0 0 (MQ below (z_QV E ro σo A) args s 0 0 A) (F0 m 0 ls []) := by
  have hx := C.1
  have hb := C.2.1
  unfold fW_settle at hf
  refine lv_aload_n hx hb dX7_settle_0 rfl (lv_at hl 0 rfl) ?_
  refine zg_W_keepers C hs (hV0.1 0 (by decide)) z_k281 dX7_settle_1 ?_
  refine lv_iload_n hx hb dX7_settle_4 rfl (lv_at hl 1 rfl) ?_
  obtain ⟨g1, hf⟩ := z_gd hf
  refine z_aald C hs (hV0.1 1 (by decide)) (z_c1 E _ _ _ _) (t0 := 4) rfl g1 rfl dX7_settle_5 ?_
  refine lv_astore_n (lv' := [(2, .ref (z_ad E (10, w0, x1.toNatClampNeg))), (0, .ref (z_ad E (0, w0, 0))), (1, .int x1)]) hx hb dX7_settle_6 rfl hl (by decide) rfl (fun ls hl => ?_)
  refine lv_aload_n hx hb dX7_settle_7 rfl (lv_at hl 0 rfl) ?_
  refine zg_K_last C hs (hV0.2.1 x1.toNatClampNeg (z_in_lt g1) 10 (by decide) (by decide)) z_k112 dX7_settle_8 ?_
  refine lv_topi (fun y2 e_y2 => ?_)
  have hf := z_lte e_y2 hf
  refine lv_istore_n (lv' := [(3, .int y2), (2, .ref (z_ad E (10, w0, x1.toNatClampNeg))), (0, .ref (z_ad E (0, w0, 0))), (1, .int x1)]) hx hb dX7_settle_11 rfl hl (by decide) rfl (fun ls hl => ?_)
  exact wW_settle_12 C hr hV0 z_fu x1 (x1.toNatClampNeg) y2 σ _ _ _ (z_in_lt g1) hs (lv_sub hl [2, 3, 1, 0] rfl) hf
set_option maxHeartbeats 4000000 in
set_option maxRecDepth 20000 in
theorem cW_settle (l : Launch) (E : zE) {w0 : Nat} {x1 : Int32} (hV0 : z_W E w0) {σ σo : zS} {ro : Unit} (hf : fW_settle w0 x1 σ = some (ro, σo)) : z_T l E yX7_settle cX7_settle 4 none (z_rm 5) (z_QV E ro σo) [.ref (z_ad E (0, w0, 0)), .int x1] σ :=
  z_enter (by decide) (Nat.le_of_ble_eq_true rfl) rfl (fun p e s m below meth c A ls C hr hs hl => wW_settle C hr hV0 σ _ _ ls hs hl hf)
def fW_takeAnswer_146 (w0 : Nat) (w1 : Nat) (i1 : Nat) (w2 : Nat) (i2 : Nat) (σ : zS) : Option (Int32 × zS) :=
  z_bd (fW_settle w0 (σ.1 (20, w2, i2) 2) σ) (fun _ σ12 =>
  some (0, σ12))
def fW_takeAnswer_75 (w0 : Nat) (w1 : Nat) (i1 : Nat) (w2 : Nat) (i2 : Nat) (x3 : Int32) (σ : zS) : Option (Int32 × zS) :=
  if (σ.1 (20, w2, i2) 4) = 1 then
    (if z_in x3 7 = true then (
    if z_in x3 7 = true then (
    z_let (z_up σ (17, w1, i1) (x3.toNatClampNeg) (if (σ.1 (17, w1, i1) x3.toNatClampNeg) < (σ.1 (20, w2, i2) 5) then (σ.1 (20, w2, i2) 5) else (σ.1 (17, w1, i1) x3.toNatClampNeg))) (fun σ15 =>
    if z_in x3 7 = true then (
    if z_in x3 7 = true then (
    z_let (z_up σ15 (16, w1, i1) (x3.toNatClampNeg) ((σ15.1 (17, w1, i1) x3.toNatClampNeg) + 1)) (fun σ18 =>
    fW_takeAnswer_146 w0 w1 i1 w2 i2 σ18)) else none) else none)) else none) else none)
  else
    (if z_in x3 7 = true then (
    if z_in x3 7 = true then (
    z_let (z_up σ (16, w1, i1) (x3.toNatClampNeg) (if 1 < (if ((σ.1 (20, w2, i2) 5) + 1) < ((σ.1 (16, w1, i1) x3.toNatClampNeg) - 1) then ((σ.1 (20, w2, i2) 5) + 1) else ((σ.1 (16, w1, i1) x3.toNatClampNeg) - 1)) then (if ((σ.1 (20, w2, i2) 5) + 1) < ((σ.1 (16, w1, i1) x3.toNatClampNeg) - 1) then ((σ.1 (20, w2, i2) 5) + 1) else ((σ.1 (16, w1, i1) x3.toNatClampNeg) - 1)) else 1)) (fun σ11 =>
    fW_takeAnswer_146 w0 w1 i1 w2 i2 σ11)) else none) else none)
def fW_takeAnswer (w0 : Nat) (w1 : Nat) (i1 : Nat) (w2 : Nat) (i2 : Nat) (σ : zS) : Option (Int32 × zS) :=
  if (σ.1 (10, w1, i1) 4) = 2 then
    (if (σ.1 (10, w1, i1) 2) = (σ.1 (20, w2, i2) 3) then
      (z_let (σ.1 (20, w2, i2) 1) (fun y3 =>
      if z_in y3 7 = true then (
      if z_in y3 7 = true then (
      z_let (z_up σ (18, w1, i1) (y3.toNatClampNeg) (if (σ.1 (18, w1, i1) y3.toNatClampNeg) < (σ.1 (20, w2, i2) 8) then (σ.1 (20, w2, i2) 8) else (σ.1 (18, w1, i1) y3.toNatClampNeg))) (fun σ6 =>
      if (σ6.1 (20, w2, i2) 9) = (σ6.1 (10, w1, i1) 2) then
        (if z_in y3 7 = true then (
        if z_in y3 7 = true then (
        z_let (z_up σ6 (19, w1, i1) (y3.toNatClampNeg) (if (σ6.1 (19, w1, i1) y3.toNatClampNeg) < (σ6.1 (20, w2, i2) 8) then (σ6.1 (20, w2, i2) 8) else (σ6.1 (19, w1, i1) y3.toNatClampNeg))) (fun σ21 =>
        fW_takeAnswer_75 w0 w1 i1 w2 i2 y3 σ21)) else none) else none)
      else
        (fW_takeAnswer_75 w0 w1 i1 w2 i2 y3 σ6))) else none) else none))
    else
      (some (0, σ)))
  else
    (some (0, σ))
set_option maxHeartbeats 4000000 in
set_option maxRecDepth 20000 in
theorem wW_takeAnswer_146 {w0 : Nat} {w1 : Nat} {i1 : Nat} {w2 : Nat} {i2 : Nat} (C : z_C E RX7 cX7_takeAnswer 4 A p s m args meth c) (hr : meth.sig.returnType = (some .int)) (hV0 : z_W E w0) (hV1 : z_W E w1) (hi1 : i1 < 7) (hV2 : z_W E w2) (hi2 : i2 < 41) {ro : Int32} {σo : zS} (σ : zS) (H : Heap) (locs : List Loc) (ls : Array Slot) (hs : z_H E A s σ H locs) (hl : lv_has ls 4 [(0, .ref (z_ad E (0, w0, 0))), (2, .ref (z_ad E (20, w2, i2)))]) (hf : fW_takeAnswer_146 w0 w1 i1 w2 i2 σ = some (ro, σo)) : W p l e (z_rm 6) s m args below meth c H locs 0 0 (MQ below (z_QI E ro σo A) args s 0 0 A) (F0 m 146 ls []) := by
  have hx := C.1
  have hb := C.2.1
  unfold fW_takeAnswer_146 at hf
  refine lv_aload_n hx hb dX7_takeAnswer_146 rfl (lv_at hl 0 rfl) ?_
  refine lv_aload_n hx hb dX7_takeAnswer_147 rfl (lv_at hl 1 rfl) ?_
  refine zg_L_receiver C hs (hV2.2.2 i2 hi2 20 (by decide) (by decide)) z_k200 dX7_takeAnswer_148 ?_
  obtain ⟨r12, σ12, h_12, hf⟩ := z_bds hf
  refine z_goV C hs (z_runV C hs hl.1 (cW_settle l E hV0 h_12) zcV_RX7_166 (hV0.1 0 (by decide)) (z_c0 E _ _ _ _) rfl rfl rfl (by decide) (Nat.le_of_ble_eq_true rfl) dX7_takeAnswer_151) (fun H locs hs => ?_)
  refine lv_iconst (v := 0) hx hb dX7_takeAnswer_154 (by decide) ?_
  exact z_reti C hr hs hf dX7_takeAnswer_155
set_option maxHeartbeats 4000000 in
set_option maxRecDepth 20000 in
theorem wW_takeAnswer_75 {w0 : Nat} {w1 : Nat} {i1 : Nat} {w2 : Nat} {i2 : Nat} (C : z_C E RX7 cX7_takeAnswer 4 A p s m args meth c) (hr : meth.sig.returnType = (some .int)) (hV0 : z_W E w0) (hV1 : z_W E w1) (hi1 : i1 < 7) (hV2 : z_W E w2) (hi2 : i2 < 41) {ro : Int32} {σo : zS} (x3 : Int32) (σ : zS) (H : Heap) (locs : List Loc) (ls : Array Slot) (hs : z_H E A s σ H locs) (hl : lv_has ls 4 [(0, .ref (z_ad E (0, w0, 0))), (1, .ref (z_ad E (10, w1, i1))), (2, .ref (z_ad E (20, w2, i2))), (3, .int x3)]) (hf : fW_takeAnswer_75 w0 w1 i1 w2 i2 x3 σ = some (ro, σo)) : W p l e (z_rm 6) s m args below meth c H locs 0 0 (MQ below (z_QI E ro σo A) args s 0 0 A) (F0 m 75 ls []) := by
  have hx := C.1
  have hb := C.2.1
  unfold fW_takeAnswer_75 at hf
  refine lv_aload_n hx hb dX7_takeAnswer_75 rfl (lv_at hl 2 rfl) ?_
  refine zg_L_first C hs (hV2.2.2 i2 hi2 20 (by decide) (by decide)) z_k204 dX7_takeAnswer_76 ?_
  refine lv_iconst (v := 1) hx hb dX7_takeAnswer_79 (by decide) ?_
  refine lv_icmp_ne (tgt := 119) hx hb dX7_takeAnswer_80 (by decide) (fun c8 => ?_) (fun c8 => ?_)
  · have hf := z_f hf c8
    refine lv_aload_n hx hb dX7_takeAnswer_119 rfl (lv_at hl 1 rfl) ?_
    refine zg_K_next C hs (hV1.2.1 i1 hi1 10 (by decide) (by decide)) z_k131 dX7_takeAnswer_120 ?_
    refine lv_iload_n hx hb dX7_takeAnswer_123 rfl (lv_at hl 3 rfl) ?_
    refine lv_iconst (v := 1) hx hb dX7_takeAnswer_124 (by decide) ?_
    refine lv_aload_n hx hb dX7_takeAnswer_125 rfl (lv_at hl 1 rfl) ?_
    refine zg_K_next C hs (hV1.2.1 i1 hi1 10 (by decide) (by decide)) z_k131 dX7_takeAnswer_126 ?_
    refine lv_iload_n hx hb dX7_takeAnswer_129 rfl (lv_at hl 3 rfl) ?_
    obtain ⟨g9, hf⟩ := z_gd hf
    refine z_ald C hs (hV1.2.1 i1 hi1 16 (by decide) (by decide)) (z_c16 E _ _ _ _) g9 rfl dX7_takeAnswer_130 ?_
    refine lv_iconst (v := 1) hx hb dX7_takeAnswer_131 (by decide) ?_
    refine lv_isub hx hb dX7_takeAnswer_132 ?_
    refine lv_aload_n hx hb dX7_takeAnswer_133 rfl (lv_at hl 2 rfl) ?_
    refine zg_L_second C hs (hV2.2.2 i2 hi2 20 (by decide) (by decide)) z_k206 dX7_takeAnswer_134 ?_
    refine lv_iconst (v := 1) hx hb dX7_takeAnswer_137 (by decide) ?_
    refine lv_iadd hx hb dX7_takeAnswer_138 ?_
    refine z_min C hl.1 z_k485 (by decide) (Nat.le_of_ble_eq_true rfl) dX7_takeAnswer_139 ?_
    refine z_max C hl.1 z_k625 (by decide) (Nat.le_of_ble_eq_true rfl) dX7_takeAnswer_142 ?_
    obtain ⟨g10, hf⟩ := z_gd hf
    refine z_ast C hs (hV1.2.1 i1 hi1 16 (by decide) (by decide)) (fun r h => z_c16 E r h _ _) g10 rfl dX7_takeAnswer_145 (fun H locs hs => ?_)
    obtain ⟨σ11, -, hs, hf⟩ := z_top hs hf
    exact wW_takeAnswer_146 C hr hV0 hV1 hi1 hV2 hi2 σ11 _ _ _ hs (lv_sub hl [0, 2] rfl) hf
  · have hf := z_t hf c8
    refine lv_aload_n hx hb dX7_takeAnswer_83 rfl (lv_at hl 1 rfl) ?_
    refine zg_K_sure C hs (hV1.2.1 i1 hi1 10 (by decide) (by decide)) z_k134 dX7_takeAnswer_84 ?_
    refine lv_iload_n hx hb dX7_takeAnswer_87 rfl (lv_at hl 3 rfl) ?_
    refine lv_aload_n hx hb dX7_takeAnswer_88 rfl (lv_at hl 1 rfl) ?_
    refine zg_K_sure C hs (hV1.2.1 i1 hi1 10 (by decide) (by decide)) z_k134 dX7_takeAnswer_89 ?_
    refine lv_iload_n hx hb dX7_takeAnswer_92 rfl (lv_at hl 3 rfl) ?_
    obtain ⟨g13, hf⟩ := z_gd hf
    refine z_ald C hs (hV1.2.1 i1 hi1 17 (by decide) (by decide)) (z_c17 E _ _ _ _) g13 rfl dX7_takeAnswer_93 ?_
    refine lv_aload_n hx hb dX7_takeAnswer_94 rfl (lv_at hl 2 rfl) ?_
    refine zg_L_second C hs (hV2.2.2 i2 hi2 20 (by decide) (by decide)) z_k206 dX7_takeAnswer_95 ?_
    refine z_max C hl.1 z_k625 (by decide) (Nat.le_of_ble_eq_true rfl) dX7_takeAnswer_98 ?_
    obtain ⟨g14, hf⟩ := z_gd hf
    refine z_ast C hs (hV1.2.1 i1 hi1 17 (by decide) (by decide)) (fun r h => z_c17 E r h _ _) g14 rfl dX7_takeAnswer_101 (fun H locs hs => ?_)
    obtain ⟨σ15, -, hs, hf⟩ := z_top hs hf
    refine lv_aload_n hx hb dX7_takeAnswer_102 rfl (lv_at hl 1 rfl) ?_
    refine zg_K_next C hs (hV1.2.1 i1 hi1 10 (by decide) (by decide)) z_k131 dX7_takeAnswer_103 ?_
    refine lv_iload_n hx hb dX7_takeAnswer_106 rfl (lv_at hl 3 rfl) ?_
    refine lv_aload_n hx hb dX7_takeAnswer_107 rfl (lv_at hl 1 rfl) ?_
    refine zg_K_sure C hs (hV1.2.1 i1 hi1 10 (by decide) (by decide)) z_k134 dX7_takeAnswer_108 ?_
    refine lv_iload_n hx hb dX7_takeAnswer_111 rfl (lv_at hl 3 rfl) ?_
    obtain ⟨g16, hf⟩ := z_gd hf
    refine z_ald C hs (hV1.2.1 i1 hi1 17 (by decide) (by decide)) (z_c17 E _ _ _ _) g16 rfl dX7_takeAnswer_112 ?_
    refine lv_iconst (v := 1) hx hb dX7_takeAnswer_113 (by decide) ?_
    refine lv_iadd hx hb dX7_takeAnswer_114 ?_
    obtain ⟨g17, hf⟩ := z_gd hf
    refine z_ast C hs (hV1.2.1 i1 hi1 16 (by decide) (by decide)) (fun r h => z_c16 E r h _ _) g17 rfl dX7_takeAnswer_115 (fun H locs hs => ?_)
    obtain ⟨σ18, -, hs, hf⟩ := z_top hs hf
    refine lv_goto (tgt := 146) hx hb dX7_takeAnswer_116 (by decide) ?_
    exact wW_takeAnswer_146 C hr hV0 hV1 hi1 hV2 hi2 σ18 _ _ _ hs (lv_sub hl [0, 2] rfl) hf
set_option maxHeartbeats 4000000 in
set_option maxRecDepth 20000 in
theorem wW_takeAnswer {w0 : Nat} {w1 : Nat} {i1 : Nat} {w2 : Nat} {i2 : Nat} (C : z_C E RX7 cX7_takeAnswer 4 A p s m args meth c) (hr : meth.sig.returnType = (some .int)) (hV0 : z_W E w0) (hV1 : z_W E w1) (hi1 : i1 < 7) (hV2 : z_W E w2) (hi2 : i2 < 41) {ro : Int32} {σo : zS} (σ : zS) (H : Heap) (locs : List Loc) (ls : Array Slot) (hs : z_H E A s σ H locs) (hl : lv_has ls 4 [(0, .ref (z_ad E (0, w0, 0))), (1, .ref (z_ad E (10, w1, i1))), (2, .ref (z_ad E (20, w2, i2)))]) (hf : fW_takeAnswer w0 w1 i1 w2 i2 σ = some (ro, σo)) : W p l e (z_rm 6) s m args below meth c H locs 0 0 (MQ below (z_QI E ro σo A) args s 0 0 A) (F0 m 0 ls []) := by
  have hx := C.1
  have hb := C.2.1
  unfold fW_takeAnswer at hf
  refine lv_aload_n hx hb dX7_takeAnswer_0 rfl (lv_at hl 1 rfl) ?_
  refine zg_K_role C hs (hV1.2.1 i1 hi1 10 (by decide) (by decide)) z_k104 dX7_takeAnswer_1 ?_
  refine lv_iconst (v := 2) hx hb dX7_takeAnswer_4 (by decide) ?_
  refine lv_icmp_ne (tgt := 19) hx hb dX7_takeAnswer_5 (by decide) (fun c1 => ?_) (fun c1 => ?_)
  · have hf := z_f hf c1
    refine lv_iconst (v := 0) hx hb dX7_takeAnswer_19 (by decide) ?_
    exact z_reti C hr hs hf dX7_takeAnswer_20
  · have hf := z_t hf c1
    refine lv_aload_n hx hb dX7_takeAnswer_8 rfl (lv_at hl 1 rfl) ?_
    refine zg_K_term C hs (hV1.2.1 i1 hi1 10 (by decide) (by decide)) z_k100 dX7_takeAnswer_9 ?_
    refine lv_aload_n hx hb dX7_takeAnswer_12 rfl (lv_at hl 2 rfl) ?_
    refine zg_L_term C hs (hV2.2.2 i2 hi2 20 (by decide) (by decide)) z_k202 dX7_takeAnswer_13 ?_
    refine lv_icmp_eq (tgt := 21) hx hb dX7_takeAnswer_16 (by decide) (fun c2 => ?_) (fun c2 => ?_)
    · have hf := z_t hf c2
      refine lv_aload_n hx hb dX7_takeAnswer_21 rfl (lv_at hl 2 rfl) ?_
      refine zg_L_sender C hs (hV2.2.2 i2 hi2 20 (by decide) (by decide)) z_k198 dX7_takeAnswer_22 ?_
      refine lv_topi (fun y3 e_y3 => ?_)
      have hf := z_lte e_y3 hf
      refine lv_istore_n (lv' := [(3, .int y3), (0, .ref (z_ad E (0, w0, 0))), (1, .ref (z_ad E (10, w1, i1))), (2, .ref (z_ad E (20, w2, i2)))]) hx hb dX7_takeAnswer_25 rfl hl (by decide) rfl (fun ls hl => ?_)
      refine lv_aload_n hx hb dX7_takeAnswer_26 rfl (lv_at hl 2 rfl) ?_
      refine zg_K_answered C hs (hV1.2.1 i1 hi1 10 (by decide) (by decide)) z_k138 dX7_takeAnswer_27 ?_
      refine lv_iload_n hx hb dX7_takeAnswer_30 rfl (lv_at hl 0 rfl) ?_
      refine lv_aload_n hx hb dX7_takeAnswer_31 rfl (lv_at hl 2 rfl) ?_
      refine zg_K_answered C hs (hV1.2.1 i1 hi1 10 (by decide) (by decide)) z_k138 dX7_takeAnswer_32 ?_
      refine lv_iload_n hx hb dX7_takeAnswer_35 rfl (lv_at hl 0 rfl) ?_
      obtain ⟨g4, hf⟩ := z_gd hf
      refine z_ald C hs (hV1.2.1 i1 hi1 18 (by decide) (by decide)) (z_c18 E _ _ _ _) g4 rfl dX7_takeAnswer_36 ?_
      refine lv_aload_n hx hb dX7_takeAnswer_37 rfl (lv_at hl 3 rfl) ?_
      refine zg_L_round C hs (hV2.2.2 i2 hi2 20 (by decide) (by decide)) z_k212 dX7_takeAnswer_38 ?_
      refine z_max C hl.1 z_k625 (by decide) (Nat.le_of_ble_eq_true rfl) dX7_takeAnswer_41 ?_
      obtain ⟨g5, hf⟩ := z_gd hf
      refine z_ast C hs (hV1.2.1 i1 hi1 18 (by decide) (by decide)) (fun r h => z_c18 E r h _ _) g5 rfl dX7_takeAnswer_44 (fun H locs hs => ?_)
      obtain ⟨σ6, -, hs, hf⟩ := z_top hs hf
      refine lv_aload_n hx hb dX7_takeAnswer_45 rfl (lv_at hl 3 rfl) ?_
      refine zg_L_roundTerm C hs (hV2.2.2 i2 hi2 20 (by decide) (by decide)) z_k214 dX7_takeAnswer_46 ?_
      refine lv_aload_n hx hb dX7_takeAnswer_49 rfl (lv_at hl 2 rfl) ?_
      refine zg_K_term C hs (hV1.2.1 i1 hi1 10 (by decide) (by decide)) z_k100 dX7_takeAnswer_50 ?_
      refine lv_icmp_ne (tgt := 75) hx hb dX7_takeAnswer_53 (by decide) (fun c7 => ?_) (fun c7 => ?_)
      · have hf := z_f hf c7
        exact wW_takeAnswer_75 C hr hV0 hV1 hi1 hV2 hi2 y3 σ6 _ _ _ hs (lv_sub hl [1, 2, 3, 0] rfl) hf
      · have hf := z_t hf c7
        refine lv_aload_n hx hb dX7_takeAnswer_56 rfl (lv_at hl 2 rfl) ?_
        refine zg_K_heard C hs (hV1.2.1 i1 hi1 10 (by decide) (by decide)) z_k140 dX7_takeAnswer_57 ?_
        refine lv_iload_n hx hb dX7_takeAnswer_60 rfl (lv_at hl 0 rfl) ?_
        refine lv_aload_n hx hb dX7_takeAnswer_61 rfl (lv_at hl 2 rfl) ?_
        refine zg_K_heard C hs (hV1.2.1 i1 hi1 10 (by decide) (by decide)) z_k140 dX7_takeAnswer_62 ?_
        refine lv_iload_n hx hb dX7_takeAnswer_65 rfl (lv_at hl 0 rfl) ?_
        obtain ⟨g19, hf⟩ := z_gd hf
        refine z_ald C hs (hV1.2.1 i1 hi1 19 (by decide) (by decide)) (z_c19 E _ _ _ _) g19 rfl dX7_takeAnswer_66 ?_
        refine lv_aload_n hx hb dX7_takeAnswer_67 rfl (lv_at hl 3 rfl) ?_
        refine zg_L_round C hs (hV2.2.2 i2 hi2 20 (by decide) (by decide)) z_k212 dX7_takeAnswer_68 ?_
        refine z_max C hl.1 z_k625 (by decide) (Nat.le_of_ble_eq_true rfl) dX7_takeAnswer_71 ?_
        obtain ⟨g20, hf⟩ := z_gd hf
        refine z_ast C hs (hV1.2.1 i1 hi1 19 (by decide) (by decide)) (fun r h => z_c19 E r h _ _) g20 rfl dX7_takeAnswer_74 (fun H locs hs => ?_)
        obtain ⟨σ21, -, hs, hf⟩ := z_top hs hf
        exact wW_takeAnswer_75 C hr hV0 hV1 hi1 hV2 hi2 y3 σ21 _ _ _ hs (lv_sub hl [1, 2, 3, 0] rfl) hf
    · have hf := z_f hf c2
      refine lv_iconst (v := 0) hx hb dX7_takeAnswer_19 (by decide) ?_
      exact z_reti C hr hs hf dX7_takeAnswer_20
set_option maxHeartbeats 4000000 in
set_option maxRecDepth 20000 in
theorem cW_takeAnswer (l : Launch) (E : zE) {w0 : Nat} {w1 : Nat} {i1 : Nat} {w2 : Nat} {i2 : Nat} (hV0 : z_W E w0) (hV1 : z_W E w1) (hi1 : i1 < 7) (hV2 : z_W E w2) (hi2 : i2 < 41) {σ σo : zS} {ro : Int32} (hf : fW_takeAnswer w0 w1 i1 w2 i2 σ = some (ro, σo)) : z_T l E yX7_takeAnswer cX7_takeAnswer 4 (some .int) (z_rm 6) (z_QI E ro σo) [.ref (z_ad E (0, w0, 0)), .ref (z_ad E (10, w1, i1)), .ref (z_ad E (20, w2, i2))] σ :=
  z_enter (by decide) (Nat.le_of_ble_eq_true rfl) rfl (fun p e s m below meth c A ls C hr hs hl => wW_takeAnswer C hr hV0 hV1 hi1 hV2 hi2 σ _ _ ls hs hl hf)
def fK_forgetUpTo (w0 : Nat) (i0 : Nat) (x1 : Int32) (σ : zS) : Option (Unit × zS) :=
  z_bd (fK_placeOf w0 i0 x1 σ) (fun r1 σ1 =>
  if r1 = ((-1)) then
    (z_let (z_up σ1 (10, w0, i0) 7 x1) (fun σ7 =>
    z_let (z_up σ7 (10, w0, i0) 5 x1) (fun σ8 =>
    some ((), σ8))))
  else
    (z_let (r1 + 6) (fun y3 =>
    if z_cp y3 0 (240 - y3) 240 240 = true then (
    z_let (z_cpR σ1 (11, w0, i0) (11, w0, i0) y3 0 (240 - y3)) (fun σ5 =>
    z_let (z_up σ5 (10, w0, i0) 5 x1) (fun σ6 =>
    some ((), σ6)))) else none)))
set_option maxHeartbeats 4000000 in
set_option maxRecDepth 20000 in
theorem wK_forgetUpTo {w0 : Nat} {i0 : Nat} {x1 : Int32} (C : z_C E RX1 cX1_forgetUpTo 3 A p s m args meth c) (hr : meth.sig.returnType = none) (hV0 : z_W E w0) (hi0 : i0 < 7) {ro : Unit} {σo : zS} (σ : zS) (H : Heap) (locs : List Loc) (ls : Array Slot) (hs : z_H E A s σ H locs) (hl : lv_has ls 3 [(0, .ref (z_ad E (10, w0, i0))), (1, .int x1)]) (hf : fK_forgetUpTo w0 i0 x1 σ = some (ro, σo)) : W p l e (z_rm 2) s m args below meth c H locs 0 0 (MQ below (z_QV E ro σo A) args s 0 0 A) (F0 m 0 ls []) := by
  have hx := C.1
  have hb := C.2.1
  unfold fK_forgetUpTo at hf
  refine lv_aload_n hx hb dX1_forgetUpTo_0 rfl (lv_at hl 0 rfl) ?_
  refine lv_iload_n hx hb dX1_forgetUpTo_1 rfl (lv_at hl 1 rfl) ?_
  obtain ⟨r1, σ1, h_1, hf⟩ := z_bds hf
  refine z_goI C hs (z_runV C hs hl.1 (cK_placeOf l E hV0 hi0 h_1) zcV_RX1_88 (hV0.2.1 i0 hi0 10 (by decide) (by decide)) (z_c10 E _ _ _ _) rfl rfl rfl (by decide) (Nat.le_of_ble_eq_true rfl) dX1_forgetUpTo_2) (fun H locs hs => ?_)
  refine lv_istore_n (lv' := [(2, .int r1), (0, .ref (z_ad E (10, w0, i0))), (1, .int x1)]) hx hb dX1_forgetUpTo_5 rfl hl (by decide) rfl (fun ls hl => ?_)
  refine lv_iload_n hx hb dX1_forgetUpTo_6 rfl (lv_at hl 0 rfl) ?_
  refine lv_iconst (v := (-1)) hx hb dX1_forgetUpTo_7 (by decide) ?_
  refine lv_icmp_ne (tgt := 19) hx hb dX1_forgetUpTo_8 (by decide) (fun c2 => ?_) (fun c2 => ?_)
  · have hf := z_f hf c2
    obtain ⟨y3, e_y3⟩ : ∃ y : Int32, y = r1 + 6 := ⟨_, rfl⟩
    have hf := z_lte e_y3 hf
    refine lv_iinc (v := y3) (lv' := [(2, .int y3), (0, .ref (z_ad E (10, w0, i0))), (1, .int x1)]) hx hb dX1_forgetUpTo_19 hl (k := 0) rfl (by rw [e_y3]; rfl) (by decide) rfl (fun ls hl => ?_)
    refine lv_aload_n hx hb dX1_forgetUpTo_22 rfl (lv_at hl 1 rfl) ?_
    refine zg_K_entries C hs (hV0.2.1 i0 hi0 10 (by decide) (by decide)) z_k122 dX1_forgetUpTo_23 ?_
    refine lv_iload_n hx hb dX1_forgetUpTo_26 rfl (lv_at hl 0 rfl) ?_
    refine lv_aload_n hx hb dX1_forgetUpTo_27 rfl (lv_at hl 1 rfl) ?_
    refine zg_K_entries C hs (hV0.2.1 i0 hi0 10 (by decide) (by decide)) z_k122 dX1_forgetUpTo_28 ?_
    refine lv_iconst (v := 0) hx hb dX1_forgetUpTo_31 (by decide) ?_
    refine lv_sipush (v := 240) hx hb dX1_forgetUpTo_32 (by decide) ?_
    refine lv_iload_n hx hb dX1_forgetUpTo_35 rfl (lv_at hl 0 rfl) ?_
    refine lv_isub hx hb dX1_forgetUpTo_36 ?_
    obtain ⟨g4, hf⟩ := z_gd hf
    refine z_acp C hs hl.1 (hV0.2.1 i0 hi0 11 (by decide) (by decide)) (hV0.2.1 i0 hi0 11 (by decide) (by decide)) (fun r h => z_c11 E r h _ _) (fun r h => z_c11 E r h _ _) z_k675 g4 (by decide) (by decide) (Nat.le_of_ble_eq_true rfl) z_k594 z_k593 z_k17 dX1_forgetUpTo_37 (fun H locs hs => ?_)
    obtain ⟨σ5, -, hs, hf⟩ := z_top hs hf
    refine lv_aload_n hx hb dX1_forgetUpTo_40 rfl (lv_at hl 1 rfl) ?_
    refine lv_iload_n hx hb dX1_forgetUpTo_41 rfl (lv_at hl 2 rfl) ?_
    refine zp_K_folded C hs (hV0.2.1 i0 hi0 10 (by decide) (by decide)) z_k105 dX1_forgetUpTo_42 (fun H locs hs => ?_)
    obtain ⟨σ6, -, hs, hf⟩ := z_top hs hf
    exact z_retv C hr hs hf dX1_forgetUpTo_45
  · have hf := z_t hf c2
    refine lv_aload_n hx hb dX1_forgetUpTo_11 rfl (lv_at hl 1 rfl) ?_
    refine lv_iload_n hx hb dX1_forgetUpTo_12 rfl (lv_at hl 2 rfl) ?_
    refine zp_K_last C hs (hV0.2.1 i0 hi0 10 (by decide) (by decide)) z_k111 dX1_forgetUpTo_13 (fun H locs hs => ?_)
    obtain ⟨σ7, -, hs, hf⟩ := z_top hs hf
    refine lv_goto (tgt := 40) hx hb dX1_forgetUpTo_16 (by decide) ?_
    refine lv_aload_n hx hb dX1_forgetUpTo_40 rfl (lv_at hl 1 rfl) ?_
    refine lv_iload_n hx hb dX1_forgetUpTo_41 rfl (lv_at hl 2 rfl) ?_
    refine zp_K_folded C hs (hV0.2.1 i0 hi0 10 (by decide) (by decide)) z_k105 dX1_forgetUpTo_42 (fun H locs hs => ?_)
    obtain ⟨σ8, -, hs, hf⟩ := z_top hs hf
    exact z_retv C hr hs hf dX1_forgetUpTo_45
set_option maxHeartbeats 4000000 in
set_option maxRecDepth 20000 in
theorem cK_forgetUpTo (l : Launch) (E : zE) {w0 : Nat} {i0 : Nat} {x1 : Int32} (hV0 : z_W E w0) (hi0 : i0 < 7) {σ σo : zS} {ro : Unit} (hf : fK_forgetUpTo w0 i0 x1 σ = some (ro, σo)) : z_T l E yX1_forgetUpTo cX1_forgetUpTo 3 none (z_rm 2) (z_QV E ro σo) [.ref (z_ad E (10, w0, i0)), .int x1] σ :=
  z_enter (by decide) (Nat.le_of_ble_eq_true rfl) rfl (fun p e s m below meth c A ls C hr hs hl => wK_forgetUpTo C hr hV0 hi0 σ _ _ ls hs hl hf)
def fK_takeFold_26 (w0 : Nat) (i0 : Nat) (a3 : zJ) (x1 : Int32) (x2 : Int32) (σ : zS) : Option (Unit × zS) :=
  z_bd (fK_forgetUpTo w0 i0 x1 σ) (fun _ σ4 =>
  z_let (z_up σ4 (10, w0, i0) 6 x2) (fun σ5 =>
  z_bd (fS_copyFrom (12, w0, i0) a3 σ5) (fun _ σ6 =>
  z_let (z_up σ6 (10, w0, i0) 8 (σ6.1 (10, w0, i0) 5)) (fun σ7 =>
  z_bd (fS_copyFrom (14, w0, i0) (12, w0, i0) σ7) (fun _ σ8 =>
  some ((), σ8))))))
def fK_takeFold_18 (w0 : Nat) (i0 : Nat) (a3 : zJ) (x1 : Int32) (x2 : Int32) (σ : zS) : Option (Unit × zS) :=
  z_let (z_up σ (10, w0, i0) 7 (σ.1 (10, w0, i0) 5)) (fun σ3 =>
  fK_takeFold_26 w0 i0 a3 x1 x2 σ3)
def fK_takeFold (w0 : Nat) (i0 : Nat) (x1 : Int32) (x2 : Int32) (a3 : zJ) (σ : zS) : Option (Unit × zS) :=
  z_bd (fK_placeOf w0 i0 x1 σ) (fun r1 σ1 =>
  if r1 = ((-1)) then
    (fK_takeFold_18 w0 i0 a3 x1 x2 σ1)
  else
    (z_bd (fK_termOf w0 i0 x1 σ1) (fun r9 σ9 =>
    if r9 = x2 then
      (fK_takeFold_26 w0 i0 a3 x1 x2 σ9)
    else
      (fK_takeFold_18 w0 i0 a3 x1 x2 σ9))))
set_option maxHeartbeats 4000000 in
set_option maxRecDepth 20000 in
theorem wK_takeFold_26 {w0 : Nat} {i0 : Nat} {a3 : zJ} (C : z_C E RX1 cX1_takeFold 4 A p s m args meth c) (hr : meth.sig.returnType = none) (hV0 : z_W E w0) (hi0 : i0 < 7) (hS3 : z_St E a3) {ro : Unit} {σo : zS} (x1 : Int32) (x2 : Int32) (σ : zS) (H : Heap) (locs : List Loc) (ls : Array Slot) (hs : z_H E A s σ H locs) (hl : lv_has ls 4 [(0, .ref (z_ad E (10, w0, i0))), (1, .int x1), (2, .int x2), (3, .ref (z_ad E a3))]) (hf : fK_takeFold_26 w0 i0 a3 x1 x2 σ = some (ro, σo)) : W p l e (z_rm 3) s m args below meth c H locs 0 0 (MQ below (z_QV E ro σo A) args s 0 0 A) (F0 m 26 ls []) := by
  have hx := C.1
  have hb := C.2.1
  unfold fK_takeFold_26 at hf
  refine lv_aload_n hx hb dX1_takeFold_26 rfl (lv_at hl 0 rfl) ?_
  refine lv_iload_n hx hb dX1_takeFold_27 rfl (lv_at hl 1 rfl) ?_
  obtain ⟨r4, σ4, h_4, hf⟩ := z_bds hf
  refine z_goV C hs (z_runV C hs hl.1 (cK_forgetUpTo l E hV0 hi0 h_4) zcV_RX1_113 (hV0.2.1 i0 hi0 10 (by decide) (by decide)) (z_c10 E _ _ _ _) rfl rfl rfl (by decide) (Nat.le_of_ble_eq_true rfl) dX1_takeFold_28) (fun H locs hs => ?_)
  refine lv_aload_n hx hb dX1_takeFold_31 rfl (lv_at hl 0 rfl) ?_
  refine lv_iload_n hx hb dX1_takeFold_32 rfl (lv_at hl 2 rfl) ?_
  refine zp_K_foldTerm C hs (hV0.2.1 i0 hi0 10 (by decide) (by decide)) z_k109 dX1_takeFold_33 (fun H locs hs => ?_)
  obtain ⟨σ5, -, hs, hf⟩ := z_top hs hf
  refine lv_aload_n hx hb dX1_takeFold_36 rfl (lv_at hl 0 rfl) ?_
  refine zg_K_foldState C hs (hV0.2.1 i0 hi0 10 (by decide) (by decide)) z_k125 dX1_takeFold_37 ?_
  refine lv_aload_n hx hb dX1_takeFold_40 rfl (lv_at hl 3 rfl) ?_
  obtain ⟨r6, σ6, h_6, hf⟩ := z_bds hf
  refine z_goV C hs (z_runV C hs hl.1 (cS_copyFrom l E ⟨(show z_isS (12, w0, i0) from (Or.inl rfl)), (hV0.2.1 i0 hi0 12 (by decide) (by decide)), (hV0.2.1 i0 hi0 13 (by decide) (by decide))⟩ ⟨hS3.1, hS3.2.1, hS3.2.2⟩ h_6) zcV_RX1_84 (hV0.2.1 i0 hi0 12 (by decide) (by decide)) (z_cS E _ _ (show z_isS (12, w0, i0) from (Or.inl rfl))) rfl rfl rfl (by decide) (Nat.le_of_ble_eq_true rfl) dX1_takeFold_41) (fun H locs hs => ?_)
  refine lv_aload_n hx hb dX1_takeFold_44 rfl (lv_at hl 0 rfl) ?_
  refine lv_aload_n hx hb dX1_takeFold_45 rfl (lv_at hl 0 rfl) ?_
  refine zg_K_folded C hs (hV0.2.1 i0 hi0 10 (by decide) (by decide)) z_k105 dX1_takeFold_46 ?_
  refine zp_K_done C hs (hV0.2.1 i0 hi0 10 (by decide) (by decide)) z_k114 dX1_takeFold_49 (fun H locs hs => ?_)
  obtain ⟨σ7, -, hs, hf⟩ := z_top hs hf
  refine lv_aload_n hx hb dX1_takeFold_52 rfl (lv_at hl 0 rfl) ?_
  refine zg_K_doneState C hs (hV0.2.1 i0 hi0 10 (by decide) (by decide)) z_k127 dX1_takeFold_53 ?_
  refine lv_aload_n hx hb dX1_takeFold_56 rfl (lv_at hl 0 rfl) ?_
  refine zg_K_foldState C hs (hV0.2.1 i0 hi0 10 (by decide) (by decide)) z_k125 dX1_takeFold_57 ?_
  obtain ⟨r8, σ8, h_8, hf⟩ := z_bds hf
  refine z_goV C hs (z_runV C hs hl.1 (cS_copyFrom l E ⟨(show z_isS (14, w0, i0) from (Or.inr (Or.inl rfl))), (hV0.2.1 i0 hi0 14 (by decide) (by decide)), (hV0.2.1 i0 hi0 15 (by decide) (by decide))⟩ ⟨(show z_isS (12, w0, i0) from (Or.inl rfl)), (hV0.2.1 i0 hi0 12 (by decide) (by decide)), (hV0.2.1 i0 hi0 13 (by decide) (by decide))⟩ h_8) zcV_RX1_84 (hV0.2.1 i0 hi0 14 (by decide) (by decide)) (z_cS E _ _ (show z_isS (14, w0, i0) from (Or.inr (Or.inl rfl)))) rfl rfl rfl (by decide) (Nat.le_of_ble_eq_true rfl) dX1_takeFold_60) (fun H locs hs => ?_)
  exact z_retv C hr hs hf dX1_takeFold_63
set_option maxHeartbeats 4000000 in
set_option maxRecDepth 20000 in
theorem wK_takeFold_18 {w0 : Nat} {i0 : Nat} {a3 : zJ} (C : z_C E RX1 cX1_takeFold 4 A p s m args meth c) (hr : meth.sig.returnType = none) (hV0 : z_W E w0) (hi0 : i0 < 7) (hS3 : z_St E a3) {ro : Unit} {σo : zS} (x1 : Int32) (x2 : Int32) (σ : zS) (H : Heap) (locs : List Loc) (ls : Array Slot) (hs : z_H E A s σ H locs) (hl : lv_has ls 4 [(0, .ref (z_ad E (10, w0, i0))), (1, .int x1), (2, .int x2), (3, .ref (z_ad E a3))]) (hf : fK_takeFold_18 w0 i0 a3 x1 x2 σ = some (ro, σo)) : W p l e (z_rm 3) s m args below meth c H locs 0 0 (MQ below (z_QV E ro σo A) args s 0 0 A) (F0 m 18 ls []) := by
  have hx := C.1
  have hb := C.2.1
  unfold fK_takeFold_18 at hf
  refine lv_aload_n hx hb dX1_takeFold_18 rfl (lv_at hl 0 rfl) ?_
  refine lv_aload_n hx hb dX1_takeFold_19 rfl (lv_at hl 0 rfl) ?_
  refine zg_K_folded C hs (hV0.2.1 i0 hi0 10 (by decide) (by decide)) z_k105 dX1_takeFold_20 ?_
  refine zp_K_last C hs (hV0.2.1 i0 hi0 10 (by decide) (by decide)) z_k111 dX1_takeFold_23 (fun H locs hs => ?_)
  obtain ⟨σ3, -, hs, hf⟩ := z_top hs hf
  exact wK_takeFold_26 C hr hV0 hi0 hS3 x1 x2 σ3 _ _ _ hs (lv_sub hl [0, 1, 2, 3] rfl) hf
set_option maxHeartbeats 4000000 in
set_option maxRecDepth 20000 in
theorem wK_takeFold {w0 : Nat} {i0 : Nat} {x1 : Int32} {x2 : Int32} {a3 : zJ} (C : z_C E RX1 cX1_takeFold 4 A p s m args meth c) (hr : meth.sig.returnType = none) (hV0 : z_W E w0) (hi0 : i0 < 7) (hS3 : z_St E a3) {ro : Unit} {σo : zS} (σ : zS) (H : Heap) (locs : List Loc) (ls : Array Slot) (hs : z_H E A s σ H locs) (hl : lv_has ls 4 [(0, .ref (z_ad E (10, w0, i0))), (1, .int x1), (2, .int x2), (3, .ref (z_ad E a3))]) (hf : fK_takeFold w0 i0 x1 x2 a3 σ = some (ro, σo)) : W p l e (z_rm 3) s m args below meth c H locs 0 0 (MQ below (z_QV E ro σo A) args s 0 0 A) (F0 m 0 ls []) := by
  have hx := C.1
  have hb := C.2.1
  unfold fK_takeFold at hf
  refine lv_aload_n hx hb dX1_takeFold_0 rfl (lv_at hl 0 rfl) ?_
  refine lv_iload_n hx hb dX1_takeFold_1 rfl (lv_at hl 1 rfl) ?_
  obtain ⟨r1, σ1, h_1, hf⟩ := z_bds hf
  refine z_goI C hs (z_runV C hs hl.1 (cK_placeOf l E hV0 hi0 h_1) zcV_RX1_88 (hV0.2.1 i0 hi0 10 (by decide) (by decide)) (z_c10 E _ _ _ _) rfl rfl rfl (by decide) (Nat.le_of_ble_eq_true rfl) dX1_takeFold_2) (fun H locs hs => ?_)
  refine lv_iconst (v := (-1)) hx hb dX1_takeFold_5 (by decide) ?_
  refine lv_icmp_eq (tgt := 18) hx hb dX1_takeFold_6 (by decide) (fun c2 => ?_) (fun c2 => ?_)
  · have hf := z_t hf c2
    exact wK_takeFold_18 C hr hV0 hi0 hS3 x1 x2 σ1 _ _ _ hs (lv_sub hl [0, 1, 2, 3] rfl) hf
  · have hf := z_f hf c2
    refine lv_aload_n hx hb dX1_takeFold_9 rfl (lv_at hl 0 rfl) ?_
    refine lv_iload_n hx hb dX1_takeFold_10 rfl (lv_at hl 1 rfl) ?_
    obtain ⟨r9, σ9, h_9, hf⟩ := z_bds hf
    refine z_goI C hs (z_runV C hs hl.1 (cK_termOf l E hV0 hi0 h_9) zcV_RX1_110 (hV0.2.1 i0 hi0 10 (by decide) (by decide)) (z_c10 E _ _ _ _) rfl rfl rfl (by decide) (Nat.le_of_ble_eq_true rfl) dX1_takeFold_11) (fun H locs hs => ?_)
    refine lv_iload_n hx hb dX1_takeFold_14 rfl (lv_at hl 2 rfl) ?_
    refine lv_icmp_eq (tgt := 26) hx hb dX1_takeFold_15 (by decide) (fun c10 => ?_) (fun c10 => ?_)
    · have hf := z_t hf c10
      exact wK_takeFold_26 C hr hV0 hi0 hS3 x1 x2 σ9 _ _ _ hs (lv_sub hl [0, 1, 2, 3] rfl) hf
    · have hf := z_f hf c10
      exact wK_takeFold_18 C hr hV0 hi0 hS3 x1 x2 σ9 _ _ _ hs (lv_sub hl [0, 1, 2, 3] rfl) hf
set_option maxHeartbeats 4000000 in
set_option maxRecDepth 20000 in
theorem cK_takeFold (l : Launch) (E : zE) {w0 : Nat} {i0 : Nat} {x1 : Int32} {x2 : Int32} {a3 : zJ} (hV0 : z_W E w0) (hi0 : i0 < 7) (hS3 : z_St E a3) {σ σo : zS} {ro : Unit} (hf : fK_takeFold w0 i0 x1 x2 a3 σ = some (ro, σo)) : z_T l E yX1_takeFold cX1_takeFold 4 none (z_rm 3) (z_QV E ro σo) [.ref (z_ad E (10, w0, i0)), .int x1, .int x2, .ref (z_ad E a3)] σ :=
  z_enter (by decide) (Nat.le_of_ble_eq_true rfl) rfl (fun p e s m below meth c A ls C hr hs hl => wK_takeFold C hr hV0 hi0 hS3 σ _ _ ls hs hl hf)
def fW_takeFolding_27 (w0 : Nat) (w1 : Nat) (i1 : Nat) (w2 : Nat) (i2 : Nat) (σ : zS) : Option (Int32 × zS) :=
  z_bd (fW_reply w0 w2 i2 3 1 (σ.1 (20, w2, i2) 4) σ) (fun r2 σ2 =>
  some (r2, σ2))
def fW_takeFolding (w0 : Nat) (w1 : Nat) (i1 : Nat) (w2 : Nat) (i2 : Nat) (σ : zS) : Option (Int32 × zS) :=
  if (σ.1 (20, w2, i2) 4) ≤ (σ.1 (10, w1, i1) 8) then
    (fW_takeFolding_27 w0 w1 i1 w2 i2 σ)
  else
    (z_bd (fK_takeFold w1 i1 (σ.1 (20, w2, i2) 4) (σ.1 (20, w2, i2) 5) (22, w2, i2) σ) (fun _ σ3 =>
    fW_takeFolding_27 w0 w1 i1 w2 i2 σ3))
set_option maxHeartbeats 4000000 in
set_option maxRecDepth 20000 in
theorem wW_takeFolding_27 {w0 : Nat} {w1 : Nat} {i1 : Nat} {w2 : Nat} {i2 : Nat} (C : z_C E RX7 cX7_takeFolding 3 A p s m args meth c) (hr : meth.sig.returnType = (some .int)) (hV0 : z_W E w0) (hV1 : z_W E w1) (hi1 : i1 < 7) (hV2 : z_W E w2) (hi2 : i2 < 41) {ro : Int32} {σo : zS} (σ : zS) (H : Heap) (locs : List Loc) (ls : Array Slot) (hs : z_H E A s σ H locs) (hl : lv_has ls 3 [(0, .ref (z_ad E (0, w0, 0))), (2, .ref (z_ad E (20, w2, i2)))]) (hf : fW_takeFolding_27 w0 w1 i1 w2 i2 σ = some (ro, σo)) : W p l e (z_rm 4) s m args below meth c H locs 0 0 (MQ below (z_QI E ro σo A) args s 0 0 A) (F0 m 27 ls []) := by
  have hx := C.1
  have hb := C.2.1
  unfold fW_takeFolding_27 at hf
  refine lv_aload_n hx hb dX7_takeFolding_27 rfl (lv_at hl 0 rfl) ?_
  refine lv_aload_n hx hb dX7_takeFolding_28 rfl (lv_at hl 1 rfl) ?_
  refine lv_iconst (v := 3) hx hb dX7_takeFolding_29 (by decide) ?_
  refine lv_iconst (v := 1) hx hb dX7_takeFolding_30 (by decide) ?_
  refine lv_aload_n hx hb dX7_takeFolding_31 rfl (lv_at hl 1 rfl) ?_
  refine zg_L_first C hs (hV2.2.2 i2 hi2 20 (by decide) (by decide)) z_k204 dX7_takeFolding_32 ?_
  obtain ⟨r2, σ2, h_2, hf⟩ := z_bds hf
  refine z_goI C hs (z_runV C hs hl.1 (cW_reply l E hV0 hV2 hi2 h_2) zcV_RX7_232 (hV0.1 0 (by decide)) (z_c0 E _ _ _ _) rfl rfl rfl (by decide) (Nat.le_of_ble_eq_true rfl) dX7_takeFolding_35) (fun H locs hs => ?_)
  exact z_reti C hr hs hf dX7_takeFolding_38
set_option maxHeartbeats 4000000 in
set_option maxRecDepth 20000 in
theorem wW_takeFolding {w0 : Nat} {w1 : Nat} {i1 : Nat} {w2 : Nat} {i2 : Nat} (C : z_C E RX7 cX7_takeFolding 3 A p s m args meth c) (hr : meth.sig.returnType = (some .int)) (hV0 : z_W E w0) (hV1 : z_W E w1) (hi1 : i1 < 7) (hV2 : z_W E w2) (hi2 : i2 < 41) {ro : Int32} {σo : zS} (σ : zS) (H : Heap) (locs : List Loc) (ls : Array Slot) (hs : z_H E A s σ H locs) (hl : lv_has ls 3 [(0, .ref (z_ad E (0, w0, 0))), (1, .ref (z_ad E (10, w1, i1))), (2, .ref (z_ad E (20, w2, i2)))]) (hf : fW_takeFolding w0 w1 i1 w2 i2 σ = some (ro, σo)) : W p l e (z_rm 4) s m args below meth c H locs 0 0 (MQ below (z_QI E ro σo A) args s 0 0 A) (F0 m 0 ls []) := by
  have hx := C.1
  have hb := C.2.1
  unfold fW_takeFolding at hf
  refine lv_aload_n hx hb dX7_takeFolding_0 rfl (lv_at hl 2 rfl) ?_
  refine zg_L_first C hs (hV2.2.2 i2 hi2 20 (by decide) (by decide)) z_k204 dX7_takeFolding_1 ?_
  refine lv_aload_n hx hb dX7_takeFolding_4 rfl (lv_at hl 1 rfl) ?_
  refine zg_K_done C hs (hV1.2.1 i1 hi1 10 (by decide) (by decide)) z_k116 dX7_takeFolding_5 ?_
  refine lv_icmp_le (tgt := 27) hx hb dX7_takeFolding_8 (by decide) (fun c1 => ?_) (fun c1 => ?_)
  · have hf := z_t hf c1
    exact wW_takeFolding_27 C hr hV0 hV1 hi1 hV2 hi2 σ _ _ _ hs (lv_sub hl [0, 2] rfl) hf
  · have hf := z_f hf c1
    refine lv_aload_n hx hb dX7_takeFolding_11 rfl (lv_at hl 1 rfl) ?_
    refine lv_aload_n hx hb dX7_takeFolding_12 rfl (lv_at hl 2 rfl) ?_
    refine zg_L_first C hs (hV2.2.2 i2 hi2 20 (by decide) (by decide)) z_k204 dX7_takeFolding_13 ?_
    refine lv_aload_n hx hb dX7_takeFolding_16 rfl (lv_at hl 2 rfl) ?_
    refine zg_L_second C hs (hV2.2.2 i2 hi2 20 (by decide) (by decide)) z_k206 dX7_takeFolding_17 ?_
    refine lv_aload_n hx hb dX7_takeFolding_20 rfl (lv_at hl 2 rfl) ?_
    refine zg_L_fold C hs (hV2.2.2 i2 hi2 20 (by decide) (by decide)) z_k218 dX7_takeFolding_21 ?_
    obtain ⟨r3, σ3, h_3, hf⟩ := z_bds hf
    refine z_goV C hs (z_runV C hs hl.1 (cK_takeFold l E hV1 hi1 ⟨(show z_isS (22, w2, i2) from (Or.inr (Or.inr rfl))), (hV2.2.2 i2 hi2 22 (by decide) (by decide)), (hV2.2.2 i2 hi2 23 (by decide) (by decide))⟩ h_3) zcV_RX7_258 (hV1.2.1 i1 hi1 10 (by decide) (by decide)) (z_c10 E _ _ _ _) rfl rfl rfl (by decide) (Nat.le_of_ble_eq_true rfl) dX7_takeFolding_24) (fun H locs hs => ?_)
    exact wW_takeFolding_27 C hr hV0 hV1 hi1 hV2 hi2 σ3 _ _ _ hs (lv_sub hl [0, 2] rfl) hf
set_option maxHeartbeats 4000000 in
set_option maxRecDepth 20000 in
theorem cW_takeFolding (l : Launch) (E : zE) {w0 : Nat} {w1 : Nat} {i1 : Nat} {w2 : Nat} {i2 : Nat} (hV0 : z_W E w0) (hV1 : z_W E w1) (hi1 : i1 < 7) (hV2 : z_W E w2) (hi2 : i2 < 41) {σ σo : zS} {ro : Int32} (hf : fW_takeFolding w0 w1 i1 w2 i2 σ = some (ro, σo)) : z_T l E yX7_takeFolding cX7_takeFolding 3 (some .int) (z_rm 4) (z_QI E ro σo) [.ref (z_ad E (0, w0, 0)), .ref (z_ad E (10, w1, i1)), .ref (z_ad E (20, w2, i2))] σ :=
  z_enter (by decide) (Nat.le_of_ble_eq_true rfl) rfl (fun p e s m below meth c A ls C hr hs hl => wW_takeFolding C hr hV0 hV1 hi1 hV2 hi2 σ _ _ ls hs hl hf)
def fK_cutFrom (w0 : Nat) (i0 : Nat) (x1 : Int32) (σ : zS) : Option (Unit × zS) :=
  z_let (z_up σ (10, w0, i0) 7 (if (if (x1 - 1) < (σ.1 (10, w0, i0) 8) then (σ.1 (10, w0, i0) 8) else (x1 - 1)) < (σ.1 (10, w0, i0) 7) then (if (x1 - 1) < (σ.1 (10, w0, i0) 8) then (σ.1 (10, w0, i0) 8) else (x1 - 1)) else (σ.1 (10, w0, i0) 7))) (fun σ1 =>
  some ((), σ1))
set_option maxHeartbeats 4000000 in
set_option maxRecDepth 20000 in
theorem wK_cutFrom {w0 : Nat} {i0 : Nat} {x1 : Int32} (C : z_C E RX1 cX1_cutFrom 2 A p s m args meth c) (hr : meth.sig.returnType = none) (hV0 : z_W E w0) (hi0 : i0 < 7) {ro : Unit} {σo : zS} (σ : zS) (H : Heap) (locs : List Loc) (ls : Array Slot) (hs : z_H E A s σ H locs) (hl : lv_has ls 2 [(0, .ref (z_ad E (10, w0, i0))), (1, .int x1)]) (hf : fK_cutFrom w0 i0 x1 σ = some (ro, σo)) : W p l e (z_rm 2) s m args below meth c H locs 0 0 (MQ below (z_QV E ro σo A) args s 0 0 A) (F0 m 0 ls []) := by
  have hx := C.1
  have hb := C.2.1
  unfold fK_cutFrom at hf
  refine lv_aload_n hx hb dX1_cutFrom_0 rfl (lv_at hl 0 rfl) ?_
  refine lv_aload_n hx hb dX1_cutFrom_1 rfl (lv_at hl 0 rfl) ?_
  refine zg_K_last C hs (hV0.2.1 i0 hi0 10 (by decide) (by decide)) z_k111 dX1_cutFrom_2 ?_
  refine lv_iload_n hx hb dX1_cutFrom_5 rfl (lv_at hl 1 rfl) ?_
  refine lv_iconst (v := 1) hx hb dX1_cutFrom_6 (by decide) ?_
  refine lv_isub hx hb dX1_cutFrom_7 ?_
  refine lv_aload_n hx hb dX1_cutFrom_8 rfl (lv_at hl 0 rfl) ?_
  refine zg_K_done C hs (hV0.2.1 i0 hi0 10 (by decide) (by decide)) z_k114 dX1_cutFrom_9 ?_
  refine z_max C hl.1 z_k685 (by decide) (Nat.le_of_ble_eq_true rfl) dX1_cutFrom_12 ?_
  refine z_min C hl.1 z_k686 (by decide) (Nat.le_of_ble_eq_true rfl) dX1_cutFrom_15 ?_
  refine zp_K_last C hs (hV0.2.1 i0 hi0 10 (by decide) (by decide)) z_k111 dX1_cutFrom_18 (fun H locs hs => ?_)
  obtain ⟨σ1, -, hs, hf⟩ := z_top hs hf
  exact z_retv C hr hs hf dX1_cutFrom_21
set_option maxHeartbeats 4000000 in
set_option maxRecDepth 20000 in
theorem cK_cutFrom (l : Launch) (E : zE) {w0 : Nat} {i0 : Nat} {x1 : Int32} (hV0 : z_W E w0) (hi0 : i0 < 7) {σ σo : zS} {ro : Unit} (hf : fK_cutFrom w0 i0 x1 σ = some (ro, σo)) : z_T l E yX1_cutFrom cX1_cutFrom 2 none (z_rm 2) (z_QV E ro σo) [.ref (z_ad E (10, w0, i0)), .int x1] σ :=
  z_enter (by decide) (Nat.le_of_ble_eq_true rfl) rfl (fun p e s m below meth c A ls C hr hs hl => wK_cutFrom C hr hV0 hi0 σ _ _ ls hs hl hf)
def fL_termAt (w0 : Nat) (i0 : Nat) (x1 : Int32) (σ : zS) : Option (Int32 × zS) :=
  if x1 < 0 then
    (some ((-1), σ))
  else
    (if 5 ≤ x1 then
      (some ((-1), σ))
    else
      (if z_in ((x1 * 6) + 0) 30 = true then (
      some (σ.1 (21, w0, i0) ((x1 * 6) + 0).toNatClampNeg, σ)) else none))
set_option maxHeartbeats 4000000 in
set_option maxRecDepth 20000 in
theorem wL_termAt {w0 : Nat} {i0 : Nat} {x1 : Int32} (C : z_C E RX2 cX2_termAt 2 A p s m args meth c) (hr : meth.sig.returnType = (some .int)) (hV0 : z_W E w0) (hi0 : i0 < 41) {ro : Int32} {σo : zS} (σ : zS) (H : Heap) (locs : List Loc) (ls : Array Slot) (hs : z_H E A s σ H locs) (hl : lv_has ls 2 [(0, .ref (z_ad E (20, w0, i0))), (1, .int x1)]) (hf : fL_termAt w0 i0 x1 σ = some (ro, σo)) : W p l e (z_rm 1) s m args below meth c H locs 0 0 (MQ below (z_QI E ro σo A) args s 0 0 A) (F0 m 0 ls []) := by
  have hx := C.1
  have hb := C.2.1
  unfold fL_termAt at hf
  refine lv_iload_n hx hb dX2_termAt_0 rfl (lv_at hl 1 rfl) ?_
  refine lv_if_lt (tgt := 23) hx hb dX2_termAt_1 (by decide) (fun c1 => ?_) (fun c1 => ?_)
  · have hf := z_t hf c1
    refine lv_iconst (v := (-1)) hx hb dX2_termAt_23 (by decide) ?_
    exact z_reti C hr hs hf dX2_termAt_24
  · have hf := z_f hf c1
    refine lv_iload_n hx hb dX2_termAt_4 rfl (lv_at hl 1 rfl) ?_
    refine lv_iconst (v := 5) hx hb dX2_termAt_5 (by decide) ?_
    refine lv_icmp_ge (tgt := 23) hx hb dX2_termAt_6 (by decide) (fun c2 => ?_) (fun c2 => ?_)
    · have hf := z_t hf c2
      refine lv_iconst (v := (-1)) hx hb dX2_termAt_23 (by decide) ?_
      exact z_reti C hr hs hf dX2_termAt_24
    · have hf := z_f hf c2
      refine lv_aload_n hx hb dX2_termAt_9 rfl (lv_at hl 0 rfl) ?_
      refine zg_L_entries C hs (hV0.2.2 i0 hi0 20 (by decide) (by decide)) z_k215 dX2_termAt_10 ?_
      refine lv_iload_n hx hb dX2_termAt_13 rfl (lv_at hl 1 rfl) ?_
      refine lv_bipush (v := 6) hx hb dX2_termAt_14 (by decide) ?_
      refine lv_imul hx hb dX2_termAt_16 ?_
      refine lv_iconst (v := 0) hx hb dX2_termAt_17 (by decide) ?_
      refine lv_iadd hx hb dX2_termAt_18 ?_
      obtain ⟨g3, hf⟩ := z_gd hf
      refine z_ald C hs (hV0.2.2 i0 hi0 21 (by decide) (by decide)) (z_c21 E _ _ _ _) g3 rfl dX2_termAt_19 ?_
      refine lv_goto (tgt := 24) hx hb dX2_termAt_20 (by decide) ?_
      exact z_reti C hr hs hf dX2_termAt_24
set_option maxHeartbeats 4000000 in
set_option maxRecDepth 20000 in
theorem cL_termAt (l : Launch) (E : zE) {w0 : Nat} {i0 : Nat} {x1 : Int32} (hV0 : z_W E w0) (hi0 : i0 < 41) {σ σo : zS} {ro : Int32} (hf : fL_termAt w0 i0 x1 σ = some (ro, σo)) : z_T l E yX2_termAt cX2_termAt 2 (some .int) (z_rm 1) (z_QI E ro σo) [.ref (z_ad E (20, w0, i0)), .int x1] σ :=
  z_enter (by decide) (Nat.le_of_ble_eq_true rfl) rfl (fun p e s m below meth c A ls C hr hs hl => wL_termAt C hr hV0 hi0 σ _ _ ls hs hl hf)
def fK_hasRoom (w0 : Nat) (i0 : Nat) (σ : zS) : Option (Int32 × zS) :=
  if 40 ≤ ((σ.1 (10, w0, i0) 7) - (σ.1 (10, w0, i0) 5)) then
    (some (0, σ))
  else
    (some (1, σ))
set_option maxHeartbeats 4000000 in
set_option maxRecDepth 20000 in
theorem wK_hasRoom {w0 : Nat} {i0 : Nat} (C : z_C E RX1 cX1_hasRoom 1 A p s m args meth c) (hr : meth.sig.returnType = (some .boolean)) (hV0 : z_W E w0) (hi0 : i0 < 7) {ro : Int32} {σo : zS} (σ : zS) (H : Heap) (locs : List Loc) (ls : Array Slot) (hs : z_H E A s σ H locs) (hl : lv_has ls 1 [(0, .ref (z_ad E (10, w0, i0)))]) (hf : fK_hasRoom w0 i0 σ = some (ro, σo)) : W p l e (z_rm 1) s m args below meth c H locs 0 0 (MQ below (z_QI E ro σo A) args s 0 0 A) (F0 m 0 ls []) := by
  have hx := C.1
  have hb := C.2.1
  unfold fK_hasRoom at hf
  refine lv_aload_n hx hb dX1_hasRoom_0 rfl (lv_at hl 0 rfl) ?_
  refine zg_K_last C hs (hV0.2.1 i0 hi0 10 (by decide) (by decide)) z_k111 dX1_hasRoom_1 ?_
  refine lv_aload_n hx hb dX1_hasRoom_4 rfl (lv_at hl 0 rfl) ?_
  refine zg_K_folded C hs (hV0.2.1 i0 hi0 10 (by decide) (by decide)) z_k105 dX1_hasRoom_5 ?_
  refine lv_isub hx hb dX1_hasRoom_8 ?_
  refine lv_bipush (v := 40) hx hb dX1_hasRoom_9 (by decide) ?_
  refine lv_icmp_ge (tgt := 18) hx hb dX1_hasRoom_11 (by decide) (fun c1 => ?_) (fun c1 => ?_)
  · have hf := z_t hf c1
    refine lv_iconst (v := 0) hx hb dX1_hasRoom_18 (by decide) ?_
    exact z_retz C hr hs (by decide +kernel) hf dX1_hasRoom_19
  · have hf := z_f hf c1
    refine lv_iconst (v := 1) hx hb dX1_hasRoom_14 (by decide) ?_
    refine lv_goto (tgt := 19) hx hb dX1_hasRoom_15 (by decide) ?_
    exact z_retz C hr hs (by decide +kernel) hf dX1_hasRoom_19
set_option maxHeartbeats 4000000 in
set_option maxRecDepth 20000 in
theorem cK_hasRoom (l : Launch) (E : zE) {w0 : Nat} {i0 : Nat} (hV0 : z_W E w0) (hi0 : i0 < 7) {σ σo : zS} {ro : Int32} (hf : fK_hasRoom w0 i0 σ = some (ro, σo)) : z_T l E yX1_hasRoom cX1_hasRoom 1 (some .boolean) (z_rm 1) (z_QI E ro σo) [.ref (z_ad E (10, w0, i0))] σ :=
  z_enter (by decide) (Nat.le_of_ble_eq_true rfl) rfl (fun p e s m below meth c A ls C hr hs hl => wK_hasRoom C hr hV0 hi0 σ _ _ ls hs hl hf)
def fK_grow (w0 : Nat) (i0 : Nat) (σ : zS) : Option (Int32 × zS) :=
  z_bd (fK_hasRoom w0 i0 σ) (fun r1 σ1 =>
  if r1 = 0 then
    (some ((-1), σ1))
  else
    (z_let (z_up σ1 (10, w0, i0) 7 ((σ1.1 (10, w0, i0) 7) + 1)) (fun σ3 =>
    z_bd (fK_placeOf w0 i0 (σ3.1 (10, w0, i0) 7) σ3) (fun r4 σ4 =>
    some (r4, σ4)))))
set_option maxHeartbeats 4000000 in
set_option maxRecDepth 20000 in
theorem wK_grow {w0 : Nat} {i0 : Nat} (C : z_C E RX1 cX1_grow 1 A p s m args meth c) (hr : meth.sig.returnType = (some .int)) (hV0 : z_W E w0) (hi0 : i0 < 7) {ro : Int32} {σo : zS} (σ : zS) (H : Heap) (locs : List Loc) (ls : Array Slot) (hs : z_H E A s σ H locs) (hl : lv_has ls 1 [(0, .ref (z_ad E (10, w0, i0)))]) (hf : fK_grow w0 i0 σ = some (ro, σo)) : W p l e (z_rm 2) s m args below meth c H locs 0 0 (MQ below (z_QI E ro σo A) args s 0 0 A) (F0 m 0 ls []) := by
  have hx := C.1
  have hb := C.2.1
  unfold fK_grow at hf
  refine lv_aload_n hx hb dX1_grow_0 rfl (lv_at hl 0 rfl) ?_
  obtain ⟨r1, σ1, h_1, hf⟩ := z_bds hf
  refine z_goI C hs (z_runV C hs hl.1 (cK_hasRoom l E hV0 hi0 h_1) zcV_RX1_93 (hV0.2.1 i0 hi0 10 (by decide) (by decide)) (z_c10 E _ _ _ _) rfl rfl rfl (by decide) (Nat.le_of_ble_eq_true rfl) dX1_grow_1) (fun H locs hs => ?_)
  refine lv_if_ne (tgt := 9) hx hb dX1_grow_4 (by decide) (fun c2 => ?_) (fun c2 => ?_)
  · have hf := z_f hf c2
    refine lv_aload_n hx hb dX1_grow_9 rfl (lv_at hl 0 rfl) ?_
    refine lv_dup hx hb dX1_grow_10 rfl ?_
    refine zg_K_last C hs (hV0.2.1 i0 hi0 10 (by decide) (by decide)) z_k111 dX1_grow_11 ?_
    refine lv_iconst (v := 1) hx hb dX1_grow_14 (by decide) ?_
    refine lv_iadd hx hb dX1_grow_15 ?_
    refine zp_K_last C hs (hV0.2.1 i0 hi0 10 (by decide) (by decide)) z_k111 dX1_grow_16 (fun H locs hs => ?_)
    obtain ⟨σ3, -, hs, hf⟩ := z_top hs hf
    refine lv_aload_n hx hb dX1_grow_19 rfl (lv_at hl 0 rfl) ?_
    refine lv_aload_n hx hb dX1_grow_20 rfl (lv_at hl 0 rfl) ?_
    refine zg_K_last C hs (hV0.2.1 i0 hi0 10 (by decide) (by decide)) z_k111 dX1_grow_21 ?_
    obtain ⟨r4, σ4, h_4, hf⟩ := z_bds hf
    refine z_goI C hs (z_runV C hs hl.1 (cK_placeOf l E hV0 hi0 h_4) zcV_RX1_88 (hV0.2.1 i0 hi0 10 (by decide) (by decide)) (z_c10 E _ _ _ _) rfl rfl rfl (by decide) (Nat.le_of_ble_eq_true rfl) dX1_grow_24) (fun H locs hs => ?_)
    exact z_reti C hr hs hf dX1_grow_27
  · have hf := z_t hf c2
    refine lv_iconst (v := (-1)) hx hb dX1_grow_7 (by decide) ?_
    exact z_reti C hr hs hf dX1_grow_8
set_option maxHeartbeats 4000000 in
set_option maxRecDepth 20000 in
theorem cK_grow (l : Launch) (E : zE) {w0 : Nat} {i0 : Nat} (hV0 : z_W E w0) (hi0 : i0 < 7) {σ σo : zS} {ro : Int32} (hf : fK_grow w0 i0 σ = some (ro, σo)) : z_T l E yX1_grow cX1_grow 1 (some .int) (z_rm 2) (z_QI E ro σo) [.ref (z_ad E (10, w0, i0))] σ :=
  z_enter (by decide) (Nat.le_of_ble_eq_true rfl) rfl (fun p e s m below meth c A ls C hr hs hl => wK_grow C hr hV0 hi0 σ _ _ ls hs hl hf)
def fW_takeEntries_8 (w0 : Nat) (w1 : Nat) (i1 : Nat) (w2 : Nat) (i2 : Nat) : Nat → Int32 → Int32 → zS → Option (Int32 × zS)
  | 0, _, _, _ => none
  | n + 1, x3, x4, σ =>
    if (σ.1 (20, w2, i2) 6) ≤ x4 then
      (some (x3, σ))
    else
      (if 5 ≤ x4 then
        (some (x3, σ))
      else
        (z_let (x3 + 1) (fun y4 =>
        if y4 ≤ (σ.1 (10, w1, i1) 5) then
          (z_let (x4 + 1) (fun y6 =>
          fW_takeEntries_8 w0 w1 i1 w2 i2 n y4 y6 σ))
        else
          (z_bd (fK_termOf w1 i1 y4 σ) (fun r7 σ7 =>
          z_bd (fL_termAt w2 i2 x4 σ7) (fun r8 σ8 =>
          if r7 = r8 then
            (z_let (x4 + 1) (fun y10 =>
            fW_takeEntries_8 w0 w1 i1 w2 i2 n y4 y10 σ8))
          else
            (z_bd (fK_cutFrom w1 i1 y4 σ8) (fun _ σ11 =>
            z_bd (fK_grow w1 i1 σ11) (fun r12 σ12 =>
            if r12 = ((-1)) then
              (some (x3, σ12))
            else
              (if z_cp (x4 * 6) r12 6 30 240 = true then (
              z_let (z_cpR σ12 (21, w2, i2) (11, w1, i1) (x4 * 6) r12 6) (fun σ15 =>
              z_let (x4 + 1) (fun y16 =>
              fW_takeEntries_8 w0 w1 i1 w2 i2 n y4 y16 σ15))) else none))))))))))
def fW_takeEntries (w0 : Nat) (w1 : Nat) (i1 : Nat) (w2 : Nat) (i2 : Nat) (σ : zS) : Option (Int32 × zS) :=
  z_let (σ.1 (20, w2, i2) 4) (fun y1 =>
  fW_takeEntries_8 w0 w1 i1 w2 i2 z_fu y1 0 σ)
set_option maxHeartbeats 4000000 in
set_option maxRecDepth 20000 in
theorem wW_takeEntries_8 {w0 : Nat} {w1 : Nat} {i1 : Nat} {w2 : Nat} {i2 : Nat} (C : z_C E RX7 cX7_takeEntries 7 A p s m args meth c) (hr : meth.sig.returnType = (some .int)) (hV0 : z_W E w0) (hV1 : z_W E w1) (hi1 : i1 < 7) (hV2 : z_W E w2) (hi2 : i2 < 41) {ro : Int32} {σo : zS} (n : Nat) : ∀ (x3 : Int32) (x4 : Int32) (σ : zS) (H : Heap) (locs : List Loc) (ls : Array Slot), z_H E A s σ H locs → lv_has ls 7 [(1, .ref (z_ad E (10, w1, i1))), (2, .ref (z_ad E (20, w2, i2))), (3, .int x3), (4, .int x4)] → fW_takeEntries_8 w0 w1 i1 w2 i2 n x3 x4 σ = some (ro, σo) → W p l e (z_rm 3) s m args below meth c H locs 0 0 (MQ below (z_QI E ro σo A) args s 0 0 A) (F0 m 8 ls []) := by
  induction n with
  | zero =>
    intro x3 x4 σ H locs ls hs hl hf
    have hf : none = some (ro, σo) := hf
    cases hf
  | succ n ih =>
    intro x3 x4 σ H locs ls hs hl hf
    have hx := C.1
    have hb := C.2.1
    rw [fW_takeEntries_8.eq_2] at hf
    refine lv_iload hx hb dX7_takeEntries_8 (lv_at hl 3 rfl) ?_
    refine lv_aload_n hx hb dX7_takeEntries_10 rfl (lv_at hl 1 rfl) ?_
    refine zg_L_count C hs (hV2.2.2 i2 hi2 20 (by decide) (by decide)) z_k208 dX7_takeEntries_11 ?_
    refine lv_icmp_ge (tgt := 101) hx hb dX7_takeEntries_14 (by decide) (fun c2 => ?_) (fun c2 => ?_)
    · have hf := z_t hf c2
      refine lv_iload_n hx hb dX7_takeEntries_101 rfl (lv_at hl 2 rfl) ?_
      exact z_reti C hr hs hf dX7_takeEntries_102
    · have hf := z_f hf c2
      refine lv_iload hx hb dX7_takeEntries_17 (lv_at hl 3 rfl) ?_
      refine lv_iconst (v := 5) hx hb dX7_takeEntries_19 (by decide) ?_
      refine lv_icmp_ge (tgt := 101) hx hb dX7_takeEntries_20 (by decide) (fun c3 => ?_) (fun c3 => ?_)
      · have hf := z_t hf c3
        refine lv_iload_n hx hb dX7_takeEntries_101 rfl (lv_at hl 2 rfl) ?_
        exact z_reti C hr hs hf dX7_takeEntries_102
      · have hf := z_f hf c3
        refine lv_iload_n hx hb dX7_takeEntries_23 rfl (lv_at hl 2 rfl) ?_
        refine lv_iconst (v := 1) hx hb dX7_takeEntries_24 (by decide) ?_
        refine lv_iadd hx hb dX7_takeEntries_25 ?_
        refine lv_topi (fun y4 e_y4 => ?_)
        have hf := z_lte e_y4 hf
        refine lv_istore (lv' := [(5, .int y4), (1, .ref (z_ad E (10, w1, i1))), (2, .ref (z_ad E (20, w2, i2))), (3, .int x3), (4, .int x4)]) hx hb dX7_takeEntries_26 hl (by decide) rfl (fun ls hl => ?_)
        refine lv_iload hx hb dX7_takeEntries_28 (lv_at hl 0 rfl) ?_
        refine lv_aload_n hx hb dX7_takeEntries_30 rfl (lv_at hl 1 rfl) ?_
        refine zg_K_folded C hs (hV1.2.1 i1 hi1 10 (by decide) (by decide)) z_k108 dX7_takeEntries_31 ?_
        refine lv_icmp_le (tgt := 92) hx hb dX7_takeEntries_34 (by decide) (fun c5 => ?_) (fun c5 => ?_)
        · have hf := z_t hf c5
          refine lv_iload hx hb dX7_takeEntries_92 (lv_at hl 0 rfl) ?_
          refine lv_istore_n (lv' := [(3, .int y4), (5, .int y4), (1, .ref (z_ad E (10, w1, i1))), (2, .ref (z_ad E (20, w2, i2))), (4, .int x4)]) hx hb dX7_takeEntries_94 rfl hl (by decide) rfl (fun ls hl => ?_)
          obtain ⟨y6, e_y6⟩ : ∃ y : Int32, y = x4 + 1 := ⟨_, rfl⟩
          have hf := z_lte e_y6 hf
          refine lv_iinc (v := y6) (lv' := [(4, .int y6), (3, .int y4), (5, .int y4), (1, .ref (z_ad E (10, w1, i1))), (2, .ref (z_ad E (20, w2, i2)))]) hx hb dX7_takeEntries_95 hl (k := 4) rfl (by rw [e_y6]; rfl) (by decide) rfl (fun ls hl => ?_)
          refine lv_goto (tgt := 8) hx hb dX7_takeEntries_98 (by decide) ?_
          exact ih y4 y6 σ _ _ _ hs (lv_sub hl [3, 4, 1, 0] rfl) hf
        · have hf := z_f hf c5
          refine lv_aload_n hx hb dX7_takeEntries_37 rfl (lv_at hl 1 rfl) ?_
          refine lv_iload hx hb dX7_takeEntries_38 (lv_at hl 0 rfl) ?_
          obtain ⟨r7, σ7, h_7, hf⟩ := z_bds hf
          refine z_goI C hs (z_runV C hs hl.1 (cK_termOf l E hV1 hi1 h_7) zcV_RX7_130 (hV1.2.1 i1 hi1 10 (by decide) (by decide)) (z_c10 E _ _ _ _) rfl rfl rfl (by decide) (Nat.le_of_ble_eq_true rfl) dX7_takeEntries_40) (fun H locs hs => ?_)
          refine lv_aload_n hx hb dX7_takeEntries_43 rfl (lv_at hl 2 rfl) ?_
          refine lv_iload hx hb dX7_takeEntries_44 (lv_at hl 4 rfl) ?_
          obtain ⟨r8, σ8, h_8, hf⟩ := z_bds hf
          refine z_goI C hs (z_runV C hs hl.1 (cL_termAt l E hV2 hi2 h_8) zcV_RX7_268 (hV2.2.2 i2 hi2 20 (by decide) (by decide)) (z_c20 E _ _ _ _) rfl rfl rfl (by decide) (Nat.le_of_ble_eq_true rfl) dX7_takeEntries_46) (fun H locs hs => ?_)
          refine lv_icmp_eq (tgt := 92) hx hb dX7_takeEntries_49 (by decide) (fun c9 => ?_) (fun c9 => ?_)
          · have hf := z_t hf c9
            refine lv_iload hx hb dX7_takeEntries_92 (lv_at hl 0 rfl) ?_
            refine lv_istore_n (lv' := [(3, .int y4), (5, .int y4), (1, .ref (z_ad E (10, w1, i1))), (2, .ref (z_ad E (20, w2, i2))), (4, .int x4)]) hx hb dX7_takeEntries_94 rfl hl (by decide) rfl (fun ls hl => ?_)
            obtain ⟨y10, e_y10⟩ : ∃ y : Int32, y = x4 + 1 := ⟨_, rfl⟩
            have hf := z_lte e_y10 hf
            refine lv_iinc (v := y10) (lv' := [(4, .int y10), (3, .int y4), (5, .int y4), (1, .ref (z_ad E (10, w1, i1))), (2, .ref (z_ad E (20, w2, i2)))]) hx hb dX7_takeEntries_95 hl (k := 4) rfl (by rw [e_y10]; rfl) (by decide) rfl (fun ls hl => ?_)
            refine lv_goto (tgt := 8) hx hb dX7_takeEntries_98 (by decide) ?_
            exact ih y4 y10 σ8 _ _ _ hs (lv_sub hl [3, 4, 1, 0] rfl) hf
          · have hf := z_f hf c9
            refine lv_aload_n hx hb dX7_takeEntries_52 rfl (lv_at hl 1 rfl) ?_
            refine lv_iload hx hb dX7_takeEntries_53 (lv_at hl 0 rfl) ?_
            obtain ⟨r11, σ11, h_11, hf⟩ := z_bds hf
            refine z_goV C hs (z_runV C hs hl.1 (cK_cutFrom l E hV1 hi1 h_11) zcV_RX7_261 (hV1.2.1 i1 hi1 10 (by decide) (by decide)) (z_c10 E _ _ _ _) rfl rfl rfl (by decide) (Nat.le_of_ble_eq_true rfl) dX7_takeEntries_55) (fun H locs hs => ?_)
            refine lv_aload_n hx hb dX7_takeEntries_58 rfl (lv_at hl 1 rfl) ?_
            obtain ⟨r12, σ12, h_12, hf⟩ := z_bds hf
            refine z_goI C hs (z_runV C hs hl.1 (cK_grow l E hV1 hi1 h_12) zcV_RX7_159 (hV1.2.1 i1 hi1 10 (by decide) (by decide)) (z_c10 E _ _ _ _) rfl rfl rfl (by decide) (Nat.le_of_ble_eq_true rfl) dX7_takeEntries_59) (fun H locs hs => ?_)
            refine lv_istore (lv' := [(6, .int r12), (5, .int y4), (1, .ref (z_ad E (10, w1, i1))), (2, .ref (z_ad E (20, w2, i2))), (3, .int x3), (4, .int x4)]) hx hb dX7_takeEntries_62 hl (by decide) rfl (fun ls hl => ?_)
            refine lv_iload hx hb dX7_takeEntries_64 (lv_at hl 0 rfl) ?_
            refine lv_iconst (v := (-1)) hx hb dX7_takeEntries_66 (by decide) ?_
            refine lv_icmp_ne (tgt := 72) hx hb dX7_takeEntries_67 (by decide) (fun c13 => ?_) (fun c13 => ?_)
            · have hf := z_f hf c13
              refine lv_aload_n hx hb dX7_takeEntries_72 rfl (lv_at hl 3 rfl) ?_
              refine zg_L_entries C hs (hV2.2.2 i2 hi2 20 (by decide) (by decide)) z_k216 dX7_takeEntries_73 ?_
              refine lv_iload hx hb dX7_takeEntries_76 (lv_at hl 5 rfl) ?_
              refine lv_bipush (v := 6) hx hb dX7_takeEntries_78 (by decide) ?_
              refine lv_imul hx hb dX7_takeEntries_80 ?_
              refine lv_aload_n hx hb dX7_takeEntries_81 rfl (lv_at hl 2 rfl) ?_
              refine zg_K_entries C hs (hV1.2.1 i1 hi1 10 (by decide) (by decide)) z_k124 dX7_takeEntries_82 ?_
              refine lv_iload hx hb dX7_takeEntries_85 (lv_at hl 0 rfl) ?_
              refine lv_bipush (v := 6) hx hb dX7_takeEntries_87 (by decide) ?_
              obtain ⟨g14, hf⟩ := z_gd hf
              refine z_acp C hs hl.1 (hV2.2.2 i2 hi2 21 (by decide) (by decide)) (hV1.2.1 i1 hi1 11 (by decide) (by decide)) (fun r h => z_c21 E r h _ _) (fun r h => z_c11 E r h _ _) z_k703 g14 (by decide) (by decide) (Nat.le_of_ble_eq_true rfl) z_k594 z_k593 z_k17 dX7_takeEntries_89 (fun H locs hs => ?_)
              obtain ⟨σ15, -, hs, hf⟩ := z_top hs hf
              refine lv_iload hx hb dX7_takeEntries_92 (lv_at hl 1 rfl) ?_
              refine lv_istore_n (lv' := [(3, .int y4), (6, .int r12), (5, .int y4), (1, .ref (z_ad E (10, w1, i1))), (2, .ref (z_ad E (20, w2, i2))), (4, .int x4)]) hx hb dX7_takeEntries_94 rfl hl (by decide) rfl (fun ls hl => ?_)
              obtain ⟨y16, e_y16⟩ : ∃ y : Int32, y = x4 + 1 := ⟨_, rfl⟩
              have hf := z_lte e_y16 hf
              refine lv_iinc (v := y16) (lv' := [(4, .int y16), (3, .int y4), (6, .int r12), (5, .int y4), (1, .ref (z_ad E (10, w1, i1))), (2, .ref (z_ad E (20, w2, i2)))]) hx hb dX7_takeEntries_95 hl (k := 5) rfl (by rw [e_y16]; rfl) (by decide) rfl (fun ls hl => ?_)
              refine lv_goto (tgt := 8) hx hb dX7_takeEntries_98 (by decide) ?_
              exact ih y4 y16 σ15 _ _ _ hs (lv_sub hl [4, 5, 1, 0] rfl) hf
            · have hf := z_t hf c13
              refine lv_iload_n hx hb dX7_takeEntries_70 rfl (lv_at hl 4 rfl) ?_
              exact z_reti C hr hs hf dX7_takeEntries_71
set_option maxHeartbeats 4000000 in
set_option maxRecDepth 20000 in
theorem wW_takeEntries {w0 : Nat} {w1 : Nat} {i1 : Nat} {w2 : Nat} {i2 : Nat} (C : z_C E RX7 cX7_takeEntries 7 A p s m args meth c) (hr : meth.sig.returnType = (some .int)) (hV0 : z_W E w0) (hV1 : z_W E w1) (hi1 : i1 < 7) (hV2 : z_W E w2) (hi2 : i2 < 41) {ro : Int32} {σo : zS} (σ : zS) (H : Heap) (locs : List Loc) (ls : Array Slot) (hs : z_H E A s σ H locs) (hl : lv_has ls 7 [(0, .ref (z_ad E (0, w0, 0))), (1, .ref (z_ad E (10, w1, i1))), (2, .ref (z_ad E (20, w2, i2)))]) (hf : fW_takeEntries w0 w1 i1 w2 i2 σ = some (ro, σo)) : W p l e (z_rm 3) s m args below meth c H locs 0 0 (MQ below (z_QI E ro σo A) args s 0 0 A) (F0 m 0 ls []) := by
  have hx := C.1
  have hb := C.2.1
  unfold fW_takeEntries at hf
  refine lv_aload_n hx hb dX7_takeEntries_0 rfl (lv_at hl 2 rfl) ?_
  refine zg_L_first C hs (hV2.2.2 i2 hi2 20 (by decide) (by decide)) z_k204 dX7_takeEntries_1 ?_
  refine lv_topi (fun y1 e_y1 => ?_)
  have hf := z_lte e_y1 hf
  refine lv_istore_n (lv' := [(3, .int y1), (0, .ref (z_ad E (0, w0, 0))), (1, .ref (z_ad E (10, w1, i1))), (2, .ref (z_ad E (20, w2, i2)))]) hx hb dX7_takeEntries_4 rfl hl (by decide) rfl (fun ls hl => ?_)
  refine lv_iconst (v := 0) hx hb dX7_takeEntries_5 (by decide) ?_
  refine lv_istore (lv' := [(4, .int 0), (3, .int y1), (0, .ref (z_ad E (0, w0, 0))), (1, .ref (z_ad E (10, w1, i1))), (2, .ref (z_ad E (20, w2, i2)))]) hx hb dX7_takeEntries_6 hl (by decide) rfl (fun ls hl => ?_)
  exact wW_takeEntries_8 C hr hV0 hV1 hi1 hV2 hi2 z_fu y1 0 σ _ _ _ hs (lv_sub hl [3, 4, 1, 0] rfl) hf
set_option maxHeartbeats 4000000 in
set_option maxRecDepth 20000 in
theorem cW_takeEntries (l : Launch) (E : zE) {w0 : Nat} {w1 : Nat} {i1 : Nat} {w2 : Nat} {i2 : Nat} (hV0 : z_W E w0) (hV1 : z_W E w1) (hi1 : i1 < 7) (hV2 : z_W E w2) (hi2 : i2 < 41) {σ σo : zS} {ro : Int32} (hf : fW_takeEntries w0 w1 i1 w2 i2 σ = some (ro, σo)) : z_T l E yX7_takeEntries cX7_takeEntries 7 (some .int) (z_rm 3) (z_QI E ro σo) [.ref (z_ad E (0, w0, 0)), .ref (z_ad E (10, w1, i1)), .ref (z_ad E (20, w2, i2))] σ :=
  z_enter (by decide) (Nat.le_of_ble_eq_true rfl) rfl (fun p e s m below meth c A ls C hr hs hl => wW_takeEntries C hr hV0 hV1 hi1 hV2 hi2 σ _ _ ls hs hl hf)
def fW_takeAppend_33 (w0 : Nat) (w1 : Nat) (i1 : Nat) (w2 : Nat) (i2 : Nat) (x3 : Int32) (σ : zS) : Option (Int32 × zS) :=
  z_bd (fK_cutFrom w1 i1 x3 σ) (fun _ σ3 =>
  z_bd (fW_reply w0 w2 i2 3 0 (if 0 < (if (x3 - 1) < (σ3.1 (10, w1, i1) 7) then (x3 - 1) else (σ3.1 (10, w1, i1) 7)) then (if (x3 - 1) < (σ3.1 (10, w1, i1) 7) then (x3 - 1) else (σ3.1 (10, w1, i1) 7)) else 0) σ3) (fun r4 σ4 =>
  some (r4, σ4)))
def fW_takeAppend_60 (w0 : Nat) (w1 : Nat) (i1 : Nat) (w2 : Nat) (i2 : Nat) (σ : zS) : Option (Int32 × zS) :=
  z_bd (fW_takeEntries w0 w1 i1 w2 i2 σ) (fun r6 σ6 =>
  z_bd (fK_advanceTo w1 i1 (if r6 < (σ6.1 (20, w2, i2) 7) then r6 else (σ6.1 (20, w2, i2) 7)) σ6) (fun _ σ7 =>
  z_bd (fW_reply w0 w2 i2 3 1 r6 σ7) (fun r8 σ8 =>
  some (r8, σ8))))
def fW_takeAppend (w0 : Nat) (w1 : Nat) (i1 : Nat) (w2 : Nat) (i2 : Nat) (σ : zS) : Option (Int32 × zS) :=
  z_let (σ.1 (20, w2, i2) 4) (fun y1 =>
  if (σ.1 (10, w1, i1) 7) < y1 then
    (fW_takeAppend_33 w0 w1 i1 w2 i2 y1 σ)
  else
    (if y1 ≤ (σ.1 (10, w1, i1) 5) then
      (fW_takeAppend_60 w0 w1 i1 w2 i2 σ)
    else
      (z_bd (fK_termOf w1 i1 y1 σ) (fun r9 σ9 =>
      if r9 = (σ9.1 (20, w2, i2) 5) then
        (fW_takeAppend_60 w0 w1 i1 w2 i2 σ9)
      else
        (fW_takeAppend_33 w0 w1 i1 w2 i2 y1 σ9)))))
set_option maxHeartbeats 4000000 in
set_option maxRecDepth 20000 in
theorem wW_takeAppend_33 {w0 : Nat} {w1 : Nat} {i1 : Nat} {w2 : Nat} {i2 : Nat} (C : z_C E RX7 cX7_takeAppend 5 A p s m args meth c) (hr : meth.sig.returnType = (some .int)) (hV0 : z_W E w0) (hV1 : z_W E w1) (hi1 : i1 < 7) (hV2 : z_W E w2) (hi2 : i2 < 41) {ro : Int32} {σo : zS} (x3 : Int32) (σ : zS) (H : Heap) (locs : List Loc) (ls : Array Slot) (hs : z_H E A s σ H locs) (hl : lv_has ls 5 [(0, .ref (z_ad E (0, w0, 0))), (1, .ref (z_ad E (10, w1, i1))), (2, .ref (z_ad E (20, w2, i2))), (3, .int x3)]) (hf : fW_takeAppend_33 w0 w1 i1 w2 i2 x3 σ = some (ro, σo)) : W p l e (z_rm 5) s m args below meth c H locs 0 0 (MQ below (z_QI E ro σo A) args s 0 0 A) (F0 m 33 ls []) := by
  have hx := C.1
  have hb := C.2.1
  unfold fW_takeAppend_33 at hf
  refine lv_aload_n hx hb dX7_takeAppend_33 rfl (lv_at hl 1 rfl) ?_
  refine lv_iload_n hx hb dX7_takeAppend_34 rfl (lv_at hl 3 rfl) ?_
  obtain ⟨r3, σ3, h_3, hf⟩ := z_bds hf
  refine z_goV C hs (z_runV C hs hl.1 (cK_cutFrom l E hV1 hi1 h_3) zcV_RX7_261 (hV1.2.1 i1 hi1 10 (by decide) (by decide)) (z_c10 E _ _ _ _) rfl rfl rfl (by decide) (Nat.le_of_ble_eq_true rfl) dX7_takeAppend_35) (fun H locs hs => ?_)
  refine lv_aload_n hx hb dX7_takeAppend_38 rfl (lv_at hl 0 rfl) ?_
  refine lv_aload_n hx hb dX7_takeAppend_39 rfl (lv_at hl 2 rfl) ?_
  refine lv_iconst (v := 3) hx hb dX7_takeAppend_40 (by decide) ?_
  refine lv_iconst (v := 0) hx hb dX7_takeAppend_41 (by decide) ?_
  refine lv_iconst (v := 0) hx hb dX7_takeAppend_42 (by decide) ?_
  refine lv_aload_n hx hb dX7_takeAppend_43 rfl (lv_at hl 1 rfl) ?_
  refine zg_K_last C hs (hV1.2.1 i1 hi1 10 (by decide) (by decide)) z_k112 dX7_takeAppend_44 ?_
  refine lv_iload_n hx hb dX7_takeAppend_47 rfl (lv_at hl 3 rfl) ?_
  refine lv_iconst (v := 1) hx hb dX7_takeAppend_48 (by decide) ?_
  refine lv_isub hx hb dX7_takeAppend_49 ?_
  refine z_min C hl.1 z_k485 (by decide) (Nat.le_of_ble_eq_true rfl) dX7_takeAppend_50 ?_
  refine z_max C hl.1 z_k625 (by decide) (Nat.le_of_ble_eq_true rfl) dX7_takeAppend_53 ?_
  obtain ⟨r4, σ4, h_4, hf⟩ := z_bds hf
  refine z_goI C hs (z_runV C hs hl.1 (cW_reply l E hV0 hV2 hi2 h_4) zcV_RX7_232 (hV0.1 0 (by decide)) (z_c0 E _ _ _ _) rfl rfl rfl (by decide) (Nat.le_of_ble_eq_true rfl) dX7_takeAppend_56) (fun H locs hs => ?_)
  exact z_reti C hr hs hf dX7_takeAppend_59
set_option maxHeartbeats 4000000 in
set_option maxRecDepth 20000 in
theorem wW_takeAppend_60 {w0 : Nat} {w1 : Nat} {i1 : Nat} {w2 : Nat} {i2 : Nat} (C : z_C E RX7 cX7_takeAppend 5 A p s m args meth c) (hr : meth.sig.returnType = (some .int)) (hV0 : z_W E w0) (hV1 : z_W E w1) (hi1 : i1 < 7) (hV2 : z_W E w2) (hi2 : i2 < 41) {ro : Int32} {σo : zS} (σ : zS) (H : Heap) (locs : List Loc) (ls : Array Slot) (hs : z_H E A s σ H locs) (hl : lv_has ls 5 [(0, .ref (z_ad E (0, w0, 0))), (1, .ref (z_ad E (10, w1, i1))), (2, .ref (z_ad E (20, w2, i2)))]) (hf : fW_takeAppend_60 w0 w1 i1 w2 i2 σ = some (ro, σo)) : W p l e (z_rm 5) s m args below meth c H locs 0 0 (MQ below (z_QI E ro σo A) args s 0 0 A) (F0 m 60 ls []) := by
  have hx := C.1
  have hb := C.2.1
  unfold fW_takeAppend_60 at hf
  refine lv_aload_n hx hb dX7_takeAppend_60 rfl (lv_at hl 0 rfl) ?_
  refine lv_aload_n hx hb dX7_takeAppend_61 rfl (lv_at hl 1 rfl) ?_
  refine lv_aload_n hx hb dX7_takeAppend_62 rfl (lv_at hl 2 rfl) ?_
  obtain ⟨r6, σ6, h_6, hf⟩ := z_bds hf
  refine z_goI C hs (z_runV C hs hl.1 (cW_takeEntries l E hV0 hV1 hi1 hV2 hi2 h_6) zcV_RX7_264 (hV0.1 0 (by decide)) (z_c0 E _ _ _ _) rfl rfl rfl (by decide) (Nat.le_of_ble_eq_true rfl) dX7_takeAppend_63) (fun H locs hs => ?_)
  refine lv_istore (lv' := [(4, .int r6), (0, .ref (z_ad E (0, w0, 0))), (1, .ref (z_ad E (10, w1, i1))), (2, .ref (z_ad E (20, w2, i2)))]) hx hb dX7_takeAppend_66 hl (by decide) rfl (fun ls hl => ?_)
  refine lv_aload_n hx hb dX7_takeAppend_68 rfl (lv_at hl 2 rfl) ?_
  refine lv_aload_n hx hb dX7_takeAppend_69 rfl (lv_at hl 3 rfl) ?_
  refine zg_L_done C hs (hV2.2.2 i2 hi2 20 (by decide) (by decide)) z_k210 dX7_takeAppend_70 ?_
  refine lv_iload hx hb dX7_takeAppend_73 (lv_at hl 0 rfl) ?_
  refine z_min C hl.1 z_k485 (by decide) (Nat.le_of_ble_eq_true rfl) dX7_takeAppend_75 ?_
  obtain ⟨r7, σ7, h_7, hf⟩ := z_bds hf
  refine z_goV C hs (z_runV C hs hl.1 (cK_advanceTo l E hV1 hi1 h_7) zcV_RX7_175 (hV1.2.1 i1 hi1 10 (by decide) (by decide)) (z_c10 E _ _ _ _) rfl rfl rfl (by decide) (Nat.le_of_ble_eq_true rfl) dX7_takeAppend_78) (fun H locs hs => ?_)
  refine lv_aload_n hx hb dX7_takeAppend_81 rfl (lv_at hl 1 rfl) ?_
  refine lv_aload_n hx hb dX7_takeAppend_82 rfl (lv_at hl 3 rfl) ?_
  refine lv_iconst (v := 3) hx hb dX7_takeAppend_83 (by decide) ?_
  refine lv_iconst (v := 1) hx hb dX7_takeAppend_84 (by decide) ?_
  refine lv_iload hx hb dX7_takeAppend_85 (lv_at hl 0 rfl) ?_
  obtain ⟨r8, σ8, h_8, hf⟩ := z_bds hf
  refine z_goI C hs (z_runV C hs hl.1 (cW_reply l E hV0 hV2 hi2 h_8) zcV_RX7_232 (hV0.1 0 (by decide)) (z_c0 E _ _ _ _) rfl rfl rfl (by decide) (Nat.le_of_ble_eq_true rfl) dX7_takeAppend_87) (fun H locs hs => ?_)
  exact z_reti C hr hs hf dX7_takeAppend_90
set_option maxHeartbeats 4000000 in
set_option maxRecDepth 20000 in
theorem wW_takeAppend {w0 : Nat} {w1 : Nat} {i1 : Nat} {w2 : Nat} {i2 : Nat} (C : z_C E RX7 cX7_takeAppend 5 A p s m args meth c) (hr : meth.sig.returnType = (some .int)) (hV0 : z_W E w0) (hV1 : z_W E w1) (hi1 : i1 < 7) (hV2 : z_W E w2) (hi2 : i2 < 41) {ro : Int32} {σo : zS} (σ : zS) (H : Heap) (locs : List Loc) (ls : Array Slot) (hs : z_H E A s σ H locs) (hl : lv_has ls 5 [(0, .ref (z_ad E (0, w0, 0))), (1, .ref (z_ad E (10, w1, i1))), (2, .ref (z_ad E (20, w2, i2)))]) (hf : fW_takeAppend w0 w1 i1 w2 i2 σ = some (ro, σo)) : W p l e (z_rm 5) s m args below meth c H locs 0 0 (MQ below (z_QI E ro σo A) args s 0 0 A) (F0 m 0 ls []) := by
  have hx := C.1
  have hb := C.2.1
  unfold fW_takeAppend at hf
  refine lv_aload_n hx hb dX7_takeAppend_0 rfl (lv_at hl 2 rfl) ?_
  refine zg_L_first C hs (hV2.2.2 i2 hi2 20 (by decide) (by decide)) z_k204 dX7_takeAppend_1 ?_
  refine lv_topi (fun y1 e_y1 => ?_)
  have hf := z_lte e_y1 hf
  refine lv_istore_n (lv' := [(3, .int y1), (0, .ref (z_ad E (0, w0, 0))), (1, .ref (z_ad E (10, w1, i1))), (2, .ref (z_ad E (20, w2, i2)))]) hx hb dX7_takeAppend_4 rfl hl (by decide) rfl (fun ls hl => ?_)
  refine lv_iload_n hx hb dX7_takeAppend_5 rfl (lv_at hl 0 rfl) ?_
  refine lv_aload_n hx hb dX7_takeAppend_6 rfl (lv_at hl 2 rfl) ?_
  refine zg_K_last C hs (hV1.2.1 i1 hi1 10 (by decide) (by decide)) z_k112 dX7_takeAppend_7 ?_
  refine lv_icmp_gt (tgt := 33) hx hb dX7_takeAppend_10 (by decide) (fun c2 => ?_) (fun c2 => ?_)
  · have hf := z_t hf c2
    exact wW_takeAppend_33 C hr hV0 hV1 hi1 hV2 hi2 y1 σ _ _ _ hs (lv_sub hl [1, 2, 3, 0] rfl) hf
  · have hf := z_f hf c2
    refine lv_iload_n hx hb dX7_takeAppend_13 rfl (lv_at hl 0 rfl) ?_
    refine lv_aload_n hx hb dX7_takeAppend_14 rfl (lv_at hl 2 rfl) ?_
    refine zg_K_folded C hs (hV1.2.1 i1 hi1 10 (by decide) (by decide)) z_k108 dX7_takeAppend_15 ?_
    refine lv_icmp_le (tgt := 60) hx hb dX7_takeAppend_18 (by decide) (fun c5 => ?_) (fun c5 => ?_)
    · have hf := z_t hf c5
      exact wW_takeAppend_60 C hr hV0 hV1 hi1 hV2 hi2 σ _ _ _ hs (lv_sub hl [1, 2, 3] rfl) hf
    · have hf := z_f hf c5
      refine lv_aload_n hx hb dX7_takeAppend_21 rfl (lv_at hl 2 rfl) ?_
      refine lv_iload_n hx hb dX7_takeAppend_22 rfl (lv_at hl 0 rfl) ?_
      obtain ⟨r9, σ9, h_9, hf⟩ := z_bds hf
      refine z_goI C hs (z_runV C hs hl.1 (cK_termOf l E hV1 hi1 h_9) zcV_RX7_130 (hV1.2.1 i1 hi1 10 (by decide) (by decide)) (z_c10 E _ _ _ _) rfl rfl rfl (by decide) (Nat.le_of_ble_eq_true rfl) dX7_takeAppend_23) (fun H locs hs => ?_)
      refine lv_aload_n hx hb dX7_takeAppend_26 rfl (lv_at hl 3 rfl) ?_
      refine zg_L_second C hs (hV2.2.2 i2 hi2 20 (by decide) (by decide)) z_k206 dX7_takeAppend_27 ?_
      refine lv_icmp_eq (tgt := 60) hx hb dX7_takeAppend_30 (by decide) (fun c10 => ?_) (fun c10 => ?_)
      · have hf := z_t hf c10
        exact wW_takeAppend_60 C hr hV0 hV1 hi1 hV2 hi2 σ9 _ _ _ hs (lv_sub hl [1, 2, 3] rfl) hf
      · have hf := z_f hf c10
        exact wW_takeAppend_33 C hr hV0 hV1 hi1 hV2 hi2 y1 σ9 _ _ _ hs (lv_sub hl [1, 2, 3, 0] rfl) hf
set_option maxHeartbeats 4000000 in
set_option maxRecDepth 20000 in
theorem cW_takeAppend (l : Launch) (E : zE) {w0 : Nat} {w1 : Nat} {i1 : Nat} {w2 : Nat} {i2 : Nat} (hV0 : z_W E w0) (hV1 : z_W E w1) (hi1 : i1 < 7) (hV2 : z_W E w2) (hi2 : i2 < 41) {σ σo : zS} {ro : Int32} (hf : fW_takeAppend w0 w1 i1 w2 i2 σ = some (ro, σo)) : z_T l E yX7_takeAppend cX7_takeAppend 5 (some .int) (z_rm 5) (z_QI E ro σo) [.ref (z_ad E (0, w0, 0)), .ref (z_ad E (10, w1, i1)), .ref (z_ad E (20, w2, i2))] σ :=
  z_enter (by decide) (Nat.le_of_ble_eq_true rfl) rfl (fun p e s m below meth c A ls C hr hs hl => wW_takeAppend C hr hV0 hV1 hi1 hV2 hi2 σ _ _ ls hs hl hf)
def fW_takeFromLeader (w0 : Nat) (w1 : Nat) (i1 : Nat) (w2 : Nat) (i2 : Nat) (σ : zS) : Option (Int32 × zS) :=
  if (σ.1 (10, w1, i1) 2) ≤ (σ.1 (20, w2, i2) 3) then
    (if (σ.1 (10, w1, i1) 4) = 2 then
      (some (0, σ))
    else
      (z_bd (fK_follow w1 i1 σ) (fun _ σ3 =>
      if (σ3.1 (20, w2, i2) 0) = 4 then
        (z_bd (fW_takeFolding w0 w1 i1 w2 i2 σ3) (fun r6 σ6 =>
        some (r6, σ6)))
      else
        (z_bd (fW_takeAppend w0 w1 i1 w2 i2 σ3) (fun r5 σ5 =>
        some (r5, σ5))))))
  else
    (z_bd (fW_reply w0 w2 i2 3 0 0 σ) (fun r7 σ7 =>
    some (r7, σ7)))
set_option maxHeartbeats 4000000 in
set_option maxRecDepth 20000 in
theorem wW_takeFromLeader {w0 : Nat} {w1 : Nat} {i1 : Nat} {w2 : Nat} {i2 : Nat} (C : z_C E RX7 cX7_takeFromLeader 3 A p s m args meth c) (hr : meth.sig.returnType = (some .int)) (hV0 : z_W E w0) (hV1 : z_W E w1) (hi1 : i1 < 7) (hV2 : z_W E w2) (hi2 : i2 < 41) {ro : Int32} {σo : zS} (σ : zS) (H : Heap) (locs : List Loc) (ls : Array Slot) (hs : z_H E A s σ H locs) (hl : lv_has ls 3 [(0, .ref (z_ad E (0, w0, 0))), (1, .ref (z_ad E (10, w1, i1))), (2, .ref (z_ad E (20, w2, i2)))]) (hf : fW_takeFromLeader w0 w1 i1 w2 i2 σ = some (ro, σo)) : W p l e (z_rm 6) s m args below meth c H locs 0 0 (MQ below (z_QI E ro σo A) args s 0 0 A) (F0 m 0 ls []) := by
  have hx := C.1
  have hb := C.2.1
  unfold fW_takeFromLeader at hf
  refine lv_aload_n hx hb dX7_takeFromLeader_0 rfl (lv_at hl 2 rfl) ?_
  refine zg_L_term C hs (hV2.2.2 i2 hi2 20 (by decide) (by decide)) z_k202 dX7_takeFromLeader_1 ?_
  refine lv_aload_n hx hb dX7_takeFromLeader_4 rfl (lv_at hl 1 rfl) ?_
  refine zg_K_term C hs (hV1.2.1 i1 hi1 10 (by decide) (by decide)) z_k100 dX7_takeFromLeader_5 ?_
  refine lv_icmp_ge (tgt := 20) hx hb dX7_takeFromLeader_8 (by decide) (fun c1 => ?_) (fun c1 => ?_)
  · have hf := z_t hf c1
    refine lv_aload_n hx hb dX7_takeFromLeader_20 rfl (lv_at hl 1 rfl) ?_
    refine zg_K_role C hs (hV1.2.1 i1 hi1 10 (by decide) (by decide)) z_k104 dX7_takeFromLeader_21 ?_
    refine lv_iconst (v := 2) hx hb dX7_takeFromLeader_24 (by decide) ?_
    refine lv_icmp_ne (tgt := 30) hx hb dX7_takeFromLeader_25 (by decide) (fun c2 => ?_) (fun c2 => ?_)
    · have hf := z_f hf c2
      refine lv_aload_n hx hb dX7_takeFromLeader_30 rfl (lv_at hl 1 rfl) ?_
      obtain ⟨r3, σ3, h_3, hf⟩ := z_bds hf
      refine z_goV C hs (z_runV C hs hl.1 (cK_follow l E hV1 hi1 h_3) zcV_RX7_245 (hV1.2.1 i1 hi1 10 (by decide) (by decide)) (z_c10 E _ _ _ _) rfl rfl rfl (by decide) (Nat.le_of_ble_eq_true rfl) dX7_takeFromLeader_31) (fun H locs hs => ?_)
      refine lv_aload_n hx hb dX7_takeFromLeader_34 rfl (lv_at hl 2 rfl) ?_
      refine zg_L_kind C hs (hV2.2.2 i2 hi2 20 (by decide) (by decide)) z_k196 dX7_takeFromLeader_35 ?_
      refine lv_iconst (v := 4) hx hb dX7_takeFromLeader_38 (by decide) ?_
      refine lv_icmp_ne (tgt := 49) hx hb dX7_takeFromLeader_39 (by decide) (fun c4 => ?_) (fun c4 => ?_)
      · have hf := z_f hf c4
        refine lv_aload_n hx hb dX7_takeFromLeader_49 rfl (lv_at hl 0 rfl) ?_
        refine lv_aload_n hx hb dX7_takeFromLeader_50 rfl (lv_at hl 1 rfl) ?_
        refine lv_aload_n hx hb dX7_takeFromLeader_51 rfl (lv_at hl 2 rfl) ?_
        obtain ⟨r5, σ5, h_5, hf⟩ := z_bds hf
        refine z_goI C hs (z_runV C hs hl.1 (cW_takeAppend l E hV0 hV1 hi1 hV2 hi2 h_5) zcV_RX7_251 (hV0.1 0 (by decide)) (z_c0 E _ _ _ _) rfl rfl rfl (by decide) (Nat.le_of_ble_eq_true rfl) dX7_takeFromLeader_52) (fun H locs hs => ?_)
        exact z_reti C hr hs hf dX7_takeFromLeader_55
      · have hf := z_t hf c4
        refine lv_aload_n hx hb dX7_takeFromLeader_42 rfl (lv_at hl 0 rfl) ?_
        refine lv_aload_n hx hb dX7_takeFromLeader_43 rfl (lv_at hl 1 rfl) ?_
        refine lv_aload_n hx hb dX7_takeFromLeader_44 rfl (lv_at hl 2 rfl) ?_
        obtain ⟨r6, σ6, h_6, hf⟩ := z_bds hf
        refine z_goI C hs (z_runV C hs hl.1 (cW_takeFolding l E hV0 hV1 hi1 hV2 hi2 h_6) zcV_RX7_248 (hV0.1 0 (by decide)) (z_c0 E _ _ _ _) rfl rfl rfl (by decide) (Nat.le_of_ble_eq_true rfl) dX7_takeFromLeader_45) (fun H locs hs => ?_)
        exact z_reti C hr hs hf dX7_takeFromLeader_48
    · have hf := z_t hf c2
      refine lv_iconst (v := 0) hx hb dX7_takeFromLeader_28 (by decide) ?_
      exact z_reti C hr hs hf dX7_takeFromLeader_29
  · have hf := z_f hf c1
    refine lv_aload_n hx hb dX7_takeFromLeader_11 rfl (lv_at hl 0 rfl) ?_
    refine lv_aload_n hx hb dX7_takeFromLeader_12 rfl (lv_at hl 2 rfl) ?_
    refine lv_iconst (v := 3) hx hb dX7_takeFromLeader_13 (by decide) ?_
    refine lv_iconst (v := 0) hx hb dX7_takeFromLeader_14 (by decide) ?_
    refine lv_iconst (v := 0) hx hb dX7_takeFromLeader_15 (by decide) ?_
    obtain ⟨r7, σ7, h_7, hf⟩ := z_bds hf
    refine z_goI C hs (z_runV C hs hl.1 (cW_reply l E hV0 hV2 hi2 h_7) zcV_RX7_232 (hV0.1 0 (by decide)) (z_c0 E _ _ _ _) rfl rfl rfl (by decide) (Nat.le_of_ble_eq_true rfl) dX7_takeFromLeader_16) (fun H locs hs => ?_)
    exact z_reti C hr hs hf dX7_takeFromLeader_19
set_option maxHeartbeats 4000000 in
set_option maxRecDepth 20000 in
theorem cW_takeFromLeader (l : Launch) (E : zE) {w0 : Nat} {w1 : Nat} {i1 : Nat} {w2 : Nat} {i2 : Nat} (hV0 : z_W E w0) (hV1 : z_W E w1) (hi1 : i1 < 7) (hV2 : z_W E w2) (hi2 : i2 < 41) {σ σo : zS} {ro : Int32} (hf : fW_takeFromLeader w0 w1 i1 w2 i2 σ = some (ro, σo)) : z_T l E yX7_takeFromLeader cX7_takeFromLeader 3 (some .int) (z_rm 6) (z_QI E ro σo) [.ref (z_ad E (0, w0, 0)), .ref (z_ad E (10, w1, i1)), .ref (z_ad E (20, w2, i2))] σ :=
  z_enter (by decide) (Nat.le_of_ble_eq_true rfl) rfl (fun p e s m below meth c A ls C hr hs hl => wW_takeFromLeader C hr hV0 hV1 hi1 hV2 hi2 σ _ _ ls hs hl hf)
def fW_deliverFrom_62 (w0 : Nat) (i2 : Nat) (i3 : Nat) (σ : zS) : Option (Int32 × zS) :=
  if (σ.1 (20, w0, i2) 0) = 0 then
    (z_bd (fW_takeAsk w0 w0 i3 w0 i2 σ) (fun r9 σ9 =>
    some (r9, σ9)))
  else
    (if (σ.1 (20, w0, i2) 0) = 1 then
      (z_bd (fW_takeBallot w0 w0 i3 w0 i2 σ) (fun r11 σ11 =>
      some (r11, σ11)))
    else
      (if (σ.1 (20, w0, i2) 0) = 2 then
        (z_bd (fW_takeFromLeader w0 w0 i3 w0 i2 σ) (fun r13 σ13 =>
        some (r13, σ13)))
      else
        (if (σ.1 (20, w0, i2) 0) = 3 then
          (z_bd (fW_takeAnswer w0 w0 i3 w0 i2 σ) (fun r15 σ15 =>
          some (r15, σ15)))
        else
          (z_bd (fW_takeFromLeader w0 w0 i3 w0 i2 σ) (fun r16 σ16 =>
          some (r16, σ16))))))
def fW_deliverFrom (w0 : Nat) (x1 : Int32) (σ : zS) : Option (Int32 × zS) :=
  z_bd (fP_takeOut w0 x1 σ) (fun r1 σ1 =>
  z_om r1 (none) (fun j1 => z_bd (fW_isUp w0 (σ1.1 (20, w0, j1) 2) σ1) (fun r2 σ2 =>
  if r2 = 0 then
    (some (0, σ2))
  else
    (z_bd (fW_isKeeper w0 (σ2.1 (20, w0, j1) 1) σ2) (fun r4 σ4 =>
    if r4 = 0 then
      (some (0, σ4))
    else
      (if z_in (σ4.1 (20, w0, j1) 2) 7 = true then (
      if (σ4.1 (20, w0, j1) 3) ≤ (σ4.1 (10, w0, (σ4.1 (20, w0, j1) 2).toNatClampNeg) 2) then
        (fW_deliverFrom_62 w0 j1 ((σ4.1 (20, w0, j1) 2).toNatClampNeg) σ4)
      else
        (z_bd (fK_enterTerm w0 ((σ4.1 (20, w0, j1) 2).toNatClampNeg) (σ4.1 (20, w0, j1) 3) σ4) (fun _ σ17 =>
        fW_deliverFrom_62 w0 j1 ((σ4.1 (20, w0, j1) 2).toNatClampNeg) σ17))) else none))))))
set_option maxHeartbeats 4000000 in
set_option maxRecDepth 20000 in
theorem wW_deliverFrom_62 {w0 : Nat} (C : z_C E RX7 cX7_deliverFrom 4 A p s m args meth c) (hr : meth.sig.returnType = (some .int)) (hV0 : z_W E w0) {ro : Int32} {σo : zS} (i2 : Nat) (i3 : Nat) (σ : zS) (H : Heap) (locs : List Loc) (ls : Array Slot) (hi2 : i2 < 41) (hi3 : i3 < 7) (hs : z_H E A s σ H locs) (hl : lv_has ls 4 [(0, .ref (z_ad E (0, w0, 0))), (2, .ref (z_ad E (20, w0, i2))), (3, .ref (z_ad E (10, w0, i3)))]) (hf : fW_deliverFrom_62 w0 i2 i3 σ = some (ro, σo)) : W p l e (z_rm 7) s m args below meth c H locs 0 0 (MQ below (z_QI E ro σo A) args s 0 0 A) (F0 m 62 ls []) := by
  have hx := C.1
  have hb := C.2.1
  unfold fW_deliverFrom_62 at hf
  refine lv_aload_n hx hb dX7_deliverFrom_62 rfl (lv_at hl 1 rfl) ?_
  refine zg_L_kind C hs (hV0.2.2 i2 hi2 20 (by decide) (by decide)) z_k196 dX7_deliverFrom_63 ?_
  by_cases c8 : (σ.1 (20, w0, i2) 0) = 0
  · have hf := z_t hf c8
    refine lv_tableIn (off := 30) (tgt := 96) hx hb dX7_deliverFrom_66 (by rw [c8]; decide) (by rw [c8]; decide) (by rw [c8]; decide) (by decide) ?_
    refine lv_aload_n hx hb dX7_deliverFrom_96 rfl (lv_at hl 0 rfl) ?_
    refine lv_aload_n hx hb dX7_deliverFrom_97 rfl (lv_at hl 2 rfl) ?_
    refine lv_aload_n hx hb dX7_deliverFrom_98 rfl (lv_at hl 1 rfl) ?_
    obtain ⟨r9, σ9, h_9, hf⟩ := z_bds hf
    refine z_goI C hs (z_runV C hs hl.1 (cW_takeAsk l E hV0 hV0 hi3 hV0 hi2 h_9) zcV_RX7_212 (hV0.1 0 (by decide)) (z_c0 E _ _ _ _) rfl rfl rfl (by decide) (Nat.le_of_ble_eq_true rfl) dX7_deliverFrom_99) (fun H locs hs => ?_)
    exact z_reti C hr hs hf dX7_deliverFrom_102
  · have hf := z_f hf c8
    by_cases c10 : (σ.1 (20, w0, i2) 0) = 1
    · have hf := z_t hf c10
      refine lv_tableIn (off := 37) (tgt := 103) hx hb dX7_deliverFrom_66 (by rw [c10]; decide) (by rw [c10]; decide) (by rw [c10]; decide) (by decide) ?_
      refine lv_aload_n hx hb dX7_deliverFrom_103 rfl (lv_at hl 0 rfl) ?_
      refine lv_aload_n hx hb dX7_deliverFrom_104 rfl (lv_at hl 2 rfl) ?_
      refine lv_aload_n hx hb dX7_deliverFrom_105 rfl (lv_at hl 1 rfl) ?_
      obtain ⟨r11, σ11, h_11, hf⟩ := z_bds hf
      refine z_goI C hs (z_runV C hs hl.1 (cW_takeBallot l E hV0 hV0 hi3 hV0 hi2 h_11) zcV_RX7_216 (hV0.1 0 (by decide)) (z_c0 E _ _ _ _) rfl rfl rfl (by decide) (Nat.le_of_ble_eq_true rfl) dX7_deliverFrom_106) (fun H locs hs => ?_)
      exact z_reti C hr hs hf dX7_deliverFrom_109
    · have hf := z_f hf c10
      by_cases c12 : (σ.1 (20, w0, i2) 0) = 2
      · have hf := z_t hf c12
        refine lv_tableIn (off := 51) (tgt := 117) hx hb dX7_deliverFrom_66 (by rw [c12]; decide) (by rw [c12]; decide) (by rw [c12]; decide) (by decide) ?_
        refine lv_aload_n hx hb dX7_deliverFrom_117 rfl (lv_at hl 0 rfl) ?_
        refine lv_aload_n hx hb dX7_deliverFrom_118 rfl (lv_at hl 2 rfl) ?_
        refine lv_aload_n hx hb dX7_deliverFrom_119 rfl (lv_at hl 1 rfl) ?_
        obtain ⟨r13, σ13, h_13, hf⟩ := z_bds hf
        refine z_goI C hs (z_runV C hs hl.1 (cW_takeFromLeader l E hV0 hV0 hi3 hV0 hi2 h_13) zcV_RX7_222 (hV0.1 0 (by decide)) (z_c0 E _ _ _ _) rfl rfl rfl (by decide) (Nat.le_of_ble_eq_true rfl) dX7_deliverFrom_120) (fun H locs hs => ?_)
        exact z_reti C hr hs hf dX7_deliverFrom_123
      · have hf := z_f hf c12
        by_cases c14 : (σ.1 (20, w0, i2) 0) = 3
        · have hf := z_t hf c14
          refine lv_tableIn (off := 44) (tgt := 110) hx hb dX7_deliverFrom_66 (by rw [c14]; decide) (by rw [c14]; decide) (by rw [c14]; decide) (by decide) ?_
          refine lv_aload_n hx hb dX7_deliverFrom_110 rfl (lv_at hl 0 rfl) ?_
          refine lv_aload_n hx hb dX7_deliverFrom_111 rfl (lv_at hl 2 rfl) ?_
          refine lv_aload_n hx hb dX7_deliverFrom_112 rfl (lv_at hl 1 rfl) ?_
          obtain ⟨r15, σ15, h_15, hf⟩ := z_bds hf
          refine z_goI C hs (z_runV C hs hl.1 (cW_takeAnswer l E hV0 hV0 hi3 hV0 hi2 h_15) zcV_RX7_219 (hV0.1 0 (by decide)) (z_c0 E _ _ _ _) rfl rfl rfl (by decide) (Nat.le_of_ble_eq_true rfl) dX7_deliverFrom_113) (fun H locs hs => ?_)
          exact z_reti C hr hs hf dX7_deliverFrom_116
        · have hf := z_f hf c14
          have hq : ((σ.1 (20, w0, i2) 0)).toInt < 0 ∨ 3 < ((σ.1 (20, w0, i2) 0)).toInt := by
            have q0 := z_ne (k := 0) (n := 0) (by decide +kernel) c8
            have q1 := z_ne (k := 1) (n := 1) (by decide +kernel) c10
            have q2 := z_ne (k := 2) (n := 2) (by decide +kernel) c12
            have q3 := z_ne (k := 3) (n := 3) (by decide +kernel) c14
            omega
          refine lv_tableOut (tgt := 117) hx hb dX7_deliverFrom_66 hq (by decide) ?_
          refine lv_aload_n hx hb dX7_deliverFrom_117 rfl (lv_at hl 0 rfl) ?_
          refine lv_aload_n hx hb dX7_deliverFrom_118 rfl (lv_at hl 2 rfl) ?_
          refine lv_aload_n hx hb dX7_deliverFrom_119 rfl (lv_at hl 1 rfl) ?_
          obtain ⟨r16, σ16, h_16, hf⟩ := z_bds hf
          refine z_goI C hs (z_runV C hs hl.1 (cW_takeFromLeader l E hV0 hV0 hi3 hV0 hi2 h_16) zcV_RX7_222 (hV0.1 0 (by decide)) (z_c0 E _ _ _ _) rfl rfl rfl (by decide) (Nat.le_of_ble_eq_true rfl) dX7_deliverFrom_120) (fun H locs hs => ?_)
          exact z_reti C hr hs hf dX7_deliverFrom_123
set_option maxHeartbeats 4000000 in
set_option maxRecDepth 20000 in
theorem wW_deliverFrom {w0 : Nat} {x1 : Int32} (C : z_C E RX7 cX7_deliverFrom 4 A p s m args meth c) (hr : meth.sig.returnType = (some .int)) (hV0 : z_W E w0) {ro : Int32} {σo : zS} (σ : zS) (H : Heap) (locs : List Loc) (ls : Array Slot) (hs : z_H E A s σ H locs) (hl : lv_has ls 4 [(0, .ref (z_ad E (0, w0, 0))), (1, .int x1)]) (hf : fW_deliverFrom w0 x1 σ = some (ro, σo)) : W p l e (z_rm 7) s m args below meth c H locs 0 0 (MQ below (z_QI E ro σo A) args s 0 0 A) (F0 m 0 ls []) := by
  have hx := C.1
  have hb := C.2.1
  unfold fW_deliverFrom at hf
  refine lv_aload_n hx hb dX7_deliverFrom_0 rfl (lv_at hl 0 rfl) ?_
  refine zg_W_post C hs (hV0.1 0 (by decide)) z_k283 dX7_deliverFrom_1 ?_
  refine lv_iload_n hx hb dX7_deliverFrom_4 rfl (lv_at hl 1 rfl) ?_
  obtain ⟨r1, σ1, h_1, hf⟩ := z_bds hf
  refine z_goL C hs (z_runV C hs hl.1 (cP_takeOut l E hV0 h_1) zcV_RX7_201 (hV0.1 2 (by decide)) (z_c2 E _ _ _ _) rfl rfl rfl (by decide) (Nat.le_of_ble_eq_true rfl) dX7_deliverFrom_5) (fun H locs hq_1 hs => ?_)
  cases r1 with
  | none =>
    have hf := z_omn hf
    refine lv_astore_nN (lv' := [(2, .null), (0, .ref (z_ad E (0, w0, 0))), (1, .int x1)]) hx hb dX7_deliverFrom_8 rfl hl (by decide) rfl (fun ls hl => ?_)
    refine lv_aload_n hx hb dX7_deliverFrom_9 rfl (lv_at hl 1 rfl) ?_
    refine lv_aload_nN hx hb dX7_deliverFrom_10 rfl (lv_at hl 0 rfl) ?_
    cases hf
  | some j1 =>
    have hf := z_oms hf
    refine lv_astore_n (lv' := [(2, .ref (z_ad E (20, w0, j1))), (0, .ref (z_ad E (0, w0, 0))), (1, .int x1)]) hx hb dX7_deliverFrom_8 rfl hl (by decide) rfl (fun ls hl => ?_)
    refine lv_aload_n hx hb dX7_deliverFrom_9 rfl (lv_at hl 1 rfl) ?_
    refine lv_aload_n hx hb dX7_deliverFrom_10 rfl (lv_at hl 0 rfl) ?_
    refine zg_L_receiver C hs (hV0.2.2 j1 (hq_1 j1 rfl) 20 (by decide) (by decide)) z_k200 dX7_deliverFrom_11 ?_
    obtain ⟨r2, σ2, h_2, hf⟩ := z_bds hf
    refine z_goI C hs (z_runV C hs hl.1 (cW_isUp l E hV0 h_2) zcV_RX7_86 (hV0.1 0 (by decide)) (z_c0 E _ _ _ _) rfl rfl rfl (by decide) (Nat.le_of_ble_eq_true rfl) dX7_deliverFrom_14) (fun H locs hs => ?_)
    refine lv_if_eq (tgt := 31) hx hb dX7_deliverFrom_17 (by decide) (fun c3 => ?_) (fun c3 => ?_)
    · have hf := z_t hf c3
      refine lv_iconst (v := 0) hx hb dX7_deliverFrom_31 (by decide) ?_
      exact z_reti C hr hs hf dX7_deliverFrom_32
    · have hf := z_f hf c3
      refine lv_aload_n hx hb dX7_deliverFrom_20 rfl (lv_at hl 1 rfl) ?_
      refine lv_aload_n hx hb dX7_deliverFrom_21 rfl (lv_at hl 0 rfl) ?_
      refine zg_L_sender C hs (hV0.2.2 j1 (hq_1 j1 rfl) 20 (by decide) (by decide)) z_k198 dX7_deliverFrom_22 ?_
      obtain ⟨r4, σ4, h_4, hf⟩ := z_bds hf
      refine z_goI C hs (z_runV C hs hl.1 (cW_isKeeper l E hV0 h_4) zcV_RX7_78 (hV0.1 0 (by decide)) (z_c0 E _ _ _ _) rfl rfl rfl (by decide) (Nat.le_of_ble_eq_true rfl) dX7_deliverFrom_25) (fun H locs hs => ?_)
      refine lv_if_ne (tgt := 33) hx hb dX7_deliverFrom_28 (by decide) (fun c5 => ?_) (fun c5 => ?_)
      · have hf := z_f hf c5
        refine lv_aload_n hx hb dX7_deliverFrom_33 rfl (lv_at hl 1 rfl) ?_
        refine zg_W_keepers C hs (hV0.1 0 (by decide)) z_k281 dX7_deliverFrom_34 ?_
        refine lv_aload_n hx hb dX7_deliverFrom_37 rfl (lv_at hl 0 rfl) ?_
        refine zg_L_receiver C hs (hV0.2.2 j1 (hq_1 j1 rfl) 20 (by decide) (by decide)) z_k200 dX7_deliverFrom_38 ?_
        obtain ⟨g6, hf⟩ := z_gd hf
        refine z_aald C hs (hV0.1 1 (by decide)) (z_c1 E _ _ _ _) (t0 := 4) rfl g6 rfl dX7_deliverFrom_41 ?_
        refine lv_astore_n (lv' := [(3, .ref (z_ad E (10, w0, (σ4.1 (20, w0, j1) 2).toNatClampNeg))), (2, .ref (z_ad E (20, w0, j1))), (0, .ref (z_ad E (0, w0, 0))), (1, .int x1)]) hx hb dX7_deliverFrom_42 rfl hl (by decide) rfl (fun ls hl => ?_)
        refine lv_aload_n hx hb dX7_deliverFrom_43 rfl (lv_at hl 1 rfl) ?_
        refine zg_L_term C hs (hV0.2.2 j1 (hq_1 j1 rfl) 20 (by decide) (by decide)) z_k202 dX7_deliverFrom_44 ?_
        refine lv_aload_n hx hb dX7_deliverFrom_47 rfl (lv_at hl 0 rfl) ?_
        refine zg_K_term C hs (hV0.2.1 (σ4.1 (20, w0, j1) 2).toNatClampNeg (z_in_lt g6) 10 (by decide) (by decide)) z_k100 dX7_deliverFrom_48 ?_
        refine lv_icmp_le (tgt := 62) hx hb dX7_deliverFrom_51 (by decide) (fun c7 => ?_) (fun c7 => ?_)
        · have hf := z_t hf c7
          exact wW_deliverFrom_62 C hr hV0 j1 ((σ4.1 (20, w0, j1) 2).toNatClampNeg) σ4 _ _ _ (hq_1 j1 rfl) (z_in_lt g6) hs (lv_sub hl [2, 1, 0] rfl) hf
        · have hf := z_f hf c7
          refine lv_aload_n hx hb dX7_deliverFrom_54 rfl (lv_at hl 0 rfl) ?_
          refine lv_aload_n hx hb dX7_deliverFrom_55 rfl (lv_at hl 1 rfl) ?_
          refine zg_L_term C hs (hV0.2.2 j1 (hq_1 j1 rfl) 20 (by decide) (by decide)) z_k202 dX7_deliverFrom_56 ?_
          obtain ⟨r17, σ17, h_17, hf⟩ := z_bds hf
          refine z_goV C hs (z_runV C hs hl.1 (cK_enterTerm l E hV0 (z_in_lt g6) h_17) zcV_RX7_101 (hV0.2.1 (σ4.1 (20, w0, j1) 2).toNatClampNeg (z_in_lt g6) 10 (by decide) (by decide)) (z_c10 E _ _ _ _) rfl rfl rfl (by decide) (Nat.le_of_ble_eq_true rfl) dX7_deliverFrom_59) (fun H locs hs => ?_)
          exact wW_deliverFrom_62 C hr hV0 j1 ((σ4.1 (20, w0, j1) 2).toNatClampNeg) σ17 _ _ _ (hq_1 j1 rfl) (z_in_lt g6) hs (lv_sub hl [2, 1, 0] rfl) hf
      · have hf := z_t hf c5
        refine lv_iconst (v := 0) hx hb dX7_deliverFrom_31 (by decide) ?_
        exact z_reti C hr hs hf dX7_deliverFrom_32
set_option maxHeartbeats 4000000 in
set_option maxRecDepth 20000 in
theorem cW_deliverFrom (l : Launch) (E : zE) {w0 : Nat} {x1 : Int32} (hV0 : z_W E w0) {σ σo : zS} {ro : Int32} (hf : fW_deliverFrom w0 x1 σ = some (ro, σo)) : z_T l E yX7_deliverFrom cX7_deliverFrom 4 (some .int) (z_rm 7) (z_QI E ro σo) [.ref (z_ad E (0, w0, 0)), .int x1] σ :=
  z_enter (by decide) (Nat.le_of_ble_eq_true rfl) rfl (fun p e s m below meth c A ls C hr hs hl => wW_deliverFrom C hr hV0 σ _ _ ls hs hl hf)
def fX_deliver (x1 : Int32) (σ : zS) : Option (Int32 × zS) :=
  z_bd (fP_isFull 0 x1 σ) (fun r1 σ1 =>
  if r1 = 0 then
    (some ((-1), σ1))
  else
    (z_bd (fW_deliverFrom 0 x1 σ1) (fun r3 σ3 =>
    some (r3, σ3))))
set_option maxHeartbeats 4000000 in
set_option maxRecDepth 20000 in
theorem wX_deliver {x1 : Int32} (C : z_C E RX8 cX8_deliver 2 A p s m args meth c) (hr : meth.sig.returnType = (some .int)) (hB : z_B E) (hW0 : z_W E 0) {ro : Int32} {σo : zS} (σ : zS) (H : Heap) (locs : List Loc) (ls : Array Slot) (hs : z_H E A s σ H locs) (hl : lv_has ls 2 [(0, .ref (z_ad E (30, 0, 0))), (1, .int x1)]) (hf : fX_deliver x1 σ = some (ro, σo)) : W p l e (z_rm 8) s m args below meth c H locs 0 0 (MQ below (z_QI E ro σo A) args s 0 0 A) (F0 m 0 ls []) := by
  have hx := C.1
  have hb := C.2.1
  unfold fX_deliver at hf
  refine lv_aload_n hx hb dX8_deliver_0 rfl (lv_at hl 0 rfl) ?_
  refine zg_X_world C hs (hB 30 (by decide) (by decide)) z_k343 dX8_deliver_1 ?_
  refine zg_W_post C hs (hW0.1 0 (by decide)) z_k284 dX8_deliver_4 ?_
  refine lv_iload_n hx hb dX8_deliver_7 rfl (lv_at hl 1 rfl) ?_
  obtain ⟨r1, σ1, h_1, hf⟩ := z_bds hf
  refine z_goI C hs (z_runV C hs hl.1 (cP_isFull l E hW0 h_1) zcV_RX8_77 (hW0.1 2 (by decide)) (z_c2 E _ _ _ _) rfl rfl rfl (by decide) (Nat.le_of_ble_eq_true rfl) dX8_deliver_8) (fun H locs hs => ?_)
  refine lv_if_eq (tgt := 25) hx hb dX8_deliver_11 (by decide) (fun c2 => ?_) (fun c2 => ?_)
  · have hf := z_t hf c2
    refine lv_iconst (v := (-1)) hx hb dX8_deliver_25 (by decide) ?_
    exact z_reti C hr hs hf dX8_deliver_26
  · have hf := z_f hf c2
    refine lv_aload_n hx hb dX8_deliver_14 rfl (lv_at hl 0 rfl) ?_
    refine zg_X_world C hs (hB 30 (by decide) (by decide)) z_k343 dX8_deliver_15 ?_
    refine lv_iload_n hx hb dX8_deliver_18 rfl (lv_at hl 1 rfl) ?_
    obtain ⟨r3, σ3, h_3, hf⟩ := z_bds hf
    refine z_goI C hs (z_runV C hs hl.1 (cW_deliverFrom l E hW0 h_3) zcV_RX8_82 (hW0.1 0 (by decide)) (z_c0 E _ _ _ _) rfl rfl rfl (by decide) (Nat.le_of_ble_eq_true rfl) dX8_deliver_19) (fun H locs hs => ?_)
    refine lv_goto (tgt := 26) hx hb dX8_deliver_22 (by decide) ?_
    exact z_reti C hr hs hf dX8_deliver_26
set_option maxHeartbeats 4000000 in
set_option maxRecDepth 20000 in
theorem cX_deliver (l : Launch) (E : zE) {x1 : Int32} (hB : z_B E) (hW0 : z_W E 0) {σ σo : zS} {ro : Int32} (hf : fX_deliver x1 σ = some (ro, σo)) : z_T l E yX8_deliver cX8_deliver 2 (some .int) (z_rm 8) (z_QI E ro σo) [.ref (z_ad E (30, 0, 0)), .int x1] σ :=
  z_enter (by decide) (Nat.le_of_ble_eq_true rfl) rfl (fun p e s m below meth c A ls C hr hs hl => wX_deliver C hr hB hW0 σ _ _ ls hs hl hf)
def fX_drop (x1 : Int32) (σ : zS) : Option (Int32 × zS) :=
  z_bd (fP_isFull 0 x1 σ) (fun r1 σ1 =>
  if r1 = 0 then
    (some ((-1), σ1))
  else
    (if z_in x1 40 = true then (
    z_let (σ1.1 (20, 0, x1.toNatClampNeg) 0) (fun y4 =>
    if z_in x1 40 = true then (
    z_let (z_up σ1 (20, 0, x1.toNatClampNeg) 0 ((-1))) (fun σ6 =>
    some (y4, σ6))) else none)) else none))
set_option maxHeartbeats 4000000 in
set_option maxRecDepth 20000 in
theorem wX_drop {x1 : Int32} (C : z_C E RX8 cX8_drop 3 A p s m args meth c) (hr : meth.sig.returnType = (some .int)) (hB : z_B E) (hW0 : z_W E 0) {ro : Int32} {σo : zS} (σ : zS) (H : Heap) (locs : List Loc) (ls : Array Slot) (hs : z_H E A s σ H locs) (hl : lv_has ls 3 [(0, .ref (z_ad E (30, 0, 0))), (1, .int x1)]) (hf : fX_drop x1 σ = some (ro, σo)) : W p l e (z_rm 2) s m args below meth c H locs 0 0 (MQ below (z_QI E ro σo A) args s 0 0 A) (F0 m 0 ls []) := by
  have hx := C.1
  have hb := C.2.1
  unfold fX_drop at hf
  refine lv_aload_n hx hb dX8_drop_0 rfl (lv_at hl 0 rfl) ?_
  refine zg_X_world C hs (hB 30 (by decide) (by decide)) z_k343 dX8_drop_1 ?_
  refine zg_W_post C hs (hW0.1 0 (by decide)) z_k284 dX8_drop_4 ?_
  refine lv_iload_n hx hb dX8_drop_7 rfl (lv_at hl 1 rfl) ?_
  obtain ⟨r1, σ1, h_1, hf⟩ := z_bds hf
  refine z_goI C hs (z_runV C hs hl.1 (cP_isFull l E hW0 h_1) zcV_RX8_77 (hW0.1 2 (by decide)) (z_c2 E _ _ _ _) rfl rfl rfl (by decide) (Nat.le_of_ble_eq_true rfl) dX8_drop_8) (fun H locs hs => ?_)
  refine lv_if_ne (tgt := 16) hx hb dX8_drop_11 (by decide) (fun c2 => ?_) (fun c2 => ?_)
  · have hf := z_f hf c2
    refine lv_aload_n hx hb dX8_drop_16 rfl (lv_at hl 0 rfl) ?_
    refine zg_X_world C hs (hB 30 (by decide) (by decide)) z_k343 dX8_drop_17 ?_
    refine zg_W_post C hs (hW0.1 0 (by decide)) z_k284 dX8_drop_20 ?_
    refine zg_P_letters C hs (hW0.1 2 (by decide)) z_k245 dX8_drop_23 ?_
    refine lv_iload_n hx hb dX8_drop_26 rfl (lv_at hl 1 rfl) ?_
    obtain ⟨g3, hf⟩ := z_gd hf
    refine z_aald C hs (hW0.1 3 (by decide)) (z_c3 E _ _ _ _) (t0 := 5) rfl g3 rfl dX8_drop_27 ?_
    refine zg_L_kind C hs (hW0.2.2 x1.toNatClampNeg (Nat.lt_succ_of_lt (z_in_lt g3)) 20 (by decide) (by decide)) z_k195 dX8_drop_28 ?_
    refine lv_topi (fun y4 e_y4 => ?_)
    have hf := z_lte e_y4 hf
    refine lv_istore_n (lv' := [(2, .int y4), (0, .ref (z_ad E (30, 0, 0))), (1, .int x1)]) hx hb dX8_drop_31 rfl hl (by decide) rfl (fun ls hl => ?_)
    refine lv_aload_n hx hb dX8_drop_32 rfl (lv_at hl 1 rfl) ?_
    refine zg_X_world C hs (hB 30 (by decide) (by decide)) z_k343 dX8_drop_33 ?_
    refine zg_W_post C hs (hW0.1 0 (by decide)) z_k284 dX8_drop_36 ?_
    refine zg_P_letters C hs (hW0.1 2 (by decide)) z_k245 dX8_drop_39 ?_
    refine lv_iload_n hx hb dX8_drop_42 rfl (lv_at hl 2 rfl) ?_
    obtain ⟨g5, hf⟩ := z_gd hf
    refine z_aald C hs (hW0.1 3 (by decide)) (z_c3 E _ _ _ _) (t0 := 5) rfl g5 rfl dX8_drop_43 ?_
    refine lv_iconst (v := (-1)) hx hb dX8_drop_44 (by decide) ?_
    refine zp_L_kind C hs (hW0.2.2 x1.toNatClampNeg (Nat.lt_succ_of_lt (z_in_lt g5)) 20 (by decide) (by decide)) z_k195 dX8_drop_45 (fun H locs hs => ?_)
    obtain ⟨σ6, -, hs, hf⟩ := z_top hs hf
    refine lv_iload_n hx hb dX8_drop_48 rfl (lv_at hl 0 rfl) ?_
    exact z_reti C hr hs hf dX8_drop_49
  · have hf := z_t hf c2
    refine lv_iconst (v := (-1)) hx hb dX8_drop_14 (by decide) ?_
    exact z_reti C hr hs hf dX8_drop_15
set_option maxHeartbeats 4000000 in
set_option maxRecDepth 20000 in
theorem cX_drop (l : Launch) (E : zE) {x1 : Int32} (hB : z_B E) (hW0 : z_W E 0) {σ σo : zS} {ro : Int32} (hf : fX_drop x1 σ = some (ro, σo)) : z_T l E yX8_drop cX8_drop 3 (some .int) (z_rm 2) (z_QI E ro σo) [.ref (z_ad E (30, 0, 0)), .int x1] σ :=
  z_enter (by decide) (Nat.le_of_ble_eq_true rfl) rfl (fun p e s m below meth c A ls C hr hs hl => wX_drop C hr hB hW0 σ _ _ ls hs hl hf)
def fX_twice (x1 : Int32) (σ : zS) : Option (Int32 × zS) :=
  z_bd (fP_leastEmpty 0 σ) (fun r1 σ1 =>
  z_bd (fP_isFull 0 x1 σ1) (fun r2 σ2 =>
  if r2 = 0 then
    (some ((-1), σ2))
  else
    (if r1 = ((-1)) then
      (some ((-1), σ2))
    else
      (if z_in r1 40 = true then (
      if z_in x1 40 = true then (
      z_bd (fL_copyFrom 0 (r1.toNatClampNeg) 0 (x1.toNatClampNeg) σ2) (fun _ σ7 =>
      some (r1, σ7))) else none) else none))))
set_option maxHeartbeats 4000000 in
set_option maxRecDepth 20000 in
theorem wX_twice {x1 : Int32} (C : z_C E RX8 cX8_twice 3 A p s m args meth c) (hr : meth.sig.returnType = (some .int)) (hB : z_B E) (hW0 : z_W E 0) {ro : Int32} {σo : zS} (σ : zS) (H : Heap) (locs : List Loc) (ls : Array Slot) (hs : z_H E A s σ H locs) (hl : lv_has ls 3 [(0, .ref (z_ad E (30, 0, 0))), (1, .int x1)]) (hf : fX_twice x1 σ = some (ro, σo)) : W p l e (z_rm 4) s m args below meth c H locs 0 0 (MQ below (z_QI E ro σo A) args s 0 0 A) (F0 m 0 ls []) := by
  have hx := C.1
  have hb := C.2.1
  unfold fX_twice at hf
  refine lv_aload_n hx hb dX8_twice_0 rfl (lv_at hl 0 rfl) ?_
  refine zg_X_world C hs (hB 30 (by decide) (by decide)) z_k343 dX8_twice_1 ?_
  refine zg_W_post C hs (hW0.1 0 (by decide)) z_k284 dX8_twice_4 ?_
  obtain ⟨r1, σ1, h_1, hf⟩ := z_bds hf
  refine z_goI C hs (z_runV C hs hl.1 (cP_leastEmpty l E hW0 h_1) zcV_RX8_94 (hW0.1 2 (by decide)) (z_c2 E _ _ _ _) rfl rfl rfl (by decide) (Nat.le_of_ble_eq_true rfl) dX8_twice_7) (fun H locs hs => ?_)
  refine lv_istore_n (lv' := [(2, .int r1), (0, .ref (z_ad E (30, 0, 0))), (1, .int x1)]) hx hb dX8_twice_10 rfl hl (by decide) rfl (fun ls hl => ?_)
  refine lv_aload_n hx hb dX8_twice_11 rfl (lv_at hl 1 rfl) ?_
  refine zg_X_world C hs (hB 30 (by decide) (by decide)) z_k343 dX8_twice_12 ?_
  refine zg_W_post C hs (hW0.1 0 (by decide)) z_k284 dX8_twice_15 ?_
  refine lv_iload_n hx hb dX8_twice_18 rfl (lv_at hl 2 rfl) ?_
  obtain ⟨r2, σ2, h_2, hf⟩ := z_bds hf
  refine z_goI C hs (z_runV C hs hl.1 (cP_isFull l E hW0 h_2) zcV_RX8_77 (hW0.1 2 (by decide)) (z_c2 E _ _ _ _) rfl rfl rfl (by decide) (Nat.le_of_ble_eq_true rfl) dX8_twice_19) (fun H locs hs => ?_)
  refine lv_if_eq (tgt := 30) hx hb dX8_twice_22 (by decide) (fun c3 => ?_) (fun c3 => ?_)
  · have hf := z_t hf c3
    refine lv_iconst (v := (-1)) hx hb dX8_twice_30 (by decide) ?_
    exact z_reti C hr hs hf dX8_twice_31
  · have hf := z_f hf c3
    refine lv_iload_n hx hb dX8_twice_25 rfl (lv_at hl 0 rfl) ?_
    refine lv_iconst (v := (-1)) hx hb dX8_twice_26 (by decide) ?_
    refine lv_icmp_ne (tgt := 32) hx hb dX8_twice_27 (by decide) (fun c4 => ?_) (fun c4 => ?_)
    · have hf := z_f hf c4
      refine lv_aload_n hx hb dX8_twice_32 rfl (lv_at hl 1 rfl) ?_
      refine zg_X_world C hs (hB 30 (by decide) (by decide)) z_k343 dX8_twice_33 ?_
      refine zg_W_post C hs (hW0.1 0 (by decide)) z_k284 dX8_twice_36 ?_
      refine zg_P_letters C hs (hW0.1 2 (by decide)) z_k245 dX8_twice_39 ?_
      refine lv_iload_n hx hb dX8_twice_42 rfl (lv_at hl 0 rfl) ?_
      obtain ⟨g5, hf⟩ := z_gd hf
      refine z_aald C hs (hW0.1 3 (by decide)) (z_c3 E _ _ _ _) (t0 := 5) rfl g5 rfl dX8_twice_43 ?_
      refine lv_aload_n hx hb dX8_twice_44 rfl (lv_at hl 1 rfl) ?_
      refine zg_X_world C hs (hB 30 (by decide) (by decide)) z_k343 dX8_twice_45 ?_
      refine zg_W_post C hs (hW0.1 0 (by decide)) z_k284 dX8_twice_48 ?_
      refine zg_P_letters C hs (hW0.1 2 (by decide)) z_k245 dX8_twice_51 ?_
      refine lv_iload_n hx hb dX8_twice_54 rfl (lv_at hl 2 rfl) ?_
      obtain ⟨g6, hf⟩ := z_gd hf
      refine z_aald C hs (hW0.1 3 (by decide)) (z_c3 E _ _ _ _) (t0 := 5) rfl g6 rfl dX8_twice_55 ?_
      obtain ⟨r7, σ7, h_7, hf⟩ := z_bds hf
      refine z_goV C hs (z_runV C hs hl.1 (cL_copyFrom l E hW0 (Nat.lt_succ_of_lt (z_in_lt g5)) hW0 (Nat.lt_succ_of_lt (z_in_lt g6)) h_7) zcV_RX8_98 (hW0.2.2 r1.toNatClampNeg (Nat.lt_succ_of_lt (z_in_lt g5)) 20 (by decide) (by decide)) (z_c20 E _ _ _ _) rfl rfl rfl (by decide) (Nat.le_of_ble_eq_true rfl) dX8_twice_56) (fun H locs hs => ?_)
      refine lv_iload_n hx hb dX8_twice_59 rfl (lv_at hl 0 rfl) ?_
      exact z_reti C hr hs hf dX8_twice_60
    · have hf := z_t hf c4
      refine lv_iconst (v := (-1)) hx hb dX8_twice_30 (by decide) ?_
      exact z_reti C hr hs hf dX8_twice_31
set_option maxHeartbeats 4000000 in
set_option maxRecDepth 20000 in
theorem cX_twice (l : Launch) (E : zE) {x1 : Int32} (hB : z_B E) (hW0 : z_W E 0) {σ σo : zS} {ro : Int32} (hf : fX_twice x1 σ = some (ro, σo)) : z_T l E yX8_twice cX8_twice 3 (some .int) (z_rm 4) (z_QI E ro σo) [.ref (z_ad E (30, 0, 0)), .int x1] σ :=
  z_enter (by decide) (Nat.le_of_ble_eq_true rfl) rfl (fun p e s m below meth c A ls C hr hs hl => wX_twice C hr hB hW0 σ _ _ ls hs hl hf)
def fK_goDown (w0 : Nat) (i0 : Nat) (σ : zS) : Option (Unit × zS) :=
  z_let (z_up σ (10, w0, i0) 1 1) (fun σ1 =>
  z_bd (fK_follow w0 i0 σ1) (fun _ σ2 =>
  z_let (z_up σ2 (10, w0, i0) 8 (σ2.1 (10, w0, i0) 5)) (fun σ3 =>
  z_bd (fS_copyFrom (14, w0, i0) (12, w0, i0) σ3) (fun _ σ4 =>
  some ((), σ4)))))
set_option maxHeartbeats 4000000 in
set_option maxRecDepth 20000 in
theorem wK_goDown {w0 : Nat} {i0 : Nat} (C : z_C E RX1 cX1_goDown 1 A p s m args meth c) (hr : meth.sig.returnType = none) (hV0 : z_W E w0) (hi0 : i0 < 7) {ro : Unit} {σo : zS} (σ : zS) (H : Heap) (locs : List Loc) (ls : Array Slot) (hs : z_H E A s σ H locs) (hl : lv_has ls 1 [(0, .ref (z_ad E (10, w0, i0)))]) (hf : fK_goDown w0 i0 σ = some (ro, σo)) : W p l e (z_rm 3) s m args below meth c H locs 0 0 (MQ below (z_QV E ro σo A) args s 0 0 A) (F0 m 0 ls []) := by
  have hx := C.1
  have hb := C.2.1
  unfold fK_goDown at hf
  refine lv_aload_n hx hb dX1_goDown_0 rfl (lv_at hl 0 rfl) ?_
  refine lv_iconst (v := 1) hx hb dX1_goDown_1 (by decide) ?_
  refine zp_K_fallen C hs (hV0.2.1 i0 hi0 10 (by decide) (by decide)) z_k96 (by decide +kernel) dX1_goDown_2 (fun H locs hs => ?_)
  obtain ⟨σ1, -, hs, hf⟩ := z_top hs hf
  refine lv_aload_n hx hb dX1_goDown_5 rfl (lv_at hl 0 rfl) ?_
  obtain ⟨r2, σ2, h_2, hf⟩ := z_bds hf
  refine z_goV C hs (z_runV C hs hl.1 (cK_follow l E hV0 hi0 h_2) zcV_RX1_66 (hV0.2.1 i0 hi0 10 (by decide) (by decide)) (z_c10 E _ _ _ _) rfl rfl rfl (by decide) (Nat.le_of_ble_eq_true rfl) dX1_goDown_6) (fun H locs hs => ?_)
  refine lv_aload_n hx hb dX1_goDown_9 rfl (lv_at hl 0 rfl) ?_
  refine lv_aload_n hx hb dX1_goDown_10 rfl (lv_at hl 0 rfl) ?_
  refine zg_K_folded C hs (hV0.2.1 i0 hi0 10 (by decide) (by decide)) z_k105 dX1_goDown_11 ?_
  refine zp_K_done C hs (hV0.2.1 i0 hi0 10 (by decide) (by decide)) z_k114 dX1_goDown_14 (fun H locs hs => ?_)
  obtain ⟨σ3, -, hs, hf⟩ := z_top hs hf
  refine lv_aload_n hx hb dX1_goDown_17 rfl (lv_at hl 0 rfl) ?_
  refine zg_K_doneState C hs (hV0.2.1 i0 hi0 10 (by decide) (by decide)) z_k127 dX1_goDown_18 ?_
  refine lv_aload_n hx hb dX1_goDown_21 rfl (lv_at hl 0 rfl) ?_
  refine zg_K_foldState C hs (hV0.2.1 i0 hi0 10 (by decide) (by decide)) z_k125 dX1_goDown_22 ?_
  obtain ⟨r4, σ4, h_4, hf⟩ := z_bds hf
  refine z_goV C hs (z_runV C hs hl.1 (cS_copyFrom l E ⟨(show z_isS (14, w0, i0) from (Or.inr (Or.inl rfl))), (hV0.2.1 i0 hi0 14 (by decide) (by decide)), (hV0.2.1 i0 hi0 15 (by decide) (by decide))⟩ ⟨(show z_isS (12, w0, i0) from (Or.inl rfl)), (hV0.2.1 i0 hi0 12 (by decide) (by decide)), (hV0.2.1 i0 hi0 13 (by decide) (by decide))⟩ h_4) zcV_RX1_84 (hV0.2.1 i0 hi0 14 (by decide) (by decide)) (z_cS E _ _ (show z_isS (14, w0, i0) from (Or.inr (Or.inl rfl)))) rfl rfl rfl (by decide) (Nat.le_of_ble_eq_true rfl) dX1_goDown_25) (fun H locs hs => ?_)
  exact z_retv C hr hs hf dX1_goDown_28
set_option maxHeartbeats 4000000 in
set_option maxRecDepth 20000 in
theorem cK_goDown (l : Launch) (E : zE) {w0 : Nat} {i0 : Nat} (hV0 : z_W E w0) (hi0 : i0 < 7) {σ σo : zS} {ro : Unit} (hf : fK_goDown w0 i0 σ = some (ro, σo)) : z_T l E yX1_goDown cX1_goDown 1 none (z_rm 3) (z_QV E ro σo) [.ref (z_ad E (10, w0, i0))] σ :=
  z_enter (by decide) (Nat.le_of_ble_eq_true rfl) rfl (fun p e s m below meth c A ls C hr hs hl => wK_goDown C hr hV0 hi0 σ _ _ ls hs hl hf)
def fX_fall (x1 : Int32) (σ : zS) : Option (Int32 × zS) :=
  z_bd (fW_isUp 0 x1 σ) (fun r1 σ1 =>
  if r1 = 0 then
    (some (0, σ1))
  else
    (if z_in x1 7 = true then (
    z_bd (fK_goDown 0 (x1.toNatClampNeg) σ1) (fun _ σ4 =>
    some (1, σ4))) else none))
set_option maxHeartbeats 4000000 in
set_option maxRecDepth 20000 in
theorem wX_fall {x1 : Int32} (C : z_C E RX8 cX8_fall 2 A p s m args meth c) (hr : meth.sig.returnType = (some .boolean)) (hB : z_B E) (hW0 : z_W E 0) {ro : Int32} {σo : zS} (σ : zS) (H : Heap) (locs : List Loc) (ls : Array Slot) (hs : z_H E A s σ H locs) (hl : lv_has ls 2 [(0, .ref (z_ad E (30, 0, 0))), (1, .int x1)]) (hf : fX_fall x1 σ = some (ro, σo)) : W p l e (z_rm 4) s m args below meth c H locs 0 0 (MQ below (z_QI E ro σo A) args s 0 0 A) (F0 m 0 ls []) := by
  have hx := C.1
  have hb := C.2.1
  unfold fX_fall at hf
  refine lv_aload_n hx hb dX8_fall_0 rfl (lv_at hl 0 rfl) ?_
  refine zg_X_world C hs (hB 30 (by decide) (by decide)) z_k343 dX8_fall_1 ?_
  refine lv_iload_n hx hb dX8_fall_4 rfl (lv_at hl 1 rfl) ?_
  obtain ⟨r1, σ1, h_1, hf⟩ := z_bds hf
  refine z_goI C hs (z_runV C hs hl.1 (cW_isUp l E hW0 h_1) zcV_RX8_102 (hW0.1 0 (by decide)) (z_c0 E _ _ _ _) rfl rfl rfl (by decide) (Nat.le_of_ble_eq_true rfl) dX8_fall_5) (fun H locs hs => ?_)
  refine lv_if_ne (tgt := 13) hx hb dX8_fall_8 (by decide) (fun c2 => ?_) (fun c2 => ?_)
  · have hf := z_f hf c2
    refine lv_aload_n hx hb dX8_fall_13 rfl (lv_at hl 0 rfl) ?_
    refine zg_X_world C hs (hB 30 (by decide) (by decide)) z_k343 dX8_fall_14 ?_
    refine zg_W_keepers C hs (hW0.1 0 (by decide)) z_k282 dX8_fall_17 ?_
    refine lv_iload_n hx hb dX8_fall_20 rfl (lv_at hl 1 rfl) ?_
    obtain ⟨g3, hf⟩ := z_gd hf
    refine z_aald C hs (hW0.1 1 (by decide)) (z_c1 E _ _ _ _) (t0 := 4) rfl g3 rfl dX8_fall_21 ?_
    obtain ⟨r4, σ4, h_4, hf⟩ := z_bds hf
    refine z_goV C hs (z_runV C hs hl.1 (cK_goDown l E hW0 (z_in_lt g3) h_4) zcV_RX8_109 (hW0.2.1 x1.toNatClampNeg (z_in_lt g3) 10 (by decide) (by decide)) (z_c10 E _ _ _ _) rfl rfl rfl (by decide) (Nat.le_of_ble_eq_true rfl) dX8_fall_22) (fun H locs hs => ?_)
    refine lv_iconst (v := 1) hx hb dX8_fall_25 (by decide) ?_
    exact z_retz C hr hs (by decide +kernel) hf dX8_fall_26
  · have hf := z_t hf c2
    refine lv_iconst (v := 0) hx hb dX8_fall_11 (by decide) ?_
    exact z_retz C hr hs (by decide +kernel) hf dX8_fall_12
set_option maxHeartbeats 4000000 in
set_option maxRecDepth 20000 in
theorem cX_fall (l : Launch) (E : zE) {x1 : Int32} (hB : z_B E) (hW0 : z_W E 0) {σ σo : zS} {ro : Int32} (hf : fX_fall x1 σ = some (ro, σo)) : z_T l E yX8_fall cX8_fall 2 (some .boolean) (z_rm 4) (z_QI E ro σo) [.ref (z_ad E (30, 0, 0)), .int x1] σ :=
  z_enter (by decide) (Nat.le_of_ble_eq_true rfl) rfl (fun p e s m below meth c A ls C hr hs hl => wX_fall C hr hB hW0 σ _ _ ls hs hl hf)
def fX_rise (x1 : Int32) (σ : zS) : Option (Int32 × zS) :=
  z_bd (fW_isKeeper 0 x1 σ) (fun r1 σ1 =>
  if r1 = 0 then
    (some (0, σ1))
  else
    (if z_in x1 7 = true then (
    if (σ1.1 (10, 0, x1.toNatClampNeg) 1) = 0 then
      (some (0, σ1))
    else
      (if z_in x1 7 = true then (
      z_let (z_up σ1 (10, 0, x1.toNatClampNeg) 1 0) (fun σ6 =>
      some (1, σ6))) else none)) else none))
set_option maxHeartbeats 4000000 in
set_option maxRecDepth 20000 in
theorem wX_rise {x1 : Int32} (C : z_C E RX8 cX8_rise 2 A p s m args meth c) (hr : meth.sig.returnType = (some .boolean)) (hB : z_B E) (hW0 : z_W E 0) {ro : Int32} {σo : zS} (σ : zS) (H : Heap) (locs : List Loc) (ls : Array Slot) (hs : z_H E A s σ H locs) (hl : lv_has ls 2 [(0, .ref (z_ad E (30, 0, 0))), (1, .int x1)]) (hf : fX_rise x1 σ = some (ro, σo)) : W p l e (z_rm 2) s m args below meth c H locs 0 0 (MQ below (z_QI E ro σo A) args s 0 0 A) (F0 m 0 ls []) := by
  have hx := C.1
  have hb := C.2.1
  unfold fX_rise at hf
  refine lv_aload_n hx hb dX8_rise_0 rfl (lv_at hl 0 rfl) ?_
  refine zg_X_world C hs (hB 30 (by decide) (by decide)) z_k343 dX8_rise_1 ?_
  refine lv_iload_n hx hb dX8_rise_4 rfl (lv_at hl 1 rfl) ?_
  obtain ⟨r1, σ1, h_1, hf⟩ := z_bds hf
  refine z_goI C hs (z_runV C hs hl.1 (cW_isKeeper l E hW0 h_1) zcV_RX8_66 (hW0.1 0 (by decide)) (z_c0 E _ _ _ _) rfl rfl rfl (by decide) (Nat.le_of_ble_eq_true rfl) dX8_rise_5) (fun H locs hs => ?_)
  refine lv_if_eq (tgt := 26) hx hb dX8_rise_8 (by decide) (fun c2 => ?_) (fun c2 => ?_)
  · have hf := z_t hf c2
    refine lv_iconst (v := 0) hx hb dX8_rise_26 (by decide) ?_
    exact z_retz C hr hs (by decide +kernel) hf dX8_rise_27
  · have hf := z_f hf c2
    refine lv_aload_n hx hb dX8_rise_11 rfl (lv_at hl 0 rfl) ?_
    refine zg_X_world C hs (hB 30 (by decide) (by decide)) z_k343 dX8_rise_12 ?_
    refine zg_W_keepers C hs (hW0.1 0 (by decide)) z_k282 dX8_rise_15 ?_
    refine lv_iload_n hx hb dX8_rise_18 rfl (lv_at hl 1 rfl) ?_
    obtain ⟨g3, hf⟩ := z_gd hf
    refine z_aald C hs (hW0.1 1 (by decide)) (z_c1 E _ _ _ _) (t0 := 4) rfl g3 rfl dX8_rise_19 ?_
    refine zg_K_fallen C hs (hW0.2.1 x1.toNatClampNeg (z_in_lt g3) 10 (by decide) (by decide)) z_k98 dX8_rise_20 ?_
    refine lv_if_ne (tgt := 28) hx hb dX8_rise_23 (by decide) (fun c4 => ?_) (fun c4 => ?_)
    · have hf := z_f hf c4
      refine lv_aload_n hx hb dX8_rise_28 rfl (lv_at hl 0 rfl) ?_
      refine zg_X_world C hs (hB 30 (by decide) (by decide)) z_k343 dX8_rise_29 ?_
      refine zg_W_keepers C hs (hW0.1 0 (by decide)) z_k282 dX8_rise_32 ?_
      refine lv_iload_n hx hb dX8_rise_35 rfl (lv_at hl 1 rfl) ?_
      obtain ⟨g5, hf⟩ := z_gd hf
      refine z_aald C hs (hW0.1 1 (by decide)) (z_c1 E _ _ _ _) (t0 := 4) rfl g5 rfl dX8_rise_36 ?_
      refine lv_iconst (v := 0) hx hb dX8_rise_37 (by decide) ?_
      refine zp_K_fallen C hs (hW0.2.1 x1.toNatClampNeg (z_in_lt g5) 10 (by decide) (by decide)) z_k98 (by decide +kernel) dX8_rise_38 (fun H locs hs => ?_)
      obtain ⟨σ6, -, hs, hf⟩ := z_top hs hf
      refine lv_iconst (v := 1) hx hb dX8_rise_41 (by decide) ?_
      exact z_retz C hr hs (by decide +kernel) hf dX8_rise_42
    · have hf := z_t hf c4
      refine lv_iconst (v := 0) hx hb dX8_rise_26 (by decide) ?_
      exact z_retz C hr hs (by decide +kernel) hf dX8_rise_27
set_option maxHeartbeats 4000000 in
set_option maxRecDepth 20000 in
theorem cX_rise (l : Launch) (E : zE) {x1 : Int32} (hB : z_B E) (hW0 : z_W E 0) {σ σo : zS} {ro : Int32} (hf : fX_rise x1 σ = some (ro, σo)) : z_T l E yX8_rise cX8_rise 2 (some .boolean) (z_rm 2) (z_QI E ro σo) [.ref (z_ad E (30, 0, 0)), .int x1] σ :=
  z_enter (by decide) (Nat.le_of_ble_eq_true rfl) rfl (fun p e s m below meth c A ls C hr hs hl => wX_rise C hr hB hW0 σ _ _ ls hs hl hf)
def fW_isLeading (w0 : Nat) (x1 : Int32) (σ : zS) : Option (Int32 × zS) :=
  z_bd (fW_isUp w0 x1 σ) (fun r1 σ1 =>
  if r1 = 0 then
    (some (0, σ1))
  else
    (if z_in x1 7 = true then (
    if (σ1.1 (10, w0, x1.toNatClampNeg) 4) = 2 then
      (some (1, σ1))
    else
      (some (0, σ1))) else none))
set_option maxHeartbeats 4000000 in
set_option maxRecDepth 20000 in
theorem wW_isLeading {w0 : Nat} {x1 : Int32} (C : z_C E RX7 cX7_isLeading 2 A p s m args meth c) (hr : meth.sig.returnType = (some .boolean)) (hV0 : z_W E w0) {ro : Int32} {σo : zS} (σ : zS) (H : Heap) (locs : List Loc) (ls : Array Slot) (hs : z_H E A s σ H locs) (hl : lv_has ls 2 [(0, .ref (z_ad E (0, w0, 0))), (1, .int x1)]) (hf : fW_isLeading w0 x1 σ = some (ro, σo)) : W p l e (z_rm 3) s m args below meth c H locs 0 0 (MQ below (z_QI E ro σo A) args s 0 0 A) (F0 m 0 ls []) := by
  have hx := C.1
  have hb := C.2.1
  unfold fW_isLeading at hf
  refine lv_aload_n hx hb dX7_isLeading_0 rfl (lv_at hl 0 rfl) ?_
  refine lv_iload_n hx hb dX7_isLeading_1 rfl (lv_at hl 1 rfl) ?_
  obtain ⟨r1, σ1, h_1, hf⟩ := z_bds hf
  refine z_goI C hs (z_runV C hs hl.1 (cW_isUp l E hV0 h_1) zcV_RX7_86 (hV0.1 0 (by decide)) (z_c0 E _ _ _ _) rfl rfl rfl (by decide) (Nat.le_of_ble_eq_true rfl) dX7_isLeading_2) (fun H locs hs => ?_)
  refine lv_if_eq (tgt := 25) hx hb dX7_isLeading_5 (by decide) (fun c2 => ?_) (fun c2 => ?_)
  · have hf := z_t hf c2
    refine lv_iconst (v := 0) hx hb dX7_isLeading_25 (by decide) ?_
    exact z_retz C hr hs (by decide +kernel) hf dX7_isLeading_26
  · have hf := z_f hf c2
    refine lv_aload_n hx hb dX7_isLeading_8 rfl (lv_at hl 0 rfl) ?_
    refine zg_W_keepers C hs (hV0.1 0 (by decide)) z_k281 dX7_isLeading_9 ?_
    refine lv_iload_n hx hb dX7_isLeading_12 rfl (lv_at hl 1 rfl) ?_
    obtain ⟨g3, hf⟩ := z_gd hf
    refine z_aald C hs (hV0.1 1 (by decide)) (z_c1 E _ _ _ _) (t0 := 4) rfl g3 rfl dX7_isLeading_13 ?_
    refine zg_K_role C hs (hV0.2.1 x1.toNatClampNeg (z_in_lt g3) 10 (by decide) (by decide)) z_k104 dX7_isLeading_14 ?_
    refine lv_iconst (v := 2) hx hb dX7_isLeading_17 (by decide) ?_
    refine lv_icmp_ne (tgt := 25) hx hb dX7_isLeading_18 (by decide) (fun c4 => ?_) (fun c4 => ?_)
    · have hf := z_f hf c4
      refine lv_iconst (v := 0) hx hb dX7_isLeading_25 (by decide) ?_
      exact z_retz C hr hs (by decide +kernel) hf dX7_isLeading_26
    · have hf := z_t hf c4
      refine lv_iconst (v := 1) hx hb dX7_isLeading_21 (by decide) ?_
      refine lv_goto (tgt := 26) hx hb dX7_isLeading_22 (by decide) ?_
      exact z_retz C hr hs (by decide +kernel) hf dX7_isLeading_26
set_option maxHeartbeats 4000000 in
set_option maxRecDepth 20000 in
theorem cW_isLeading (l : Launch) (E : zE) {w0 : Nat} {x1 : Int32} (hV0 : z_W E w0) {σ σo : zS} {ro : Int32} (hf : fW_isLeading w0 x1 σ = some (ro, σo)) : z_T l E yX7_isLeading cX7_isLeading 2 (some .boolean) (z_rm 3) (z_QI E ro σo) [.ref (z_ad E (0, w0, 0)), .int x1] σ :=
  z_enter (by decide) (Nat.le_of_ble_eq_true rfl) rfl (fun p e s m below meth c A ls C hr hs hl => wW_isLeading C hr hV0 σ _ _ ls hs hl hf)
def fX_isWhat (x0 : Int32) (σ : zS) : Option (Int32 × zS) :=
  if x0 < 0 then
    (some (0, σ))
  else
    (if 3 < x0 then
      (some (0, σ))
    else
      (some (1, σ)))
set_option maxHeartbeats 4000000 in
set_option maxRecDepth 20000 in
theorem wX_isWhat {x0 : Int32} (C : z_C E RX8 cX8_isWhat 1 A p s m args meth c) (hr : meth.sig.returnType = (some .boolean)) {ro : Int32} {σo : zS} (σ : zS) (H : Heap) (locs : List Loc) (ls : Array Slot) (hs : z_H E A s σ H locs) (hl : lv_has ls 1 [(0, .int x0)]) (hf : fX_isWhat x0 σ = some (ro, σo)) : W p l e (z_rm 1) s m args below meth c H locs 0 0 (MQ below (z_QI E ro σo A) args s 0 0 A) (F0 m 0 ls []) := by
  have hx := C.1
  have hb := C.2.1
  unfold fX_isWhat at hf
  refine lv_iload_n hx hb dX8_isWhat_0 rfl (lv_at hl 0 rfl) ?_
  refine lv_if_lt (tgt := 13) hx hb dX8_isWhat_1 (by decide) (fun c1 => ?_) (fun c1 => ?_)
  · have hf := z_t hf c1
    refine lv_iconst (v := 0) hx hb dX8_isWhat_13 (by decide) ?_
    exact z_retz C hr hs (by decide +kernel) hf dX8_isWhat_14
  · have hf := z_f hf c1
    refine lv_iload_n hx hb dX8_isWhat_4 rfl (lv_at hl 0 rfl) ?_
    refine lv_iconst (v := 3) hx hb dX8_isWhat_5 (by decide) ?_
    refine lv_icmp_gt (tgt := 13) hx hb dX8_isWhat_6 (by decide) (fun c2 => ?_) (fun c2 => ?_)
    · have hf := z_t hf c2
      refine lv_iconst (v := 0) hx hb dX8_isWhat_13 (by decide) ?_
      exact z_retz C hr hs (by decide +kernel) hf dX8_isWhat_14
    · have hf := z_f hf c2
      refine lv_iconst (v := 1) hx hb dX8_isWhat_9 (by decide) ?_
      refine lv_goto (tgt := 14) hx hb dX8_isWhat_10 (by decide) ?_
      exact z_retz C hr hs (by decide +kernel) hf dX8_isWhat_14
set_option maxHeartbeats 4000000 in
set_option maxRecDepth 20000 in
theorem cX_isWhat (l : Launch) (E : zE) {x0 : Int32} {σ σo : zS} {ro : Int32} (hf : fX_isWhat x0 σ = some (ro, σo)) : z_T l E yX8_isWhat cX8_isWhat 1 (some .boolean) (z_rm 1) (z_QI E ro σo) [.int x0] σ :=
  z_enter (by decide) (Nat.le_of_ble_eq_true rfl) rfl (fun p e s m below meth c A ls C hr hs hl => wX_isWhat C hr σ _ _ ls hs hl hf)
def fX_canBe (x0 : Int32) (x1 : Int32) (x2 : Int32) (x3 : Int32) (σ : zS) : Option (Int32 × zS) :=
  z_bd (fX_isClient x0 σ) (fun r1 σ1 =>
  if r1 = 0 then
    (some (0, σ1))
  else
    (if x1 < 1 then
      (some (0, σ1))
    else
      (if 99 < x1 then
        (some (0, σ1))
      else
        (z_bd (fX_isWhat x2 σ1) (fun r5 σ5 =>
        if r5 = 0 then
          (some (0, σ5))
        else
          (z_bd (fX_isCell x3 σ5) (fun r7 σ7 =>
          if r7 = 0 then
            (some (0, σ7))
          else
            (some (1, σ7)))))))))
set_option maxHeartbeats 4000000 in
set_option maxRecDepth 20000 in
theorem wX_canBe {x0 : Int32} {x1 : Int32} {x2 : Int32} {x3 : Int32} (C : z_C E RX8 cX8_canBe 4 A p s m args meth c) (hr : meth.sig.returnType = (some .boolean)) {ro : Int32} {σo : zS} (σ : zS) (H : Heap) (locs : List Loc) (ls : Array Slot) (hs : z_H E A s σ H locs) (hl : lv_has ls 4 [(0, .int x0), (1, .int x1), (2, .int x2), (3, .int x3)]) (hf : fX_canBe x0 x1 x2 x3 σ = some (ro, σo)) : W p l e (z_rm 2) s m args below meth c H locs 0 0 (MQ below (z_QI E ro σo A) args s 0 0 A) (F0 m 0 ls []) := by
  have hx := C.1
  have hb := C.2.1
  unfold fX_canBe at hf
  refine lv_iload_n hx hb dX8_canBe_0 rfl (lv_at hl 0 rfl) ?_
  obtain ⟨r1, σ1, h_1, hf⟩ := z_bds hf
  refine z_goI C hs (z_runS C hs hl.1 (cX_isClient l E h_1) zcS_RX8_182 rfl rfl rfl (by decide) (Nat.le_of_ble_eq_true rfl) dX8_canBe_1) (fun H locs hs => ?_)
  refine lv_if_eq (tgt := 36) hx hb dX8_canBe_4 (by decide) (fun c2 => ?_) (fun c2 => ?_)
  · have hf := z_t hf c2
    refine lv_iconst (v := 0) hx hb dX8_canBe_36 (by decide) ?_
    exact z_retz C hr hs (by decide +kernel) hf dX8_canBe_37
  · have hf := z_f hf c2
    refine lv_iload_n hx hb dX8_canBe_7 rfl (lv_at hl 1 rfl) ?_
    refine lv_iconst (v := 1) hx hb dX8_canBe_8 (by decide) ?_
    refine lv_icmp_lt (tgt := 36) hx hb dX8_canBe_9 (by decide) (fun c3 => ?_) (fun c3 => ?_)
    · have hf := z_t hf c3
      refine lv_iconst (v := 0) hx hb dX8_canBe_36 (by decide) ?_
      exact z_retz C hr hs (by decide +kernel) hf dX8_canBe_37
    · have hf := z_f hf c3
      refine lv_iload_n hx hb dX8_canBe_12 rfl (lv_at hl 1 rfl) ?_
      refine lv_bipush (v := 99) hx hb dX8_canBe_13 (by decide) ?_
      refine lv_icmp_gt (tgt := 36) hx hb dX8_canBe_15 (by decide) (fun c4 => ?_) (fun c4 => ?_)
      · have hf := z_t hf c4
        refine lv_iconst (v := 0) hx hb dX8_canBe_36 (by decide) ?_
        exact z_retz C hr hs (by decide +kernel) hf dX8_canBe_37
      · have hf := z_f hf c4
        refine lv_iload_n hx hb dX8_canBe_18 rfl (lv_at hl 2 rfl) ?_
        obtain ⟨r5, σ5, h_5, hf⟩ := z_bds hf
        refine z_goI C hs (z_runS C hs hl.1 (cX_isWhat l E h_5) zcS_RX8_202 rfl rfl rfl (by decide) (Nat.le_of_ble_eq_true rfl) dX8_canBe_19) (fun H locs hs => ?_)
        refine lv_if_eq (tgt := 36) hx hb dX8_canBe_22 (by decide) (fun c6 => ?_) (fun c6 => ?_)
        · have hf := z_t hf c6
          refine lv_iconst (v := 0) hx hb dX8_canBe_36 (by decide) ?_
          exact z_retz C hr hs (by decide +kernel) hf dX8_canBe_37
        · have hf := z_f hf c6
          refine lv_iload_n hx hb dX8_canBe_25 rfl (lv_at hl 3 rfl) ?_
          obtain ⟨r7, σ7, h_7, hf⟩ := z_bds hf
          refine z_goI C hs (z_runS C hs hl.1 (cX_isCell l E h_7) zcS_RX8_145 rfl rfl rfl (by decide) (Nat.le_of_ble_eq_true rfl) dX8_canBe_26) (fun H locs hs => ?_)
          refine lv_if_eq (tgt := 36) hx hb dX8_canBe_29 (by decide) (fun c8 => ?_) (fun c8 => ?_)
          · have hf := z_t hf c8
            refine lv_iconst (v := 0) hx hb dX8_canBe_36 (by decide) ?_
            exact z_retz C hr hs (by decide +kernel) hf dX8_canBe_37
          · have hf := z_f hf c8
            refine lv_iconst (v := 1) hx hb dX8_canBe_32 (by decide) ?_
            refine lv_goto (tgt := 37) hx hb dX8_canBe_33 (by decide) ?_
            exact z_retz C hr hs (by decide +kernel) hf dX8_canBe_37
set_option maxHeartbeats 4000000 in
set_option maxRecDepth 20000 in
theorem cX_canBe (l : Launch) (E : zE) {x0 : Int32} {x1 : Int32} {x2 : Int32} {x3 : Int32} {σ σo : zS} {ro : Int32} (hf : fX_canBe x0 x1 x2 x3 σ = some (ro, σo)) : z_T l E yX8_canBe cX8_canBe 4 (some .boolean) (z_rm 2) (z_QI E ro σo) [.int x0, .int x1, .int x2, .int x3] σ :=
  z_enter (by decide) (Nat.le_of_ble_eq_true rfl) rfl (fun p e s m below meth c A ls C hr hs hl => wX_canBe C hr σ _ _ ls hs hl hf)
def fW_addCommand (w0 : Nat) (x1 : Int32) (x2 : Int32) (x3 : Int32) (x4 : Int32) (x5 : Int32) (x6 : Int32) (σ : zS) : Option (Int32 × zS) :=
  if z_in x1 7 = true then (
  z_bd (fK_grow w0 (x1.toNatClampNeg) σ) (fun r2 σ2 =>
  if r2 = ((-1)) then
    (some ((-1), σ2))
  else
    (if z_in (r2 + 0) 240 = true then (
    z_let (z_up σ2 (11, w0, x1.toNatClampNeg) ((r2 + 0).toNatClampNeg) (σ2.1 (10, w0, x1.toNatClampNeg) 2)) (fun σ5 =>
    if z_in (r2 + 1) 240 = true then (
    z_let (z_up σ5 (11, w0, x1.toNatClampNeg) ((r2 + 1).toNatClampNeg) x2) (fun σ7 =>
    if z_in (r2 + 2) 240 = true then (
    z_let (z_up σ7 (11, w0, x1.toNatClampNeg) ((r2 + 2).toNatClampNeg) x3) (fun σ9 =>
    if z_in (r2 + 3) 240 = true then (
    z_let (z_up σ9 (11, w0, x1.toNatClampNeg) ((r2 + 3).toNatClampNeg) x4) (fun σ11 =>
    if z_in (r2 + 4) 240 = true then (
    z_let (z_up σ11 (11, w0, x1.toNatClampNeg) ((r2 + 4).toNatClampNeg) x5) (fun σ13 =>
    if z_in (r2 + 5) 240 = true then (
    z_let (z_up σ13 (11, w0, x1.toNatClampNeg) ((r2 + 5).toNatClampNeg) x6) (fun σ15 =>
    z_bd (fW_settle w0 x1 σ15) (fun _ σ16 =>
    some (σ16.1 (10, w0, x1.toNatClampNeg) 7, σ16)))) else none)) else none)) else none)) else none)) else none)) else none))) else none
set_option maxHeartbeats 4000000 in
set_option maxRecDepth 20000 in
theorem wW_addCommand {w0 : Nat} {x1 : Int32} {x2 : Int32} {x3 : Int32} {x4 : Int32} {x5 : Int32} {x6 : Int32} (C : z_C E RX7 cX7_addCommand 9 A p s m args meth c) (hr : meth.sig.returnType = (some .int)) (hV0 : z_W E w0) {ro : Int32} {σo : zS} (σ : zS) (H : Heap) (locs : List Loc) (ls : Array Slot) (hs : z_H E A s σ H locs) (hl : lv_has ls 9 [(0, .ref (z_ad E (0, w0, 0))), (1, .int x1), (2, .int x2), (3, .int x3), (4, .int x4), (5, .int x5), (6, .int x6)]) (hf : fW_addCommand w0 x1 x2 x3 x4 x5 x6 σ = some (ro, σo)) : W p l e (z_rm 6) s m args below meth c H locs 0 0 (MQ below (z_QI E ro σo A) args s 0 0 A) (F0 m 0 ls []) := by
  have hx := C.1
  have hb := C.2.1
  unfold fW_addCommand at hf
  refine lv_aload_n hx hb dX7_addCommand_0 rfl (lv_at hl 0 rfl) ?_
  refine zg_W_keepers C hs (hV0.1 0 (by decide)) z_k281 dX7_addCommand_1 ?_
  refine lv_iload_n hx hb dX7_addCommand_4 rfl (lv_at hl 1 rfl) ?_
  obtain ⟨g1, hf⟩ := z_gd hf
  refine z_aald C hs (hV0.1 1 (by decide)) (z_c1 E _ _ _ _) (t0 := 4) rfl g1 rfl dX7_addCommand_5 ?_
  refine lv_astore (lv' := [(7, .ref (z_ad E (10, w0, x1.toNatClampNeg))), (0, .ref (z_ad E (0, w0, 0))), (1, .int x1), (2, .int x2), (3, .int x3), (4, .int x4), (5, .int x5), (6, .int x6)]) hx hb dX7_addCommand_6 hl (by decide) rfl (fun ls hl => ?_)
  refine lv_aload hx hb dX7_addCommand_8 (lv_at hl 0 rfl) ?_
  obtain ⟨r2, σ2, h_2, hf⟩ := z_bds hf
  refine z_goI C hs (z_runV C hs hl.1 (cK_grow l E hV0 (z_in_lt g1) h_2) zcV_RX7_159 (hV0.2.1 x1.toNatClampNeg (z_in_lt g1) 10 (by decide) (by decide)) (z_c10 E _ _ _ _) rfl rfl rfl (by decide) (Nat.le_of_ble_eq_true rfl) dX7_addCommand_10) (fun H locs hs => ?_)
  refine lv_istore (lv' := [(8, .int r2), (7, .ref (z_ad E (10, w0, x1.toNatClampNeg))), (0, .ref (z_ad E (0, w0, 0))), (1, .int x1), (2, .int x2), (3, .int x3), (4, .int x4), (5, .int x5), (6, .int x6)]) hx hb dX7_addCommand_13 hl (by decide) rfl (fun ls hl => ?_)
  refine lv_iload hx hb dX7_addCommand_15 (lv_at hl 0 rfl) ?_
  refine lv_iconst (v := (-1)) hx hb dX7_addCommand_17 (by decide) ?_
  refine lv_icmp_ne (tgt := 23) hx hb dX7_addCommand_18 (by decide) (fun c3 => ?_) (fun c3 => ?_)
  · have hf := z_f hf c3
    refine lv_aload hx hb dX7_addCommand_23 (lv_at hl 1 rfl) ?_
    refine zg_K_entries C hs (hV0.2.1 x1.toNatClampNeg (z_in_lt g1) 10 (by decide) (by decide)) z_k124 dX7_addCommand_25 ?_
    refine lv_iload hx hb dX7_addCommand_28 (lv_at hl 0 rfl) ?_
    refine lv_iconst (v := 0) hx hb dX7_addCommand_30 (by decide) ?_
    refine lv_iadd hx hb dX7_addCommand_31 ?_
    refine lv_aload hx hb dX7_addCommand_32 (lv_at hl 1 rfl) ?_
    refine zg_K_term C hs (hV0.2.1 x1.toNatClampNeg (z_in_lt g1) 10 (by decide) (by decide)) z_k100 dX7_addCommand_34 ?_
    obtain ⟨g4, hf⟩ := z_gd hf
    refine z_ast C hs (hV0.2.1 x1.toNatClampNeg (z_in_lt g1) 11 (by decide) (by decide)) (fun r h => z_c11 E r h _ _) g4 rfl dX7_addCommand_37 (fun H locs hs => ?_)
    obtain ⟨σ5, -, hs, hf⟩ := z_top hs hf
    refine lv_aload hx hb dX7_addCommand_38 (lv_at hl 1 rfl) ?_
    refine zg_K_entries C hs (hV0.2.1 x1.toNatClampNeg (z_in_lt g1) 10 (by decide) (by decide)) z_k124 dX7_addCommand_40 ?_
    refine lv_iload hx hb dX7_addCommand_43 (lv_at hl 0 rfl) ?_
    refine lv_iconst (v := 1) hx hb dX7_addCommand_45 (by decide) ?_
    refine lv_iadd hx hb dX7_addCommand_46 ?_
    refine lv_iload_n hx hb dX7_addCommand_47 rfl (lv_at hl 4 rfl) ?_
    obtain ⟨g6, hf⟩ := z_gd hf
    refine z_ast C hs (hV0.2.1 x1.toNatClampNeg (z_in_lt g1) 11 (by decide) (by decide)) (fun r h => z_c11 E r h _ _) g6 rfl dX7_addCommand_48 (fun H locs hs => ?_)
    obtain ⟨σ7, -, hs, hf⟩ := z_top hs hf
    refine lv_aload hx hb dX7_addCommand_49 (lv_at hl 1 rfl) ?_
    refine zg_K_entries C hs (hV0.2.1 x1.toNatClampNeg (z_in_lt g1) 10 (by decide) (by decide)) z_k124 dX7_addCommand_51 ?_
    refine lv_iload hx hb dX7_addCommand_54 (lv_at hl 0 rfl) ?_
    refine lv_iconst (v := 2) hx hb dX7_addCommand_56 (by decide) ?_
    refine lv_iadd hx hb dX7_addCommand_57 ?_
    refine lv_iload_n hx hb dX7_addCommand_58 rfl (lv_at hl 5 rfl) ?_
    obtain ⟨g8, hf⟩ := z_gd hf
    refine z_ast C hs (hV0.2.1 x1.toNatClampNeg (z_in_lt g1) 11 (by decide) (by decide)) (fun r h => z_c11 E r h _ _) g8 rfl dX7_addCommand_59 (fun H locs hs => ?_)
    obtain ⟨σ9, -, hs, hf⟩ := z_top hs hf
    refine lv_aload hx hb dX7_addCommand_60 (lv_at hl 1 rfl) ?_
    refine zg_K_entries C hs (hV0.2.1 x1.toNatClampNeg (z_in_lt g1) 10 (by decide) (by decide)) z_k124 dX7_addCommand_62 ?_
    refine lv_iload hx hb dX7_addCommand_65 (lv_at hl 0 rfl) ?_
    refine lv_iconst (v := 3) hx hb dX7_addCommand_67 (by decide) ?_
    refine lv_iadd hx hb dX7_addCommand_68 ?_
    refine lv_iload hx hb dX7_addCommand_69 (lv_at hl 6 rfl) ?_
    obtain ⟨g10, hf⟩ := z_gd hf
    refine z_ast C hs (hV0.2.1 x1.toNatClampNeg (z_in_lt g1) 11 (by decide) (by decide)) (fun r h => z_c11 E r h _ _) g10 rfl dX7_addCommand_71 (fun H locs hs => ?_)
    obtain ⟨σ11, -, hs, hf⟩ := z_top hs hf
    refine lv_aload hx hb dX7_addCommand_72 (lv_at hl 1 rfl) ?_
    refine zg_K_entries C hs (hV0.2.1 x1.toNatClampNeg (z_in_lt g1) 10 (by decide) (by decide)) z_k124 dX7_addCommand_74 ?_
    refine lv_iload hx hb dX7_addCommand_77 (lv_at hl 0 rfl) ?_
    refine lv_iconst (v := 4) hx hb dX7_addCommand_79 (by decide) ?_
    refine lv_iadd hx hb dX7_addCommand_80 ?_
    refine lv_iload hx hb dX7_addCommand_81 (lv_at hl 7 rfl) ?_
    obtain ⟨g12, hf⟩ := z_gd hf
    refine z_ast C hs (hV0.2.1 x1.toNatClampNeg (z_in_lt g1) 11 (by decide) (by decide)) (fun r h => z_c11 E r h _ _) g12 rfl dX7_addCommand_83 (fun H locs hs => ?_)
    obtain ⟨σ13, -, hs, hf⟩ := z_top hs hf
    refine lv_aload hx hb dX7_addCommand_84 (lv_at hl 1 rfl) ?_
    refine zg_K_entries C hs (hV0.2.1 x1.toNatClampNeg (z_in_lt g1) 10 (by decide) (by decide)) z_k124 dX7_addCommand_86 ?_
    refine lv_iload hx hb dX7_addCommand_89 (lv_at hl 0 rfl) ?_
    refine lv_iconst (v := 5) hx hb dX7_addCommand_91 (by decide) ?_
    refine lv_iadd hx hb dX7_addCommand_92 ?_
    refine lv_iload hx hb dX7_addCommand_93 (lv_at hl 8 rfl) ?_
    obtain ⟨g14, hf⟩ := z_gd hf
    refine z_ast C hs (hV0.2.1 x1.toNatClampNeg (z_in_lt g1) 11 (by decide) (by decide)) (fun r h => z_c11 E r h _ _) g14 rfl dX7_addCommand_95 (fun H locs hs => ?_)
    obtain ⟨σ15, -, hs, hf⟩ := z_top hs hf
    refine lv_aload_n hx hb dX7_addCommand_96 rfl (lv_at hl 2 rfl) ?_
    refine lv_iload_n hx hb dX7_addCommand_97 rfl (lv_at hl 3 rfl) ?_
    obtain ⟨r16, σ16, h_16, hf⟩ := z_bds hf
    refine z_goV C hs (z_runV C hs hl.1 (cW_settle l E hV0 h_16) zcV_RX7_166 (hV0.1 0 (by decide)) (z_c0 E _ _ _ _) rfl rfl rfl (by decide) (Nat.le_of_ble_eq_true rfl) dX7_addCommand_98) (fun H locs hs => ?_)
    refine lv_aload hx hb dX7_addCommand_101 (lv_at hl 1 rfl) ?_
    refine zg_K_last C hs (hV0.2.1 x1.toNatClampNeg (z_in_lt g1) 10 (by decide) (by decide)) z_k112 dX7_addCommand_103 ?_
    exact z_reti C hr hs hf dX7_addCommand_106
  · have hf := z_t hf c3
    refine lv_iconst (v := (-1)) hx hb dX7_addCommand_21 (by decide) ?_
    exact z_reti C hr hs hf dX7_addCommand_22
set_option maxHeartbeats 4000000 in
set_option maxRecDepth 20000 in
theorem cW_addCommand (l : Launch) (E : zE) {w0 : Nat} {x1 : Int32} {x2 : Int32} {x3 : Int32} {x4 : Int32} {x5 : Int32} {x6 : Int32} (hV0 : z_W E w0) {σ σo : zS} {ro : Int32} (hf : fW_addCommand w0 x1 x2 x3 x4 x5 x6 σ = some (ro, σo)) : z_T l E yX7_addCommand cX7_addCommand 9 (some .int) (z_rm 6) (z_QI E ro σo) [.ref (z_ad E (0, w0, 0)), .int x1, .int x2, .int x3, .int x4, .int x5, .int x6] σ :=
  z_enter (by decide) (Nat.le_of_ble_eq_true rfl) rfl (fun p e s m below meth c A ls C hr hs hl => wW_addCommand C hr hV0 σ _ _ ls hs hl hf)
def fX_command (x1 : Int32) (x2 : Int32) (x3 : Int32) (x4 : Int32) (x5 : Int32) (x6 : Int32) (σ : zS) : Option (Int32 × zS) :=
  z_bd (fW_isLeading 0 x1 σ) (fun r1 σ1 =>
  if r1 = 0 then
    (some ((-1), σ1))
  else
    (z_bd (fX_canBe x2 x3 x4 x5 σ1) (fun r3 σ3 =>
    if r3 = 0 then
      (some ((-1), σ3))
    else
      (z_bd (fW_addCommand 0 x1 x2 x3 x4 x5 x6 σ3) (fun r5 σ5 =>
      some (r5, σ5))))))
set_option maxHeartbeats 4000000 in
set_option maxRecDepth 20000 in
theorem wX_command {x1 : Int32} {x2 : Int32} {x3 : Int32} {x4 : Int32} {x5 : Int32} {x6 : Int32} (C : z_C E RX8 cX8_command 7 A p s m args meth c) (hr : meth.sig.returnType = (some .int)) (hB : z_B E) (hW0 : z_W E 0) {ro : Int32} {σo : zS} (σ : zS) (H : Heap) (locs : List Loc) (ls : Array Slot) (hs : z_H E A s σ H locs) (hl : lv_has ls 7 [(0, .ref (z_ad E (30, 0, 0))), (1, .int x1), (2, .int x2), (3, .int x3), (4, .int x4), (5, .int x5), (6, .int x6)]) (hf : fX_command x1 x2 x3 x4 x5 x6 σ = some (ro, σo)) : W p l e (z_rm 7) s m args below meth c H locs 0 0 (MQ below (z_QI E ro σo A) args s 0 0 A) (F0 m 0 ls []) := by
  have hx := C.1
  have hb := C.2.1
  unfold fX_command at hf
  refine lv_aload_n hx hb dX8_command_0 rfl (lv_at hl 0 rfl) ?_
  refine zg_X_world C hs (hB 30 (by decide) (by decide)) z_k343 dX8_command_1 ?_
  refine lv_iload_n hx hb dX8_command_4 rfl (lv_at hl 1 rfl) ?_
  obtain ⟨r1, σ1, h_1, hf⟩ := z_bds hf
  refine z_goI C hs (z_runV C hs hl.1 (cW_isLeading l E hW0 h_1) zcV_RX8_118 (hW0.1 0 (by decide)) (z_c0 E _ _ _ _) rfl rfl rfl (by decide) (Nat.le_of_ble_eq_true rfl) dX8_command_5) (fun H locs hs => ?_)
  refine lv_if_eq (tgt := 23) hx hb dX8_command_8 (by decide) (fun c2 => ?_) (fun c2 => ?_)
  · have hf := z_t hf c2
    refine lv_iconst (v := (-1)) hx hb dX8_command_23 (by decide) ?_
    exact z_reti C hr hs hf dX8_command_24
  · have hf := z_f hf c2
    refine lv_iload_n hx hb dX8_command_11 rfl (lv_at hl 2 rfl) ?_
    refine lv_iload_n hx hb dX8_command_12 rfl (lv_at hl 3 rfl) ?_
    refine lv_iload hx hb dX8_command_13 (lv_at hl 4 rfl) ?_
    refine lv_iload hx hb dX8_command_15 (lv_at hl 5 rfl) ?_
    obtain ⟨r3, σ3, h_3, hf⟩ := z_bds hf
    refine z_goI C hs (z_runS C hs hl.1 (cX_canBe l E h_3) zcS_RX8_121 rfl rfl rfl (by decide) (Nat.le_of_ble_eq_true rfl) dX8_command_17) (fun H locs hs => ?_)
    refine lv_if_ne (tgt := 25) hx hb dX8_command_20 (by decide) (fun c4 => ?_) (fun c4 => ?_)
    · have hf := z_f hf c4
      refine lv_aload_n hx hb dX8_command_25 rfl (lv_at hl 0 rfl) ?_
      refine zg_X_world C hs (hB 30 (by decide) (by decide)) z_k343 dX8_command_26 ?_
      refine lv_iload_n hx hb dX8_command_29 rfl (lv_at hl 1 rfl) ?_
      refine lv_iload_n hx hb dX8_command_30 rfl (lv_at hl 2 rfl) ?_
      refine lv_iload_n hx hb dX8_command_31 rfl (lv_at hl 3 rfl) ?_
      refine lv_iload hx hb dX8_command_32 (lv_at hl 4 rfl) ?_
      refine lv_iload hx hb dX8_command_34 (lv_at hl 5 rfl) ?_
      refine lv_iload hx hb dX8_command_36 (lv_at hl 6 rfl) ?_
      obtain ⟨r5, σ5, h_5, hf⟩ := z_bds hf
      refine z_goI C hs (z_runV C hs hl.1 (cW_addCommand l E hW0 h_5) zcV_RX8_125 (hW0.1 0 (by decide)) (z_c0 E _ _ _ _) rfl rfl rfl (by decide) (Nat.le_of_ble_eq_true rfl) dX8_command_38) (fun H locs hs => ?_)
      exact z_reti C hr hs hf dX8_command_41
    · have hf := z_t hf c4
      refine lv_iconst (v := (-1)) hx hb dX8_command_23 (by decide) ?_
      exact z_reti C hr hs hf dX8_command_24
set_option maxHeartbeats 4000000 in
set_option maxRecDepth 20000 in
theorem cX_command (l : Launch) (E : zE) {x1 : Int32} {x2 : Int32} {x3 : Int32} {x4 : Int32} {x5 : Int32} {x6 : Int32} (hB : z_B E) (hW0 : z_W E 0) {σ σo : zS} {ro : Int32} (hf : fX_command x1 x2 x3 x4 x5 x6 σ = some (ro, σo)) : z_T l E yX8_command cX8_command 7 (some .int) (z_rm 7) (z_QI E ro σo) [.ref (z_ad E (30, 0, 0)), .int x1, .int x2, .int x3, .int x4, .int x5, .int x6] σ :=
  z_enter (by decide) (Nat.le_of_ble_eq_true rfl) rfl (fun p e s m below meth c A ls C hr hs hl => wX_command C hr hB hW0 σ _ _ ls hs hl hf)
def fL_takeFold (w0 : Nat) (i0 : Nat) (w1 : Nat) (i1 : Nat) (σ : zS) : Option (Unit × zS) :=
  z_let (z_up σ (20, w0, i0) 4 (σ.1 (10, w1, i1) 5)) (fun σ1 =>
  z_let (z_up σ1 (20, w0, i0) 5 (σ1.1 (10, w1, i1) 6)) (fun σ2 =>
  z_bd (fS_copyFrom (22, w0, i0) (12, w1, i1) σ2) (fun _ σ3 =>
  some ((), σ3))))
set_option maxHeartbeats 4000000 in
set_option maxRecDepth 20000 in
theorem wL_takeFold {w0 : Nat} {i0 : Nat} {w1 : Nat} {i1 : Nat} (C : z_C E RX2 cX2_takeFold 2 A p s m args meth c) (hr : meth.sig.returnType = none) (hV0 : z_W E w0) (hi0 : i0 < 41) (hV1 : z_W E w1) (hi1 : i1 < 7) {ro : Unit} {σo : zS} (σ : zS) (H : Heap) (locs : List Loc) (ls : Array Slot) (hs : z_H E A s σ H locs) (hl : lv_has ls 2 [(0, .ref (z_ad E (20, w0, i0))), (1, .ref (z_ad E (10, w1, i1)))]) (hf : fL_takeFold w0 i0 w1 i1 σ = some (ro, σo)) : W p l e (z_rm 3) s m args below meth c H locs 0 0 (MQ below (z_QV E ro σo A) args s 0 0 A) (F0 m 0 ls []) := by
  have hx := C.1
  have hb := C.2.1
  unfold fL_takeFold at hf
  refine lv_aload_n hx hb dX2_takeFold_0 rfl (lv_at hl 0 rfl) ?_
  refine lv_aload_n hx hb dX2_takeFold_1 rfl (lv_at hl 1 rfl) ?_
  refine zg_K_folded C hs (hV1.2.1 i1 hi1 10 (by decide) (by decide)) z_k106 dX2_takeFold_2 ?_
  refine zp_L_first C hs (hV0.2.2 i0 hi0 20 (by decide) (by decide)) z_k203 dX2_takeFold_5 (fun H locs hs => ?_)
  obtain ⟨σ1, -, hs, hf⟩ := z_top hs hf
  refine lv_aload_n hx hb dX2_takeFold_8 rfl (lv_at hl 0 rfl) ?_
  refine lv_aload_n hx hb dX2_takeFold_9 rfl (lv_at hl 1 rfl) ?_
  refine zg_K_foldTerm C hs (hV1.2.1 i1 hi1 10 (by decide) (by decide)) z_k110 dX2_takeFold_10 ?_
  refine zp_L_second C hs (hV0.2.2 i0 hi0 20 (by decide) (by decide)) z_k205 dX2_takeFold_13 (fun H locs hs => ?_)
  obtain ⟨σ2, -, hs, hf⟩ := z_top hs hf
  refine lv_aload_n hx hb dX2_takeFold_16 rfl (lv_at hl 0 rfl) ?_
  refine zg_L_fold C hs (hV0.2.2 i0 hi0 20 (by decide) (by decide)) z_k217 dX2_takeFold_17 ?_
  refine lv_aload_n hx hb dX2_takeFold_20 rfl (lv_at hl 1 rfl) ?_
  refine zg_K_foldState C hs (hV1.2.1 i1 hi1 10 (by decide) (by decide)) z_k126 dX2_takeFold_21 ?_
  obtain ⟨r3, σ3, h_3, hf⟩ := z_bds hf
  refine z_goV C hs (z_runV C hs hl.1 (cS_copyFrom l E ⟨(show z_isS (22, w0, i0) from (Or.inr (Or.inr rfl))), (hV0.2.2 i0 hi0 22 (by decide) (by decide)), (hV0.2.2 i0 hi0 23 (by decide) (by decide))⟩ ⟨(show z_isS (12, w1, i1) from (Or.inl rfl)), (hV1.2.1 i1 hi1 12 (by decide) (by decide)), (hV1.2.1 i1 hi1 13 (by decide) (by decide))⟩ h_3) zcV_RX2_59 (hV0.2.2 i0 hi0 22 (by decide) (by decide)) (z_cS E _ _ (show z_isS (22, w0, i0) from (Or.inr (Or.inr rfl)))) rfl rfl rfl (by decide) (Nat.le_of_ble_eq_true rfl) dX2_takeFold_24) (fun H locs hs => ?_)
  exact z_retv C hr hs hf dX2_takeFold_27
set_option maxHeartbeats 4000000 in
set_option maxRecDepth 20000 in
theorem cL_takeFold (l : Launch) (E : zE) {w0 : Nat} {i0 : Nat} {w1 : Nat} {i1 : Nat} (hV0 : z_W E w0) (hi0 : i0 < 41) (hV1 : z_W E w1) (hi1 : i1 < 7) {σ σo : zS} {ro : Unit} (hf : fL_takeFold w0 i0 w1 i1 σ = some (ro, σo)) : z_T l E yX2_takeFold cX2_takeFold 2 none (z_rm 3) (z_QV E ro σo) [.ref (z_ad E (20, w0, i0)), .ref (z_ad E (10, w1, i1))] σ :=
  z_enter (by decide) (Nat.le_of_ble_eq_true rfl) rfl (fun p e s m below meth c A ls C hr hs hl => wL_takeFold C hr hV0 hi0 hV1 hi1 σ _ _ ls hs hl hf)
def fL_takeEntries_28 (w0 : Nat) (i0 : Nat) (w1 : Nat) (i1 : Nat) : Nat → Int32 → Int32 → zS → Option (Unit × zS)
  | 0, _, _, _ => none
  | n + 1, x2, x3, σ =>
    if 5 ≤ x3 then
      (some ((), σ))
    else
      (z_bd (fK_placeOf w1 i1 (x2 + x3) σ) (fun r6 σ6 =>
      if r6 = ((-1)) then
        (some ((), σ6))
      else
        (if z_cp r6 ((σ6.1 (20, w0, i0) 6) * 6) 6 240 30 = true then (
        z_let (z_cpR σ6 (11, w1, i1) (21, w0, i0) r6 ((σ6.1 (20, w0, i0) 6) * 6) 6) (fun σ9 =>
        z_let (z_up σ9 (20, w0, i0) 6 ((σ9.1 (20, w0, i0) 6) + 1)) (fun σ10 =>
        z_let (x3 + 1) (fun y11 =>
        fL_takeEntries_28 w0 i0 w1 i1 n x2 y11 σ10)))) else none)))
def fL_takeEntries (w0 : Nat) (i0 : Nat) (w1 : Nat) (i1 : Nat) (x2 : Int32) (σ : zS) : Option (Unit × zS) :=
  z_let (z_up σ (20, w0, i0) 4 (x2 - 1)) (fun σ1 =>
  z_bd (fK_termOf w1 i1 (x2 - 1) σ1) (fun r2 σ2 =>
  z_let (z_up σ2 (20, w0, i0) 5 r2) (fun σ3 =>
  z_let (z_up σ3 (20, w0, i0) 7 (σ3.1 (10, w1, i1) 8)) (fun σ4 =>
  fL_takeEntries_28 w0 i0 w1 i1 z_fu x2 0 σ4))))
set_option maxHeartbeats 4000000 in
set_option maxRecDepth 20000 in
theorem wL_takeEntries_28 {w0 : Nat} {i0 : Nat} {w1 : Nat} {i1 : Nat} (C : z_C E RX2 cX2_takeEntries 5 A p s m args meth c) (hr : meth.sig.returnType = none) (hV0 : z_W E w0) (hi0 : i0 < 41) (hV1 : z_W E w1) (hi1 : i1 < 7) {ro : Unit} {σo : zS} (n : Nat) : ∀ (x2 : Int32) (x3 : Int32) (σ : zS) (H : Heap) (locs : List Loc) (ls : Array Slot), z_H E A s σ H locs → lv_has ls 5 [(0, .ref (z_ad E (20, w0, i0))), (1, .ref (z_ad E (10, w1, i1))), (2, .int x2), (3, .int x3)] → fL_takeEntries_28 w0 i0 w1 i1 n x2 x3 σ = some (ro, σo) → W p l e (z_rm 3) s m args below meth c H locs 0 0 (MQ below (z_QV E ro σo A) args s 0 0 A) (F0 m 28 ls []) := by
  induction n with
  | zero =>
    intro x2 x3 σ H locs ls hs hl hf
    have hf : none = some (ro, σo) := hf
    cases hf
  | succ n ih =>
    intro x2 x3 σ H locs ls hs hl hf
    have hx := C.1
    have hb := C.2.1
    rw [fL_takeEntries_28.eq_2] at hf
    refine lv_iload_n hx hb dX2_takeEntries_28 rfl (lv_at hl 3 rfl) ?_
    refine lv_iconst (v := 5) hx hb dX2_takeEntries_29 (by decide) ?_
    refine lv_icmp_ge (tgt := 87) hx hb dX2_takeEntries_30 (by decide) (fun c5 => ?_) (fun c5 => ?_)
    · have hf := z_t hf c5
      exact z_retv C hr hs hf dX2_takeEntries_87
    · have hf := z_f hf c5
      refine lv_aload_n hx hb dX2_takeEntries_33 rfl (lv_at hl 1 rfl) ?_
      refine lv_iload_n hx hb dX2_takeEntries_34 rfl (lv_at hl 2 rfl) ?_
      refine lv_iload_n hx hb dX2_takeEntries_35 rfl (lv_at hl 3 rfl) ?_
      refine lv_iadd hx hb dX2_takeEntries_36 ?_
      obtain ⟨r6, σ6, h_6, hf⟩ := z_bds hf
      refine z_goI C hs (z_runV C hs hl.1 (cK_placeOf l E hV1 hi1 h_6) zcV_RX2_79 (hV1.2.1 i1 hi1 10 (by decide) (by decide)) (z_c10 E _ _ _ _) rfl rfl rfl (by decide) (Nat.le_of_ble_eq_true rfl) dX2_takeEntries_37) (fun H locs hs => ?_)
      refine lv_istore (lv' := [(4, .int r6), (0, .ref (z_ad E (20, w0, i0))), (1, .ref (z_ad E (10, w1, i1))), (2, .int x2), (3, .int x3)]) hx hb dX2_takeEntries_40 hl (by decide) rfl (fun ls hl => ?_)
      refine lv_iload hx hb dX2_takeEntries_42 (lv_at hl 0 rfl) ?_
      refine lv_iconst (v := (-1)) hx hb dX2_takeEntries_44 (by decide) ?_
      refine lv_icmp_ne (tgt := 49) hx hb dX2_takeEntries_45 (by decide) (fun c7 => ?_) (fun c7 => ?_)
      · have hf := z_f hf c7
        refine lv_aload_n hx hb dX2_takeEntries_49 rfl (lv_at hl 2 rfl) ?_
        refine zg_K_entries C hs (hV1.2.1 i1 hi1 10 (by decide) (by decide)) z_k123 dX2_takeEntries_50 ?_
        refine lv_iload hx hb dX2_takeEntries_53 (lv_at hl 0 rfl) ?_
        refine lv_aload_n hx hb dX2_takeEntries_55 rfl (lv_at hl 1 rfl) ?_
        refine zg_L_entries C hs (hV0.2.2 i0 hi0 20 (by decide) (by decide)) z_k215 dX2_takeEntries_56 ?_
        refine lv_aload_n hx hb dX2_takeEntries_59 rfl (lv_at hl 1 rfl) ?_
        refine zg_L_count C hs (hV0.2.2 i0 hi0 20 (by decide) (by decide)) z_k207 dX2_takeEntries_60 ?_
        refine lv_bipush (v := 6) hx hb dX2_takeEntries_63 (by decide) ?_
        refine lv_imul hx hb dX2_takeEntries_65 ?_
        refine lv_bipush (v := 6) hx hb dX2_takeEntries_66 (by decide) ?_
        obtain ⟨g8, hf⟩ := z_gd hf
        refine z_acp C hs hl.1 (hV1.2.1 i1 hi1 11 (by decide) (by decide)) (hV0.2.2 i0 hi0 21 (by decide) (by decide)) (fun r h => z_c11 E r h _ _) (fun r h => z_c21 E r h _ _) z_k592 g8 (by decide) (by decide) (Nat.le_of_ble_eq_true rfl) z_k594 z_k593 z_k17 dX2_takeEntries_68 (fun H locs hs => ?_)
        obtain ⟨σ9, -, hs, hf⟩ := z_top hs hf
        refine lv_aload_n hx hb dX2_takeEntries_71 rfl (lv_at hl 1 rfl) ?_
        refine lv_dup hx hb dX2_takeEntries_72 rfl ?_
        refine zg_L_count C hs (hV0.2.2 i0 hi0 20 (by decide) (by decide)) z_k207 dX2_takeEntries_73 ?_
        refine lv_iconst (v := 1) hx hb dX2_takeEntries_76 (by decide) ?_
        refine lv_iadd hx hb dX2_takeEntries_77 ?_
        refine zp_L_count C hs (hV0.2.2 i0 hi0 20 (by decide) (by decide)) z_k207 dX2_takeEntries_78 (fun H locs hs => ?_)
        obtain ⟨σ10, -, hs, hf⟩ := z_top hs hf
        obtain ⟨y11, e_y11⟩ : ∃ y : Int32, y = x3 + 1 := ⟨_, rfl⟩
        have hf := z_lte e_y11 hf
        refine lv_iinc (v := y11) (lv' := [(3, .int y11), (4, .int r6), (0, .ref (z_ad E (20, w0, i0))), (1, .ref (z_ad E (10, w1, i1))), (2, .int x2)]) hx hb dX2_takeEntries_81 hl (k := 4) rfl (by rw [e_y11]; rfl) (by decide) rfl (fun ls hl => ?_)
        refine lv_goto (tgt := 28) hx hb dX2_takeEntries_84 (by decide) ?_
        exact ih x2 y11 σ10 _ _ _ hs (lv_sub hl [2, 3, 4, 0] rfl) hf
      · have hf := z_t hf c7
        exact z_retv C hr hs hf dX2_takeEntries_48
set_option maxHeartbeats 4000000 in
set_option maxRecDepth 20000 in
theorem wL_takeEntries {w0 : Nat} {i0 : Nat} {w1 : Nat} {i1 : Nat} {x2 : Int32} (C : z_C E RX2 cX2_takeEntries 5 A p s m args meth c) (hr : meth.sig.returnType = none) (hV0 : z_W E w0) (hi0 : i0 < 41) (hV1 : z_W E w1) (hi1 : i1 < 7) {ro : Unit} {σo : zS} (σ : zS) (H : Heap) (locs : List Loc) (ls : Array Slot) (hs : z_H E A s σ H locs) (hl : lv_has ls 5 [(0, .ref (z_ad E (20, w0, i0))), (1, .ref (z_ad E (10, w1, i1))), (2, .int x2)]) (hf : fL_takeEntries w0 i0 w1 i1 x2 σ = some (ro, σo)) : W p l e (z_rm 3) s m args below meth c H locs 0 0 (MQ below (z_QV E ro σo A) args s 0 0 A) (F0 m 0 ls []) := by
  have hx := C.1
  have hb := C.2.1
  unfold fL_takeEntries at hf
  refine lv_aload_n hx hb dX2_takeEntries_0 rfl (lv_at hl 0 rfl) ?_
  refine lv_iload_n hx hb dX2_takeEntries_1 rfl (lv_at hl 2 rfl) ?_
  refine lv_iconst (v := 1) hx hb dX2_takeEntries_2 (by decide) ?_
  refine lv_isub hx hb dX2_takeEntries_3 ?_
  refine zp_L_first C hs (hV0.2.2 i0 hi0 20 (by decide) (by decide)) z_k203 dX2_takeEntries_4 (fun H locs hs => ?_)
  obtain ⟨σ1, -, hs, hf⟩ := z_top hs hf
  refine lv_aload_n hx hb dX2_takeEntries_7 rfl (lv_at hl 0 rfl) ?_
  refine lv_aload_n hx hb dX2_takeEntries_8 rfl (lv_at hl 1 rfl) ?_
  refine lv_iload_n hx hb dX2_takeEntries_9 rfl (lv_at hl 2 rfl) ?_
  refine lv_iconst (v := 1) hx hb dX2_takeEntries_10 (by decide) ?_
  refine lv_isub hx hb dX2_takeEntries_11 ?_
  obtain ⟨r2, σ2, h_2, hf⟩ := z_bds hf
  refine z_goI C hs (z_runV C hs hl.1 (cK_termOf l E hV1 hi1 h_2) zcV_RX2_74 (hV1.2.1 i1 hi1 10 (by decide) (by decide)) (z_c10 E _ _ _ _) rfl rfl rfl (by decide) (Nat.le_of_ble_eq_true rfl) dX2_takeEntries_12) (fun H locs hs => ?_)
  refine zp_L_second C hs (hV0.2.2 i0 hi0 20 (by decide) (by decide)) z_k205 dX2_takeEntries_15 (fun H locs hs => ?_)
  obtain ⟨σ3, -, hs, hf⟩ := z_top hs hf
  refine lv_aload_n hx hb dX2_takeEntries_18 rfl (lv_at hl 0 rfl) ?_
  refine lv_aload_n hx hb dX2_takeEntries_19 rfl (lv_at hl 1 rfl) ?_
  refine zg_K_done C hs (hV1.2.1 i1 hi1 10 (by decide) (by decide)) z_k115 dX2_takeEntries_20 ?_
  refine zp_L_done C hs (hV0.2.2 i0 hi0 20 (by decide) (by decide)) z_k209 dX2_takeEntries_23 (fun H locs hs => ?_)
  obtain ⟨σ4, -, hs, hf⟩ := z_top hs hf
  refine lv_iconst (v := 0) hx hb dX2_takeEntries_26 (by decide) ?_
  refine lv_istore_n (lv' := [(3, .int 0), (0, .ref (z_ad E (20, w0, i0))), (1, .ref (z_ad E (10, w1, i1))), (2, .int x2)]) hx hb dX2_takeEntries_27 rfl hl (by decide) rfl (fun ls hl => ?_)
  exact wL_takeEntries_28 C hr hV0 hi0 hV1 hi1 z_fu x2 0 σ4 _ _ _ hs (lv_sub hl [1, 2, 3, 0] rfl) hf
set_option maxHeartbeats 4000000 in
set_option maxRecDepth 20000 in
theorem cL_takeEntries (l : Launch) (E : zE) {w0 : Nat} {i0 : Nat} {w1 : Nat} {i1 : Nat} {x2 : Int32} (hV0 : z_W E w0) (hi0 : i0 < 41) (hV1 : z_W E w1) (hi1 : i1 < 7) {σ σo : zS} {ro : Unit} (hf : fL_takeEntries w0 i0 w1 i1 x2 σ = some (ro, σo)) : z_T l E yX2_takeEntries cX2_takeEntries 5 none (z_rm 3) (z_QV E ro σo) [.ref (z_ad E (20, w0, i0)), .ref (z_ad E (10, w1, i1)), .int x2] σ :=
  z_enter (by decide) (Nat.le_of_ble_eq_true rfl) rfl (fun p e s m below meth c A ls C hr hs hl => wL_takeEntries C hr hV0 hi0 hV1 hi1 σ _ _ ls hs hl hf)
def fW_sendOn_35 (w0 : Nat) (x1 : Int32) (x2 : Int32) (i3 : Nat) (x4 : Int32) (t1 : Int32) (σ : zS) : Option (Int32 × zS) :=
  z_bd (fW_send w0 t1 x1 x2 σ) (fun r5 σ5 =>
  z_om r5 (some ((-1), σ5)) (fun j5 => z_let (z_up σ5 (10, w0, i3) 10 ((σ5.1 (10, w0, i3) 10) + 1)) (fun σ6 =>
  z_let (z_up σ6 (20, w0, j5) 8 (σ6.1 (10, w0, i3) 10)) (fun σ7 =>
  if (σ7.1 (20, w0, j5) 0) = 4 then
    (z_bd (fL_takeFold w0 j5 w0 i3 σ7) (fun _ σ11 =>
    some (x4, σ11)))
  else
    (if z_in x2 7 = true then (
    z_bd (fL_takeEntries w0 j5 w0 i3 (σ7.1 (16, w0, i3) x2.toNatClampNeg) σ7) (fun _ σ10 =>
    some (x4, σ10))) else none)))))
def fW_sendOn (w0 : Nat) (x1 : Int32) (x2 : Int32) (σ : zS) : Option (Int32 × zS) :=
  if z_in x1 7 = true then (
  z_bd (fP_leastEmpty w0 σ) (fun r2 σ2 =>
  if z_in x2 7 = true then (
  if (σ2.1 (10, w0, x1.toNatClampNeg) 5) < (σ2.1 (16, w0, x1.toNatClampNeg) x2.toNatClampNeg) then
    (fW_sendOn_35 w0 x1 x2 (x1.toNatClampNeg) r2 2 σ2)
  else
    (fW_sendOn_35 w0 x1 x2 (x1.toNatClampNeg) r2 4 σ2)) else none)) else none
set_option maxHeartbeats 4000000 in
set_option maxRecDepth 20000 in
theorem wW_sendOn_35 {w0 : Nat} (C : z_C E RX7 cX7_sendOn 6 A p s m args meth c) (hr : meth.sig.returnType = (some .int)) (hV0 : z_W E w0) {ro : Int32} {σo : zS} (x1 : Int32) (x2 : Int32) (i3 : Nat) (x4 : Int32) (t1 : Int32) (σ : zS) (H : Heap) (locs : List Loc) (ls : Array Slot) (hi3 : i3 < 7) (hs : z_H E A s σ H locs) (hl : lv_has ls 6 [(1, .int x1), (2, .int x2), (3, .ref (z_ad E (10, w0, i3))), (4, .int x4)]) (hf : fW_sendOn_35 w0 x1 x2 i3 x4 t1 σ = some (ro, σo)) : W p l e (z_rm 4) s m args below meth c H locs 0 0 (MQ below (z_QI E ro σo A) args s 0 0 A) (F0 m 35 ls [.int t1, .ref (z_ad E (0, w0, 0))]) := by
  have hx := C.1
  have hb := C.2.1
  unfold fW_sendOn_35 at hf
  refine lv_iload_n hx hb dX7_sendOn_35 rfl (lv_at hl 0 rfl) ?_
  refine lv_iload_n hx hb dX7_sendOn_36 rfl (lv_at hl 1 rfl) ?_
  obtain ⟨r5, σ5, h_5, hf⟩ := z_bds hf
  refine z_goL C hs (z_runV C hs hl.1 (cW_send l E hV0 h_5) zcV_RX7_118 (hV0.1 0 (by decide)) (z_c0 E _ _ _ _) rfl rfl rfl (by decide) (Nat.le_of_ble_eq_true rfl) dX7_sendOn_37) (fun H locs hq_5 hs => ?_)
  cases r5 with
  | none =>
    have hf := z_omn hf
    refine lv_astoreN (lv' := [(5, .null), (1, .int x1), (2, .int x2), (3, .ref (z_ad E (10, w0, i3))), (4, .int x4)]) hx hb dX7_sendOn_40 hl (by decide) rfl (fun ls hl => ?_)
    refine lv_aloadN hx hb dX7_sendOn_42 (lv_at hl 0 rfl) ?_
    refine lv_ifnonnullN hx hb dX7_sendOn_44 ?_
    refine lv_iconst (v := (-1)) hx hb dX7_sendOn_47 (by decide) ?_
    exact z_reti C hr hs hf dX7_sendOn_48
  | some j5 =>
    have hf := z_oms hf
    refine lv_astore (lv' := [(5, .ref (z_ad E (20, w0, j5))), (1, .int x1), (2, .int x2), (3, .ref (z_ad E (10, w0, i3))), (4, .int x4)]) hx hb dX7_sendOn_40 hl (by decide) rfl (fun ls hl => ?_)
    refine lv_aload hx hb dX7_sendOn_42 (lv_at hl 0 rfl) ?_
    refine lv_ifnonnull (tgt := 49) hx hb dX7_sendOn_44 (by decide) ?_
    refine lv_aload_n hx hb dX7_sendOn_49 rfl (lv_at hl 3 rfl) ?_
    refine lv_dup hx hb dX7_sendOn_50 rfl ?_
    refine zg_K_round C hs (hV0.2.1 i3 hi3 10 (by decide) (by decide)) z_k121 dX7_sendOn_51 ?_
    refine lv_iconst (v := 1) hx hb dX7_sendOn_54 (by decide) ?_
    refine lv_iadd hx hb dX7_sendOn_55 ?_
    refine zp_K_round C hs (hV0.2.1 i3 hi3 10 (by decide) (by decide)) z_k121 dX7_sendOn_56 (fun H locs hs => ?_)
    obtain ⟨σ6, -, hs, hf⟩ := z_top hs hf
    refine lv_aload hx hb dX7_sendOn_59 (lv_at hl 0 rfl) ?_
    refine lv_aload_n hx hb dX7_sendOn_61 rfl (lv_at hl 3 rfl) ?_
    refine zg_K_round C hs (hV0.2.1 i3 hi3 10 (by decide) (by decide)) z_k121 dX7_sendOn_62 ?_
    refine zp_L_round C hs (hV0.2.2 j5 (hq_5 j5 rfl) 20 (by decide) (by decide)) z_k212 dX7_sendOn_65 (fun H locs hs => ?_)
    obtain ⟨σ7, -, hs, hf⟩ := z_top hs hf
    refine lv_aload hx hb dX7_sendOn_68 (lv_at hl 0 rfl) ?_
    refine zg_L_kind C hs (hV0.2.2 j5 (hq_5 j5 rfl) 20 (by decide) (by decide)) z_k196 dX7_sendOn_70 ?_
    refine lv_iconst (v := 4) hx hb dX7_sendOn_73 (by decide) ?_
    refine lv_icmp_ne (tgt := 86) hx hb dX7_sendOn_74 (by decide) (fun c8 => ?_) (fun c8 => ?_)
    · have hf := z_f hf c8
      refine lv_aload hx hb dX7_sendOn_86 (lv_at hl 0 rfl) ?_
      refine lv_aload_n hx hb dX7_sendOn_88 rfl (lv_at hl 3 rfl) ?_
      refine lv_aload_n hx hb dX7_sendOn_89 rfl (lv_at hl 3 rfl) ?_
      refine zg_K_next C hs (hV0.2.1 i3 hi3 10 (by decide) (by decide)) z_k131 dX7_sendOn_90 ?_
      refine lv_iload_n hx hb dX7_sendOn_93 rfl (lv_at hl 2 rfl) ?_
      obtain ⟨g9, hf⟩ := z_gd hf
      refine z_ald C hs (hV0.2.1 i3 hi3 16 (by decide) (by decide)) (z_c16 E _ _ _ _) g9 rfl dX7_sendOn_94 ?_
      obtain ⟨r10, σ10, h_10, hf⟩ := z_bds hf
      refine z_goV C hs (z_runV C hs hl.1 (cL_takeEntries l E hV0 (hq_5 j5 rfl) hV0 hi3 h_10) zcV_RX7_197 (hV0.2.2 j5 (hq_5 j5 rfl) 20 (by decide) (by decide)) (z_c20 E _ _ _ _) rfl rfl rfl (by decide) (Nat.le_of_ble_eq_true rfl) dX7_sendOn_95) (fun H locs hs => ?_)
      refine lv_iload hx hb dX7_sendOn_98 (lv_at hl 4 rfl) ?_
      exact z_reti C hr hs hf dX7_sendOn_100
    · have hf := z_t hf c8
      refine lv_aload hx hb dX7_sendOn_77 (lv_at hl 0 rfl) ?_
      refine lv_aload_n hx hb dX7_sendOn_79 rfl (lv_at hl 3 rfl) ?_
      obtain ⟨r11, σ11, h_11, hf⟩ := z_bds hf
      refine z_goV C hs (z_runV C hs hl.1 (cL_takeFold l E hV0 (hq_5 j5 rfl) hV0 hi3 h_11) zcV_RX7_194 (hV0.2.2 j5 (hq_5 j5 rfl) 20 (by decide) (by decide)) (z_c20 E _ _ _ _) rfl rfl rfl (by decide) (Nat.le_of_ble_eq_true rfl) dX7_sendOn_80) (fun H locs hs => ?_)
      refine lv_goto (tgt := 98) hx hb dX7_sendOn_83 (by decide) ?_
      refine lv_iload hx hb dX7_sendOn_98 (lv_at hl 4 rfl) ?_
      exact z_reti C hr hs hf dX7_sendOn_100
set_option maxHeartbeats 4000000 in
set_option maxRecDepth 20000 in
theorem wW_sendOn {w0 : Nat} {x1 : Int32} {x2 : Int32} (C : z_C E RX7 cX7_sendOn 6 A p s m args meth c) (hr : meth.sig.returnType = (some .int)) (hV0 : z_W E w0) {ro : Int32} {σo : zS} (σ : zS) (H : Heap) (locs : List Loc) (ls : Array Slot) (hs : z_H E A s σ H locs) (hl : lv_has ls 6 [(0, .ref (z_ad E (0, w0, 0))), (1, .int x1), (2, .int x2)]) (hf : fW_sendOn w0 x1 x2 σ = some (ro, σo)) : W p l e (z_rm 4) s m args below meth c H locs 0 0 (MQ below (z_QI E ro σo A) args s 0 0 A) (F0 m 0 ls []) := by
  have hx := C.1
  have hb := C.2.1
  unfold fW_sendOn at hf
  refine lv_aload_n hx hb dX7_sendOn_0 rfl (lv_at hl 0 rfl) ?_
  refine zg_W_keepers C hs (hV0.1 0 (by decide)) z_k281 dX7_sendOn_1 ?_
  refine lv_iload_n hx hb dX7_sendOn_4 rfl (lv_at hl 1 rfl) ?_
  obtain ⟨g1, hf⟩ := z_gd hf
  refine z_aald C hs (hV0.1 1 (by decide)) (z_c1 E _ _ _ _) (t0 := 4) rfl g1 rfl dX7_sendOn_5 ?_
  refine lv_astore_n (lv' := [(3, .ref (z_ad E (10, w0, x1.toNatClampNeg))), (0, .ref (z_ad E (0, w0, 0))), (1, .int x1), (2, .int x2)]) hx hb dX7_sendOn_6 rfl hl (by decide) rfl (fun ls hl => ?_)
  refine lv_aload_n hx hb dX7_sendOn_7 rfl (lv_at hl 1 rfl) ?_
  refine zg_W_post C hs (hV0.1 0 (by decide)) z_k283 dX7_sendOn_8 ?_
  obtain ⟨r2, σ2, h_2, hf⟩ := z_bds hf
  refine z_goI C hs (z_runV C hs hl.1 (cP_leastEmpty l E hV0 h_2) zcV_RX7_148 (hV0.1 2 (by decide)) (z_c2 E _ _ _ _) rfl rfl rfl (by decide) (Nat.le_of_ble_eq_true rfl) dX7_sendOn_11) (fun H locs hs => ?_)
  refine lv_istore (lv' := [(4, .int r2), (3, .ref (z_ad E (10, w0, x1.toNatClampNeg))), (0, .ref (z_ad E (0, w0, 0))), (1, .int x1), (2, .int x2)]) hx hb dX7_sendOn_14 hl (by decide) rfl (fun ls hl => ?_)
  refine lv_aload_n hx hb dX7_sendOn_16 rfl (lv_at hl 2 rfl) ?_
  refine lv_aload_n hx hb dX7_sendOn_17 rfl (lv_at hl 1 rfl) ?_
  refine zg_K_next C hs (hV0.2.1 x1.toNatClampNeg (z_in_lt g1) 10 (by decide) (by decide)) z_k131 dX7_sendOn_18 ?_
  refine lv_iload_n hx hb dX7_sendOn_21 rfl (lv_at hl 4 rfl) ?_
  obtain ⟨g3, hf⟩ := z_gd hf
  refine z_ald C hs (hV0.2.1 x1.toNatClampNeg (z_in_lt g1) 16 (by decide) (by decide)) (z_c16 E _ _ _ _) g3 rfl dX7_sendOn_22 ?_
  refine lv_aload_n hx hb dX7_sendOn_23 rfl (lv_at hl 1 rfl) ?_
  refine zg_K_folded C hs (hV0.2.1 x1.toNatClampNeg (z_in_lt g1) 10 (by decide) (by decide)) z_k108 dX7_sendOn_24 ?_
  refine lv_icmp_gt (tgt := 34) hx hb dX7_sendOn_27 (by decide) (fun c4 => ?_) (fun c4 => ?_)
  · have hf := z_t hf c4
    refine lv_iconst (v := 2) hx hb dX7_sendOn_34 (by decide) ?_
    exact wW_sendOn_35 C hr hV0 x1 x2 (x1.toNatClampNeg) r2 2 σ2 _ _ _ (z_in_lt g1) hs (lv_sub hl [3, 4, 1, 0] rfl) hf
  · have hf := z_f hf c4
    refine lv_iconst (v := 4) hx hb dX7_sendOn_30 (by decide) ?_
    refine lv_goto (tgt := 35) hx hb dX7_sendOn_31 (by decide) ?_
    exact wW_sendOn_35 C hr hV0 x1 x2 (x1.toNatClampNeg) r2 4 σ2 _ _ _ (z_in_lt g1) hs (lv_sub hl [3, 4, 1, 0] rfl) hf
set_option maxHeartbeats 4000000 in
set_option maxRecDepth 20000 in
theorem cW_sendOn (l : Launch) (E : zE) {w0 : Nat} {x1 : Int32} {x2 : Int32} (hV0 : z_W E w0) {σ σo : zS} {ro : Int32} (hf : fW_sendOn w0 x1 x2 σ = some (ro, σo)) : z_T l E yX7_sendOn cX7_sendOn 6 (some .int) (z_rm 4) (z_QI E ro σo) [.ref (z_ad E (0, w0, 0)), .int x1, .int x2] σ :=
  z_enter (by decide) (Nat.le_of_ble_eq_true rfl) rfl (fun p e s m below meth c A ls C hr hs hl => wW_sendOn C hr hV0 σ _ _ ls hs hl hf)
def fX_append (x1 : Int32) (x2 : Int32) (σ : zS) : Option (Int32 × zS) :=
  z_bd (fW_isLeading 0 x1 σ) (fun r1 σ1 =>
  if r1 = 0 then
    (some ((-1), σ1))
  else
    (z_bd (fW_isKeeper 0 x2 σ1) (fun r3 σ3 =>
    if r3 = 0 then
      (some ((-1), σ3))
    else
      (if x1 = x2 then
        (some ((-1), σ3))
      else
        (z_bd (fW_sendOn 0 x1 x2 σ3) (fun r6 σ6 =>
        some (r6, σ6)))))))
set_option maxHeartbeats 4000000 in
set_option maxRecDepth 20000 in
theorem wX_append {x1 : Int32} {x2 : Int32} (C : z_C E RX8 cX8_append 3 A p s m args meth c) (hr : meth.sig.returnType = (some .int)) (hB : z_B E) (hW0 : z_W E 0) {ro : Int32} {σo : zS} (σ : zS) (H : Heap) (locs : List Loc) (ls : Array Slot) (hs : z_H E A s σ H locs) (hl : lv_has ls 3 [(0, .ref (z_ad E (30, 0, 0))), (1, .int x1), (2, .int x2)]) (hf : fX_append x1 x2 σ = some (ro, σo)) : W p l e (z_rm 5) s m args below meth c H locs 0 0 (MQ below (z_QI E ro σo A) args s 0 0 A) (F0 m 0 ls []) := by
  have hx := C.1
  have hb := C.2.1
  unfold fX_append at hf
  refine lv_aload_n hx hb dX8_append_0 rfl (lv_at hl 0 rfl) ?_
  refine zg_X_world C hs (hB 30 (by decide) (by decide)) z_k343 dX8_append_1 ?_
  refine lv_iload_n hx hb dX8_append_4 rfl (lv_at hl 1 rfl) ?_
  obtain ⟨r1, σ1, h_1, hf⟩ := z_bds hf
  refine z_goI C hs (z_runV C hs hl.1 (cW_isLeading l E hW0 h_1) zcV_RX8_118 (hW0.1 0 (by decide)) (z_c0 E _ _ _ _) rfl rfl rfl (by decide) (Nat.le_of_ble_eq_true rfl) dX8_append_5) (fun H locs hs => ?_)
  refine lv_if_eq (tgt := 27) hx hb dX8_append_8 (by decide) (fun c2 => ?_) (fun c2 => ?_)
  · have hf := z_t hf c2
    refine lv_iconst (v := (-1)) hx hb dX8_append_27 (by decide) ?_
    exact z_reti C hr hs hf dX8_append_28
  · have hf := z_f hf c2
    refine lv_aload_n hx hb dX8_append_11 rfl (lv_at hl 0 rfl) ?_
    refine zg_X_world C hs (hB 30 (by decide) (by decide)) z_k343 dX8_append_12 ?_
    refine lv_iload_n hx hb dX8_append_15 rfl (lv_at hl 2 rfl) ?_
    obtain ⟨r3, σ3, h_3, hf⟩ := z_bds hf
    refine z_goI C hs (z_runV C hs hl.1 (cW_isKeeper l E hW0 h_3) zcV_RX8_66 (hW0.1 0 (by decide)) (z_c0 E _ _ _ _) rfl rfl rfl (by decide) (Nat.le_of_ble_eq_true rfl) dX8_append_16) (fun H locs hs => ?_)
    refine lv_if_eq (tgt := 27) hx hb dX8_append_19 (by decide) (fun c4 => ?_) (fun c4 => ?_)
    · have hf := z_t hf c4
      refine lv_iconst (v := (-1)) hx hb dX8_append_27 (by decide) ?_
      exact z_reti C hr hs hf dX8_append_28
    · have hf := z_f hf c4
      refine lv_iload_n hx hb dX8_append_22 rfl (lv_at hl 1 rfl) ?_
      refine lv_iload_n hx hb dX8_append_23 rfl (lv_at hl 2 rfl) ?_
      refine lv_icmp_ne (tgt := 29) hx hb dX8_append_24 (by decide) (fun c5 => ?_) (fun c5 => ?_)
      · have hf := z_f hf c5
        refine lv_aload_n hx hb dX8_append_29 rfl (lv_at hl 0 rfl) ?_
        refine zg_X_world C hs (hB 30 (by decide) (by decide)) z_k343 dX8_append_30 ?_
        refine lv_iload_n hx hb dX8_append_33 rfl (lv_at hl 1 rfl) ?_
        refine lv_iload_n hx hb dX8_append_34 rfl (lv_at hl 2 rfl) ?_
        obtain ⟨r6, σ6, h_6, hf⟩ := z_bds hf
        refine z_goI C hs (z_runV C hs hl.1 (cW_sendOn l E hW0 h_6) zcV_RX8_129 (hW0.1 0 (by decide)) (z_c0 E _ _ _ _) rfl rfl rfl (by decide) (Nat.le_of_ble_eq_true rfl) dX8_append_35) (fun H locs hs => ?_)
        exact z_reti C hr hs hf dX8_append_38
      · have hf := z_t hf c5
        refine lv_iconst (v := (-1)) hx hb dX8_append_27 (by decide) ?_
        exact z_reti C hr hs hf dX8_append_28
set_option maxHeartbeats 4000000 in
set_option maxRecDepth 20000 in
theorem cX_append (l : Launch) (E : zE) {x1 : Int32} {x2 : Int32} (hB : z_B E) (hW0 : z_W E 0) {σ σo : zS} {ro : Int32} (hf : fX_append x1 x2 σ = some (ro, σo)) : z_T l E yX8_append cX8_append 3 (some .int) (z_rm 5) (z_QI E ro σo) [.ref (z_ad E (30, 0, 0)), .int x1, .int x2] σ :=
  z_enter (by decide) (Nat.le_of_ble_eq_true rfl) rfl (fun p e s m below meth c A ls C hr hs hl => wX_append C hr hB hW0 σ _ _ ls hs hl hf)
def fK_foldUpTo_48 (w0 : Nat) (i0 : Nat) (x1 : Int32) (x2 : Int32) (σ : zS) : Option (Unit × zS) :=
  z_bd (fK_forgetUpTo w0 i0 x1 σ) (fun _ σ4 =>
  z_let (z_up σ4 (10, w0, i0) 6 x2) (fun σ5 =>
  some ((), σ5)))
def fK_foldUpTo_13 (w0 : Nat) (i0 : Nat) : Nat → Int32 → Int32 → Int32 → zS → Option (Unit × zS)
  | 0, _, _, _, _ => none
  | n + 1, x1, x2, x3, σ =>
    if x1 < x3 then
      (fK_foldUpTo_48 w0 i0 x1 x2 σ)
    else
      (if (σ.1 (10, w0, i0) 7) < x3 then
        (fK_foldUpTo_48 w0 i0 x1 x2 σ)
      else
        (z_bd (fK_placeOf w0 i0 x3 σ) (fun r7 σ7 =>
        z_bd (fS_take (12, w0, i0) w0 i0 r7 σ7) (fun _ σ8 =>
        z_let (x3 + 1) (fun y9 =>
        fK_foldUpTo_13 w0 i0 n x1 x2 y9 σ8)))))
def fK_foldUpTo (w0 : Nat) (i0 : Nat) (x1 : Int32) (σ : zS) : Option (Unit × zS) :=
  z_bd (fK_termOf w0 i0 x1 σ) (fun r1 σ1 =>
  z_let ((σ1.1 (10, w0, i0) 5) + 1) (fun y2 =>
  fK_foldUpTo_13 w0 i0 z_fu x1 r1 y2 σ1))
set_option maxHeartbeats 4000000 in
set_option maxRecDepth 20000 in
theorem wK_foldUpTo_48 {w0 : Nat} {i0 : Nat} (C : z_C E RX1 cX1_foldUpTo 4 A p s m args meth c) (hr : meth.sig.returnType = none) (hV0 : z_W E w0) (hi0 : i0 < 7) {ro : Unit} {σo : zS} (x1 : Int32) (x2 : Int32) (σ : zS) (H : Heap) (locs : List Loc) (ls : Array Slot) (hs : z_H E A s σ H locs) (hl : lv_has ls 4 [(0, .ref (z_ad E (10, w0, i0))), (1, .int x1), (2, .int x2)]) (hf : fK_foldUpTo_48 w0 i0 x1 x2 σ = some (ro, σo)) : W p l e (z_rm 4) s m args below meth c H locs 0 0 (MQ below (z_QV E ro σo A) args s 0 0 A) (F0 m 48 ls []) := by
  have hx := C.1
  have hb := C.2.1
  unfold fK_foldUpTo_48 at hf
  refine lv_aload_n hx hb dX1_foldUpTo_48 rfl (lv_at hl 0 rfl) ?_
  refine lv_iload_n hx hb dX1_foldUpTo_49 rfl (lv_at hl 1 rfl) ?_
  obtain ⟨r4, σ4, h_4, hf⟩ := z_bds hf
  refine z_goV C hs (z_runV C hs hl.1 (cK_forgetUpTo l E hV0 hi0 h_4) zcV_RX1_113 (hV0.2.1 i0 hi0 10 (by decide) (by decide)) (z_c10 E _ _ _ _) rfl rfl rfl (by decide) (Nat.le_of_ble_eq_true rfl) dX1_foldUpTo_50) (fun H locs hs => ?_)
  refine lv_aload_n hx hb dX1_foldUpTo_53 rfl (lv_at hl 0 rfl) ?_
  refine lv_iload_n hx hb dX1_foldUpTo_54 rfl (lv_at hl 2 rfl) ?_
  refine zp_K_foldTerm C hs (hV0.2.1 i0 hi0 10 (by decide) (by decide)) z_k109 dX1_foldUpTo_55 (fun H locs hs => ?_)
  obtain ⟨σ5, -, hs, hf⟩ := z_top hs hf
  exact z_retv C hr hs hf dX1_foldUpTo_58
set_option maxHeartbeats 4000000 in
set_option maxRecDepth 20000 in
theorem wK_foldUpTo_13 {w0 : Nat} {i0 : Nat} (C : z_C E RX1 cX1_foldUpTo 4 A p s m args meth c) (hr : meth.sig.returnType = none) (hV0 : z_W E w0) (hi0 : i0 < 7) {ro : Unit} {σo : zS} (n : Nat) : ∀ (x1 : Int32) (x2 : Int32) (x3 : Int32) (σ : zS) (H : Heap) (locs : List Loc) (ls : Array Slot), z_H E A s σ H locs → lv_has ls 4 [(0, .ref (z_ad E (10, w0, i0))), (1, .int x1), (2, .int x2), (3, .int x3)] → fK_foldUpTo_13 w0 i0 n x1 x2 x3 σ = some (ro, σo) → W p l e (z_rm 4) s m args below meth c H locs 0 0 (MQ below (z_QV E ro σo A) args s 0 0 A) (F0 m 13 ls []) := by
  induction n with
  | zero =>
    intro x1 x2 x3 σ H locs ls hs hl hf
    have hf : none = some (ro, σo) := hf
    cases hf
  | succ n ih =>
    intro x1 x2 x3 σ H locs ls hs hl hf
    have hx := C.1
    have hb := C.2.1
    rw [fK_foldUpTo_13.eq_2] at hf
    refine lv_iload_n hx hb dX1_foldUpTo_13 rfl (lv_at hl 3 rfl) ?_
    refine lv_iload_n hx hb dX1_foldUpTo_14 rfl (lv_at hl 1 rfl) ?_
    refine lv_icmp_gt (tgt := 48) hx hb dX1_foldUpTo_15 (by decide) (fun c3 => ?_) (fun c3 => ?_)
    · have hf := z_t hf c3
      exact wK_foldUpTo_48 C hr hV0 hi0 x1 x2 σ _ _ _ hs (lv_sub hl [0, 1, 2] rfl) hf
    · have hf := z_f hf c3
      refine lv_iload_n hx hb dX1_foldUpTo_18 rfl (lv_at hl 3 rfl) ?_
      refine lv_aload_n hx hb dX1_foldUpTo_19 rfl (lv_at hl 0 rfl) ?_
      refine zg_K_last C hs (hV0.2.1 i0 hi0 10 (by decide) (by decide)) z_k111 dX1_foldUpTo_20 ?_
      refine lv_icmp_gt (tgt := 48) hx hb dX1_foldUpTo_23 (by decide) (fun c6 => ?_) (fun c6 => ?_)
      · have hf := z_t hf c6
        exact wK_foldUpTo_48 C hr hV0 hi0 x1 x2 σ _ _ _ hs (lv_sub hl [0, 1, 2] rfl) hf
      · have hf := z_f hf c6
        refine lv_aload_n hx hb dX1_foldUpTo_26 rfl (lv_at hl 0 rfl) ?_
        refine zg_K_foldState C hs (hV0.2.1 i0 hi0 10 (by decide) (by decide)) z_k125 dX1_foldUpTo_27 ?_
        refine lv_aload_n hx hb dX1_foldUpTo_30 rfl (lv_at hl 0 rfl) ?_
        refine zg_K_entries C hs (hV0.2.1 i0 hi0 10 (by decide) (by decide)) z_k122 dX1_foldUpTo_31 ?_
        refine lv_aload_n hx hb dX1_foldUpTo_34 rfl (lv_at hl 0 rfl) ?_
        refine lv_iload_n hx hb dX1_foldUpTo_35 rfl (lv_at hl 3 rfl) ?_
        obtain ⟨r7, σ7, h_7, hf⟩ := z_bds hf
        refine z_goI C hs (z_runV C hs hl.1 (cK_placeOf l E hV0 hi0 h_7) zcV_RX1_88 (hV0.2.1 i0 hi0 10 (by decide) (by decide)) (z_c10 E _ _ _ _) rfl rfl rfl (by decide) (Nat.le_of_ble_eq_true rfl) dX1_foldUpTo_36) (fun H locs hs => ?_)
        obtain ⟨r8, σ8, h_8, hf⟩ := z_bds hf
        refine z_goV C hs (z_runV C hs hl.1 (cS_take l E ⟨(show z_isS (12, w0, i0) from (Or.inl rfl)), (hV0.2.1 i0 hi0 12 (by decide) (by decide)), (hV0.2.1 i0 hi0 13 (by decide) (by decide))⟩ (hV0.2.1 i0 hi0 11 (by decide) (by decide)) h_8) zcV_RX1_106 (hV0.2.1 i0 hi0 12 (by decide) (by decide)) (z_cS E _ _ (show z_isS (12, w0, i0) from (Or.inl rfl))) rfl rfl rfl (by decide) (Nat.le_of_ble_eq_true rfl) dX1_foldUpTo_39) (fun H locs hs => ?_)
        obtain ⟨y9, e_y9⟩ : ∃ y : Int32, y = x3 + 1 := ⟨_, rfl⟩
        have hf := z_lte e_y9 hf
        refine lv_iinc (v := y9) (lv' := [(3, .int y9), (0, .ref (z_ad E (10, w0, i0))), (1, .int x1), (2, .int x2)]) hx hb dX1_foldUpTo_42 hl (k := 3) rfl (by rw [e_y9]; rfl) (by decide) rfl (fun ls hl => ?_)
        refine lv_goto (tgt := 13) hx hb dX1_foldUpTo_45 (by decide) ?_
        exact ih x1 x2 y9 σ8 _ _ _ hs (lv_sub hl [1, 2, 3, 0] rfl) hf
set_option maxHeartbeats 4000000 in
set_option maxRecDepth 20000 in
theorem wK_foldUpTo {w0 : Nat} {i0 : Nat} {x1 : Int32} (C : z_C E RX1 cX1_foldUpTo 4 A p s m args meth c) (hr : meth.sig.returnType = none) (hV0 : z_W E w0) (hi0 : i0 < 7) {ro : Unit} {σo : zS} (σ : zS) (H : Heap) (locs : List Loc) (ls : Array Slot) (hs : z_H E A s σ H locs) (hl : lv_has ls 4 [(0, .ref (z_ad E (10, w0, i0))), (1, .int x1)]) (hf : fK_foldUpTo w0 i0 x1 σ = some (ro, σo)) : W p l e (z_rm 4) s m args below meth c H locs 0 0 (MQ below (z_QV E ro σo A) args s 0 0 A) (F0 m 0 ls []) := by
  have hx := C.1
  have hb := C.2.1
  unfold fK_foldUpTo at hf
  refine lv_aload_n hx hb dX1_foldUpTo_0 rfl (lv_at hl 0 rfl) ?_
  refine lv_iload_n hx hb dX1_foldUpTo_1 rfl (lv_at hl 1 rfl) ?_
  obtain ⟨r1, σ1, h_1, hf⟩ := z_bds hf
  refine z_goI C hs (z_runV C hs hl.1 (cK_termOf l E hV0 hi0 h_1) zcV_RX1_110 (hV0.2.1 i0 hi0 10 (by decide) (by decide)) (z_c10 E _ _ _ _) rfl rfl rfl (by decide) (Nat.le_of_ble_eq_true rfl) dX1_foldUpTo_2) (fun H locs hs => ?_)
  refine lv_istore_n (lv' := [(2, .int r1), (0, .ref (z_ad E (10, w0, i0))), (1, .int x1)]) hx hb dX1_foldUpTo_5 rfl hl (by decide) rfl (fun ls hl => ?_)
  refine lv_aload_n hx hb dX1_foldUpTo_6 rfl (lv_at hl 1 rfl) ?_
  refine zg_K_folded C hs (hV0.2.1 i0 hi0 10 (by decide) (by decide)) z_k105 dX1_foldUpTo_7 ?_
  refine lv_iconst (v := 1) hx hb dX1_foldUpTo_10 (by decide) ?_
  refine lv_iadd hx hb dX1_foldUpTo_11 ?_
  refine lv_topi (fun y2 e_y2 => ?_)
  have hf := z_lte e_y2 hf
  refine lv_istore_n (lv' := [(3, .int y2), (2, .int r1), (0, .ref (z_ad E (10, w0, i0))), (1, .int x1)]) hx hb dX1_foldUpTo_12 rfl hl (by decide) rfl (fun ls hl => ?_)
  exact wK_foldUpTo_13 C hr hV0 hi0 z_fu x1 r1 y2 σ1 _ _ _ hs (lv_sub hl [2, 3, 1, 0] rfl) hf
set_option maxHeartbeats 4000000 in
set_option maxRecDepth 20000 in
theorem cK_foldUpTo (l : Launch) (E : zE) {w0 : Nat} {i0 : Nat} {x1 : Int32} (hV0 : z_W E w0) (hi0 : i0 < 7) {σ σo : zS} {ro : Unit} (hf : fK_foldUpTo w0 i0 x1 σ = some (ro, σo)) : z_T l E yX1_foldUpTo cX1_foldUpTo 4 none (z_rm 4) (z_QV E ro σo) [.ref (z_ad E (10, w0, i0)), .int x1] σ :=
  z_enter (by decide) (Nat.le_of_ble_eq_true rfl) rfl (fun p e s m below meth c A ls C hr hs hl => wK_foldUpTo C hr hV0 hi0 σ _ _ ls hs hl hf)
def fX_fold (x1 : Int32) (x2 : Int32) (σ : zS) : Option (Int32 × zS) :=
  z_bd (fW_isUp 0 x1 σ) (fun r1 σ1 =>
  if r1 = 0 then
    (some ((-1), σ1))
  else
    (if z_in x1 7 = true then (
    if x2 ≤ (σ1.1 (10, 0, x1.toNatClampNeg) 5) then
      (some ((-1), σ1))
    else
      (if x2 ≤ (σ1.1 (10, 0, x1.toNatClampNeg) 8) then
        (z_bd (fK_foldUpTo 0 (x1.toNatClampNeg) x2 σ1) (fun _ σ6 =>
        some ((σ6.1 (10, 0, x1.toNatClampNeg) 7) - (σ6.1 (10, 0, x1.toNatClampNeg) 5), σ6)))
      else
        (some ((-1), σ1)))) else none))
set_option maxHeartbeats 4000000 in
set_option maxRecDepth 20000 in
theorem wX_fold {x1 : Int32} {x2 : Int32} (C : z_C E RX8 cX8_fold 4 A p s m args meth c) (hr : meth.sig.returnType = (some .int)) (hB : z_B E) (hW0 : z_W E 0) {ro : Int32} {σo : zS} (σ : zS) (H : Heap) (locs : List Loc) (ls : Array Slot) (hs : z_H E A s σ H locs) (hl : lv_has ls 4 [(0, .ref (z_ad E (30, 0, 0))), (1, .int x1), (2, .int x2)]) (hf : fX_fold x1 x2 σ = some (ro, σo)) : W p l e (z_rm 5) s m args below meth c H locs 0 0 (MQ below (z_QI E ro σo A) args s 0 0 A) (F0 m 0 ls []) := by
  have hx := C.1
  have hb := C.2.1
  unfold fX_fold at hf
  refine lv_aload_n hx hb dX8_fold_0 rfl (lv_at hl 0 rfl) ?_
  refine zg_X_world C hs (hB 30 (by decide) (by decide)) z_k343 dX8_fold_1 ?_
  refine lv_iload_n hx hb dX8_fold_4 rfl (lv_at hl 1 rfl) ?_
  obtain ⟨r1, σ1, h_1, hf⟩ := z_bds hf
  refine z_goI C hs (z_runV C hs hl.1 (cW_isUp l E hW0 h_1) zcV_RX8_102 (hW0.1 0 (by decide)) (z_c0 E _ _ _ _) rfl rfl rfl (by decide) (Nat.le_of_ble_eq_true rfl) dX8_fold_5) (fun H locs hs => ?_)
  refine lv_if_ne (tgt := 13) hx hb dX8_fold_8 (by decide) (fun c2 => ?_) (fun c2 => ?_)
  · have hf := z_f hf c2
    refine lv_aload_n hx hb dX8_fold_13 rfl (lv_at hl 0 rfl) ?_
    refine zg_X_world C hs (hB 30 (by decide) (by decide)) z_k343 dX8_fold_14 ?_
    refine zg_W_keepers C hs (hW0.1 0 (by decide)) z_k282 dX8_fold_17 ?_
    refine lv_iload_n hx hb dX8_fold_20 rfl (lv_at hl 1 rfl) ?_
    obtain ⟨g3, hf⟩ := z_gd hf
    refine z_aald C hs (hW0.1 1 (by decide)) (z_c1 E _ _ _ _) (t0 := 4) rfl g3 rfl dX8_fold_21 ?_
    refine lv_astore_n (lv' := [(3, .ref (z_ad E (10, 0, x1.toNatClampNeg))), (0, .ref (z_ad E (30, 0, 0))), (1, .int x1), (2, .int x2)]) hx hb dX8_fold_22 rfl hl (by decide) rfl (fun ls hl => ?_)
    refine lv_iload_n hx hb dX8_fold_23 rfl (lv_at hl 3 rfl) ?_
    refine lv_aload_n hx hb dX8_fold_24 rfl (lv_at hl 0 rfl) ?_
    refine zg_K_folded C hs (hW0.2.1 x1.toNatClampNeg (z_in_lt g3) 10 (by decide) (by decide)) z_k107 dX8_fold_25 ?_
    refine lv_icmp_le (tgt := 39) hx hb dX8_fold_28 (by decide) (fun c4 => ?_) (fun c4 => ?_)
    · have hf := z_t hf c4
      refine lv_iconst (v := (-1)) hx hb dX8_fold_39 (by decide) ?_
      exact z_reti C hr hs hf dX8_fold_40
    · have hf := z_f hf c4
      refine lv_iload_n hx hb dX8_fold_31 rfl (lv_at hl 3 rfl) ?_
      refine lv_aload_n hx hb dX8_fold_32 rfl (lv_at hl 0 rfl) ?_
      refine zg_K_done C hs (hW0.2.1 x1.toNatClampNeg (z_in_lt g3) 10 (by decide) (by decide)) z_k117 dX8_fold_33 ?_
      refine lv_icmp_le (tgt := 41) hx hb dX8_fold_36 (by decide) (fun c5 => ?_) (fun c5 => ?_)
      · have hf := z_t hf c5
        refine lv_aload_n hx hb dX8_fold_41 rfl (lv_at hl 0 rfl) ?_
        refine lv_iload_n hx hb dX8_fold_42 rfl (lv_at hl 3 rfl) ?_
        obtain ⟨r6, σ6, h_6, hf⟩ := z_bds hf
        refine z_goV C hs (z_runV C hs hl.1 (cK_foldUpTo l E hW0 (z_in_lt g3) h_6) zcV_RX8_139 (hW0.2.1 x1.toNatClampNeg (z_in_lt g3) 10 (by decide) (by decide)) (z_c10 E _ _ _ _) rfl rfl rfl (by decide) (Nat.le_of_ble_eq_true rfl) dX8_fold_43) (fun H locs hs => ?_)
        refine lv_aload_n hx hb dX8_fold_46 rfl (lv_at hl 0 rfl) ?_
        refine zg_K_last C hs (hW0.2.1 x1.toNatClampNeg (z_in_lt g3) 10 (by decide) (by decide)) z_k113 dX8_fold_47 ?_
        refine lv_aload_n hx hb dX8_fold_50 rfl (lv_at hl 0 rfl) ?_
        refine zg_K_folded C hs (hW0.2.1 x1.toNatClampNeg (z_in_lt g3) 10 (by decide) (by decide)) z_k107 dX8_fold_51 ?_
        refine lv_isub hx hb dX8_fold_54 ?_
        exact z_reti C hr hs hf dX8_fold_55
      · have hf := z_f hf c5
        refine lv_iconst (v := (-1)) hx hb dX8_fold_39 (by decide) ?_
        exact z_reti C hr hs hf dX8_fold_40
  · have hf := z_t hf c2
    refine lv_iconst (v := (-1)) hx hb dX8_fold_11 (by decide) ?_
    exact z_reti C hr hs hf dX8_fold_12
set_option maxHeartbeats 4000000 in
set_option maxRecDepth 20000 in
theorem cX_fold (l : Launch) (E : zE) {x1 : Int32} {x2 : Int32} (hB : z_B E) (hW0 : z_W E 0) {σ σo : zS} {ro : Int32} (hf : fX_fold x1 x2 σ = some (ro, σo)) : z_T l E yX8_fold cX8_fold 4 (some .int) (z_rm 5) (z_QI E ro σo) [.ref (z_ad E (30, 0, 0)), .int x1, .int x2] σ :=
  z_enter (by decide) (Nat.le_of_ble_eq_true rfl) rfl (fun p e s m below meth c A ls C hr hs hl => wX_fold C hr hB hW0 σ _ _ ls hs hl hf)
def fR_add (w0 : Nat) (x1 : Int32) (x2 : Int32) (x3 : Int32) (x4 : Int32) (σ : zS) : Option (Int32 × zS) :=
  if (σ.1 (4, w0, 0) 4) < 40 then
    (if z_in (σ.1 (4, w0, 0) 4) 40 = true then (
    z_let (z_up σ (5, w0, 0) ((σ.1 (4, w0, 0) 4).toNatClampNeg) x1) (fun σ3 =>
    if z_in (σ3.1 (4, w0, 0) 4) 40 = true then (
    z_let (z_up σ3 (6, w0, 0) ((σ3.1 (4, w0, 0) 4).toNatClampNeg) x2) (fun σ5 =>
    if z_in (σ5.1 (4, w0, 0) 4) 40 = true then (
    z_let (z_up σ5 (7, w0, 0) ((σ5.1 (4, w0, 0) 4).toNatClampNeg) x3) (fun σ7 =>
    if z_in (σ7.1 (4, w0, 0) 4) 40 = true then (
    z_let (z_up σ7 (8, w0, 0) ((σ7.1 (4, w0, 0) 4).toNatClampNeg) x4) (fun σ9 =>
    z_let (z_up σ9 (4, w0, 0) 4 ((σ9.1 (4, w0, 0) 4) + 1)) (fun σ10 =>
    some ((σ10.1 (4, w0, 0) 4) - 1, σ10)))) else none)) else none)) else none)) else none)
  else
    (some ((-1), σ))
set_option maxHeartbeats 4000000 in
set_option maxRecDepth 20000 in
theorem wR_add {w0 : Nat} {x1 : Int32} {x2 : Int32} {x3 : Int32} {x4 : Int32} (C : z_C E RX4 cX4_add 5 A p s m args meth c) (hr : meth.sig.returnType = (some .int)) (hV0 : z_W E w0) {ro : Int32} {σo : zS} (σ : zS) (H : Heap) (locs : List Loc) (ls : Array Slot) (hs : z_H E A s σ H locs) (hl : lv_has ls 5 [(0, .ref (z_ad E (4, w0, 0))), (1, .int x1), (2, .int x2), (3, .int x3), (4, .int x4)]) (hf : fR_add w0 x1 x2 x3 x4 σ = some (ro, σo)) : W p l e (z_rm 1) s m args below meth c H locs 0 0 (MQ below (z_QI E ro σo A) args s 0 0 A) (F0 m 0 ls []) := by
  have hx := C.1
  have hb := C.2.1
  unfold fR_add at hf
  refine lv_aload_n hx hb dX4_add_0 rfl (lv_at hl 0 rfl) ?_
  refine zg_R_size C hs (hV0.1 4 (by decide)) z_k267 dX4_add_1 ?_
  refine lv_bipush (v := 40) hx hb dX4_add_4 (by decide) ?_
  refine lv_icmp_lt (tgt := 11) hx hb dX4_add_6 (by decide) (fun c1 => ?_) (fun c1 => ?_)
  · have hf := z_t hf c1
    refine lv_aload_n hx hb dX4_add_11 rfl (lv_at hl 0 rfl) ?_
    refine zg_R_keeper C hs (hV0.1 4 (by decide)) z_k259 dX4_add_12 ?_
    refine lv_aload_n hx hb dX4_add_15 rfl (lv_at hl 0 rfl) ?_
    refine zg_R_size C hs (hV0.1 4 (by decide)) z_k267 dX4_add_16 ?_
    refine lv_iload_n hx hb dX4_add_19 rfl (lv_at hl 1 rfl) ?_
    obtain ⟨g2, hf⟩ := z_gd hf
    refine z_ast C hs (hV0.1 5 (by decide)) (fun r h => z_c5 E r h _ _) g2 rfl dX4_add_20 (fun H locs hs => ?_)
    obtain ⟨σ3, -, hs, hf⟩ := z_top hs hf
    refine lv_aload_n hx hb dX4_add_21 rfl (lv_at hl 0 rfl) ?_
    refine zg_R_cell C hs (hV0.1 4 (by decide)) z_k261 dX4_add_22 ?_
    refine lv_aload_n hx hb dX4_add_25 rfl (lv_at hl 0 rfl) ?_
    refine zg_R_size C hs (hV0.1 4 (by decide)) z_k267 dX4_add_26 ?_
    refine lv_iload_n hx hb dX4_add_29 rfl (lv_at hl 2 rfl) ?_
    obtain ⟨g4, hf⟩ := z_gd hf
    refine z_ast C hs (hV0.1 6 (by decide)) (fun r h => z_c6 E r h _ _) g4 rfl dX4_add_30 (fun H locs hs => ?_)
    obtain ⟨σ5, -, hs, hf⟩ := z_top hs hf
    refine lv_aload_n hx hb dX4_add_31 rfl (lv_at hl 0 rfl) ?_
    refine zg_R_term C hs (hV0.1 4 (by decide)) z_k263 dX4_add_32 ?_
    refine lv_aload_n hx hb dX4_add_35 rfl (lv_at hl 0 rfl) ?_
    refine zg_R_size C hs (hV0.1 4 (by decide)) z_k267 dX4_add_36 ?_
    refine lv_iload_n hx hb dX4_add_39 rfl (lv_at hl 3 rfl) ?_
    obtain ⟨g6, hf⟩ := z_gd hf
    refine z_ast C hs (hV0.1 7 (by decide)) (fun r h => z_c7 E r h _ _) g6 rfl dX4_add_40 (fun H locs hs => ?_)
    obtain ⟨σ7, -, hs, hf⟩ := z_top hs hf
    refine lv_aload_n hx hb dX4_add_41 rfl (lv_at hl 0 rfl) ?_
    refine zg_R_round C hs (hV0.1 4 (by decide)) z_k265 dX4_add_42 ?_
    refine lv_aload_n hx hb dX4_add_45 rfl (lv_at hl 0 rfl) ?_
    refine zg_R_size C hs (hV0.1 4 (by decide)) z_k267 dX4_add_46 ?_
    refine lv_iload hx hb dX4_add_49 (lv_at hl 4 rfl) ?_
    obtain ⟨g8, hf⟩ := z_gd hf
    refine z_ast C hs (hV0.1 8 (by decide)) (fun r h => z_c8 E r h _ _) g8 rfl dX4_add_51 (fun H locs hs => ?_)
    obtain ⟨σ9, -, hs, hf⟩ := z_top hs hf
    refine lv_aload_n hx hb dX4_add_52 rfl (lv_at hl 0 rfl) ?_
    refine lv_dup hx hb dX4_add_53 rfl ?_
    refine zg_R_size C hs (hV0.1 4 (by decide)) z_k267 dX4_add_54 ?_
    refine lv_iconst (v := 1) hx hb dX4_add_57 (by decide) ?_
    refine lv_iadd hx hb dX4_add_58 ?_
    refine zp_R_size C hs (hV0.1 4 (by decide)) z_k267 dX4_add_59 (fun H locs hs => ?_)
    obtain ⟨σ10, -, hs, hf⟩ := z_top hs hf
    refine lv_aload_n hx hb dX4_add_62 rfl (lv_at hl 0 rfl) ?_
    refine zg_R_size C hs (hV0.1 4 (by decide)) z_k267 dX4_add_63 ?_
    refine lv_iconst (v := 1) hx hb dX4_add_66 (by decide) ?_
    refine lv_isub hx hb dX4_add_67 ?_
    exact z_reti C hr hs hf dX4_add_68
  · have hf := z_f hf c1
    refine lv_iconst (v := (-1)) hx hb dX4_add_9 (by decide) ?_
    exact z_reti C hr hs hf dX4_add_10
set_option maxHeartbeats 4000000 in
set_option maxRecDepth 20000 in
theorem cR_add (l : Launch) (E : zE) {w0 : Nat} {x1 : Int32} {x2 : Int32} {x3 : Int32} {x4 : Int32} (hV0 : z_W E w0) {σ σo : zS} {ro : Int32} (hf : fR_add w0 x1 x2 x3 x4 σ = some (ro, σo)) : z_T l E yX4_add cX4_add 5 (some .int) (z_rm 1) (z_QI E ro σo) [.ref (z_ad E (4, w0, 0)), .int x1, .int x2, .int x3, .int x4] σ :=
  z_enter (by decide) (Nat.le_of_ble_eq_true rfl) rfl (fun p e s m below meth c A ls C hr hs hl => wR_add C hr hV0 σ _ _ ls hs hl hf)
def fW_beginRead (w0 : Nat) (x1 : Int32) (x2 : Int32) (σ : zS) : Option (Int32 × zS) :=
  if z_in x1 7 = true then (
  z_bd (fK_termOf w0 (x1.toNatClampNeg) (σ.1 (10, w0, x1.toNatClampNeg) 8) σ) (fun r2 σ2 =>
  if r2 = (σ2.1 (10, w0, x1.toNatClampNeg) 2) then
    (z_bd (fR_add w0 x1 x2 (σ2.1 (10, w0, x1.toNatClampNeg) 2) (σ2.1 (10, w0, x1.toNatClampNeg) 10) σ2) (fun r4 σ4 =>
    some (r4, σ4)))
  else
    (some ((-1), σ2)))) else none
set_option maxHeartbeats 4000000 in
set_option maxRecDepth 20000 in
theorem wW_beginRead {w0 : Nat} {x1 : Int32} {x2 : Int32} (C : z_C E RX7 cX7_beginRead 4 A p s m args meth c) (hr : meth.sig.returnType = (some .int)) (hV0 : z_W E w0) {ro : Int32} {σo : zS} (σ : zS) (H : Heap) (locs : List Loc) (ls : Array Slot) (hs : z_H E A s σ H locs) (hl : lv_has ls 4 [(0, .ref (z_ad E (0, w0, 0))), (1, .int x1), (2, .int x2)]) (hf : fW_beginRead w0 x1 x2 σ = some (ro, σo)) : W p l e (z_rm 3) s m args below meth c H locs 0 0 (MQ below (z_QI E ro σo A) args s 0 0 A) (F0 m 0 ls []) := by
  have hx := C.1
  have hb := C.2.1
  unfold fW_beginRead at hf
  refine lv_aload_n hx hb dX7_beginRead_0 rfl (lv_at hl 0 rfl) ?_
  refine zg_W_keepers C hs (hV0.1 0 (by decide)) z_k281 dX7_beginRead_1 ?_
  refine lv_iload_n hx hb dX7_beginRead_4 rfl (lv_at hl 1 rfl) ?_
  obtain ⟨g1, hf⟩ := z_gd hf
  refine z_aald C hs (hV0.1 1 (by decide)) (z_c1 E _ _ _ _) (t0 := 4) rfl g1 rfl dX7_beginRead_5 ?_
  refine lv_astore_n (lv' := [(3, .ref (z_ad E (10, w0, x1.toNatClampNeg))), (0, .ref (z_ad E (0, w0, 0))), (1, .int x1), (2, .int x2)]) hx hb dX7_beginRead_6 rfl hl (by decide) rfl (fun ls hl => ?_)
  refine lv_aload_n hx hb dX7_beginRead_7 rfl (lv_at hl 0 rfl) ?_
  refine lv_aload_n hx hb dX7_beginRead_8 rfl (lv_at hl 0 rfl) ?_
  refine zg_K_done C hs (hV0.2.1 x1.toNatClampNeg (z_in_lt g1) 10 (by decide) (by decide)) z_k116 dX7_beginRead_9 ?_
  obtain ⟨r2, σ2, h_2, hf⟩ := z_bds hf
  refine z_goI C hs (z_runV C hs hl.1 (cK_termOf l E hV0 (z_in_lt g1) h_2) zcV_RX7_130 (hV0.2.1 x1.toNatClampNeg (z_in_lt g1) 10 (by decide) (by decide)) (z_c10 E _ _ _ _) rfl rfl rfl (by decide) (Nat.le_of_ble_eq_true rfl) dX7_beginRead_12) (fun H locs hs => ?_)
  refine lv_aload_n hx hb dX7_beginRead_15 rfl (lv_at hl 0 rfl) ?_
  refine zg_K_term C hs (hV0.2.1 x1.toNatClampNeg (z_in_lt g1) 10 (by decide) (by decide)) z_k100 dX7_beginRead_16 ?_
  refine lv_icmp_eq (tgt := 24) hx hb dX7_beginRead_19 (by decide) (fun c3 => ?_) (fun c3 => ?_)
  · have hf := z_t hf c3
    refine lv_aload_n hx hb dX7_beginRead_24 rfl (lv_at hl 1 rfl) ?_
    refine zg_W_reads C hs (hV0.1 0 (by decide)) z_k285 dX7_beginRead_25 ?_
    refine lv_iload_n hx hb dX7_beginRead_28 rfl (lv_at hl 2 rfl) ?_
    refine lv_iload_n hx hb dX7_beginRead_29 rfl (lv_at hl 3 rfl) ?_
    refine lv_aload_n hx hb dX7_beginRead_30 rfl (lv_at hl 0 rfl) ?_
    refine zg_K_term C hs (hV0.2.1 x1.toNatClampNeg (z_in_lt g1) 10 (by decide) (by decide)) z_k100 dX7_beginRead_31 ?_
    refine lv_aload_n hx hb dX7_beginRead_34 rfl (lv_at hl 0 rfl) ?_
    refine zg_K_round C hs (hV0.2.1 x1.toNatClampNeg (z_in_lt g1) 10 (by decide) (by decide)) z_k121 dX7_beginRead_35 ?_
    obtain ⟨r4, σ4, h_4, hf⟩ := z_bds hf
    refine z_goI C hs (z_runV C hs hl.1 (cR_add l E hV0 h_4) zcV_RX7_278 (hV0.1 4 (by decide)) (z_c4 E _ _ _ _) rfl rfl rfl (by decide) (Nat.le_of_ble_eq_true rfl) dX7_beginRead_38) (fun H locs hs => ?_)
    exact z_reti C hr hs hf dX7_beginRead_41
  · have hf := z_f hf c3
    refine lv_iconst (v := (-1)) hx hb dX7_beginRead_22 (by decide) ?_
    exact z_reti C hr hs hf dX7_beginRead_23
set_option maxHeartbeats 4000000 in
set_option maxRecDepth 20000 in
theorem cW_beginRead (l : Launch) (E : zE) {w0 : Nat} {x1 : Int32} {x2 : Int32} (hV0 : z_W E w0) {σ σo : zS} {ro : Int32} (hf : fW_beginRead w0 x1 x2 σ = some (ro, σo)) : z_T l E yX7_beginRead cX7_beginRead 4 (some .int) (z_rm 3) (z_QI E ro σo) [.ref (z_ad E (0, w0, 0)), .int x1, .int x2] σ :=
  z_enter (by decide) (Nat.le_of_ble_eq_true rfl) rfl (fun p e s m below meth c A ls C hr hs hl => wW_beginRead C hr hV0 σ _ _ ls hs hl hf)
def fX_read (x1 : Int32) (x2 : Int32) (σ : zS) : Option (Int32 × zS) :=
  z_bd (fW_isLeading 0 x1 σ) (fun r1 σ1 =>
  if r1 = 0 then
    (some ((-1), σ1))
  else
    (z_bd (fX_isCell x2 σ1) (fun r3 σ3 =>
    if r3 = 0 then
      (some ((-1), σ3))
    else
      (z_bd (fW_beginRead 0 x1 x2 σ3) (fun r5 σ5 =>
      some (r5, σ5))))))
set_option maxHeartbeats 4000000 in
set_option maxRecDepth 20000 in
theorem wX_read {x1 : Int32} {x2 : Int32} (C : z_C E RX8 cX8_read 3 A p s m args meth c) (hr : meth.sig.returnType = (some .int)) (hB : z_B E) (hW0 : z_W E 0) {ro : Int32} {σo : zS} (σ : zS) (H : Heap) (locs : List Loc) (ls : Array Slot) (hs : z_H E A s σ H locs) (hl : lv_has ls 3 [(0, .ref (z_ad E (30, 0, 0))), (1, .int x1), (2, .int x2)]) (hf : fX_read x1 x2 σ = some (ro, σo)) : W p l e (z_rm 4) s m args below meth c H locs 0 0 (MQ below (z_QI E ro σo A) args s 0 0 A) (F0 m 0 ls []) := by
  have hx := C.1
  have hb := C.2.1
  unfold fX_read at hf
  refine lv_aload_n hx hb dX8_read_0 rfl (lv_at hl 0 rfl) ?_
  refine zg_X_world C hs (hB 30 (by decide) (by decide)) z_k343 dX8_read_1 ?_
  refine lv_iload_n hx hb dX8_read_4 rfl (lv_at hl 1 rfl) ?_
  obtain ⟨r1, σ1, h_1, hf⟩ := z_bds hf
  refine z_goI C hs (z_runV C hs hl.1 (cW_isLeading l E hW0 h_1) zcV_RX8_118 (hW0.1 0 (by decide)) (z_c0 E _ _ _ _) rfl rfl rfl (by decide) (Nat.le_of_ble_eq_true rfl) dX8_read_5) (fun H locs hs => ?_)
  refine lv_if_eq (tgt := 18) hx hb dX8_read_8 (by decide) (fun c2 => ?_) (fun c2 => ?_)
  · have hf := z_t hf c2
    refine lv_iconst (v := (-1)) hx hb dX8_read_18 (by decide) ?_
    exact z_reti C hr hs hf dX8_read_19
  · have hf := z_f hf c2
    refine lv_iload_n hx hb dX8_read_11 rfl (lv_at hl 2 rfl) ?_
    obtain ⟨r3, σ3, h_3, hf⟩ := z_bds hf
    refine z_goI C hs (z_runS C hs hl.1 (cX_isCell l E h_3) zcS_RX8_145 rfl rfl rfl (by decide) (Nat.le_of_ble_eq_true rfl) dX8_read_12) (fun H locs hs => ?_)
    refine lv_if_ne (tgt := 20) hx hb dX8_read_15 (by decide) (fun c4 => ?_) (fun c4 => ?_)
    · have hf := z_f hf c4
      refine lv_aload_n hx hb dX8_read_20 rfl (lv_at hl 0 rfl) ?_
      refine zg_X_world C hs (hB 30 (by decide) (by decide)) z_k343 dX8_read_21 ?_
      refine lv_iload_n hx hb dX8_read_24 rfl (lv_at hl 1 rfl) ?_
      refine lv_iload_n hx hb dX8_read_25 rfl (lv_at hl 2 rfl) ?_
      obtain ⟨r5, σ5, h_5, hf⟩ := z_bds hf
      refine z_goI C hs (z_runV C hs hl.1 (cW_beginRead l E hW0 h_5) zcV_RX8_148 (hW0.1 0 (by decide)) (z_c0 E _ _ _ _) rfl rfl rfl (by decide) (Nat.le_of_ble_eq_true rfl) dX8_read_26) (fun H locs hs => ?_)
      exact z_reti C hr hs hf dX8_read_29
    · have hf := z_t hf c4
      refine lv_iconst (v := (-1)) hx hb dX8_read_18 (by decide) ?_
      exact z_reti C hr hs hf dX8_read_19
set_option maxHeartbeats 4000000 in
set_option maxRecDepth 20000 in
theorem cX_read (l : Launch) (E : zE) {x1 : Int32} {x2 : Int32} (hB : z_B E) (hW0 : z_W E 0) {σ σo : zS} {ro : Int32} (hf : fX_read x1 x2 σ = some (ro, σo)) : z_T l E yX8_read cX8_read 3 (some .int) (z_rm 4) (z_QI E ro σo) [.ref (z_ad E (30, 0, 0)), .int x1, .int x2] σ :=
  z_enter (by decide) (Nat.le_of_ble_eq_true rfl) rfl (fun p e s m below meth c A ls C hr hs hl => wX_read C hr hB hW0 σ _ _ ls hs hl hf)
def fR_isThere (w0 : Nat) (x1 : Int32) (σ : zS) : Option (Int32 × zS) :=
  if x1 < 0 then
    (some (0, σ))
  else
    (if (σ.1 (4, w0, 0) 4) ≤ x1 then
      (some (0, σ))
    else
      (if 40 ≤ x1 then
        (some (0, σ))
      else
        (some (1, σ))))
set_option maxHeartbeats 4000000 in
set_option maxRecDepth 20000 in
theorem wR_isThere {w0 : Nat} {x1 : Int32} (C : z_C E RX4 cX4_isThere 2 A p s m args meth c) (hr : meth.sig.returnType = (some .boolean)) (hV0 : z_W E w0) {ro : Int32} {σo : zS} (σ : zS) (H : Heap) (locs : List Loc) (ls : Array Slot) (hs : z_H E A s σ H locs) (hl : lv_has ls 2 [(0, .ref (z_ad E (4, w0, 0))), (1, .int x1)]) (hf : fR_isThere w0 x1 σ = some (ro, σo)) : W p l e (z_rm 1) s m args below meth c H locs 0 0 (MQ below (z_QI E ro σo A) args s 0 0 A) (F0 m 0 ls []) := by
  have hx := C.1
  have hb := C.2.1
  unfold fR_isThere at hf
  refine lv_iload_n hx hb dX4_isThere_0 rfl (lv_at hl 1 rfl) ?_
  refine lv_if_lt (tgt := 22) hx hb dX4_isThere_1 (by decide) (fun c1 => ?_) (fun c1 => ?_)
  · have hf := z_t hf c1
    refine lv_iconst (v := 0) hx hb dX4_isThere_22 (by decide) ?_
    exact z_retz C hr hs (by decide +kernel) hf dX4_isThere_23
  · have hf := z_f hf c1
    refine lv_iload_n hx hb dX4_isThere_4 rfl (lv_at hl 1 rfl) ?_
    refine lv_aload_n hx hb dX4_isThere_5 rfl (lv_at hl 0 rfl) ?_
    refine zg_R_size C hs (hV0.1 4 (by decide)) z_k267 dX4_isThere_6 ?_
    refine lv_icmp_ge (tgt := 22) hx hb dX4_isThere_9 (by decide) (fun c2 => ?_) (fun c2 => ?_)
    · have hf := z_t hf c2
      refine lv_iconst (v := 0) hx hb dX4_isThere_22 (by decide) ?_
      exact z_retz C hr hs (by decide +kernel) hf dX4_isThere_23
    · have hf := z_f hf c2
      refine lv_iload_n hx hb dX4_isThere_12 rfl (lv_at hl 1 rfl) ?_
      refine lv_bipush (v := 40) hx hb dX4_isThere_13 (by decide) ?_
      refine lv_icmp_ge (tgt := 22) hx hb dX4_isThere_15 (by decide) (fun c3 => ?_) (fun c3 => ?_)
      · have hf := z_t hf c3
        refine lv_iconst (v := 0) hx hb dX4_isThere_22 (by decide) ?_
        exact z_retz C hr hs (by decide +kernel) hf dX4_isThere_23
      · have hf := z_f hf c3
        refine lv_iconst (v := 1) hx hb dX4_isThere_18 (by decide) ?_
        refine lv_goto (tgt := 23) hx hb dX4_isThere_19 (by decide) ?_
        exact z_retz C hr hs (by decide +kernel) hf dX4_isThere_23
set_option maxHeartbeats 4000000 in
set_option maxRecDepth 20000 in
theorem cR_isThere (l : Launch) (E : zE) {w0 : Nat} {x1 : Int32} (hV0 : z_W E w0) {σ σo : zS} {ro : Int32} (hf : fR_isThere w0 x1 σ = some (ro, σo)) : z_T l E yX4_isThere cX4_isThere 2 (some .boolean) (z_rm 1) (z_QI E ro σo) [.ref (z_ad E (4, w0, 0)), .int x1] σ :=
  z_enter (by decide) (Nat.le_of_ble_eq_true rfl) rfl (fun p e s m below meth c A ls C hr hs hl => wR_isThere C hr hV0 σ _ _ ls hs hl hf)
def fW_isGood_46 (w0 : Nat) : Nat → Int32 → Int32 → Int32 → Int32 → zS → Option (Int32 × zS)
  | 0, _, _, _, _, _ => none
  | n + 1, x1, x2, x3, x4, σ =>
    if (σ.1 (0, w0, 0) 3) ≤ x4 then
      (z_bd (fW_most w0 σ) (fun r9 σ9 =>
      if x3 < r9 then
        (some (0, σ9))
      else
        (some (1, σ9))))
    else
      (if z_in x4 7 = true then (
      if (σ.1 (10, w0, x4.toNatClampNeg) 0) = 0 then
        (z_let (x4 + 1) (fun y13 =>
        fW_isGood_46 w0 n x1 x2 x3 y13 σ))
      else
        (if x4 = x2 then
          (z_let (x3 + 1) (fun y15 =>
          z_let (x4 + 1) (fun y16 =>
          fW_isGood_46 w0 n x1 x2 y15 y16 σ)))
        else
          (if z_in x2 7 = true then (
          if z_in x4 7 = true then (
          if z_in x1 40 = true then (
          if (σ.1 (19, w0, x2.toNatClampNeg) x4.toNatClampNeg) ≤ (σ.1 (8, w0, 0) x1.toNatClampNeg) then
            (z_let (x4 + 1) (fun y21 =>
            fW_isGood_46 w0 n x1 x2 x3 y21 σ))
          else
            (z_let (x3 + 1) (fun y22 =>
            z_let (x4 + 1) (fun y23 =>
            fW_isGood_46 w0 n x1 x2 y22 y23 σ)))) else none) else none) else none))) else none)
def fW_isGood (w0 : Nat) (x1 : Int32) (σ : zS) : Option (Int32 × zS) :=
  if z_in x1 40 = true then (
  z_let (σ.1 (5, w0, 0) x1.toNatClampNeg) (fun y2 =>
  z_bd (fW_isLeading w0 y2 σ) (fun r3 σ3 =>
  if r3 = 0 then
    (some (0, σ3))
  else
    (if z_in y2 7 = true then (
    if z_in x1 40 = true then (
    if (σ3.1 (10, w0, y2.toNatClampNeg) 2) = (σ3.1 (7, w0, 0) x1.toNatClampNeg) then
      (fW_isGood_46 w0 z_fu x1 y2 0 0 σ3)
    else
      (some (0, σ3))) else none) else none)))) else none
set_option maxHeartbeats 4000000 in
set_option maxRecDepth 20000 in
theorem wW_isGood_46 {w0 : Nat} (C : z_C E RX7 cX7_isGood 5 A p s m args meth c) (hr : meth.sig.returnType = (some .boolean)) (hV0 : z_W E w0) {ro : Int32} {σo : zS} (n : Nat) : ∀ (x1 : Int32) (x2 : Int32) (x3 : Int32) (x4 : Int32) (σ : zS) (H : Heap) (locs : List Loc) (ls : Array Slot), z_H E A s σ H locs → lv_has ls 5 [(0, .ref (z_ad E (0, w0, 0))), (1, .int x1), (2, .int x2), (3, .int x3), (4, .int x4)] → fW_isGood_46 w0 n x1 x2 x3 x4 σ = some (ro, σo) → W p l e (z_rm 4) s m args below meth c H locs 0 0 (MQ below (z_QI E ro σo A) args s 0 0 A) (F0 m 46 ls []) := by
  induction n with
  | zero =>
    intro x1 x2 x3 x4 σ H locs ls hs hl hf
    have hf : none = some (ro, σo) := hf
    cases hf
  | succ n ih =>
    intro x1 x2 x3 x4 σ H locs ls hs hl hf
    have hx := C.1
    have hb := C.2.1
    rw [fW_isGood_46.eq_2] at hf
    refine lv_iload hx hb dX7_isGood_46 (lv_at hl 4 rfl) ?_
    refine lv_aload_n hx hb dX7_isGood_48 rfl (lv_at hl 0 rfl) ?_
    refine zg_W_count C hs (hV0.1 0 (by decide)) z_k287 dX7_isGood_49 ?_
    refine lv_icmp_ge (tgt := 107) hx hb dX7_isGood_52 (by decide) (fun c8 => ?_) (fun c8 => ?_)
    · have hf := z_t hf c8
      refine lv_iload_n hx hb dX7_isGood_107 rfl (lv_at hl 3 rfl) ?_
      refine lv_aload_n hx hb dX7_isGood_108 rfl (lv_at hl 0 rfl) ?_
      obtain ⟨r9, σ9, h_9, hf⟩ := z_bds hf
      refine z_goI C hs (z_runV C hs hl.1 (cW_most l E hV0 h_9) zcV_RX7_142 (hV0.1 0 (by decide)) (z_c0 E _ _ _ _) rfl rfl rfl (by decide) (Nat.le_of_ble_eq_true rfl) dX7_isGood_109) (fun H locs hs => ?_)
      refine lv_icmp_lt (tgt := 119) hx hb dX7_isGood_112 (by decide) (fun c10 => ?_) (fun c10 => ?_)
      · have hf := z_t hf c10
        refine lv_iconst (v := 0) hx hb dX7_isGood_119 (by decide) ?_
        exact z_retz C hr hs (by decide +kernel) hf dX7_isGood_120
      · have hf := z_f hf c10
        refine lv_iconst (v := 1) hx hb dX7_isGood_115 (by decide) ?_
        refine lv_goto (tgt := 120) hx hb dX7_isGood_116 (by decide) ?_
        exact z_retz C hr hs (by decide +kernel) hf dX7_isGood_120
    · have hf := z_f hf c8
      refine lv_aload_n hx hb dX7_isGood_55 rfl (lv_at hl 0 rfl) ?_
      refine zg_W_keepers C hs (hV0.1 0 (by decide)) z_k281 dX7_isGood_56 ?_
      refine lv_iload hx hb dX7_isGood_59 (lv_at hl 4 rfl) ?_
      obtain ⟨g11, hf⟩ := z_gd hf
      refine z_aald C hs (hV0.1 1 (by decide)) (z_c1 E _ _ _ _) (t0 := 4) rfl g11 rfl dX7_isGood_61 ?_
      refine zg_K_voter C hs (hV0.2.1 x4.toNatClampNeg (z_in_lt g11) 10 (by decide) (by decide)) z_k95 dX7_isGood_62 ?_
      refine lv_if_eq (tgt := 101) hx hb dX7_isGood_65 (by decide) (fun c12 => ?_) (fun c12 => ?_)
      · have hf := z_t hf c12
        obtain ⟨y13, e_y13⟩ : ∃ y : Int32, y = x4 + 1 := ⟨_, rfl⟩
        have hf := z_lte e_y13 hf
        refine lv_iinc (v := y13) (lv' := [(4, .int y13), (0, .ref (z_ad E (0, w0, 0))), (1, .int x1), (2, .int x2), (3, .int x3)]) hx hb dX7_isGood_101 hl (k := 4) rfl (by rw [e_y13]; rfl) (by decide) rfl (fun ls hl => ?_)
        refine lv_goto (tgt := 46) hx hb dX7_isGood_104 (by decide) ?_
        exact ih x1 x2 x3 y13 σ _ _ _ hs (lv_sub hl [1, 2, 3, 4, 0] rfl) hf
      · have hf := z_f hf c12
        refine lv_iload hx hb dX7_isGood_68 (lv_at hl 4 rfl) ?_
        refine lv_iload_n hx hb dX7_isGood_70 rfl (lv_at hl 2 rfl) ?_
        refine lv_icmp_eq (tgt := 98) hx hb dX7_isGood_71 (by decide) (fun c14 => ?_) (fun c14 => ?_)
        · have hf := z_t hf c14
          obtain ⟨y15, e_y15⟩ : ∃ y : Int32, y = x3 + 1 := ⟨_, rfl⟩
          have hf := z_lte e_y15 hf
          refine lv_iinc (v := y15) (lv' := [(3, .int y15), (0, .ref (z_ad E (0, w0, 0))), (1, .int x1), (2, .int x2), (4, .int x4)]) hx hb dX7_isGood_98 hl (k := 3) rfl (by rw [e_y15]; rfl) (by decide) rfl (fun ls hl => ?_)
          obtain ⟨y16, e_y16⟩ : ∃ y : Int32, y = x4 + 1 := ⟨_, rfl⟩
          have hf := z_lte e_y16 hf
          refine lv_iinc (v := y16) (lv' := [(4, .int y16), (3, .int y15), (0, .ref (z_ad E (0, w0, 0))), (1, .int x1), (2, .int x2)]) hx hb dX7_isGood_101 hl (k := 4) rfl (by rw [e_y16]; rfl) (by decide) rfl (fun ls hl => ?_)
          refine lv_goto (tgt := 46) hx hb dX7_isGood_104 (by decide) ?_
          exact ih x1 x2 y15 y16 σ _ _ _ hs (lv_sub hl [2, 3, 4, 1, 0] rfl) hf
        · have hf := z_f hf c14
          refine lv_aload_n hx hb dX7_isGood_74 rfl (lv_at hl 0 rfl) ?_
          refine zg_W_keepers C hs (hV0.1 0 (by decide)) z_k281 dX7_isGood_75 ?_
          refine lv_iload_n hx hb dX7_isGood_78 rfl (lv_at hl 2 rfl) ?_
          obtain ⟨g17, hf⟩ := z_gd hf
          refine z_aald C hs (hV0.1 1 (by decide)) (z_c1 E _ _ _ _) (t0 := 4) rfl g17 rfl dX7_isGood_79 ?_
          refine zg_K_heard C hs (hV0.2.1 x2.toNatClampNeg (z_in_lt g17) 10 (by decide) (by decide)) z_k140 dX7_isGood_80 ?_
          refine lv_iload hx hb dX7_isGood_83 (lv_at hl 4 rfl) ?_
          obtain ⟨g18, hf⟩ := z_gd hf
          refine z_ald C hs (hV0.2.1 x2.toNatClampNeg (z_in_lt g17) 19 (by decide) (by decide)) (z_c19 E _ _ _ _) g18 rfl dX7_isGood_85 ?_
          refine lv_aload_n hx hb dX7_isGood_86 rfl (lv_at hl 0 rfl) ?_
          refine zg_W_reads C hs (hV0.1 0 (by decide)) z_k285 dX7_isGood_87 ?_
          refine zg_R_round C hs (hV0.1 4 (by decide)) z_k266 dX7_isGood_90 ?_
          refine lv_iload_n hx hb dX7_isGood_93 rfl (lv_at hl 1 rfl) ?_
          obtain ⟨g19, hf⟩ := z_gd hf
          refine z_ald C hs (hV0.1 8 (by decide)) (z_c8 E _ _ _ _) g19 rfl dX7_isGood_94 ?_
          refine lv_icmp_le (tgt := 101) hx hb dX7_isGood_95 (by decide) (fun c20 => ?_) (fun c20 => ?_)
          · have hf := z_t hf c20
            obtain ⟨y21, e_y21⟩ : ∃ y : Int32, y = x4 + 1 := ⟨_, rfl⟩
            have hf := z_lte e_y21 hf
            refine lv_iinc (v := y21) (lv' := [(4, .int y21), (0, .ref (z_ad E (0, w0, 0))), (1, .int x1), (2, .int x2), (3, .int x3)]) hx hb dX7_isGood_101 hl (k := 4) rfl (by rw [e_y21]; rfl) (by decide) rfl (fun ls hl => ?_)
            refine lv_goto (tgt := 46) hx hb dX7_isGood_104 (by decide) ?_
            exact ih x1 x2 x3 y21 σ _ _ _ hs (lv_sub hl [1, 2, 3, 4, 0] rfl) hf
          · have hf := z_f hf c20
            obtain ⟨y22, e_y22⟩ : ∃ y : Int32, y = x3 + 1 := ⟨_, rfl⟩
            have hf := z_lte e_y22 hf
            refine lv_iinc (v := y22) (lv' := [(3, .int y22), (0, .ref (z_ad E (0, w0, 0))), (1, .int x1), (2, .int x2), (4, .int x4)]) hx hb dX7_isGood_98 hl (k := 3) rfl (by rw [e_y22]; rfl) (by decide) rfl (fun ls hl => ?_)
            obtain ⟨y23, e_y23⟩ : ∃ y : Int32, y = x4 + 1 := ⟨_, rfl⟩
            have hf := z_lte e_y23 hf
            refine lv_iinc (v := y23) (lv' := [(4, .int y23), (3, .int y22), (0, .ref (z_ad E (0, w0, 0))), (1, .int x1), (2, .int x2)]) hx hb dX7_isGood_101 hl (k := 4) rfl (by rw [e_y23]; rfl) (by decide) rfl (fun ls hl => ?_)
            refine lv_goto (tgt := 46) hx hb dX7_isGood_104 (by decide) ?_
            exact ih x1 x2 y22 y23 σ _ _ _ hs (lv_sub hl [2, 3, 4, 1, 0] rfl) hf
set_option maxHeartbeats 4000000 in
set_option maxRecDepth 20000 in
theorem wW_isGood {w0 : Nat} {x1 : Int32} (C : z_C E RX7 cX7_isGood 5 A p s m args meth c) (hr : meth.sig.returnType = (some .boolean)) (hV0 : z_W E w0) {ro : Int32} {σo : zS} (σ : zS) (H : Heap) (locs : List Loc) (ls : Array Slot) (hs : z_H E A s σ H locs) (hl : lv_has ls 5 [(0, .ref (z_ad E (0, w0, 0))), (1, .int x1)]) (hf : fW_isGood w0 x1 σ = some (ro, σo)) : W p l e (z_rm 4) s m args below meth c H locs 0 0 (MQ below (z_QI E ro σo A) args s 0 0 A) (F0 m 0 ls []) := by
  have hx := C.1
  have hb := C.2.1
  unfold fW_isGood at hf
  refine lv_aload_n hx hb dX7_isGood_0 rfl (lv_at hl 0 rfl) ?_
  refine zg_W_reads C hs (hV0.1 0 (by decide)) z_k285 dX7_isGood_1 ?_
  refine zg_R_keeper C hs (hV0.1 4 (by decide)) z_k260 dX7_isGood_4 ?_
  refine lv_iload_n hx hb dX7_isGood_7 rfl (lv_at hl 1 rfl) ?_
  obtain ⟨g1, hf⟩ := z_gd hf
  refine z_ald C hs (hV0.1 5 (by decide)) (z_c5 E _ _ _ _) g1 rfl dX7_isGood_8 ?_
  refine lv_topi (fun y2 e_y2 => ?_)
  have hf := z_lte e_y2 hf
  refine lv_istore_n (lv' := [(2, .int y2), (0, .ref (z_ad E (0, w0, 0))), (1, .int x1)]) hx hb dX7_isGood_9 rfl hl (by decide) rfl (fun ls hl => ?_)
  refine lv_aload_n hx hb dX7_isGood_10 rfl (lv_at hl 1 rfl) ?_
  refine lv_iload_n hx hb dX7_isGood_11 rfl (lv_at hl 0 rfl) ?_
  obtain ⟨r3, σ3, h_3, hf⟩ := z_bds hf
  refine z_goI C hs (z_runV C hs hl.1 (cW_isLeading l E hV0 h_3) zcV_RX7_285 (hV0.1 0 (by decide)) (z_c0 E _ _ _ _) rfl rfl rfl (by decide) (Nat.le_of_ble_eq_true rfl) dX7_isGood_12) (fun H locs hs => ?_)
  refine lv_if_eq (tgt := 39) hx hb dX7_isGood_15 (by decide) (fun c4 => ?_) (fun c4 => ?_)
  · have hf := z_t hf c4
    refine lv_iconst (v := 0) hx hb dX7_isGood_39 (by decide) ?_
    exact z_retz C hr hs (by decide +kernel) hf dX7_isGood_40
  · have hf := z_f hf c4
    refine lv_aload_n hx hb dX7_isGood_18 rfl (lv_at hl 1 rfl) ?_
    refine zg_W_keepers C hs (hV0.1 0 (by decide)) z_k281 dX7_isGood_19 ?_
    refine lv_iload_n hx hb dX7_isGood_22 rfl (lv_at hl 0 rfl) ?_
    obtain ⟨g5, hf⟩ := z_gd hf
    refine z_aald C hs (hV0.1 1 (by decide)) (z_c1 E _ _ _ _) (t0 := 4) rfl g5 rfl dX7_isGood_23 ?_
    refine zg_K_term C hs (hV0.2.1 y2.toNatClampNeg (z_in_lt g5) 10 (by decide) (by decide)) z_k100 dX7_isGood_24 ?_
    refine lv_aload_n hx hb dX7_isGood_27 rfl (lv_at hl 1 rfl) ?_
    refine zg_W_reads C hs (hV0.1 0 (by decide)) z_k285 dX7_isGood_28 ?_
    refine zg_R_term C hs (hV0.1 4 (by decide)) z_k264 dX7_isGood_31 ?_
    refine lv_iload_n hx hb dX7_isGood_34 rfl (lv_at hl 2 rfl) ?_
    obtain ⟨g6, hf⟩ := z_gd hf
    refine z_ald C hs (hV0.1 7 (by decide)) (z_c7 E _ _ _ _) g6 rfl dX7_isGood_35 ?_
    refine lv_icmp_eq (tgt := 41) hx hb dX7_isGood_36 (by decide) (fun c7 => ?_) (fun c7 => ?_)
    · have hf := z_t hf c7
      refine lv_iconst (v := 0) hx hb dX7_isGood_41 (by decide) ?_
      refine lv_istore_n (lv' := [(3, .int 0), (2, .int y2), (0, .ref (z_ad E (0, w0, 0))), (1, .int x1)]) hx hb dX7_isGood_42 rfl hl (by decide) rfl (fun ls hl => ?_)
      refine lv_iconst (v := 0) hx hb dX7_isGood_43 (by decide) ?_
      refine lv_istore (lv' := [(4, .int 0), (3, .int 0), (2, .int y2), (0, .ref (z_ad E (0, w0, 0))), (1, .int x1)]) hx hb dX7_isGood_44 hl (by decide) rfl (fun ls hl => ?_)
      exact wW_isGood_46 C hr hV0 z_fu x1 y2 0 0 σ3 _ _ _ hs (lv_sub hl [3, 4, 2, 1, 0] rfl) hf
    · have hf := z_f hf c7
      refine lv_iconst (v := 0) hx hb dX7_isGood_39 (by decide) ?_
      exact z_retz C hr hs (by decide +kernel) hf dX7_isGood_40
set_option maxHeartbeats 4000000 in
set_option maxRecDepth 20000 in
theorem cW_isGood (l : Launch) (E : zE) {w0 : Nat} {x1 : Int32} (hV0 : z_W E w0) {σ σo : zS} {ro : Int32} (hf : fW_isGood w0 x1 σ = some (ro, σo)) : z_T l E yX7_isGood cX7_isGood 5 (some .boolean) (z_rm 4) (z_QI E ro σo) [.ref (z_ad E (0, w0, 0)), .int x1] σ :=
  z_enter (by decide) (Nat.le_of_ble_eq_true rfl) rfl (fun p e s m below meth c A ls C hr hs hl => wW_isGood C hr hV0 σ _ _ ls hs hl hf)
def fS_cellAt (a0 : zJ) (x1 : Int32) (σ : zS) : Option (Int32 × zS) :=
  z_bd (fX_isCell x1 σ) (fun r1 σ1 =>
  if r1 = 0 then
    (some ((-1000000), σ1))
  else
    (if z_in x1 20 = true then (
    some (σ1.1 (z_nx a0) x1.toNatClampNeg, σ1)) else none))
set_option maxHeartbeats 4000000 in
set_option maxRecDepth 20000 in
theorem wS_cellAt {a0 : zJ} {x1 : Int32} (C : z_C E RX5 cX5_cellAt 2 A p s m args meth c) (hr : meth.sig.returnType = (some .int)) (hS0 : z_St E a0) {ro : Int32} {σo : zS} (σ : zS) (H : Heap) (locs : List Loc) (ls : Array Slot) (hs : z_H E A s σ H locs) (hl : lv_has ls 2 [(0, .ref (z_ad E a0)), (1, .int x1)]) (hf : fS_cellAt a0 x1 σ = some (ro, σo)) : W p l e (z_rm 2) s m args below meth c H locs 0 0 (MQ below (z_QI E ro σo A) args s 0 0 A) (F0 m 0 ls []) := by
  have hx := C.1
  have hb := C.2.1
  unfold fS_cellAt at hf
  refine lv_iload_n hx hb dX5_cellAt_0 rfl (lv_at hl 1 rfl) ?_
  obtain ⟨r1, σ1, h_1, hf⟩ := z_bds hf
  refine z_goI C hs (z_runN C hs hl.1 (cX_isCell l E h_1) zcN_RX5_21 rfl rfl (by decide) (Nat.le_of_ble_eq_true rfl) dX5_cellAt_1) (fun H locs hs => ?_)
  refine lv_if_eq (tgt := 16) hx hb dX5_cellAt_4 (by decide) (fun c2 => ?_) (fun c2 => ?_)
  · have hf := z_t hf c2
    refine lv_ldc (v := (-1000000)) hx hb C.2.2.2.1 (C.2.2.2.2.1 _ z_k806) dX5_cellAt_16 ?_
    exact z_reti C hr hs hf dX5_cellAt_18
  · have hf := z_f hf c2
    refine lv_aload_n hx hb dX5_cellAt_7 rfl (lv_at hl 0 rfl) ?_
    refine zg_S_parts C hs hS0.1 hS0.2.1 z_k90 dX5_cellAt_8 ?_
    refine lv_iload_n hx hb dX5_cellAt_11 rfl (lv_at hl 1 rfl) ?_
    obtain ⟨g3, hf⟩ := z_gd hf
    refine z_ald C hs hS0.2.2 (z_cSn E _ _ hS0.1) g3 rfl dX5_cellAt_12 ?_
    refine lv_goto (tgt := 18) hx hb dX5_cellAt_13 (by decide) ?_
    exact z_reti C hr hs hf dX5_cellAt_18
set_option maxHeartbeats 4000000 in
set_option maxRecDepth 20000 in
theorem cS_cellAt (l : Launch) (E : zE) {a0 : zJ} {x1 : Int32} (hS0 : z_St E a0) {σ σo : zS} {ro : Int32} (hf : fS_cellAt a0 x1 σ = some (ro, σo)) : z_T l E yX5_cellAt cX5_cellAt 2 (some .int) (z_rm 2) (z_QI E ro σo) [.ref (z_ad E a0), .int x1] σ :=
  z_enter (by decide) (Nat.le_of_ble_eq_true rfl) rfl (fun p e s m below meth c A ls C hr hs hl => wS_cellAt C hr hS0 σ _ _ ls hs hl hf)
def fW_readCell (w0 : Nat) (x1 : Int32) (σ : zS) : Option (Int32 × zS) :=
  if z_in x1 40 = true then (
  z_let (σ.1 (5, w0, 0) x1.toNatClampNeg) (fun y2 =>
  z_bd (fW_isKeeper w0 y2 σ) (fun r3 σ3 =>
  if r3 = 0 then
    (some ((-1000000), σ3))
  else
    (if z_in y2 7 = true then (
    if z_in x1 40 = true then (
    z_bd (fS_cellAt (14, w0, y2.toNatClampNeg) (σ3.1 (6, w0, 0) x1.toNatClampNeg) σ3) (fun r7 σ7 =>
    some (r7, σ7))) else none) else none)))) else none
set_option maxHeartbeats 4000000 in
set_option maxRecDepth 20000 in
theorem wW_readCell {w0 : Nat} {x1 : Int32} (C : z_C E RX7 cX7_readCell 3 A p s m args meth c) (hr : meth.sig.returnType = (some .int)) (hV0 : z_W E w0) {ro : Int32} {σo : zS} (σ : zS) (H : Heap) (locs : List Loc) (ls : Array Slot) (hs : z_H E A s σ H locs) (hl : lv_has ls 3 [(0, .ref (z_ad E (0, w0, 0))), (1, .int x1)]) (hf : fW_readCell w0 x1 σ = some (ro, σo)) : W p l e (z_rm 3) s m args below meth c H locs 0 0 (MQ below (z_QI E ro σo A) args s 0 0 A) (F0 m 0 ls []) := by
  have hx := C.1
  have hb := C.2.1
  unfold fW_readCell at hf
  refine lv_aload_n hx hb dX7_readCell_0 rfl (lv_at hl 0 rfl) ?_
  refine zg_W_reads C hs (hV0.1 0 (by decide)) z_k285 dX7_readCell_1 ?_
  refine zg_R_keeper C hs (hV0.1 4 (by decide)) z_k260 dX7_readCell_4 ?_
  refine lv_iload_n hx hb dX7_readCell_7 rfl (lv_at hl 1 rfl) ?_
  obtain ⟨g1, hf⟩ := z_gd hf
  refine z_ald C hs (hV0.1 5 (by decide)) (z_c5 E _ _ _ _) g1 rfl dX7_readCell_8 ?_
  refine lv_topi (fun y2 e_y2 => ?_)
  have hf := z_lte e_y2 hf
  refine lv_istore_n (lv' := [(2, .int y2), (0, .ref (z_ad E (0, w0, 0))), (1, .int x1)]) hx hb dX7_readCell_9 rfl hl (by decide) rfl (fun ls hl => ?_)
  refine lv_aload_n hx hb dX7_readCell_10 rfl (lv_at hl 1 rfl) ?_
  refine lv_iload_n hx hb dX7_readCell_11 rfl (lv_at hl 0 rfl) ?_
  obtain ⟨r3, σ3, h_3, hf⟩ := z_bds hf
  refine z_goI C hs (z_runV C hs hl.1 (cW_isKeeper l E hV0 h_3) zcV_RX7_78 (hV0.1 0 (by decide)) (z_c0 E _ _ _ _) rfl rfl rfl (by decide) (Nat.le_of_ble_eq_true rfl) dX7_readCell_12) (fun H locs hs => ?_)
  refine lv_if_eq (tgt := 42) hx hb dX7_readCell_15 (by decide) (fun c4 => ?_) (fun c4 => ?_)
  · have hf := z_t hf c4
    refine lv_ldcw (v := (-1000000)) hx hb C.2.2.2.1 (C.2.2.2.2.1 _ z_k807) dX7_readCell_42 ?_
    exact z_reti C hr hs hf dX7_readCell_45
  · have hf := z_f hf c4
    refine lv_aload_n hx hb dX7_readCell_18 rfl (lv_at hl 1 rfl) ?_
    refine zg_W_keepers C hs (hV0.1 0 (by decide)) z_k281 dX7_readCell_19 ?_
    refine lv_iload_n hx hb dX7_readCell_22 rfl (lv_at hl 0 rfl) ?_
    obtain ⟨g5, hf⟩ := z_gd hf
    refine z_aald C hs (hV0.1 1 (by decide)) (z_c1 E _ _ _ _) (t0 := 4) rfl g5 rfl dX7_readCell_23 ?_
    refine zg_K_doneState C hs (hV0.2.1 y2.toNatClampNeg (z_in_lt g5) 10 (by decide) (by decide)) z_k129 dX7_readCell_24 ?_
    refine lv_aload_n hx hb dX7_readCell_27 rfl (lv_at hl 1 rfl) ?_
    refine zg_W_reads C hs (hV0.1 0 (by decide)) z_k285 dX7_readCell_28 ?_
    refine zg_R_cell C hs (hV0.1 4 (by decide)) z_k262 dX7_readCell_31 ?_
    refine lv_iload_n hx hb dX7_readCell_34 rfl (lv_at hl 2 rfl) ?_
    obtain ⟨g6, hf⟩ := z_gd hf
    refine z_ald C hs (hV0.1 6 (by decide)) (z_c6 E _ _ _ _) g6 rfl dX7_readCell_35 ?_
    obtain ⟨r7, σ7, h_7, hf⟩ := z_bds hf
    refine z_goI C hs (z_runV C hs hl.1 (cS_cellAt l E ⟨(show z_isS (14, w0, y2.toNatClampNeg) from (Or.inr (Or.inl rfl))), (hV0.2.1 y2.toNatClampNeg (z_in_lt g5) 14 (by decide) (by decide)), (hV0.2.1 y2.toNatClampNeg (z_in_lt g5) 15 (by decide) (by decide))⟩ h_7) zcV_RX7_298 (hV0.2.1 y2.toNatClampNeg (z_in_lt g5) 14 (by decide) (by decide)) (z_cS E _ _ (show z_isS (14, w0, y2.toNatClampNeg) from (Or.inr (Or.inl rfl)))) rfl rfl rfl (by decide) (Nat.le_of_ble_eq_true rfl) dX7_readCell_36) (fun H locs hs => ?_)
    refine lv_goto (tgt := 45) hx hb dX7_readCell_39 (by decide) ?_
    exact z_reti C hr hs hf dX7_readCell_45
set_option maxHeartbeats 4000000 in
set_option maxRecDepth 20000 in
theorem cW_readCell (l : Launch) (E : zE) {w0 : Nat} {x1 : Int32} (hV0 : z_W E w0) {σ σo : zS} {ro : Int32} (hf : fW_readCell w0 x1 σ = some (ro, σo)) : z_T l E yX7_readCell cX7_readCell 3 (some .int) (z_rm 3) (z_QI E ro σo) [.ref (z_ad E (0, w0, 0)), .int x1] σ :=
  z_enter (by decide) (Nat.le_of_ble_eq_true rfl) rfl (fun p e s m below meth c A ls C hr hs hl => wW_readCell C hr hV0 σ _ _ ls hs hl hf)
def fX_good (x1 : Int32) (σ : zS) : Option (Int32 × zS) :=
  z_bd (fR_isThere 0 x1 σ) (fun r1 σ1 =>
  if r1 = 0 then
    (some ((-1000000), σ1))
  else
    (z_bd (fW_isGood 0 x1 σ1) (fun r3 σ3 =>
    if r3 = 0 then
      (some ((-1000000), σ3))
    else
      (z_bd (fW_readCell 0 x1 σ3) (fun r5 σ5 =>
      some (r5, σ5))))))
set_option maxHeartbeats 4000000 in
set_option maxRecDepth 20000 in
theorem wX_good {x1 : Int32} (C : z_C E RX8 cX8_good 2 A p s m args meth c) (hr : meth.sig.returnType = (some .int)) (hB : z_B E) (hW0 : z_W E 0) {ro : Int32} {σo : zS} (σ : zS) (H : Heap) (locs : List Loc) (ls : Array Slot) (hs : z_H E A s σ H locs) (hl : lv_has ls 2 [(0, .ref (z_ad E (30, 0, 0))), (1, .int x1)]) (hf : fX_good x1 σ = some (ro, σo)) : W p l e (z_rm 5) s m args below meth c H locs 0 0 (MQ below (z_QI E ro σo A) args s 0 0 A) (F0 m 0 ls []) := by
  have hx := C.1
  have hb := C.2.1
  unfold fX_good at hf
  refine lv_aload_n hx hb dX8_good_0 rfl (lv_at hl 0 rfl) ?_
  refine zg_X_world C hs (hB 30 (by decide) (by decide)) z_k343 dX8_good_1 ?_
  refine zg_W_reads C hs (hW0.1 0 (by decide)) z_k286 dX8_good_4 ?_
  refine lv_iload_n hx hb dX8_good_7 rfl (lv_at hl 1 rfl) ?_
  obtain ⟨r1, σ1, h_1, hf⟩ := z_bds hf
  refine z_goI C hs (z_runV C hs hl.1 (cR_isThere l E hW0 h_1) zcV_RX8_155 (hW0.1 4 (by decide)) (z_c4 E _ _ _ _) rfl rfl rfl (by decide) (Nat.le_of_ble_eq_true rfl) dX8_good_8) (fun H locs hs => ?_)
  refine lv_if_eq (tgt := 36) hx hb dX8_good_11 (by decide) (fun c2 => ?_) (fun c2 => ?_)
  · have hf := z_t hf c2
    refine lv_ldc (v := (-1000000)) hx hb C.2.2.2.1 (C.2.2.2.2.1 _ z_k808) dX8_good_36 ?_
    exact z_reti C hr hs hf dX8_good_38
  · have hf := z_f hf c2
    refine lv_aload_n hx hb dX8_good_14 rfl (lv_at hl 0 rfl) ?_
    refine zg_X_world C hs (hB 30 (by decide) (by decide)) z_k343 dX8_good_15 ?_
    refine lv_iload_n hx hb dX8_good_18 rfl (lv_at hl 1 rfl) ?_
    obtain ⟨r3, σ3, h_3, hf⟩ := z_bds hf
    refine z_goI C hs (z_runV C hs hl.1 (cW_isGood l E hW0 h_3) zcV_RX8_160 (hW0.1 0 (by decide)) (z_c0 E _ _ _ _) rfl rfl rfl (by decide) (Nat.le_of_ble_eq_true rfl) dX8_good_19) (fun H locs hs => ?_)
    refine lv_if_eq (tgt := 36) hx hb dX8_good_22 (by decide) (fun c4 => ?_) (fun c4 => ?_)
    · have hf := z_t hf c4
      refine lv_ldc (v := (-1000000)) hx hb C.2.2.2.1 (C.2.2.2.2.1 _ z_k808) dX8_good_36 ?_
      exact z_reti C hr hs hf dX8_good_38
    · have hf := z_f hf c4
      refine lv_aload_n hx hb dX8_good_25 rfl (lv_at hl 0 rfl) ?_
      refine zg_X_world C hs (hB 30 (by decide) (by decide)) z_k343 dX8_good_26 ?_
      refine lv_iload_n hx hb dX8_good_29 rfl (lv_at hl 1 rfl) ?_
      obtain ⟨r5, σ5, h_5, hf⟩ := z_bds hf
      refine z_goI C hs (z_runV C hs hl.1 (cW_readCell l E hW0 h_5) zcV_RX8_163 (hW0.1 0 (by decide)) (z_c0 E _ _ _ _) rfl rfl rfl (by decide) (Nat.le_of_ble_eq_true rfl) dX8_good_30) (fun H locs hs => ?_)
      refine lv_goto (tgt := 38) hx hb dX8_good_33 (by decide) ?_
      exact z_reti C hr hs hf dX8_good_38
set_option maxHeartbeats 4000000 in
set_option maxRecDepth 20000 in
theorem cX_good (l : Launch) (E : zE) {x1 : Int32} (hB : z_B E) (hW0 : z_W E 0) {σ σo : zS} {ro : Int32} (hf : fX_good x1 σ = some (ro, σo)) : z_T l E yX8_good cX8_good 2 (some .int) (z_rm 5) (z_QI E ro σo) [.ref (z_ad E (30, 0, 0)), .int x1] σ :=
  z_enter (by decide) (Nat.le_of_ble_eq_true rfl) rfl (fun p e s m below meth c A ls C hr hs hl => wX_good C hr hB hW0 σ _ _ ls hs hl hf)
def fK_tell (w0 : Nat) (i0 : Nat) (x1 : Int32) (σ : zS) : Option (Int32 × zS) :=
  if x1 = 0 then
    (some (σ.1 (10, w0, i0) 2, σ))
  else
    (if x1 = 1 then
      (some (σ.1 (10, w0, i0) 3, σ))
    else
      (if x1 = 2 then
        (some (σ.1 (10, w0, i0) 4, σ))
      else
        (if x1 = 3 then
          (some (σ.1 (10, w0, i0) 5, σ))
        else
          (if x1 = 4 then
            (some (σ.1 (10, w0, i0) 7, σ))
          else
            (if x1 = 5 then
              (some (σ.1 (10, w0, i0) 8, σ))
            else
              (if x1 = 6 then
                (if (σ.1 (10, w0, i0) 1) = 0 then
                  (some (0, σ))
                else
                  (some (1, σ)))
              else
                (if x1 = 7 then
                  (some (σ.1 (10, w0, i0) 9, σ))
                else
                  (if x1 = 8 then
                    (some (σ.1 (10, w0, i0) 10, σ))
                  else
                    (if x1 = 9 then
                      (if (σ.1 (10, w0, i0) 0) = 0 then
                        (some (0, σ))
                      else
                        (some (1, σ)))
                    else
                      (some ((-2), σ)))))))))))
set_option maxHeartbeats 4000000 in
set_option maxRecDepth 20000 in
theorem wK_tell {w0 : Nat} {i0 : Nat} {x1 : Int32} (C : z_C E RX1 cX1_tell 2 A p s m args meth c) (hr : meth.sig.returnType = (some .int)) (hV0 : z_W E w0) (hi0 : i0 < 7) {ro : Int32} {σo : zS} (σ : zS) (H : Heap) (locs : List Loc) (ls : Array Slot) (hs : z_H E A s σ H locs) (hl : lv_has ls 2 [(0, .ref (z_ad E (10, w0, i0))), (1, .int x1)]) (hf : fK_tell w0 i0 x1 σ = some (ro, σo)) : W p l e (z_rm 1) s m args below meth c H locs 0 0 (MQ below (z_QI E ro σo A) args s 0 0 A) (F0 m 0 ls []) := by
  have hx := C.1
  have hb := C.2.1
  unfold fK_tell at hf
  refine lv_iload_n hx hb dX1_tell_0 rfl (lv_at hl 1 rfl) ?_
  by_cases c1 : x1 = 0
  · have hf := z_t hf c1
    refine lv_tableIn (off := 55) (tgt := 56) hx hb dX1_tell_1 (by rw [c1]; decide) (by rw [c1]; decide) (by rw [c1]; decide) (by decide) ?_
    refine lv_aload_n hx hb dX1_tell_56 rfl (lv_at hl 0 rfl) ?_
    refine zg_K_term C hs (hV0.2.1 i0 hi0 10 (by decide) (by decide)) z_k99 dX1_tell_57 ?_
    exact z_reti C hr hs hf dX1_tell_60
  · have hf := z_f hf c1
    by_cases c2 : x1 = 1
    · have hf := z_t hf c2
      refine lv_tableIn (off := 60) (tgt := 61) hx hb dX1_tell_1 (by rw [c2]; decide) (by rw [c2]; decide) (by rw [c2]; decide) (by decide) ?_
      refine lv_aload_n hx hb dX1_tell_61 rfl (lv_at hl 0 rfl) ?_
      refine zg_K_vote C hs (hV0.2.1 i0 hi0 10 (by decide) (by decide)) z_k101 dX1_tell_62 ?_
      exact z_reti C hr hs hf dX1_tell_65
    · have hf := z_f hf c2
      by_cases c3 : x1 = 2
      · have hf := z_t hf c3
        refine lv_tableIn (off := 65) (tgt := 66) hx hb dX1_tell_1 (by rw [c3]; decide) (by rw [c3]; decide) (by rw [c3]; decide) (by decide) ?_
        refine lv_aload_n hx hb dX1_tell_66 rfl (lv_at hl 0 rfl) ?_
        refine zg_K_role C hs (hV0.2.1 i0 hi0 10 (by decide) (by decide)) z_k103 dX1_tell_67 ?_
        exact z_reti C hr hs hf dX1_tell_70
      · have hf := z_f hf c3
        by_cases c4 : x1 = 3
        · have hf := z_t hf c4
          refine lv_tableIn (off := 70) (tgt := 71) hx hb dX1_tell_1 (by rw [c4]; decide) (by rw [c4]; decide) (by rw [c4]; decide) (by decide) ?_
          refine lv_aload_n hx hb dX1_tell_71 rfl (lv_at hl 0 rfl) ?_
          refine zg_K_folded C hs (hV0.2.1 i0 hi0 10 (by decide) (by decide)) z_k105 dX1_tell_72 ?_
          exact z_reti C hr hs hf dX1_tell_75
        · have hf := z_f hf c4
          by_cases c5 : x1 = 4
          · have hf := z_t hf c5
            refine lv_tableIn (off := 75) (tgt := 76) hx hb dX1_tell_1 (by rw [c5]; decide) (by rw [c5]; decide) (by rw [c5]; decide) (by decide) ?_
            refine lv_aload_n hx hb dX1_tell_76 rfl (lv_at hl 0 rfl) ?_
            refine zg_K_last C hs (hV0.2.1 i0 hi0 10 (by decide) (by decide)) z_k111 dX1_tell_77 ?_
            exact z_reti C hr hs hf dX1_tell_80
          · have hf := z_f hf c5
            by_cases c6 : x1 = 5
            · have hf := z_t hf c6
              refine lv_tableIn (off := 80) (tgt := 81) hx hb dX1_tell_1 (by rw [c6]; decide) (by rw [c6]; decide) (by rw [c6]; decide) (by decide) ?_
              refine lv_aload_n hx hb dX1_tell_81 rfl (lv_at hl 0 rfl) ?_
              refine zg_K_done C hs (hV0.2.1 i0 hi0 10 (by decide) (by decide)) z_k114 dX1_tell_82 ?_
              exact z_reti C hr hs hf dX1_tell_85
            · have hf := z_f hf c6
              by_cases c7 : x1 = 6
              · have hf := z_t hf c7
                refine lv_tableIn (off := 85) (tgt := 86) hx hb dX1_tell_1 (by rw [c7]; decide) (by rw [c7]; decide) (by rw [c7]; decide) (by decide) ?_
                refine lv_aload_n hx hb dX1_tell_86 rfl (lv_at hl 0 rfl) ?_
                refine zg_K_fallen C hs (hV0.2.1 i0 hi0 10 (by decide) (by decide)) z_k96 dX1_tell_87 ?_
                refine lv_if_eq (tgt := 97) hx hb dX1_tell_90 (by decide) (fun c8 => ?_) (fun c8 => ?_)
                · have hf := z_t hf c8
                  refine lv_iconst (v := 0) hx hb dX1_tell_97 (by decide) ?_
                  exact z_reti C hr hs hf dX1_tell_98
                · have hf := z_f hf c8
                  refine lv_iconst (v := 1) hx hb dX1_tell_93 (by decide) ?_
                  refine lv_goto (tgt := 98) hx hb dX1_tell_94 (by decide) ?_
                  exact z_reti C hr hs hf dX1_tell_98
              · have hf := z_f hf c7
                by_cases c9 : x1 = 7
                · have hf := z_t hf c9
                  refine lv_tableIn (off := 98) (tgt := 99) hx hb dX1_tell_1 (by rw [c9]; decide) (by rw [c9]; decide) (by rw [c9]; decide) (by decide) ?_
                  refine lv_aload_n hx hb dX1_tell_99 rfl (lv_at hl 0 rfl) ?_
                  refine zg_K_ballots C hs (hV0.2.1 i0 hi0 10 (by decide) (by decide)) z_k118 dX1_tell_100 ?_
                  exact z_reti C hr hs hf dX1_tell_103
                · have hf := z_f hf c9
                  by_cases c10 : x1 = 8
                  · have hf := z_t hf c10
                    refine lv_tableIn (off := 103) (tgt := 104) hx hb dX1_tell_1 (by rw [c10]; decide) (by rw [c10]; decide) (by rw [c10]; decide) (by decide) ?_
                    refine lv_aload_n hx hb dX1_tell_104 rfl (lv_at hl 0 rfl) ?_
                    refine zg_K_round C hs (hV0.2.1 i0 hi0 10 (by decide) (by decide)) z_k120 dX1_tell_105 ?_
                    exact z_reti C hr hs hf dX1_tell_108
                  · have hf := z_f hf c10
                    by_cases c11 : x1 = 9
                    · have hf := z_t hf c11
                      refine lv_tableIn (off := 108) (tgt := 109) hx hb dX1_tell_1 (by rw [c11]; decide) (by rw [c11]; decide) (by rw [c11]; decide) (by decide) ?_
                      refine lv_aload_n hx hb dX1_tell_109 rfl (lv_at hl 0 rfl) ?_
                      refine zg_K_voter C hs (hV0.2.1 i0 hi0 10 (by decide) (by decide)) z_k94 dX1_tell_110 ?_
                      refine lv_if_eq (tgt := 120) hx hb dX1_tell_113 (by decide) (fun c12 => ?_) (fun c12 => ?_)
                      · have hf := z_t hf c12
                        refine lv_iconst (v := 0) hx hb dX1_tell_120 (by decide) ?_
                        exact z_reti C hr hs hf dX1_tell_121
                      · have hf := z_f hf c12
                        refine lv_iconst (v := 1) hx hb dX1_tell_116 (by decide) ?_
                        refine lv_goto (tgt := 121) hx hb dX1_tell_117 (by decide) ?_
                        exact z_reti C hr hs hf dX1_tell_121
                    · have hf := z_f hf c11
                      have hq : (x1).toInt < 0 ∨ 9 < (x1).toInt := by
                        have q0 := z_ne (k := 0) (n := 0) (by decide +kernel) c1
                        have q1 := z_ne (k := 1) (n := 1) (by decide +kernel) c2
                        have q2 := z_ne (k := 2) (n := 2) (by decide +kernel) c3
                        have q3 := z_ne (k := 3) (n := 3) (by decide +kernel) c4
                        have q4 := z_ne (k := 4) (n := 4) (by decide +kernel) c5
                        have q5 := z_ne (k := 5) (n := 5) (by decide +kernel) c6
                        have q6 := z_ne (k := 6) (n := 6) (by decide +kernel) c7
                        have q7 := z_ne (k := 7) (n := 7) (by decide +kernel) c9
                        have q8 := z_ne (k := 8) (n := 8) (by decide +kernel) c10
                        have q9 := z_ne (k := 9) (n := 9) (by decide +kernel) c11
                        omega
                      refine lv_tableOut (tgt := 122) hx hb dX1_tell_1 hq (by decide) ?_
                      refine lv_bipush (v := (-2)) hx hb dX1_tell_122 (by decide) ?_
                      exact z_reti C hr hs hf dX1_tell_124
set_option maxHeartbeats 4000000 in
set_option maxRecDepth 20000 in
theorem cK_tell (l : Launch) (E : zE) {w0 : Nat} {i0 : Nat} {x1 : Int32} (hV0 : z_W E w0) (hi0 : i0 < 7) {σ σo : zS} {ro : Int32} (hf : fK_tell w0 i0 x1 σ = some (ro, σo)) : z_T l E yX1_tell cX1_tell 2 (some .int) (z_rm 1) (z_QI E ro σo) [.ref (z_ad E (10, w0, i0)), .int x1] σ :=
  z_enter (by decide) (Nat.le_of_ble_eq_true rfl) rfl (fun p e s m below meth c A ls C hr hs hl => wK_tell C hr hV0 hi0 σ _ _ ls hs hl hf)
def fX_keeper (x1 : Int32) (x2 : Int32) (σ : zS) : Option (Int32 × zS) :=
  z_bd (fW_isKeeper 0 x1 σ) (fun r1 σ1 =>
  if r1 = 0 then
    (some ((-2), σ1))
  else
    (if z_in x1 7 = true then (
    z_bd (fK_tell 0 (x1.toNatClampNeg) x2 σ1) (fun r4 σ4 =>
    some (r4, σ4))) else none))
set_option maxHeartbeats 4000000 in
set_option maxRecDepth 20000 in
theorem wX_keeper {x1 : Int32} {x2 : Int32} (C : z_C E RX8 cX8_keeper 3 A p s m args meth c) (hr : meth.sig.returnType = (some .int)) (hB : z_B E) (hW0 : z_W E 0) {ro : Int32} {σo : zS} (σ : zS) (H : Heap) (locs : List Loc) (ls : Array Slot) (hs : z_H E A s σ H locs) (hl : lv_has ls 3 [(0, .ref (z_ad E (30, 0, 0))), (1, .int x1), (2, .int x2)]) (hf : fX_keeper x1 x2 σ = some (ro, σo)) : W p l e (z_rm 2) s m args below meth c H locs 0 0 (MQ below (z_QI E ro σo A) args s 0 0 A) (F0 m 0 ls []) := by
  have hx := C.1
  have hb := C.2.1
  unfold fX_keeper at hf
  refine lv_aload_n hx hb dX8_keeper_0 rfl (lv_at hl 0 rfl) ?_
  refine zg_X_world C hs (hB 30 (by decide) (by decide)) z_k343 dX8_keeper_1 ?_
  refine lv_iload_n hx hb dX8_keeper_4 rfl (lv_at hl 1 rfl) ?_
  obtain ⟨r1, σ1, h_1, hf⟩ := z_bds hf
  refine z_goI C hs (z_runV C hs hl.1 (cW_isKeeper l E hW0 h_1) zcV_RX8_66 (hW0.1 0 (by decide)) (z_c0 E _ _ _ _) rfl rfl rfl (by decide) (Nat.le_of_ble_eq_true rfl) dX8_keeper_5) (fun H locs hs => ?_)
  refine lv_if_eq (tgt := 27) hx hb dX8_keeper_8 (by decide) (fun c2 => ?_) (fun c2 => ?_)
  · have hf := z_t hf c2
    refine lv_bipush (v := (-2)) hx hb dX8_keeper_27 (by decide) ?_
    exact z_reti C hr hs hf dX8_keeper_29
  · have hf := z_f hf c2
    refine lv_aload_n hx hb dX8_keeper_11 rfl (lv_at hl 0 rfl) ?_
    refine zg_X_world C hs (hB 30 (by decide) (by decide)) z_k343 dX8_keeper_12 ?_
    refine zg_W_keepers C hs (hW0.1 0 (by decide)) z_k282 dX8_keeper_15 ?_
    refine lv_iload_n hx hb dX8_keeper_18 rfl (lv_at hl 1 rfl) ?_
    obtain ⟨g3, hf⟩ := z_gd hf
    refine z_aald C hs (hW0.1 1 (by decide)) (z_c1 E _ _ _ _) (t0 := 4) rfl g3 rfl dX8_keeper_19 ?_
    refine lv_iload_n hx hb dX8_keeper_20 rfl (lv_at hl 2 rfl) ?_
    obtain ⟨r4, σ4, h_4, hf⟩ := z_bds hf
    refine z_goI C hs (z_runV C hs hl.1 (cK_tell l E hW0 (z_in_lt g3) h_4) zcV_RX8_167 (hW0.2.1 x1.toNatClampNeg (z_in_lt g3) 10 (by decide) (by decide)) (z_c10 E _ _ _ _) rfl rfl rfl (by decide) (Nat.le_of_ble_eq_true rfl) dX8_keeper_21) (fun H locs hs => ?_)
    refine lv_goto (tgt := 29) hx hb dX8_keeper_24 (by decide) ?_
    exact z_reti C hr hs hf dX8_keeper_29
set_option maxHeartbeats 4000000 in
set_option maxRecDepth 20000 in
theorem cX_keeper (l : Launch) (E : zE) {x1 : Int32} {x2 : Int32} (hB : z_B E) (hW0 : z_W E 0) {σ σo : zS} {ro : Int32} (hf : fX_keeper x1 x2 σ = some (ro, σo)) : z_T l E yX8_keeper cX8_keeper 3 (some .int) (z_rm 2) (z_QI E ro σo) [.ref (z_ad E (30, 0, 0)), .int x1, .int x2] σ :=
  z_enter (by decide) (Nat.le_of_ble_eq_true rfl) rfl (fun p e s m below meth c A ls C hr hs hl => wX_keeper C hr hB hW0 σ _ _ ls hs hl hf)
def fK_part (w0 : Nat) (i0 : Nat) (x1 : Int32) (x2 : Int32) (σ : zS) : Option (Int32 × zS) :=
  z_bd (fK_placeOf w0 i0 x1 σ) (fun r1 σ1 =>
  if r1 = ((-1)) then
    (some ((-1000000), σ1))
  else
    (if z_in (r1 + x2) 240 = true then (
    some (σ1.1 (11, w0, i0) (r1 + x2).toNatClampNeg, σ1)) else none))
set_option maxHeartbeats 4000000 in
set_option maxRecDepth 20000 in
theorem wK_part {w0 : Nat} {i0 : Nat} {x1 : Int32} {x2 : Int32} (C : z_C E RX1 cX1_part 4 A p s m args meth c) (hr : meth.sig.returnType = (some .int)) (hV0 : z_W E w0) (hi0 : i0 < 7) {ro : Int32} {σo : zS} (σ : zS) (H : Heap) (locs : List Loc) (ls : Array Slot) (hs : z_H E A s σ H locs) (hl : lv_has ls 4 [(0, .ref (z_ad E (10, w0, i0))), (1, .int x1), (2, .int x2)]) (hf : fK_part w0 i0 x1 x2 σ = some (ro, σo)) : W p l e (z_rm 2) s m args below meth c H locs 0 0 (MQ below (z_QI E ro σo A) args s 0 0 A) (F0 m 0 ls []) := by
  have hx := C.1
  have hb := C.2.1
  unfold fK_part at hf
  refine lv_aload_n hx hb dX1_part_0 rfl (lv_at hl 0 rfl) ?_
  refine lv_iload_n hx hb dX1_part_1 rfl (lv_at hl 1 rfl) ?_
  obtain ⟨r1, σ1, h_1, hf⟩ := z_bds hf
  refine z_goI C hs (z_runV C hs hl.1 (cK_placeOf l E hV0 hi0 h_1) zcV_RX1_88 (hV0.2.1 i0 hi0 10 (by decide) (by decide)) (z_c10 E _ _ _ _) rfl rfl rfl (by decide) (Nat.le_of_ble_eq_true rfl) dX1_part_2) (fun H locs hs => ?_)
  refine lv_istore_n (lv' := [(3, .int r1), (0, .ref (z_ad E (10, w0, i0))), (1, .int x1), (2, .int x2)]) hx hb dX1_part_5 rfl hl (by decide) rfl (fun ls hl => ?_)
  refine lv_iload_n hx hb dX1_part_6 rfl (lv_at hl 0 rfl) ?_
  refine lv_iconst (v := (-1)) hx hb dX1_part_7 (by decide) ?_
  refine lv_icmp_ne (tgt := 16) hx hb dX1_part_8 (by decide) (fun c2 => ?_) (fun c2 => ?_)
  · have hf := z_f hf c2
    refine lv_aload_n hx hb dX1_part_16 rfl (lv_at hl 1 rfl) ?_
    refine zg_K_entries C hs (hV0.2.1 i0 hi0 10 (by decide) (by decide)) z_k122 dX1_part_17 ?_
    refine lv_iload_n hx hb dX1_part_20 rfl (lv_at hl 0 rfl) ?_
    refine lv_iload_n hx hb dX1_part_21 rfl (lv_at hl 3 rfl) ?_
    refine lv_iadd hx hb dX1_part_22 ?_
    obtain ⟨g3, hf⟩ := z_gd hf
    refine z_ald C hs (hV0.2.1 i0 hi0 11 (by decide) (by decide)) (z_c11 E _ _ _ _) g3 rfl dX1_part_23 ?_
    exact z_reti C hr hs hf dX1_part_24
  · have hf := z_t hf c2
    refine lv_ldc (v := (-1000000)) hx hb C.2.2.2.1 (C.2.2.2.2.1 _ z_k825) dX1_part_11 ?_
    refine lv_goto (tgt := 24) hx hb dX1_part_13 (by decide) ?_
    exact z_reti C hr hs hf dX1_part_24
set_option maxHeartbeats 4000000 in
set_option maxRecDepth 20000 in
theorem cK_part (l : Launch) (E : zE) {w0 : Nat} {i0 : Nat} {x1 : Int32} {x2 : Int32} (hV0 : z_W E w0) (hi0 : i0 < 7) {σ σo : zS} {ro : Int32} (hf : fK_part w0 i0 x1 x2 σ = some (ro, σo)) : z_T l E yX1_part cX1_part 4 (some .int) (z_rm 2) (z_QI E ro σo) [.ref (z_ad E (10, w0, i0)), .int x1, .int x2] σ :=
  z_enter (by decide) (Nat.le_of_ble_eq_true rfl) rfl (fun p e s m below meth c A ls C hr hs hl => wK_part C hr hV0 hi0 σ _ _ ls hs hl hf)
def fX_entry (x1 : Int32) (x2 : Int32) (x3 : Int32) (σ : zS) : Option (Int32 × zS) :=
  z_bd (fW_isKeeper 0 x1 σ) (fun r1 σ1 =>
  if r1 = 0 then
    (some ((-1000000), σ1))
  else
    (if x3 < 0 then
      (some ((-1000000), σ1))
    else
      (if x3 ≤ 5 then
        (if z_in x1 7 = true then (
        z_bd (fK_part 0 (x1.toNatClampNeg) x2 x3 σ1) (fun r6 σ6 =>
        some (r6, σ6))) else none)
      else
        (some ((-1000000), σ1)))))
set_option maxHeartbeats 4000000 in
set_option maxRecDepth 20000 in
theorem wX_entry {x1 : Int32} {x2 : Int32} {x3 : Int32} (C : z_C E RX8 cX8_entry 4 A p s m args meth c) (hr : meth.sig.returnType = (some .int)) (hB : z_B E) (hW0 : z_W E 0) {ro : Int32} {σo : zS} (σ : zS) (H : Heap) (locs : List Loc) (ls : Array Slot) (hs : z_H E A s σ H locs) (hl : lv_has ls 4 [(0, .ref (z_ad E (30, 0, 0))), (1, .int x1), (2, .int x2), (3, .int x3)]) (hf : fX_entry x1 x2 x3 σ = some (ro, σo)) : W p l e (z_rm 3) s m args below meth c H locs 0 0 (MQ below (z_QI E ro σo A) args s 0 0 A) (F0 m 0 ls []) := by
  have hx := C.1
  have hb := C.2.1
  unfold fX_entry at hf
  refine lv_aload_n hx hb dX8_entry_0 rfl (lv_at hl 0 rfl) ?_
  refine zg_X_world C hs (hB 30 (by decide) (by decide)) z_k343 dX8_entry_1 ?_
  refine lv_iload_n hx hb dX8_entry_4 rfl (lv_at hl 1 rfl) ?_
  obtain ⟨r1, σ1, h_1, hf⟩ := z_bds hf
  refine z_goI C hs (z_runV C hs hl.1 (cW_isKeeper l E hW0 h_1) zcV_RX8_66 (hW0.1 0 (by decide)) (z_c0 E _ _ _ _) rfl rfl rfl (by decide) (Nat.le_of_ble_eq_true rfl) dX8_entry_5) (fun H locs hs => ?_)
  refine lv_if_eq (tgt := 20) hx hb dX8_entry_8 (by decide) (fun c2 => ?_) (fun c2 => ?_)
  · have hf := z_t hf c2
    refine lv_ldc (v := (-1000000)) hx hb C.2.2.2.1 (C.2.2.2.2.1 _ z_k808) dX8_entry_20 ?_
    exact z_reti C hr hs hf dX8_entry_22
  · have hf := z_f hf c2
    refine lv_iload_n hx hb dX8_entry_11 rfl (lv_at hl 3 rfl) ?_
    refine lv_if_lt (tgt := 20) hx hb dX8_entry_12 (by decide) (fun c3 => ?_) (fun c3 => ?_)
    · have hf := z_t hf c3
      refine lv_ldc (v := (-1000000)) hx hb C.2.2.2.1 (C.2.2.2.2.1 _ z_k808) dX8_entry_20 ?_
      exact z_reti C hr hs hf dX8_entry_22
    · have hf := z_f hf c3
      refine lv_iload_n hx hb dX8_entry_15 rfl (lv_at hl 3 rfl) ?_
      refine lv_iconst (v := 5) hx hb dX8_entry_16 (by decide) ?_
      refine lv_icmp_le (tgt := 23) hx hb dX8_entry_17 (by decide) (fun c4 => ?_) (fun c4 => ?_)
      · have hf := z_t hf c4
        refine lv_aload_n hx hb dX8_entry_23 rfl (lv_at hl 0 rfl) ?_
        refine zg_X_world C hs (hB 30 (by decide) (by decide)) z_k343 dX8_entry_24 ?_
        refine zg_W_keepers C hs (hW0.1 0 (by decide)) z_k282 dX8_entry_27 ?_
        refine lv_iload_n hx hb dX8_entry_30 rfl (lv_at hl 1 rfl) ?_
        obtain ⟨g5, hf⟩ := z_gd hf
        refine z_aald C hs (hW0.1 1 (by decide)) (z_c1 E _ _ _ _) (t0 := 4) rfl g5 rfl dX8_entry_31 ?_
        refine lv_iload_n hx hb dX8_entry_32 rfl (lv_at hl 2 rfl) ?_
        refine lv_iload_n hx hb dX8_entry_33 rfl (lv_at hl 3 rfl) ?_
        obtain ⟨r6, σ6, h_6, hf⟩ := z_bds hf
        refine z_goI C hs (z_runV C hs hl.1 (cK_part l E hW0 (z_in_lt g5) h_6) zcV_RX8_170 (hW0.2.1 x1.toNatClampNeg (z_in_lt g5) 10 (by decide) (by decide)) (z_c10 E _ _ _ _) rfl rfl rfl (by decide) (Nat.le_of_ble_eq_true rfl) dX8_entry_34) (fun H locs hs => ?_)
        exact z_reti C hr hs hf dX8_entry_37
      · have hf := z_f hf c4
        refine lv_ldc (v := (-1000000)) hx hb C.2.2.2.1 (C.2.2.2.2.1 _ z_k808) dX8_entry_20 ?_
        exact z_reti C hr hs hf dX8_entry_22
set_option maxHeartbeats 4000000 in
set_option maxRecDepth 20000 in
theorem cX_entry (l : Launch) (E : zE) {x1 : Int32} {x2 : Int32} {x3 : Int32} (hB : z_B E) (hW0 : z_W E 0) {σ σo : zS} {ro : Int32} (hf : fX_entry x1 x2 x3 σ = some (ro, σo)) : z_T l E yX8_entry cX8_entry 4 (some .int) (z_rm 3) (z_QI E ro σo) [.ref (z_ad E (30, 0, 0)), .int x1, .int x2, .int x3] σ :=
  z_enter (by decide) (Nat.le_of_ble_eq_true rfl) rfl (fun p e s m below meth c A ls C hr hs hl => wX_entry C hr hB hW0 σ _ _ ls hs hl hf)
def fX_state (x1 : Int32) (x2 : Int32) (σ : zS) : Option (Int32 × zS) :=
  z_bd (fW_isKeeper 0 x1 σ) (fun r1 σ1 =>
  if r1 = 0 then
    (some ((-1000000), σ1))
  else
    (z_bd (fX_isCell x2 σ1) (fun r3 σ3 =>
    if r3 = 0 then
      (some ((-1000000), σ3))
    else
      (if z_in x1 7 = true then (
      z_bd (fS_cellAt (14, 0, x1.toNatClampNeg) x2 σ3) (fun r6 σ6 =>
      some (r6, σ6))) else none))))
set_option maxHeartbeats 4000000 in
set_option maxRecDepth 20000 in
theorem wX_state {x1 : Int32} {x2 : Int32} (C : z_C E RX8 cX8_state 3 A p s m args meth c) (hr : meth.sig.returnType = (some .int)) (hB : z_B E) (hW0 : z_W E 0) {ro : Int32} {σo : zS} (σ : zS) (H : Heap) (locs : List Loc) (ls : Array Slot) (hs : z_H E A s σ H locs) (hl : lv_has ls 3 [(0, .ref (z_ad E (30, 0, 0))), (1, .int x1), (2, .int x2)]) (hf : fX_state x1 x2 σ = some (ro, σo)) : W p l e (z_rm 3) s m args below meth c H locs 0 0 (MQ below (z_QI E ro σo A) args s 0 0 A) (F0 m 0 ls []) := by
  have hx := C.1
  have hb := C.2.1
  unfold fX_state at hf
  refine lv_aload_n hx hb dX8_state_0 rfl (lv_at hl 0 rfl) ?_
  refine zg_X_world C hs (hB 30 (by decide) (by decide)) z_k343 dX8_state_1 ?_
  refine lv_iload_n hx hb dX8_state_4 rfl (lv_at hl 1 rfl) ?_
  obtain ⟨r1, σ1, h_1, hf⟩ := z_bds hf
  refine z_goI C hs (z_runV C hs hl.1 (cW_isKeeper l E hW0 h_1) zcV_RX8_66 (hW0.1 0 (by decide)) (z_c0 E _ _ _ _) rfl rfl rfl (by decide) (Nat.le_of_ble_eq_true rfl) dX8_state_5) (fun H locs hs => ?_)
  refine lv_if_eq (tgt := 37) hx hb dX8_state_8 (by decide) (fun c2 => ?_) (fun c2 => ?_)
  · have hf := z_t hf c2
    refine lv_ldc (v := (-1000000)) hx hb C.2.2.2.1 (C.2.2.2.2.1 _ z_k808) dX8_state_37 ?_
    exact z_reti C hr hs hf dX8_state_39
  · have hf := z_f hf c2
    refine lv_iload_n hx hb dX8_state_11 rfl (lv_at hl 2 rfl) ?_
    obtain ⟨r3, σ3, h_3, hf⟩ := z_bds hf
    refine z_goI C hs (z_runS C hs hl.1 (cX_isCell l E h_3) zcS_RX8_145 rfl rfl rfl (by decide) (Nat.le_of_ble_eq_true rfl) dX8_state_12) (fun H locs hs => ?_)
    refine lv_if_eq (tgt := 37) hx hb dX8_state_15 (by decide) (fun c4 => ?_) (fun c4 => ?_)
    · have hf := z_t hf c4
      refine lv_ldc (v := (-1000000)) hx hb C.2.2.2.1 (C.2.2.2.2.1 _ z_k808) dX8_state_37 ?_
      exact z_reti C hr hs hf dX8_state_39
    · have hf := z_f hf c4
      refine lv_aload_n hx hb dX8_state_18 rfl (lv_at hl 0 rfl) ?_
      refine zg_X_world C hs (hB 30 (by decide) (by decide)) z_k343 dX8_state_19 ?_
      refine zg_W_keepers C hs (hW0.1 0 (by decide)) z_k282 dX8_state_22 ?_
      refine lv_iload_n hx hb dX8_state_25 rfl (lv_at hl 1 rfl) ?_
      obtain ⟨g5, hf⟩ := z_gd hf
      refine z_aald C hs (hW0.1 1 (by decide)) (z_c1 E _ _ _ _) (t0 := 4) rfl g5 rfl dX8_state_26 ?_
      refine zg_K_doneState C hs (hW0.2.1 x1.toNatClampNeg (z_in_lt g5) 10 (by decide) (by decide)) z_k128 dX8_state_27 ?_
      refine lv_iload_n hx hb dX8_state_30 rfl (lv_at hl 2 rfl) ?_
      obtain ⟨r6, σ6, h_6, hf⟩ := z_bds hf
      refine z_goI C hs (z_runV C hs hl.1 (cS_cellAt l E ⟨(show z_isS (14, 0, x1.toNatClampNeg) from (Or.inr (Or.inl rfl))), (hW0.2.1 x1.toNatClampNeg (z_in_lt g5) 14 (by decide) (by decide)), (hW0.2.1 x1.toNatClampNeg (z_in_lt g5) 15 (by decide) (by decide))⟩ h_6) zcV_RX8_177 (hW0.2.1 x1.toNatClampNeg (z_in_lt g5) 14 (by decide) (by decide)) (z_cS E _ _ (show z_isS (14, 0, x1.toNatClampNeg) from (Or.inr (Or.inl rfl)))) rfl rfl rfl (by decide) (Nat.le_of_ble_eq_true rfl) dX8_state_31) (fun H locs hs => ?_)
      refine lv_goto (tgt := 39) hx hb dX8_state_34 (by decide) ?_
      exact z_reti C hr hs hf dX8_state_39
set_option maxHeartbeats 4000000 in
set_option maxRecDepth 20000 in
theorem cX_state (l : Launch) (E : zE) {x1 : Int32} {x2 : Int32} (hB : z_B E) (hW0 : z_W E 0) {σ σo : zS} {ro : Int32} (hf : fX_state x1 x2 σ = some (ro, σo)) : z_T l E yX8_state cX8_state 3 (some .int) (z_rm 3) (z_QI E ro σo) [.ref (z_ad E (30, 0, 0)), .int x1, .int x2] σ :=
  z_enter (by decide) (Nat.le_of_ble_eq_true rfl) rfl (fun p e s m below meth c A ls C hr hs hl => wX_state C hr hB hW0 σ _ _ ls hs hl hf)
def fS_latestOf (a0 : zJ) (x1 : Int32) (σ : zS) : Option (Int32 × zS) :=
  z_bd (fX_isClient x1 σ) (fun r1 σ1 =>
  if r1 = 0 then
    (some ((-1000000), σ1))
  else
    (if z_in (8 + x1) 20 = true then (
    some (σ1.1 (z_nx a0) (8 + x1).toNatClampNeg, σ1)) else none))
set_option maxHeartbeats 4000000 in
set_option maxRecDepth 20000 in
theorem wS_latestOf {a0 : zJ} {x1 : Int32} (C : z_C E RX5 cX5_latestOf 2 A p s m args meth c) (hr : meth.sig.returnType = (some .int)) (hS0 : z_St E a0) {ro : Int32} {σo : zS} (σ : zS) (H : Heap) (locs : List Loc) (ls : Array Slot) (hs : z_H E A s σ H locs) (hl : lv_has ls 2 [(0, .ref (z_ad E a0)), (1, .int x1)]) (hf : fS_latestOf a0 x1 σ = some (ro, σo)) : W p l e (z_rm 2) s m args below meth c H locs 0 0 (MQ below (z_QI E ro σo A) args s 0 0 A) (F0 m 0 ls []) := by
  have hx := C.1
  have hb := C.2.1
  unfold fS_latestOf at hf
  refine lv_iload_n hx hb dX5_latestOf_0 rfl (lv_at hl 1 rfl) ?_
  obtain ⟨r1, σ1, h_1, hf⟩ := z_bds hf
  refine z_goI C hs (z_runN C hs hl.1 (cX_isClient l E h_1) zcN_RX5_26 rfl rfl (by decide) (Nat.le_of_ble_eq_true rfl) dX5_latestOf_1) (fun H locs hs => ?_)
  refine lv_if_eq (tgt := 19) hx hb dX5_latestOf_4 (by decide) (fun c2 => ?_) (fun c2 => ?_)
  · have hf := z_t hf c2
    refine lv_ldc (v := (-1000000)) hx hb C.2.2.2.1 (C.2.2.2.2.1 _ z_k806) dX5_latestOf_19 ?_
    exact z_reti C hr hs hf dX5_latestOf_21
  · have hf := z_f hf c2
    refine lv_aload_n hx hb dX5_latestOf_7 rfl (lv_at hl 0 rfl) ?_
    refine zg_S_parts C hs hS0.1 hS0.2.1 z_k90 dX5_latestOf_8 ?_
    refine lv_bipush (v := 8) hx hb dX5_latestOf_11 (by decide) ?_
    refine lv_iload_n hx hb dX5_latestOf_13 rfl (lv_at hl 1 rfl) ?_
    refine lv_iadd hx hb dX5_latestOf_14 ?_
    obtain ⟨g3, hf⟩ := z_gd hf
    refine z_ald C hs hS0.2.2 (z_cSn E _ _ hS0.1) g3 rfl dX5_latestOf_15 ?_
    refine lv_goto (tgt := 21) hx hb dX5_latestOf_16 (by decide) ?_
    exact z_reti C hr hs hf dX5_latestOf_21
set_option maxHeartbeats 4000000 in
set_option maxRecDepth 20000 in
theorem cS_latestOf (l : Launch) (E : zE) {a0 : zJ} {x1 : Int32} (hS0 : z_St E a0) {σ σo : zS} {ro : Int32} (hf : fS_latestOf a0 x1 σ = some (ro, σo)) : z_T l E yX5_latestOf cX5_latestOf 2 (some .int) (z_rm 2) (z_QI E ro σo) [.ref (z_ad E a0), .int x1] σ :=
  z_enter (by decide) (Nat.le_of_ble_eq_true rfl) rfl (fun p e s m below meth c A ls C hr hs hl => wS_latestOf C hr hS0 σ _ _ ls hs hl hf)
def fS_answerOf (a0 : zJ) (x1 : Int32) (σ : zS) : Option (Int32 × zS) :=
  z_bd (fX_isClient x1 σ) (fun r1 σ1 =>
  if r1 = 0 then
    (some ((-1000000), σ1))
  else
    (if z_in (14 + x1) 20 = true then (
    some (σ1.1 (z_nx a0) (14 + x1).toNatClampNeg, σ1)) else none))
set_option maxHeartbeats 4000000 in
set_option maxRecDepth 20000 in
theorem wS_answerOf {a0 : zJ} {x1 : Int32} (C : z_C E RX5 cX5_answerOf 2 A p s m args meth c) (hr : meth.sig.returnType = (some .int)) (hS0 : z_St E a0) {ro : Int32} {σo : zS} (σ : zS) (H : Heap) (locs : List Loc) (ls : Array Slot) (hs : z_H E A s σ H locs) (hl : lv_has ls 2 [(0, .ref (z_ad E a0)), (1, .int x1)]) (hf : fS_answerOf a0 x1 σ = some (ro, σo)) : W p l e (z_rm 2) s m args below meth c H locs 0 0 (MQ below (z_QI E ro σo A) args s 0 0 A) (F0 m 0 ls []) := by
  have hx := C.1
  have hb := C.2.1
  unfold fS_answerOf at hf
  refine lv_iload_n hx hb dX5_answerOf_0 rfl (lv_at hl 1 rfl) ?_
  obtain ⟨r1, σ1, h_1, hf⟩ := z_bds hf
  refine z_goI C hs (z_runN C hs hl.1 (cX_isClient l E h_1) zcN_RX5_26 rfl rfl (by decide) (Nat.le_of_ble_eq_true rfl) dX5_answerOf_1) (fun H locs hs => ?_)
  refine lv_if_eq (tgt := 19) hx hb dX5_answerOf_4 (by decide) (fun c2 => ?_) (fun c2 => ?_)
  · have hf := z_t hf c2
    refine lv_ldc (v := (-1000000)) hx hb C.2.2.2.1 (C.2.2.2.2.1 _ z_k806) dX5_answerOf_19 ?_
    exact z_reti C hr hs hf dX5_answerOf_21
  · have hf := z_f hf c2
    refine lv_aload_n hx hb dX5_answerOf_7 rfl (lv_at hl 0 rfl) ?_
    refine zg_S_parts C hs hS0.1 hS0.2.1 z_k90 dX5_answerOf_8 ?_
    refine lv_bipush (v := 14) hx hb dX5_answerOf_11 (by decide) ?_
    refine lv_iload_n hx hb dX5_answerOf_13 rfl (lv_at hl 1 rfl) ?_
    refine lv_iadd hx hb dX5_answerOf_14 ?_
    obtain ⟨g3, hf⟩ := z_gd hf
    refine z_ald C hs hS0.2.2 (z_cSn E _ _ hS0.1) g3 rfl dX5_answerOf_15 ?_
    refine lv_goto (tgt := 21) hx hb dX5_answerOf_16 (by decide) ?_
    exact z_reti C hr hs hf dX5_answerOf_21
set_option maxHeartbeats 4000000 in
set_option maxRecDepth 20000 in
theorem cS_answerOf (l : Launch) (E : zE) {a0 : zJ} {x1 : Int32} (hS0 : z_St E a0) {σ σo : zS} {ro : Int32} (hf : fS_answerOf a0 x1 σ = some (ro, σo)) : z_T l E yX5_answerOf cX5_answerOf 2 (some .int) (z_rm 2) (z_QI E ro σo) [.ref (z_ad E a0), .int x1] σ :=
  z_enter (by decide) (Nat.le_of_ble_eq_true rfl) rfl (fun p e s m below meth c A ls C hr hs hl => wS_answerOf C hr hS0 σ _ _ ls hs hl hf)
def fX_client (x1 : Int32) (x2 : Int32) (x3 : Int32) (σ : zS) : Option (Int32 × zS) :=
  z_bd (fW_isKeeper 0 x1 σ) (fun r1 σ1 =>
  if r1 = 0 then
    (some ((-1000000), σ1))
  else
    (z_bd (fX_isClient x2 σ1) (fun r3 σ3 =>
    if r3 = 0 then
      (some ((-1000000), σ3))
    else
      (if z_in x1 7 = true then (
      if x3 = 0 then
        (z_bd (fS_latestOf (14, 0, x1.toNatClampNeg) x2 σ3) (fun r7 σ7 =>
        some (r7, σ7)))
      else
        (if x3 = 1 then
          (z_bd (fS_answerOf (14, 0, x1.toNatClampNeg) x2 σ3) (fun r9 σ9 =>
          some (r9, σ9)))
        else
          (some ((-1000000), σ3)))) else none))))
set_option maxHeartbeats 4000000 in
set_option maxRecDepth 20000 in
theorem wX_client {x1 : Int32} {x2 : Int32} {x3 : Int32} (C : z_C E RX8 cX8_client 5 A p s m args meth c) (hr : meth.sig.returnType = (some .int)) (hB : z_B E) (hW0 : z_W E 0) {ro : Int32} {σo : zS} (σ : zS) (H : Heap) (locs : List Loc) (ls : Array Slot) (hs : z_H E A s σ H locs) (hl : lv_has ls 5 [(0, .ref (z_ad E (30, 0, 0))), (1, .int x1), (2, .int x2), (3, .int x3)]) (hf : fX_client x1 x2 x3 σ = some (ro, σo)) : W p l e (z_rm 3) s m args below meth c H locs 0 0 (MQ below (z_QI E ro σo A) args s 0 0 A) (F0 m 0 ls []) := by
  have hx := C.1
  have hb := C.2.1
  unfold fX_client at hf
  refine lv_aload_n hx hb dX8_client_0 rfl (lv_at hl 0 rfl) ?_
  refine zg_X_world C hs (hB 30 (by decide) (by decide)) z_k343 dX8_client_1 ?_
  refine lv_iload_n hx hb dX8_client_4 rfl (lv_at hl 1 rfl) ?_
  obtain ⟨r1, σ1, h_1, hf⟩ := z_bds hf
  refine z_goI C hs (z_runV C hs hl.1 (cW_isKeeper l E hW0 h_1) zcV_RX8_66 (hW0.1 0 (by decide)) (z_c0 E _ _ _ _) rfl rfl rfl (by decide) (Nat.le_of_ble_eq_true rfl) dX8_client_5) (fun H locs hs => ?_)
  refine lv_if_eq (tgt := 18) hx hb dX8_client_8 (by decide) (fun c2 => ?_) (fun c2 => ?_)
  · have hf := z_t hf c2
    refine lv_ldc (v := (-1000000)) hx hb C.2.2.2.1 (C.2.2.2.2.1 _ z_k808) dX8_client_18 ?_
    exact z_reti C hr hs hf dX8_client_20
  · have hf := z_f hf c2
    refine lv_iload_n hx hb dX8_client_11 rfl (lv_at hl 2 rfl) ?_
    obtain ⟨r3, σ3, h_3, hf⟩ := z_bds hf
    refine z_goI C hs (z_runS C hs hl.1 (cX_isClient l E h_3) zcS_RX8_182 rfl rfl rfl (by decide) (Nat.le_of_ble_eq_true rfl) dX8_client_12) (fun H locs hs => ?_)
    refine lv_if_ne (tgt := 21) hx hb dX8_client_15 (by decide) (fun c4 => ?_) (fun c4 => ?_)
    · have hf := z_f hf c4
      refine lv_aload_n hx hb dX8_client_21 rfl (lv_at hl 0 rfl) ?_
      refine zg_X_world C hs (hB 30 (by decide) (by decide)) z_k343 dX8_client_22 ?_
      refine zg_W_keepers C hs (hW0.1 0 (by decide)) z_k282 dX8_client_25 ?_
      refine lv_iload_n hx hb dX8_client_28 rfl (lv_at hl 1 rfl) ?_
      obtain ⟨g5, hf⟩ := z_gd hf
      refine z_aald C hs (hW0.1 1 (by decide)) (z_c1 E _ _ _ _) (t0 := 4) rfl g5 rfl dX8_client_29 ?_
      refine zg_K_doneState C hs (hW0.2.1 x1.toNatClampNeg (z_in_lt g5) 10 (by decide) (by decide)) z_k128 dX8_client_30 ?_
      refine lv_astore (lv' := [(4, .ref (z_ad E (14, 0, x1.toNatClampNeg))), (0, .ref (z_ad E (30, 0, 0))), (1, .int x1), (2, .int x2), (3, .int x3)]) hx hb dX8_client_33 hl (by decide) rfl (fun ls hl => ?_)
      refine lv_iload_n hx hb dX8_client_35 rfl (lv_at hl 4 rfl) ?_
      by_cases c6 : x3 = 0
      · have hf := z_t hf c6
        refine lv_lookup (off := 28) (tgt := 64) hx hb dX8_client_36 (by decide) (by rw [c6]; decide) (by decide) ?_
        refine lv_aload hx hb dX8_client_64 (lv_at hl 0 rfl) ?_
        refine lv_iload_n hx hb dX8_client_66 rfl (lv_at hl 3 rfl) ?_
        obtain ⟨r7, σ7, h_7, hf⟩ := z_bds hf
        refine z_goI C hs (z_runV C hs hl.1 (cS_latestOf l E ⟨(show z_isS (14, 0, x1.toNatClampNeg) from (Or.inr (Or.inl rfl))), (hW0.2.1 x1.toNatClampNeg (z_in_lt g5) 14 (by decide) (by decide)), (hW0.2.1 x1.toNatClampNeg (z_in_lt g5) 15 (by decide) (by decide))⟩ h_7) zcV_RX8_185 (hW0.2.1 x1.toNatClampNeg (z_in_lt g5) 14 (by decide) (by decide)) (z_cS E _ _ (show z_isS (14, 0, x1.toNatClampNeg) from (Or.inr (Or.inl rfl)))) rfl rfl rfl (by decide) (Nat.le_of_ble_eq_true rfl) dX8_client_67) (fun H locs hs => ?_)
        exact z_reti C hr hs hf dX8_client_70
      · have hf := z_f hf c6
        by_cases c8 : x3 = 1
        · have hf := z_t hf c8
          refine lv_lookup (off := 35) (tgt := 71) hx hb dX8_client_36 (by decide) (by rw [c8]; decide) (by decide) ?_
          refine lv_aload hx hb dX8_client_71 (lv_at hl 0 rfl) ?_
          refine lv_iload_n hx hb dX8_client_73 rfl (lv_at hl 3 rfl) ?_
          obtain ⟨r9, σ9, h_9, hf⟩ := z_bds hf
          refine z_goI C hs (z_runV C hs hl.1 (cS_answerOf l E ⟨(show z_isS (14, 0, x1.toNatClampNeg) from (Or.inr (Or.inl rfl))), (hW0.2.1 x1.toNatClampNeg (z_in_lt g5) 14 (by decide) (by decide)), (hW0.2.1 x1.toNatClampNeg (z_in_lt g5) 15 (by decide) (by decide))⟩ h_9) zcV_RX8_188 (hW0.2.1 x1.toNatClampNeg (z_in_lt g5) 14 (by decide) (by decide)) (z_cS E _ _ (show z_isS (14, 0, x1.toNatClampNeg) from (Or.inr (Or.inl rfl)))) rfl rfl rfl (by decide) (Nat.le_of_ble_eq_true rfl) dX8_client_74) (fun H locs hs => ?_)
          exact z_reti C hr hs hf dX8_client_77
        · have hf := z_f hf c8
          refine lv_lookup (off := 42) (tgt := 78) hx hb dX8_client_36 (by decide) (by
            have q0 := z_ne (k := 0) (n := 0) (by decide +kernel) c6
            have q1 := z_ne (k := 1) (n := 1) (by decide +kernel) c8
            simp [Op.lookupswitch.offset, q0, q0.symm, q1, q1.symm]) (by decide) ?_
          refine lv_ldc (v := (-1000000)) hx hb C.2.2.2.1 (C.2.2.2.2.1 _ z_k808) dX8_client_78 ?_
          exact z_reti C hr hs hf dX8_client_80
    · have hf := z_t hf c4
      refine lv_ldc (v := (-1000000)) hx hb C.2.2.2.1 (C.2.2.2.2.1 _ z_k808) dX8_client_18 ?_
      exact z_reti C hr hs hf dX8_client_20
set_option maxHeartbeats 4000000 in
set_option maxRecDepth 20000 in
theorem cX_client (l : Launch) (E : zE) {x1 : Int32} {x2 : Int32} {x3 : Int32} (hB : z_B E) (hW0 : z_W E 0) {σ σo : zS} {ro : Int32} (hf : fX_client x1 x2 x3 σ = some (ro, σo)) : z_T l E yX8_client cX8_client 5 (some .int) (z_rm 3) (z_QI E ro σo) [.ref (z_ad E (30, 0, 0)), .int x1, .int x2, .int x3] σ :=
  z_enter (by decide) (Nat.le_of_ble_eq_true rfl) rfl (fun p e s m below meth c A ls C hr hs hl => wX_client C hr hB hW0 σ _ _ ls hs hl hf)
def fX_peer (x1 : Int32) (x2 : Int32) (x3 : Int32) (σ : zS) : Option (Int32 × zS) :=
  z_bd (fW_isLeading 0 x1 σ) (fun r1 σ1 =>
  if r1 = 0 then
    (some ((-1), σ1))
  else
    (z_bd (fW_isKeeper 0 x2 σ1) (fun r3 σ3 =>
    if r3 = 0 then
      (some ((-1), σ3))
    else
      (if x1 = x2 then
        (some ((-1), σ3))
      else
        (if z_in x1 7 = true then (
        if x3 = 0 then
          (if z_in x2 7 = true then (
          some (σ3.1 (16, 0, x1.toNatClampNeg) x2.toNatClampNeg, σ3)) else none)
        else
          (if x3 = 1 then
            (if z_in x2 7 = true then (
            some (σ3.1 (17, 0, x1.toNatClampNeg) x2.toNatClampNeg, σ3)) else none)
          else
            (if x3 = 2 then
              (if z_in x2 7 = true then (
              some (σ3.1 (18, 0, x1.toNatClampNeg) x2.toNatClampNeg, σ3)) else none)
            else
              (some ((-1), σ3))))) else none)))))
set_option maxHeartbeats 4000000 in
set_option maxRecDepth 20000 in
theorem wX_peer {x1 : Int32} {x2 : Int32} {x3 : Int32} (C : z_C E RX8 cX8_peer 5 A p s m args meth c) (hr : meth.sig.returnType = (some .int)) (hB : z_B E) (hW0 : z_W E 0) {ro : Int32} {σo : zS} (σ : zS) (H : Heap) (locs : List Loc) (ls : Array Slot) (hs : z_H E A s σ H locs) (hl : lv_has ls 5 [(0, .ref (z_ad E (30, 0, 0))), (1, .int x1), (2, .int x2), (3, .int x3)]) (hf : fX_peer x1 x2 x3 σ = some (ro, σo)) : W p l e (z_rm 4) s m args below meth c H locs 0 0 (MQ below (z_QI E ro σo A) args s 0 0 A) (F0 m 0 ls []) := by
  have hx := C.1
  have hb := C.2.1
  unfold fX_peer at hf
  refine lv_aload_n hx hb dX8_peer_0 rfl (lv_at hl 0 rfl) ?_
  refine zg_X_world C hs (hB 30 (by decide) (by decide)) z_k343 dX8_peer_1 ?_
  refine lv_iload_n hx hb dX8_peer_4 rfl (lv_at hl 1 rfl) ?_
  obtain ⟨r1, σ1, h_1, hf⟩ := z_bds hf
  refine z_goI C hs (z_runV C hs hl.1 (cW_isLeading l E hW0 h_1) zcV_RX8_118 (hW0.1 0 (by decide)) (z_c0 E _ _ _ _) rfl rfl rfl (by decide) (Nat.le_of_ble_eq_true rfl) dX8_peer_5) (fun H locs hs => ?_)
  refine lv_if_eq (tgt := 27) hx hb dX8_peer_8 (by decide) (fun c2 => ?_) (fun c2 => ?_)
  · have hf := z_t hf c2
    refine lv_iconst (v := (-1)) hx hb dX8_peer_27 (by decide) ?_
    exact z_reti C hr hs hf dX8_peer_28
  · have hf := z_f hf c2
    refine lv_aload_n hx hb dX8_peer_11 rfl (lv_at hl 0 rfl) ?_
    refine zg_X_world C hs (hB 30 (by decide) (by decide)) z_k343 dX8_peer_12 ?_
    refine lv_iload_n hx hb dX8_peer_15 rfl (lv_at hl 2 rfl) ?_
    obtain ⟨r3, σ3, h_3, hf⟩ := z_bds hf
    refine z_goI C hs (z_runV C hs hl.1 (cW_isKeeper l E hW0 h_3) zcV_RX8_66 (hW0.1 0 (by decide)) (z_c0 E _ _ _ _) rfl rfl rfl (by decide) (Nat.le_of_ble_eq_true rfl) dX8_peer_16) (fun H locs hs => ?_)
    refine lv_if_eq (tgt := 27) hx hb dX8_peer_19 (by decide) (fun c4 => ?_) (fun c4 => ?_)
    · have hf := z_t hf c4
      refine lv_iconst (v := (-1)) hx hb dX8_peer_27 (by decide) ?_
      exact z_reti C hr hs hf dX8_peer_28
    · have hf := z_f hf c4
      refine lv_iload_n hx hb dX8_peer_22 rfl (lv_at hl 1 rfl) ?_
      refine lv_iload_n hx hb dX8_peer_23 rfl (lv_at hl 2 rfl) ?_
      refine lv_icmp_ne (tgt := 29) hx hb dX8_peer_24 (by decide) (fun c5 => ?_) (fun c5 => ?_)
      · have hf := z_f hf c5
        refine lv_aload_n hx hb dX8_peer_29 rfl (lv_at hl 0 rfl) ?_
        refine zg_X_world C hs (hB 30 (by decide) (by decide)) z_k343 dX8_peer_30 ?_
        refine zg_W_keepers C hs (hW0.1 0 (by decide)) z_k282 dX8_peer_33 ?_
        refine lv_iload_n hx hb dX8_peer_36 rfl (lv_at hl 1 rfl) ?_
        obtain ⟨g6, hf⟩ := z_gd hf
        refine z_aald C hs (hW0.1 1 (by decide)) (z_c1 E _ _ _ _) (t0 := 4) rfl g6 rfl dX8_peer_37 ?_
        refine lv_astore (lv' := [(4, .ref (z_ad E (10, 0, x1.toNatClampNeg))), (0, .ref (z_ad E (30, 0, 0))), (1, .int x1), (2, .int x2), (3, .int x3)]) hx hb dX8_peer_38 hl (by decide) rfl (fun ls hl => ?_)
        refine lv_iload_n hx hb dX8_peer_40 rfl (lv_at hl 4 rfl) ?_
        by_cases c7 : x3 = 0
        · have hf := z_t hf c7
          refine lv_tableIn (off := 27) (tgt := 68) hx hb dX8_peer_41 (by rw [c7]; decide) (by rw [c7]; decide) (by rw [c7]; decide) (by decide) ?_
          refine lv_aload hx hb dX8_peer_68 (lv_at hl 0 rfl) ?_
          refine zg_K_next C hs (hW0.2.1 x1.toNatClampNeg (z_in_lt g6) 10 (by decide) (by decide)) z_k132 dX8_peer_70 ?_
          refine lv_iload_n hx hb dX8_peer_73 rfl (lv_at hl 3 rfl) ?_
          obtain ⟨g8, hf⟩ := z_gd hf
          refine z_ald C hs (hW0.2.1 x1.toNatClampNeg (z_in_lt g6) 16 (by decide) (by decide)) (z_c16 E _ _ _ _) g8 rfl dX8_peer_74 ?_
          exact z_reti C hr hs hf dX8_peer_75
        · have hf := z_f hf c7
          by_cases c9 : x3 = 1
          · have hf := z_t hf c9
            refine lv_tableIn (off := 35) (tgt := 76) hx hb dX8_peer_41 (by rw [c9]; decide) (by rw [c9]; decide) (by rw [c9]; decide) (by decide) ?_
            refine lv_aload hx hb dX8_peer_76 (lv_at hl 0 rfl) ?_
            refine zg_K_sure C hs (hW0.2.1 x1.toNatClampNeg (z_in_lt g6) 10 (by decide) (by decide)) z_k135 dX8_peer_78 ?_
            refine lv_iload_n hx hb dX8_peer_81 rfl (lv_at hl 3 rfl) ?_
            obtain ⟨g10, hf⟩ := z_gd hf
            refine z_ald C hs (hW0.2.1 x1.toNatClampNeg (z_in_lt g6) 17 (by decide) (by decide)) (z_c17 E _ _ _ _) g10 rfl dX8_peer_82 ?_
            exact z_reti C hr hs hf dX8_peer_83
          · have hf := z_f hf c9
            by_cases c11 : x3 = 2
            · have hf := z_t hf c11
              refine lv_tableIn (off := 43) (tgt := 84) hx hb dX8_peer_41 (by rw [c11]; decide) (by rw [c11]; decide) (by rw [c11]; decide) (by decide) ?_
              refine lv_aload hx hb dX8_peer_84 (lv_at hl 0 rfl) ?_
              refine zg_K_answered C hs (hW0.2.1 x1.toNatClampNeg (z_in_lt g6) 10 (by decide) (by decide)) z_k137 dX8_peer_86 ?_
              refine lv_iload_n hx hb dX8_peer_89 rfl (lv_at hl 3 rfl) ?_
              obtain ⟨g12, hf⟩ := z_gd hf
              refine z_ald C hs (hW0.2.1 x1.toNatClampNeg (z_in_lt g6) 18 (by decide) (by decide)) (z_c18 E _ _ _ _) g12 rfl dX8_peer_90 ?_
              exact z_reti C hr hs hf dX8_peer_91
            · have hf := z_f hf c11
              have hq : (x3).toInt < 0 ∨ 2 < (x3).toInt := by
                have q0 := z_ne (k := 0) (n := 0) (by decide +kernel) c7
                have q1 := z_ne (k := 1) (n := 1) (by decide +kernel) c9
                have q2 := z_ne (k := 2) (n := 2) (by decide +kernel) c11
                omega
              refine lv_tableOut (tgt := 92) hx hb dX8_peer_41 hq (by decide) ?_
              refine lv_iconst (v := (-1)) hx hb dX8_peer_92 (by decide) ?_
              exact z_reti C hr hs hf dX8_peer_93
      · have hf := z_t hf c5
        refine lv_iconst (v := (-1)) hx hb dX8_peer_27 (by decide) ?_
        exact z_reti C hr hs hf dX8_peer_28
set_option maxHeartbeats 4000000 in
set_option maxRecDepth 20000 in
theorem cX_peer (l : Launch) (E : zE) {x1 : Int32} {x2 : Int32} {x3 : Int32} (hB : z_B E) (hW0 : z_W E 0) {σ σo : zS} {ro : Int32} (hf : fX_peer x1 x2 x3 σ = some (ro, σo)) : z_T l E yX8_peer cX8_peer 5 (some .int) (z_rm 4) (z_QI E ro σo) [.ref (z_ad E (30, 0, 0)), .int x1, .int x2, .int x3] σ :=
  z_enter (by decide) (Nat.le_of_ble_eq_true rfl) rfl (fun p e s m below meth c A ls C hr hs hl => wX_peer C hr hB hW0 σ _ _ ls hs hl hf)
def fL_tell (w0 : Nat) (i0 : Nat) (x1 : Int32) (σ : zS) : Option (Int32 × zS) :=
  if x1 = 0 then
    (some (σ.1 (20, w0, i0) 0, σ))
  else
    (if x1 = 1 then
      (some (σ.1 (20, w0, i0) 1, σ))
    else
      (if x1 = 2 then
        (some (σ.1 (20, w0, i0) 2, σ))
      else
        (if x1 = 3 then
          (some (σ.1 (20, w0, i0) 3, σ))
        else
          (if x1 = 4 then
            (some (σ.1 (20, w0, i0) 4, σ))
          else
            (if x1 = 5 then
              (some (σ.1 (20, w0, i0) 5, σ))
            else
              (if x1 = 6 then
                (some (σ.1 (20, w0, i0) 6, σ))
              else
                (if x1 = 7 then
                  (some (σ.1 (20, w0, i0) 7, σ))
                else
                  (if x1 = 8 then
                    (some (σ.1 (20, w0, i0) 8, σ))
                  else
                    (some ((-1), σ))))))))))
set_option maxHeartbeats 4000000 in
set_option maxRecDepth 20000 in
theorem wL_tell {w0 : Nat} {i0 : Nat} {x1 : Int32} (C : z_C E RX2 cX2_tell 2 A p s m args meth c) (hr : meth.sig.returnType = (some .int)) (hV0 : z_W E w0) (hi0 : i0 < 41) {ro : Int32} {σo : zS} (σ : zS) (H : Heap) (locs : List Loc) (ls : Array Slot) (hs : z_H E A s σ H locs) (hl : lv_has ls 2 [(0, .ref (z_ad E (20, w0, i0))), (1, .int x1)]) (hf : fL_tell w0 i0 x1 σ = some (ro, σo)) : W p l e (z_rm 1) s m args below meth c H locs 0 0 (MQ below (z_QI E ro σo A) args s 0 0 A) (F0 m 0 ls []) := by
  have hx := C.1
  have hb := C.2.1
  unfold fL_tell at hf
  refine lv_iload_n hx hb dX2_tell_0 rfl (lv_at hl 1 rfl) ?_
  by_cases c1 : x1 = 0
  · have hf := z_t hf c1
    refine lv_tableIn (off := 51) (tgt := 52) hx hb dX2_tell_1 (by rw [c1]; decide) (by rw [c1]; decide) (by rw [c1]; decide) (by decide) ?_
    refine lv_aload_n hx hb dX2_tell_52 rfl (lv_at hl 0 rfl) ?_
    refine zg_L_kind C hs (hV0.2.2 i0 hi0 20 (by decide) (by decide)) z_k193 dX2_tell_53 ?_
    exact z_reti C hr hs hf dX2_tell_56
  · have hf := z_f hf c1
    by_cases c2 : x1 = 1
    · have hf := z_t hf c2
      refine lv_tableIn (off := 56) (tgt := 57) hx hb dX2_tell_1 (by rw [c2]; decide) (by rw [c2]; decide) (by rw [c2]; decide) (by decide) ?_
      refine lv_aload_n hx hb dX2_tell_57 rfl (lv_at hl 0 rfl) ?_
      refine zg_L_sender C hs (hV0.2.2 i0 hi0 20 (by decide) (by decide)) z_k197 dX2_tell_58 ?_
      exact z_reti C hr hs hf dX2_tell_61
    · have hf := z_f hf c2
      by_cases c3 : x1 = 2
      · have hf := z_t hf c3
        refine lv_tableIn (off := 61) (tgt := 62) hx hb dX2_tell_1 (by rw [c3]; decide) (by rw [c3]; decide) (by rw [c3]; decide) (by decide) ?_
        refine lv_aload_n hx hb dX2_tell_62 rfl (lv_at hl 0 rfl) ?_
        refine zg_L_receiver C hs (hV0.2.2 i0 hi0 20 (by decide) (by decide)) z_k199 dX2_tell_63 ?_
        exact z_reti C hr hs hf dX2_tell_66
      · have hf := z_f hf c3
        by_cases c4 : x1 = 3
        · have hf := z_t hf c4
          refine lv_tableIn (off := 66) (tgt := 67) hx hb dX2_tell_1 (by rw [c4]; decide) (by rw [c4]; decide) (by rw [c4]; decide) (by decide) ?_
          refine lv_aload_n hx hb dX2_tell_67 rfl (lv_at hl 0 rfl) ?_
          refine zg_L_term C hs (hV0.2.2 i0 hi0 20 (by decide) (by decide)) z_k201 dX2_tell_68 ?_
          exact z_reti C hr hs hf dX2_tell_71
        · have hf := z_f hf c4
          by_cases c5 : x1 = 4
          · have hf := z_t hf c5
            refine lv_tableIn (off := 71) (tgt := 72) hx hb dX2_tell_1 (by rw [c5]; decide) (by rw [c5]; decide) (by rw [c5]; decide) (by decide) ?_
            refine lv_aload_n hx hb dX2_tell_72 rfl (lv_at hl 0 rfl) ?_
            refine zg_L_first C hs (hV0.2.2 i0 hi0 20 (by decide) (by decide)) z_k203 dX2_tell_73 ?_
            exact z_reti C hr hs hf dX2_tell_76
          · have hf := z_f hf c5
            by_cases c6 : x1 = 5
            · have hf := z_t hf c6
              refine lv_tableIn (off := 76) (tgt := 77) hx hb dX2_tell_1 (by rw [c6]; decide) (by rw [c6]; decide) (by rw [c6]; decide) (by decide) ?_
              refine lv_aload_n hx hb dX2_tell_77 rfl (lv_at hl 0 rfl) ?_
              refine zg_L_second C hs (hV0.2.2 i0 hi0 20 (by decide) (by decide)) z_k205 dX2_tell_78 ?_
              exact z_reti C hr hs hf dX2_tell_81
            · have hf := z_f hf c6
              by_cases c7 : x1 = 6
              · have hf := z_t hf c7
                refine lv_tableIn (off := 81) (tgt := 82) hx hb dX2_tell_1 (by rw [c7]; decide) (by rw [c7]; decide) (by rw [c7]; decide) (by decide) ?_
                refine lv_aload_n hx hb dX2_tell_82 rfl (lv_at hl 0 rfl) ?_
                refine zg_L_count C hs (hV0.2.2 i0 hi0 20 (by decide) (by decide)) z_k207 dX2_tell_83 ?_
                exact z_reti C hr hs hf dX2_tell_86
              · have hf := z_f hf c7
                by_cases c8 : x1 = 7
                · have hf := z_t hf c8
                  refine lv_tableIn (off := 86) (tgt := 87) hx hb dX2_tell_1 (by rw [c8]; decide) (by rw [c8]; decide) (by rw [c8]; decide) (by decide) ?_
                  refine lv_aload_n hx hb dX2_tell_87 rfl (lv_at hl 0 rfl) ?_
                  refine zg_L_done C hs (hV0.2.2 i0 hi0 20 (by decide) (by decide)) z_k209 dX2_tell_88 ?_
                  exact z_reti C hr hs hf dX2_tell_91
                · have hf := z_f hf c8
                  by_cases c9 : x1 = 8
                  · have hf := z_t hf c9
                    refine lv_tableIn (off := 91) (tgt := 92) hx hb dX2_tell_1 (by rw [c9]; decide) (by rw [c9]; decide) (by rw [c9]; decide) (by decide) ?_
                    refine lv_aload_n hx hb dX2_tell_92 rfl (lv_at hl 0 rfl) ?_
                    refine zg_L_round C hs (hV0.2.2 i0 hi0 20 (by decide) (by decide)) z_k211 dX2_tell_93 ?_
                    exact z_reti C hr hs hf dX2_tell_96
                  · have hf := z_f hf c9
                    have hq : (x1).toInt < 0 ∨ 8 < (x1).toInt := by
                      have q0 := z_ne (k := 0) (n := 0) (by decide +kernel) c1
                      have q1 := z_ne (k := 1) (n := 1) (by decide +kernel) c2
                      have q2 := z_ne (k := 2) (n := 2) (by decide +kernel) c3
                      have q3 := z_ne (k := 3) (n := 3) (by decide +kernel) c4
                      have q4 := z_ne (k := 4) (n := 4) (by decide +kernel) c5
                      have q5 := z_ne (k := 5) (n := 5) (by decide +kernel) c6
                      have q6 := z_ne (k := 6) (n := 6) (by decide +kernel) c7
                      have q7 := z_ne (k := 7) (n := 7) (by decide +kernel) c8
                      have q8 := z_ne (k := 8) (n := 8) (by decide +kernel) c9
                      omega
                    refine lv_tableOut (tgt := 97) hx hb dX2_tell_1 hq (by decide) ?_
                    refine lv_iconst (v := (-1)) hx hb dX2_tell_97 (by decide) ?_
                    exact z_reti C hr hs hf dX2_tell_98
set_option maxHeartbeats 4000000 in
set_option maxRecDepth 20000 in
theorem cL_tell (l : Launch) (E : zE) {w0 : Nat} {i0 : Nat} {x1 : Int32} (hV0 : z_W E w0) (hi0 : i0 < 41) {σ σo : zS} {ro : Int32} (hf : fL_tell w0 i0 x1 σ = some (ro, σo)) : z_T l E yX2_tell cX2_tell 2 (some .int) (z_rm 1) (z_QI E ro σo) [.ref (z_ad E (20, w0, i0)), .int x1] σ :=
  z_enter (by decide) (Nat.le_of_ble_eq_true rfl) rfl (fun p e s m below meth c A ls C hr hs hl => wL_tell C hr hV0 hi0 σ _ _ ls hs hl hf)
def fX_slot (x1 : Int32) (x2 : Int32) (σ : zS) : Option (Int32 × zS) :=
  z_bd (fP_isFull 0 x1 σ) (fun r1 σ1 =>
  if r1 = 0 then
    (some ((-1), σ1))
  else
    (if z_in x1 40 = true then (
    z_bd (fL_tell 0 (x1.toNatClampNeg) x2 σ1) (fun r4 σ4 =>
    some (r4, σ4))) else none))
set_option maxHeartbeats 4000000 in
set_option maxRecDepth 20000 in
theorem wX_slot {x1 : Int32} {x2 : Int32} (C : z_C E RX8 cX8_slot 3 A p s m args meth c) (hr : meth.sig.returnType = (some .int)) (hB : z_B E) (hW0 : z_W E 0) {ro : Int32} {σo : zS} (σ : zS) (H : Heap) (locs : List Loc) (ls : Array Slot) (hs : z_H E A s σ H locs) (hl : lv_has ls 3 [(0, .ref (z_ad E (30, 0, 0))), (1, .int x1), (2, .int x2)]) (hf : fX_slot x1 x2 σ = some (ro, σo)) : W p l e (z_rm 2) s m args below meth c H locs 0 0 (MQ below (z_QI E ro σo A) args s 0 0 A) (F0 m 0 ls []) := by
  have hx := C.1
  have hb := C.2.1
  unfold fX_slot at hf
  refine lv_aload_n hx hb dX8_slot_0 rfl (lv_at hl 0 rfl) ?_
  refine zg_X_world C hs (hB 30 (by decide) (by decide)) z_k343 dX8_slot_1 ?_
  refine zg_W_post C hs (hW0.1 0 (by decide)) z_k284 dX8_slot_4 ?_
  refine lv_iload_n hx hb dX8_slot_7 rfl (lv_at hl 1 rfl) ?_
  obtain ⟨r1, σ1, h_1, hf⟩ := z_bds hf
  refine z_goI C hs (z_runV C hs hl.1 (cP_isFull l E hW0 h_1) zcV_RX8_77 (hW0.1 2 (by decide)) (z_c2 E _ _ _ _) rfl rfl rfl (by decide) (Nat.le_of_ble_eq_true rfl) dX8_slot_8) (fun H locs hs => ?_)
  refine lv_if_eq (tgt := 33) hx hb dX8_slot_11 (by decide) (fun c2 => ?_) (fun c2 => ?_)
  · have hf := z_t hf c2
    refine lv_iconst (v := (-1)) hx hb dX8_slot_33 (by decide) ?_
    exact z_reti C hr hs hf dX8_slot_34
  · have hf := z_f hf c2
    refine lv_aload_n hx hb dX8_slot_14 rfl (lv_at hl 0 rfl) ?_
    refine zg_X_world C hs (hB 30 (by decide) (by decide)) z_k343 dX8_slot_15 ?_
    refine zg_W_post C hs (hW0.1 0 (by decide)) z_k284 dX8_slot_18 ?_
    refine zg_P_letters C hs (hW0.1 2 (by decide)) z_k245 dX8_slot_21 ?_
    refine lv_iload_n hx hb dX8_slot_24 rfl (lv_at hl 1 rfl) ?_
    obtain ⟨g3, hf⟩ := z_gd hf
    refine z_aald C hs (hW0.1 3 (by decide)) (z_c3 E _ _ _ _) (t0 := 5) rfl g3 rfl dX8_slot_25 ?_
    refine lv_iload_n hx hb dX8_slot_26 rfl (lv_at hl 2 rfl) ?_
    obtain ⟨r4, σ4, h_4, hf⟩ := z_bds hf
    refine z_goI C hs (z_runV C hs hl.1 (cL_tell l E hW0 (Nat.lt_succ_of_lt (z_in_lt g3)) h_4) zcV_RX8_201 (hW0.2.2 x1.toNatClampNeg (Nat.lt_succ_of_lt (z_in_lt g3)) 20 (by decide) (by decide)) (z_c20 E _ _ _ _) rfl rfl rfl (by decide) (Nat.le_of_ble_eq_true rfl) dX8_slot_27) (fun H locs hs => ?_)
    refine lv_goto (tgt := 34) hx hb dX8_slot_30 (by decide) ?_
    exact z_reti C hr hs hf dX8_slot_34
set_option maxHeartbeats 4000000 in
set_option maxRecDepth 20000 in
theorem cX_slot (l : Launch) (E : zE) {x1 : Int32} {x2 : Int32} (hB : z_B E) (hW0 : z_W E 0) {σ σo : zS} {ro : Int32} (hf : fX_slot x1 x2 σ = some (ro, σo)) : z_T l E yX8_slot cX8_slot 3 (some .int) (z_rm 2) (z_QI E ro σo) [.ref (z_ad E (30, 0, 0)), .int x1, .int x2] σ :=
  z_enter (by decide) (Nat.le_of_ble_eq_true rfl) rfl (fun p e s m below meth c A ls C hr hs hl => wX_slot C hr hB hW0 σ _ _ ls hs hl hf)
def fH_isFull (σ : zS) : Option (Int32 × zS) :=
  if (σ.1 (40, 0, 0) 7) < 9 then
    (some (0, σ))
  else
    (some (1, σ))
set_option maxHeartbeats 4000000 in
set_option maxRecDepth 20000 in
theorem wH_isFull (C : z_C E RX0 cX0_isFull 1 A p s m args meth c) (hr : meth.sig.returnType = (some .boolean)) (hB : z_B E) {ro : Int32} {σo : zS} (σ : zS) (H : Heap) (locs : List Loc) (ls : Array Slot) (hs : z_H E A s σ H locs) (hl : lv_has ls 1 [(0, .ref (z_ad E (40, 0, 0)))]) (hf : fH_isFull σ = some (ro, σo)) : W p l e (z_rm 1) s m args below meth c H locs 0 0 (MQ below (z_QI E ro σo A) args s 0 0 A) (F0 m 0 ls []) := by
  have hx := C.1
  have hb := C.2.1
  unfold fH_isFull at hf
  refine lv_aload_n hx hb dX0_isFull_0 rfl (lv_at hl 0 rfl) ?_
  refine zg_H_size C hs (hB 40 (by decide) (by decide)) z_k317 dX0_isFull_1 ?_
  refine lv_bipush (v := 9) hx hb dX0_isFull_4 (by decide) ?_
  refine lv_icmp_lt (tgt := 13) hx hb dX0_isFull_6 (by decide) (fun c1 => ?_) (fun c1 => ?_)
  · have hf := z_t hf c1
    refine lv_iconst (v := 0) hx hb dX0_isFull_13 (by decide) ?_
    exact z_retz C hr hs (by decide +kernel) hf dX0_isFull_14
  · have hf := z_f hf c1
    refine lv_iconst (v := 1) hx hb dX0_isFull_9 (by decide) ?_
    refine lv_goto (tgt := 14) hx hb dX0_isFull_10 (by decide) ?_
    exact z_retz C hr hs (by decide +kernel) hf dX0_isFull_14
set_option maxHeartbeats 4000000 in
set_option maxRecDepth 20000 in
theorem cH_isFull (l : Launch) (E : zE) (hB : z_B E) {σ σo : zS} {ro : Int32} (hf : fH_isFull σ = some (ro, σo)) : z_T l E yX0_isFull cX0_isFull 1 (some .boolean) (z_rm 1) (z_QI E ro σo) [.ref (z_ad E (40, 0, 0))] σ :=
  z_enter (by decide) (Nat.le_of_ble_eq_true rfl) rfl (fun p e s m below meth c A ls C hr hs hl => wH_isFull C hr hB σ _ _ ls hs hl hf)
def fH_add (x1 : Int32) (x2 : Int32) (x3 : Int32) (x4 : Int32) (x5 : Int32) (σ : zS) : Option (Int32 × zS) :=
  z_bd (fH_isFull σ) (fun r1 σ1 =>
  if r1 = 0 then
    (if z_in (σ1.1 (40, 0, 0) 7) 9 = true then (
    z_let (z_up σ1 (41, 0, 0) ((σ1.1 (40, 0, 0) 7).toNatClampNeg) x1) (fun σ4 =>
    if z_in (σ4.1 (40, 0, 0) 7) 9 = true then (
    z_let (z_up σ4 (42, 0, 0) ((σ4.1 (40, 0, 0) 7).toNatClampNeg) x2) (fun σ6 =>
    if z_in (σ6.1 (40, 0, 0) 7) 9 = true then (
    z_let (z_up σ6 (43, 0, 0) ((σ6.1 (40, 0, 0) 7).toNatClampNeg) x3) (fun σ8 =>
    if z_in (σ8.1 (40, 0, 0) 7) 9 = true then (
    z_let (z_up σ8 (44, 0, 0) ((σ8.1 (40, 0, 0) 7).toNatClampNeg) x4) (fun σ10 =>
    if z_in (σ10.1 (40, 0, 0) 7) 9 = true then (
    z_let (z_up σ10 (45, 0, 0) ((σ10.1 (40, 0, 0) 7).toNatClampNeg) x5) (fun σ12 =>
    z_let (z_up σ12 (40, 0, 0) 7 ((σ12.1 (40, 0, 0) 7) + 1)) (fun σ13 =>
    z_let (z_up σ13 (40, 0, 0) 8 0) (fun σ14 =>
    some ((σ14.1 (40, 0, 0) 7) - 1, σ14))))) else none)) else none)) else none)) else none)) else none)
  else
    (some ((-1), σ1)))
set_option maxHeartbeats 4000000 in
set_option maxRecDepth 20000 in
theorem wH_add {x1 : Int32} {x2 : Int32} {x3 : Int32} {x4 : Int32} {x5 : Int32} (C : z_C E RX0 cX0_add 6 A p s m args meth c) (hr : meth.sig.returnType = (some .int)) (hB : z_B E) {ro : Int32} {σo : zS} (σ : zS) (H : Heap) (locs : List Loc) (ls : Array Slot) (hs : z_H E A s σ H locs) (hl : lv_has ls 6 [(0, .ref (z_ad E (40, 0, 0))), (1, .int x1), (2, .int x2), (3, .int x3), (4, .int x4), (5, .int x5)]) (hf : fH_add x1 x2 x3 x4 x5 σ = some (ro, σo)) : W p l e (z_rm 2) s m args below meth c H locs 0 0 (MQ below (z_QI E ro σo A) args s 0 0 A) (F0 m 0 ls []) := by
  have hx := C.1
  have hb := C.2.1
  unfold fH_add at hf
  refine lv_aload_n hx hb dX0_add_0 rfl (lv_at hl 0 rfl) ?_
  obtain ⟨r1, σ1, h_1, hf⟩ := z_bds hf
  refine z_goI C hs (z_runV C hs hl.1 (cH_isFull l E hB h_1) zcV_RX0_37 (hB 40 (by decide) (by decide)) (z_c40 E _ _ _ _) rfl rfl rfl (by decide) (Nat.le_of_ble_eq_true rfl) dX0_add_1) (fun H locs hs => ?_)
  refine lv_if_eq (tgt := 9) hx hb dX0_add_4 (by decide) (fun c2 => ?_) (fun c2 => ?_)
  · have hf := z_t hf c2
    refine lv_aload_n hx hb dX0_add_9 rfl (lv_at hl 0 rfl) ?_
    refine zg_H_begun C hs (hB 40 (by decide) (by decide)) z_k309 dX0_add_10 ?_
    refine lv_aload_n hx hb dX0_add_13 rfl (lv_at hl 0 rfl) ?_
    refine zg_H_size C hs (hB 40 (by decide) (by decide)) z_k317 dX0_add_14 ?_
    refine lv_iload_n hx hb dX0_add_17 rfl (lv_at hl 1 rfl) ?_
    obtain ⟨g3, hf⟩ := z_gd hf
    refine z_ast C hs (hB 41 (by decide) (by decide)) (fun r h => z_c41 E r h _ _) g3 rfl dX0_add_18 (fun H locs hs => ?_)
    obtain ⟨σ4, -, hs, hf⟩ := z_top hs hf
    refine lv_aload_n hx hb dX0_add_19 rfl (lv_at hl 0 rfl) ?_
    refine zg_H_ended C hs (hB 40 (by decide) (by decide)) z_k310 dX0_add_20 ?_
    refine lv_aload_n hx hb dX0_add_23 rfl (lv_at hl 0 rfl) ?_
    refine zg_H_size C hs (hB 40 (by decide) (by decide)) z_k317 dX0_add_24 ?_
    refine lv_iload_n hx hb dX0_add_27 rfl (lv_at hl 2 rfl) ?_
    obtain ⟨g5, hf⟩ := z_gd hf
    refine z_ast C hs (hB 42 (by decide) (by decide)) (fun r h => z_c42 E r h _ _) g5 rfl dX0_add_28 (fun H locs hs => ?_)
    obtain ⟨σ6, -, hs, hf⟩ := z_top hs hf
    refine lv_aload_n hx hb dX0_add_29 rfl (lv_at hl 0 rfl) ?_
    refine zg_H_what C hs (hB 40 (by decide) (by decide)) z_k311 dX0_add_30 ?_
    refine lv_aload_n hx hb dX0_add_33 rfl (lv_at hl 0 rfl) ?_
    refine zg_H_size C hs (hB 40 (by decide) (by decide)) z_k317 dX0_add_34 ?_
    refine lv_iload_n hx hb dX0_add_37 rfl (lv_at hl 3 rfl) ?_
    obtain ⟨g7, hf⟩ := z_gd hf
    refine z_ast C hs (hB 43 (by decide) (by decide)) (fun r h => z_c43 E r h _ _) g7 rfl dX0_add_38 (fun H locs hs => ?_)
    obtain ⟨σ8, -, hs, hf⟩ := z_top hs hf
    refine lv_aload_n hx hb dX0_add_39 rfl (lv_at hl 0 rfl) ?_
    refine zg_H_value C hs (hB 40 (by decide) (by decide)) z_k312 dX0_add_40 ?_
    refine lv_aload_n hx hb dX0_add_43 rfl (lv_at hl 0 rfl) ?_
    refine zg_H_size C hs (hB 40 (by decide) (by decide)) z_k317 dX0_add_44 ?_
    refine lv_iload hx hb dX0_add_47 (lv_at hl 4 rfl) ?_
    obtain ⟨g9, hf⟩ := z_gd hf
    refine z_ast C hs (hB 44 (by decide) (by decide)) (fun r h => z_c44 E r h _ _) g9 rfl dX0_add_49 (fun H locs hs => ?_)
    obtain ⟨σ10, -, hs, hf⟩ := z_top hs hf
    refine lv_aload_n hx hb dX0_add_50 rfl (lv_at hl 0 rfl) ?_
    refine zg_H_answer C hs (hB 40 (by decide) (by decide)) z_k313 dX0_add_51 ?_
    refine lv_aload_n hx hb dX0_add_54 rfl (lv_at hl 0 rfl) ?_
    refine zg_H_size C hs (hB 40 (by decide) (by decide)) z_k317 dX0_add_55 ?_
    refine lv_iload hx hb dX0_add_58 (lv_at hl 5 rfl) ?_
    obtain ⟨g11, hf⟩ := z_gd hf
    refine z_ast C hs (hB 45 (by decide) (by decide)) (fun r h => z_c45 E r h _ _) g11 rfl dX0_add_60 (fun H locs hs => ?_)
    obtain ⟨σ12, -, hs, hf⟩ := z_top hs hf
    refine lv_aload_n hx hb dX0_add_61 rfl (lv_at hl 0 rfl) ?_
    refine lv_dup hx hb dX0_add_62 rfl ?_
    refine zg_H_size C hs (hB 40 (by decide) (by decide)) z_k317 dX0_add_63 ?_
    refine lv_iconst (v := 1) hx hb dX0_add_66 (by decide) ?_
    refine lv_iadd hx hb dX0_add_67 ?_
    refine zp_H_size C hs (hB 40 (by decide) (by decide)) z_k317 dX0_add_68 (fun H locs hs => ?_)
    obtain ⟨σ13, -, hs, hf⟩ := z_top hs hf
    refine lv_aload_n hx hb dX0_add_71 rfl (lv_at hl 0 rfl) ?_
    refine lv_iconst (v := 0) hx hb dX0_add_72 (by decide) ?_
    refine zp_H_judged C hs (hB 40 (by decide) (by decide)) z_k319 (by decide +kernel) dX0_add_73 (fun H locs hs => ?_)
    obtain ⟨σ14, -, hs, hf⟩ := z_top hs hf
    refine lv_aload_n hx hb dX0_add_76 rfl (lv_at hl 0 rfl) ?_
    refine zg_H_size C hs (hB 40 (by decide) (by decide)) z_k317 dX0_add_77 ?_
    refine lv_iconst (v := 1) hx hb dX0_add_80 (by decide) ?_
    refine lv_isub hx hb dX0_add_81 ?_
    exact z_reti C hr hs hf dX0_add_82
  · have hf := z_f hf c2
    refine lv_iconst (v := (-1)) hx hb dX0_add_7 (by decide) ?_
    exact z_reti C hr hs hf dX0_add_8
set_option maxHeartbeats 4000000 in
set_option maxRecDepth 20000 in
theorem cH_add (l : Launch) (E : zE) {x1 : Int32} {x2 : Int32} {x3 : Int32} {x4 : Int32} {x5 : Int32} (hB : z_B E) {σ σo : zS} {ro : Int32} (hf : fH_add x1 x2 x3 x4 x5 σ = some (ro, σo)) : z_T l E yX0_add cX0_add 6 (some .int) (z_rm 2) (z_QI E ro σo) [.ref (z_ad E (40, 0, 0)), .int x1, .int x2, .int x3, .int x4, .int x5] σ :=
  z_enter (by decide) (Nat.le_of_ble_eq_true rfl) rfl (fun p e s m below meth c A ls C hr hs hl => wH_add C hr hB σ _ _ ls hs hl hf)
def fX_note (x1 : Int32) (x2 : Int32) (x3 : Int32) (x4 : Int32) (x5 : Int32) (σ : zS) : Option (Int32 × zS) :=
  if x1 < 0 then
    (some ((-1), σ))
  else
    (if x2 < x1 then
      (some ((-1), σ))
    else
      (if 9999 < x2 then
        (some ((-1), σ))
      else
        (z_bd (fX_isWhat x3 σ) (fun r4 σ4 =>
        if r4 = 0 then
          (some ((-1), σ4))
        else
          (z_bd (fH_isFull σ4) (fun r6 σ6 =>
          if r6 = 0 then
            (z_bd (fH_add x1 x2 x3 x4 x5 σ6) (fun r8 σ8 =>
            some (r8, σ8)))
          else
            (some ((-1), σ6))))))))
set_option maxHeartbeats 4000000 in
set_option maxRecDepth 20000 in
theorem wX_note {x1 : Int32} {x2 : Int32} {x3 : Int32} {x4 : Int32} {x5 : Int32} (C : z_C E RX8 cX8_note 6 A p s m args meth c) (hr : meth.sig.returnType = (some .int)) (hB : z_B E) (hW0 : z_W E 0) {ro : Int32} {σo : zS} (σ : zS) (H : Heap) (locs : List Loc) (ls : Array Slot) (hs : z_H E A s σ H locs) (hl : lv_has ls 6 [(0, .ref (z_ad E (30, 0, 0))), (1, .int x1), (2, .int x2), (3, .int x3), (4, .int x4), (5, .int x5)]) (hf : fX_note x1 x2 x3 x4 x5 σ = some (ro, σo)) : W p l e (z_rm 3) s m args below meth c H locs 0 0 (MQ below (z_QI E ro σo A) args s 0 0 A) (F0 m 0 ls []) := by
  have hx := C.1
  have hb := C.2.1
  unfold fX_note at hf
  refine lv_iload_n hx hb dX8_note_0 rfl (lv_at hl 1 rfl) ?_
  refine lv_if_lt (tgt := 33) hx hb dX8_note_1 (by decide) (fun c1 => ?_) (fun c1 => ?_)
  · have hf := z_t hf c1
    refine lv_iconst (v := (-1)) hx hb dX8_note_33 (by decide) ?_
    exact z_reti C hr hs hf dX8_note_34
  · have hf := z_f hf c1
    refine lv_iload_n hx hb dX8_note_4 rfl (lv_at hl 2 rfl) ?_
    refine lv_iload_n hx hb dX8_note_5 rfl (lv_at hl 1 rfl) ?_
    refine lv_icmp_lt (tgt := 33) hx hb dX8_note_6 (by decide) (fun c2 => ?_) (fun c2 => ?_)
    · have hf := z_t hf c2
      refine lv_iconst (v := (-1)) hx hb dX8_note_33 (by decide) ?_
      exact z_reti C hr hs hf dX8_note_34
    · have hf := z_f hf c2
      refine lv_iload_n hx hb dX8_note_9 rfl (lv_at hl 2 rfl) ?_
      refine lv_sipush (v := 9999) hx hb dX8_note_10 (by decide) ?_
      refine lv_icmp_gt (tgt := 33) hx hb dX8_note_13 (by decide) (fun c3 => ?_) (fun c3 => ?_)
      · have hf := z_t hf c3
        refine lv_iconst (v := (-1)) hx hb dX8_note_33 (by decide) ?_
        exact z_reti C hr hs hf dX8_note_34
      · have hf := z_f hf c3
        refine lv_iload_n hx hb dX8_note_16 rfl (lv_at hl 3 rfl) ?_
        obtain ⟨r4, σ4, h_4, hf⟩ := z_bds hf
        refine z_goI C hs (z_runS C hs hl.1 (cX_isWhat l E h_4) zcS_RX8_202 rfl rfl rfl (by decide) (Nat.le_of_ble_eq_true rfl) dX8_note_17) (fun H locs hs => ?_)
        refine lv_if_eq (tgt := 33) hx hb dX8_note_20 (by decide) (fun c5 => ?_) (fun c5 => ?_)
        · have hf := z_t hf c5
          refine lv_iconst (v := (-1)) hx hb dX8_note_33 (by decide) ?_
          exact z_reti C hr hs hf dX8_note_34
        · have hf := z_f hf c5
          refine lv_aload_n hx hb dX8_note_23 rfl (lv_at hl 0 rfl) ?_
          refine zg_X_history C hs (hB 30 (by decide) (by decide)) z_k346 dX8_note_24 ?_
          obtain ⟨r6, σ6, h_6, hf⟩ := z_bds hf
          refine z_goI C hs (z_runV C hs hl.1 (cH_isFull l E hB h_6) zcV_RX8_205 (hB 40 (by decide) (by decide)) (z_c40 E _ _ _ _) rfl rfl rfl (by decide) (Nat.le_of_ble_eq_true rfl) dX8_note_27) (fun H locs hs => ?_)
          refine lv_if_eq (tgt := 35) hx hb dX8_note_30 (by decide) (fun c7 => ?_) (fun c7 => ?_)
          · have hf := z_t hf c7
            refine lv_aload_n hx hb dX8_note_35 rfl (lv_at hl 0 rfl) ?_
            refine zg_X_history C hs (hB 30 (by decide) (by decide)) z_k346 dX8_note_36 ?_
            refine lv_iload_n hx hb dX8_note_39 rfl (lv_at hl 1 rfl) ?_
            refine lv_iload_n hx hb dX8_note_40 rfl (lv_at hl 2 rfl) ?_
            refine lv_iload_n hx hb dX8_note_41 rfl (lv_at hl 3 rfl) ?_
            refine lv_iload hx hb dX8_note_42 (lv_at hl 4 rfl) ?_
            refine lv_iload hx hb dX8_note_44 (lv_at hl 5 rfl) ?_
            obtain ⟨r8, σ8, h_8, hf⟩ := z_bds hf
            refine z_goI C hs (z_runV C hs hl.1 (cH_add l E hB h_8) zcV_RX8_208 (hB 40 (by decide) (by decide)) (z_c40 E _ _ _ _) rfl rfl rfl (by decide) (Nat.le_of_ble_eq_true rfl) dX8_note_46) (fun H locs hs => ?_)
            exact z_reti C hr hs hf dX8_note_49
          · have hf := z_f hf c7
            refine lv_iconst (v := (-1)) hx hb dX8_note_33 (by decide) ?_
            exact z_reti C hr hs hf dX8_note_34
set_option maxHeartbeats 4000000 in
set_option maxRecDepth 20000 in
theorem cX_note (l : Launch) (E : zE) {x1 : Int32} {x2 : Int32} {x3 : Int32} {x4 : Int32} {x5 : Int32} (hB : z_B E) (hW0 : z_W E 0) {σ σo : zS} {ro : Int32} (hf : fX_note x1 x2 x3 x4 x5 σ = some (ro, σo)) : z_T l E yX8_note cX8_note 6 (some .int) (z_rm 3) (z_QI E ro σo) [.ref (z_ad E (30, 0, 0)), .int x1, .int x2, .int x3, .int x4, .int x5] σ :=
  z_enter (by decide) (Nat.le_of_ble_eq_true rfl) rfl (fun p e s m below meth c A ls C hr hs hl => wX_note C hr hB hW0 σ _ _ ls hs hl hf)
def fH_clear (σ : zS) : Option (Int32 × zS) :=
  z_let (σ.1 (40, 0, 0) 7) (fun y1 =>
  z_let (z_up σ (40, 0, 0) 7 0) (fun σ2 =>
  z_let (z_up σ2 (40, 0, 0) 8 0) (fun σ3 =>
  some (y1, σ3))))
set_option maxHeartbeats 4000000 in
set_option maxRecDepth 20000 in
theorem wH_clear (C : z_C E RX0 cX0_clear 2 A p s m args meth c) (hr : meth.sig.returnType = (some .int)) (hB : z_B E) {ro : Int32} {σo : zS} (σ : zS) (H : Heap) (locs : List Loc) (ls : Array Slot) (hs : z_H E A s σ H locs) (hl : lv_has ls 2 [(0, .ref (z_ad E (40, 0, 0)))]) (hf : fH_clear σ = some (ro, σo)) : W p l e (z_rm 1) s m args below meth c H locs 0 0 (MQ below (z_QI E ro σo A) args s 0 0 A) (F0 m 0 ls []) := by
  have hx := C.1
  have hb := C.2.1
  unfold fH_clear at hf
  refine lv_aload_n hx hb dX0_clear_0 rfl (lv_at hl 0 rfl) ?_
  refine zg_H_size C hs (hB 40 (by decide) (by decide)) z_k317 dX0_clear_1 ?_
  refine lv_topi (fun y1 e_y1 => ?_)
  have hf := z_lte e_y1 hf
  refine lv_istore_n (lv' := [(1, .int y1), (0, .ref (z_ad E (40, 0, 0)))]) hx hb dX0_clear_4 rfl hl (by decide) rfl (fun ls hl => ?_)
  refine lv_aload_n hx hb dX0_clear_5 rfl (lv_at hl 1 rfl) ?_
  refine lv_iconst (v := 0) hx hb dX0_clear_6 (by decide) ?_
  refine zp_H_size C hs (hB 40 (by decide) (by decide)) z_k317 dX0_clear_7 (fun H locs hs => ?_)
  obtain ⟨σ2, -, hs, hf⟩ := z_top hs hf
  refine lv_aload_n hx hb dX0_clear_10 rfl (lv_at hl 1 rfl) ?_
  refine lv_iconst (v := 0) hx hb dX0_clear_11 (by decide) ?_
  refine zp_H_judged C hs (hB 40 (by decide) (by decide)) z_k319 (by decide +kernel) dX0_clear_12 (fun H locs hs => ?_)
  obtain ⟨σ3, -, hs, hf⟩ := z_top hs hf
  refine lv_iload_n hx hb dX0_clear_15 rfl (lv_at hl 0 rfl) ?_
  exact z_reti C hr hs hf dX0_clear_16
set_option maxHeartbeats 4000000 in
set_option maxRecDepth 20000 in
theorem cH_clear (l : Launch) (E : zE) (hB : z_B E) {σ σo : zS} {ro : Int32} (hf : fH_clear σ = some (ro, σo)) : z_T l E yX0_clear cX0_clear 2 (some .int) (z_rm 1) (z_QI E ro σo) [.ref (z_ad E (40, 0, 0))] σ :=
  z_enter (by decide) (Nat.le_of_ble_eq_true rfl) rfl (fun p e s m below meth c A ls C hr hs hl => wH_clear C hr hB σ _ _ ls hs hl hf)
def fX_hush (σ : zS) : Option (Int32 × zS) :=
  z_bd (fH_clear σ) (fun r1 σ1 =>
  some (r1, σ1))
set_option maxHeartbeats 4000000 in
set_option maxRecDepth 20000 in
theorem wX_hush (C : z_C E RX8 cX8_hush 1 A p s m args meth c) (hr : meth.sig.returnType = (some .int)) (hB : z_B E) (hW0 : z_W E 0) {ro : Int32} {σo : zS} (σ : zS) (H : Heap) (locs : List Loc) (ls : Array Slot) (hs : z_H E A s σ H locs) (hl : lv_has ls 1 [(0, .ref (z_ad E (30, 0, 0)))]) (hf : fX_hush σ = some (ro, σo)) : W p l e (z_rm 2) s m args below meth c H locs 0 0 (MQ below (z_QI E ro σo A) args s 0 0 A) (F0 m 0 ls []) := by
  have hx := C.1
  have hb := C.2.1
  unfold fX_hush at hf
  refine lv_aload_n hx hb dX8_hush_0 rfl (lv_at hl 0 rfl) ?_
  refine zg_X_history C hs (hB 30 (by decide) (by decide)) z_k346 dX8_hush_1 ?_
  obtain ⟨r1, σ1, h_1, hf⟩ := z_bds hf
  refine z_goI C hs (z_runV C hs hl.1 (cH_clear l E hB h_1) zcV_RX8_212 (hB 40 (by decide) (by decide)) (z_c40 E _ _ _ _) rfl rfl rfl (by decide) (Nat.le_of_ble_eq_true rfl) dX8_hush_4) (fun H locs hs => ?_)
  exact z_reti C hr hs hf dX8_hush_7
set_option maxHeartbeats 4000000 in
set_option maxRecDepth 20000 in
theorem cX_hush (l : Launch) (E : zE) (hB : z_B E) (hW0 : z_W E 0) {σ σo : zS} {ro : Int32} (hf : fX_hush σ = some (ro, σo)) : z_T l E yX8_hush cX8_hush 1 (some .int) (z_rm 2) (z_QI E ro σo) [.ref (z_ad E (30, 0, 0))] σ :=
  z_enter (by decide) (Nat.le_of_ble_eq_true rfl) rfl (fun p e s m below meth c A ls C hr hs hl => wX_hush C hr hB hW0 σ _ _ ls hs hl hf)
def fW_countUp_4 (w0 : Nat) : Nat → Int32 → Int32 → zS → Option (Int32 × zS)
  | 0, _, _, _ => none
  | n + 1, x1, x2, σ =>
    if (σ.1 (0, w0, 0) 3) ≤ x2 then
      (some (x1, σ))
    else
      (z_bd (fW_isUp w0 x2 σ) (fun r2 σ2 =>
      if r2 = 0 then
        (z_let (x1 + 0) (fun y4 =>
        z_let (x2 + 1) (fun y5 =>
        fW_countUp_4 w0 n y4 y5 σ2)))
      else
        (z_let (x1 + 1) (fun y6 =>
        z_let (x2 + 1) (fun y7 =>
        fW_countUp_4 w0 n y6 y7 σ2)))))
def fW_countUp (w0 : Nat) (σ : zS) : Option (Int32 × zS) :=
  fW_countUp_4 w0 z_fu 0 0 σ
set_option maxHeartbeats 4000000 in
set_option maxRecDepth 20000 in
theorem wW_countUp_4 {w0 : Nat} (C : z_C E RX7 cX7_countUp 3 A p s m args meth c) (hr : meth.sig.returnType = (some .int)) (hV0 : z_W E w0) {ro : Int32} {σo : zS} (n : Nat) : ∀ (x1 : Int32) (x2 : Int32) (σ : zS) (H : Heap) (locs : List Loc) (ls : Array Slot), z_H E A s σ H locs → lv_has ls 3 [(0, .ref (z_ad E (0, w0, 0))), (1, .int x1), (2, .int x2)] → fW_countUp_4 w0 n x1 x2 σ = some (ro, σo) → W p l e (z_rm 3) s m args below meth c H locs 0 0 (MQ below (z_QI E ro σo A) args s 0 0 A) (F0 m 4 ls []) := by
  induction n with
  | zero =>
    intro x1 x2 σ H locs ls hs hl hf
    have hf : none = some (ro, σo) := hf
    cases hf
  | succ n ih =>
    intro x1 x2 σ H locs ls hs hl hf
    have hx := C.1
    have hb := C.2.1
    rw [fW_countUp_4.eq_2] at hf
    refine lv_iload_n hx hb dX7_countUp_4 rfl (lv_at hl 2 rfl) ?_
    refine lv_aload_n hx hb dX7_countUp_5 rfl (lv_at hl 0 rfl) ?_
    refine zg_W_count C hs (hV0.1 0 (by decide)) z_k287 dX7_countUp_6 ?_
    refine lv_icmp_ge (tgt := 34) hx hb dX7_countUp_9 (by decide) (fun c1 => ?_) (fun c1 => ?_)
    · have hf := z_t hf c1
      refine lv_iload_n hx hb dX7_countUp_34 rfl (lv_at hl 1 rfl) ?_
      exact z_reti C hr hs hf dX7_countUp_35
    · have hf := z_f hf c1
      refine lv_iload_n hx hb dX7_countUp_12 rfl (lv_at hl 1 rfl) ?_
      refine lv_aload_n hx hb dX7_countUp_13 rfl (lv_at hl 0 rfl) ?_
      refine lv_iload_n hx hb dX7_countUp_14 rfl (lv_at hl 2 rfl) ?_
      obtain ⟨r2, σ2, h_2, hf⟩ := z_bds hf
      refine z_goI C hs (z_runV C hs hl.1 (cW_isUp l E hV0 h_2) zcV_RX7_86 (hV0.1 0 (by decide)) (z_c0 E _ _ _ _) rfl rfl rfl (by decide) (Nat.le_of_ble_eq_true rfl) dX7_countUp_15) (fun H locs hs => ?_)
      refine lv_if_eq (tgt := 25) hx hb dX7_countUp_18 (by decide) (fun c3 => ?_) (fun c3 => ?_)
      · have hf := z_t hf c3
        refine lv_iconst (v := 0) hx hb dX7_countUp_25 (by decide) ?_
        refine lv_iadd hx hb dX7_countUp_26 ?_
        refine lv_topi (fun y4 e_y4 => ?_)
        have hf := z_lte e_y4 hf
        refine lv_istore_n (lv' := [(1, .int y4), (0, .ref (z_ad E (0, w0, 0))), (2, .int x2)]) hx hb dX7_countUp_27 rfl hl (by decide) rfl (fun ls hl => ?_)
        obtain ⟨y5, e_y5⟩ : ∃ y : Int32, y = x2 + 1 := ⟨_, rfl⟩
        have hf := z_lte e_y5 hf
        refine lv_iinc (v := y5) (lv' := [(2, .int y5), (1, .int y4), (0, .ref (z_ad E (0, w0, 0)))]) hx hb dX7_countUp_28 hl (k := 2) rfl (by rw [e_y5]; rfl) (by decide) rfl (fun ls hl => ?_)
        refine lv_goto (tgt := 4) hx hb dX7_countUp_31 (by decide) ?_
        exact ih y4 y5 σ2 _ _ _ hs (lv_sub hl [2, 1, 0] rfl) hf
      · have hf := z_f hf c3
        refine lv_iconst (v := 1) hx hb dX7_countUp_21 (by decide) ?_
        refine lv_goto (tgt := 26) hx hb dX7_countUp_22 (by decide) ?_
        refine lv_iadd hx hb dX7_countUp_26 ?_
        refine lv_topi (fun y6 e_y6 => ?_)
        have hf := z_lte e_y6 hf
        refine lv_istore_n (lv' := [(1, .int y6), (0, .ref (z_ad E (0, w0, 0))), (2, .int x2)]) hx hb dX7_countUp_27 rfl hl (by decide) rfl (fun ls hl => ?_)
        obtain ⟨y7, e_y7⟩ : ∃ y : Int32, y = x2 + 1 := ⟨_, rfl⟩
        have hf := z_lte e_y7 hf
        refine lv_iinc (v := y7) (lv' := [(2, .int y7), (1, .int y6), (0, .ref (z_ad E (0, w0, 0)))]) hx hb dX7_countUp_28 hl (k := 2) rfl (by rw [e_y7]; rfl) (by decide) rfl (fun ls hl => ?_)
        refine lv_goto (tgt := 4) hx hb dX7_countUp_31 (by decide) ?_
        exact ih y6 y7 σ2 _ _ _ hs (lv_sub hl [2, 1, 0] rfl) hf
set_option maxHeartbeats 4000000 in
set_option maxRecDepth 20000 in
theorem wW_countUp {w0 : Nat} (C : z_C E RX7 cX7_countUp 3 A p s m args meth c) (hr : meth.sig.returnType = (some .int)) (hV0 : z_W E w0) {ro : Int32} {σo : zS} (σ : zS) (H : Heap) (locs : List Loc) (ls : Array Slot) (hs : z_H E A s σ H locs) (hl : lv_has ls 3 [(0, .ref (z_ad E (0, w0, 0)))]) (hf : fW_countUp w0 σ = some (ro, σo)) : W p l e (z_rm 3) s m args below meth c H locs 0 0 (MQ below (z_QI E ro σo A) args s 0 0 A) (F0 m 0 ls []) := by
  have hx := C.1
  have hb := C.2.1
  unfold fW_countUp at hf
  refine lv_iconst (v := 0) hx hb dX7_countUp_0 (by decide) ?_
  refine lv_istore_n (lv' := [(1, .int 0), (0, .ref (z_ad E (0, w0, 0)))]) hx hb dX7_countUp_1 rfl hl (by decide) rfl (fun ls hl => ?_)
  refine lv_iconst (v := 0) hx hb dX7_countUp_2 (by decide) ?_
  refine lv_istore_n (lv' := [(2, .int 0), (1, .int 0), (0, .ref (z_ad E (0, w0, 0)))]) hx hb dX7_countUp_3 rfl hl (by decide) rfl (fun ls hl => ?_)
  exact wW_countUp_4 C hr hV0 z_fu 0 0 σ _ _ _ hs (lv_sub hl [2, 1, 0] rfl) hf
set_option maxHeartbeats 4000000 in
set_option maxRecDepth 20000 in
theorem cW_countUp (l : Launch) (E : zE) {w0 : Nat} (hV0 : z_W E w0) {σ σo : zS} {ro : Int32} (hf : fW_countUp w0 σ = some (ro, σo)) : z_T l E yX7_countUp cX7_countUp 3 (some .int) (z_rm 3) (z_QI E ro σo) [.ref (z_ad E (0, w0, 0))] σ :=
  z_enter (by decide) (Nat.le_of_ble_eq_true rfl) rfl (fun p e s m below meth c A ls C hr hs hl => wW_countUp C hr hV0 σ _ _ ls hs hl hf)
def fX_about (x1 : Int32) (σ : zS) : Option (Int32 × zS) :=
  if x1 = 0 then
    (some (σ.1 (0, 0, 0) 3, σ))
  else
    (if x1 = 1 then
      (some (σ.1 (0, 0, 0) 4, σ))
    else
      (if x1 = 2 then
        (z_bd (fW_most 0 σ) (fun r4 σ4 =>
        some (r4, σ4)))
      else
        (if x1 = 3 then
          (z_bd (fP_countFull 0 σ) (fun r6 σ6 =>
          some (r6, σ6)))
        else
          (if x1 = 4 then
            (some (σ.1 (4, 0, 0) 4, σ))
          else
            (if x1 = 5 then
              (some (σ.1 (40, 0, 0) 7, σ))
            else
              (if x1 = 6 then
                (some (σ.1 (31, 0, 0) 4, σ))
              else
                (if x1 = 7 then
                  (z_bd (fW_countUp 0 σ) (fun r11 σ11 =>
                  some (r11, σ11)))
                else
                  (some ((-1), σ)))))))))
set_option maxHeartbeats 4000000 in
set_option maxRecDepth 20000 in
theorem wX_about {x1 : Int32} (C : z_C E RX8 cX8_about 2 A p s m args meth c) (hr : meth.sig.returnType = (some .int)) (hB : z_B E) (hW0 : z_W E 0) {ro : Int32} {σo : zS} (σ : zS) (H : Heap) (locs : List Loc) (ls : Array Slot) (hs : z_H E A s σ H locs) (hl : lv_has ls 2 [(0, .ref (z_ad E (30, 0, 0))), (1, .int x1)]) (hf : fX_about x1 σ = some (ro, σo)) : W p l e (z_rm 4) s m args below meth c H locs 0 0 (MQ below (z_QI E ro σo A) args s 0 0 A) (F0 m 0 ls []) := by
  have hx := C.1
  have hb := C.2.1
  unfold fX_about at hf
  refine lv_iload_n hx hb dX8_about_0 rfl (lv_at hl 1 rfl) ?_
  by_cases c1 : x1 = 0
  · have hf := z_t hf c1
    refine lv_tableIn (off := 47) (tgt := 48) hx hb dX8_about_1 (by rw [c1]; decide) (by rw [c1]; decide) (by rw [c1]; decide) (by decide) ?_
    refine lv_aload_n hx hb dX8_about_48 rfl (lv_at hl 0 rfl) ?_
    refine zg_X_world C hs (hB 30 (by decide) (by decide)) z_k343 dX8_about_49 ?_
    refine zg_W_count C hs (hW0.1 0 (by decide)) z_k288 dX8_about_52 ?_
    exact z_reti C hr hs hf dX8_about_55
  · have hf := z_f hf c1
    by_cases c2 : x1 = 1
    · have hf := z_t hf c2
      refine lv_tableIn (off := 55) (tgt := 56) hx hb dX8_about_1 (by rw [c2]; decide) (by rw [c2]; decide) (by rw [c2]; decide) (by decide) ?_
      refine lv_aload_n hx hb dX8_about_56 rfl (lv_at hl 0 rfl) ?_
      refine zg_X_world C hs (hB 30 (by decide) (by decide)) z_k343 dX8_about_57 ?_
      refine zg_W_voters C hs (hW0.1 0 (by decide)) z_k290 dX8_about_60 ?_
      exact z_reti C hr hs hf dX8_about_63
    · have hf := z_f hf c2
      by_cases c3 : x1 = 2
      · have hf := z_t hf c3
        refine lv_tableIn (off := 63) (tgt := 64) hx hb dX8_about_1 (by rw [c3]; decide) (by rw [c3]; decide) (by rw [c3]; decide) (by decide) ?_
        refine lv_aload_n hx hb dX8_about_64 rfl (lv_at hl 0 rfl) ?_
        refine zg_X_world C hs (hB 30 (by decide) (by decide)) z_k343 dX8_about_65 ?_
        obtain ⟨r4, σ4, h_4, hf⟩ := z_bds hf
        refine z_goI C hs (z_runV C hs hl.1 (cW_most l E hW0 h_4) zcV_RX8_236 (hW0.1 0 (by decide)) (z_c0 E _ _ _ _) rfl rfl rfl (by decide) (Nat.le_of_ble_eq_true rfl) dX8_about_68) (fun H locs hs => ?_)
        exact z_reti C hr hs hf dX8_about_71
      · have hf := z_f hf c3
        by_cases c5 : x1 = 3
        · have hf := z_t hf c5
          refine lv_tableIn (off := 71) (tgt := 72) hx hb dX8_about_1 (by rw [c5]; decide) (by rw [c5]; decide) (by rw [c5]; decide) (by decide) ?_
          refine lv_aload_n hx hb dX8_about_72 rfl (lv_at hl 0 rfl) ?_
          refine zg_X_world C hs (hB 30 (by decide) (by decide)) z_k343 dX8_about_73 ?_
          refine zg_W_post C hs (hW0.1 0 (by decide)) z_k284 dX8_about_76 ?_
          obtain ⟨r6, σ6, h_6, hf⟩ := z_bds hf
          refine z_goI C hs (z_runV C hs hl.1 (cP_countFull l E hW0 h_6) zcV_RX8_230 (hW0.1 2 (by decide)) (z_c2 E _ _ _ _) rfl rfl rfl (by decide) (Nat.le_of_ble_eq_true rfl) dX8_about_79) (fun H locs hs => ?_)
          exact z_reti C hr hs hf dX8_about_82
        · have hf := z_f hf c5
          by_cases c7 : x1 = 4
          · have hf := z_t hf c7
            refine lv_tableIn (off := 82) (tgt := 83) hx hb dX8_about_1 (by rw [c7]; decide) (by rw [c7]; decide) (by rw [c7]; decide) (by decide) ?_
            refine lv_aload_n hx hb dX8_about_83 rfl (lv_at hl 0 rfl) ?_
            refine zg_X_world C hs (hB 30 (by decide) (by decide)) z_k343 dX8_about_84 ?_
            refine zg_W_reads C hs (hW0.1 0 (by decide)) z_k286 dX8_about_87 ?_
            refine zg_R_size C hs (hW0.1 4 (by decide)) z_k269 dX8_about_90 ?_
            exact z_reti C hr hs hf dX8_about_93
          · have hf := z_f hf c7
            by_cases c8 : x1 = 5
            · have hf := z_t hf c8
              refine lv_tableIn (off := 93) (tgt := 94) hx hb dX8_about_1 (by rw [c8]; decide) (by rw [c8]; decide) (by rw [c8]; decide) (by decide) ?_
              refine lv_aload_n hx hb dX8_about_94 rfl (lv_at hl 0 rfl) ?_
              refine zg_X_history C hs (hB 30 (by decide) (by decide)) z_k346 dX8_about_95 ?_
              refine zg_H_size C hs (hB 40 (by decide) (by decide)) z_k318 dX8_about_98 ?_
              exact z_reti C hr hs hf dX8_about_101
            · have hf := z_f hf c8
              by_cases c9 : x1 = 6
              · have hf := z_t hf c9
                refine lv_tableIn (off := 101) (tgt := 102) hx hb dX8_about_1 (by rw [c9]; decide) (by rw [c9]; decide) (by rw [c9]; decide) (by decide) ?_
                refine lv_aload_n hx hb dX8_about_102 rfl (lv_at hl 0 rfl) ?_
                refine zg_X_tape C hs (hB 30 (by decide) (by decide)) z_k342 dX8_about_103 ?_
                refine zg_T_length C hs (hB 31 (by decide) (by decide)) z_k38 dX8_about_106 ?_
                exact z_reti C hr hs hf dX8_about_109
              · have hf := z_f hf c9
                by_cases c10 : x1 = 7
                · have hf := z_t hf c10
                  refine lv_tableIn (off := 109) (tgt := 110) hx hb dX8_about_1 (by rw [c10]; decide) (by rw [c10]; decide) (by rw [c10]; decide) (by decide) ?_
                  refine lv_aload_n hx hb dX8_about_110 rfl (lv_at hl 0 rfl) ?_
                  refine zg_X_world C hs (hB 30 (by decide) (by decide)) z_k343 dX8_about_111 ?_
                  obtain ⟨r11, σ11, h_11, hf⟩ := z_bds hf
                  refine z_goI C hs (z_runV C hs hl.1 (cW_countUp l E hW0 h_11) zcV_RX8_240 (hW0.1 0 (by decide)) (z_c0 E _ _ _ _) rfl rfl rfl (by decide) (Nat.le_of_ble_eq_true rfl) dX8_about_114) (fun H locs hs => ?_)
                  exact z_reti C hr hs hf dX8_about_117
                · have hf := z_f hf c10
                  have hq : (x1).toInt < 0 ∨ 7 < (x1).toInt := by
                    have q0 := z_ne (k := 0) (n := 0) (by decide +kernel) c1
                    have q1 := z_ne (k := 1) (n := 1) (by decide +kernel) c2
                    have q2 := z_ne (k := 2) (n := 2) (by decide +kernel) c3
                    have q3 := z_ne (k := 3) (n := 3) (by decide +kernel) c5
                    have q4 := z_ne (k := 4) (n := 4) (by decide +kernel) c7
                    have q5 := z_ne (k := 5) (n := 5) (by decide +kernel) c8
                    have q6 := z_ne (k := 6) (n := 6) (by decide +kernel) c9
                    have q7 := z_ne (k := 7) (n := 7) (by decide +kernel) c10
                    omega
                  refine lv_tableOut (tgt := 118) hx hb dX8_about_1 hq (by decide) ?_
                  refine lv_iconst (v := (-1)) hx hb dX8_about_118 (by decide) ?_
                  exact z_reti C hr hs hf dX8_about_119
set_option maxHeartbeats 4000000 in
set_option maxRecDepth 20000 in
theorem cX_about (l : Launch) (E : zE) {x1 : Int32} (hB : z_B E) (hW0 : z_W E 0) {σ σo : zS} {ro : Int32} (hf : fX_about x1 σ = some (ro, σo)) : z_T l E yX8_about cX8_about 2 (some .int) (z_rm 4) (z_QI E ro σo) [.ref (z_ad E (30, 0, 0)), .int x1] σ :=
  z_enter (by decide) (Nat.le_of_ble_eq_true rfl) rfl (fun p e s m below meth c A ls C hr hs hl => wX_about C hr hB hW0 σ _ _ ls hs hl hf)
def fX_isBox (x0 : Int32) (σ : zS) : Option (Int32 × zS) :=
  if x0 < 0 then
    (some (0, σ))
  else
    (if 3 ≤ x0 then
      (some (0, σ))
    else
      (some (1, σ)))
set_option maxHeartbeats 4000000 in
set_option maxRecDepth 20000 in
theorem wX_isBox {x0 : Int32} (C : z_C E RX8 cX8_isBox 1 A p s m args meth c) (hr : meth.sig.returnType = (some .boolean)) {ro : Int32} {σo : zS} (σ : zS) (H : Heap) (locs : List Loc) (ls : Array Slot) (hs : z_H E A s σ H locs) (hl : lv_has ls 1 [(0, .int x0)]) (hf : fX_isBox x0 σ = some (ro, σo)) : W p l e (z_rm 1) s m args below meth c H locs 0 0 (MQ below (z_QI E ro σo A) args s 0 0 A) (F0 m 0 ls []) := by
  have hx := C.1
  have hb := C.2.1
  unfold fX_isBox at hf
  refine lv_iload_n hx hb dX8_isBox_0 rfl (lv_at hl 0 rfl) ?_
  refine lv_if_lt (tgt := 13) hx hb dX8_isBox_1 (by decide) (fun c1 => ?_) (fun c1 => ?_)
  · have hf := z_t hf c1
    refine lv_iconst (v := 0) hx hb dX8_isBox_13 (by decide) ?_
    exact z_retz C hr hs (by decide +kernel) hf dX8_isBox_14
  · have hf := z_f hf c1
    refine lv_iload_n hx hb dX8_isBox_4 rfl (lv_at hl 0 rfl) ?_
    refine lv_iconst (v := 3) hx hb dX8_isBox_5 (by decide) ?_
    refine lv_icmp_ge (tgt := 13) hx hb dX8_isBox_6 (by decide) (fun c2 => ?_) (fun c2 => ?_)
    · have hf := z_t hf c2
      refine lv_iconst (v := 0) hx hb dX8_isBox_13 (by decide) ?_
      exact z_retz C hr hs (by decide +kernel) hf dX8_isBox_14
    · have hf := z_f hf c2
      refine lv_iconst (v := 1) hx hb dX8_isBox_9 (by decide) ?_
      refine lv_goto (tgt := 14) hx hb dX8_isBox_10 (by decide) ?_
      exact z_retz C hr hs (by decide +kernel) hf dX8_isBox_14
set_option maxHeartbeats 4000000 in
set_option maxRecDepth 20000 in
theorem cX_isBox (l : Launch) (E : zE) {x0 : Int32} {σ σo : zS} {ro : Int32} (hf : fX_isBox x0 σ = some (ro, σo)) : z_T l E yX8_isBox cX8_isBox 1 (some .boolean) (z_rm 1) (z_QI E ro σo) [.int x0] σ :=
  z_enter (by decide) (Nat.le_of_ble_eq_true rfl) rfl (fun p e s m below meth c A ls C hr hs hl => wX_isBox C hr σ _ _ ls hs hl hf)
def fH_canBeNext_12 : Nat → Int32 → Int32 → Int32 → zS → Option (Int32 × zS)
  | 0, _, _, _, _ => none
  | n + 1, x1, x2, x3, σ =>
    if (σ.1 (40, 0, 0) 7) ≤ x3 then
      (some (1, σ))
    else
      (if ((x2 >>> (x3 &&& 31)) &&& 1) = 0 then
        (if z_in x3 9 = true then (
        if z_in x1 9 = true then (
        if (σ.1 (41, 0, 0) x1.toNatClampNeg) ≤ (σ.1 (42, 0, 0) x3.toNatClampNeg) then
          (z_let (x3 + 1) (fun y8 =>
          fH_canBeNext_12 n x1 x2 y8 σ))
        else
          (some (0, σ))) else none) else none)
      else
        (z_let (x3 + 1) (fun y4 =>
        fH_canBeNext_12 n x1 x2 y4 σ)))
def fH_canBeNext (x1 : Int32) (x2 : Int32) (σ : zS) : Option (Int32 × zS) :=
  if ((x2 >>> (x1 &&& 31)) &&& 1) = 0 then
    (fH_canBeNext_12 z_fu x1 x2 0 σ)
  else
    (some (0, σ))
set_option maxHeartbeats 4000000 in
set_option maxRecDepth 20000 in
theorem wH_canBeNext_12 (C : z_C E RX0 cX0_canBeNext 4 A p s m args meth c) (hr : meth.sig.returnType = (some .boolean)) (hB : z_B E) {ro : Int32} {σo : zS} (n : Nat) : ∀ (x1 : Int32) (x2 : Int32) (x3 : Int32) (σ : zS) (H : Heap) (locs : List Loc) (ls : Array Slot), z_H E A s σ H locs → lv_has ls 4 [(0, .ref (z_ad E (40, 0, 0))), (1, .int x1), (2, .int x2), (3, .int x3)] → fH_canBeNext_12 n x1 x2 x3 σ = some (ro, σo) → W p l e (z_rm 1) s m args below meth c H locs 0 0 (MQ below (z_QI E ro σo A) args s 0 0 A) (F0 m 12 ls []) := by
  induction n with
  | zero =>
    intro x1 x2 x3 σ H locs ls hs hl hf
    have hf : none = some (ro, σo) := hf
    cases hf
  | succ n ih =>
    intro x1 x2 x3 σ H locs ls hs hl hf
    have hx := C.1
    have hb := C.2.1
    rw [fH_canBeNext_12.eq_2] at hf
    refine lv_iload_n hx hb dX0_canBeNext_12 rfl (lv_at hl 3 rfl) ?_
    refine lv_aload_n hx hb dX0_canBeNext_13 rfl (lv_at hl 0 rfl) ?_
    refine zg_H_size C hs (hB 40 (by decide) (by decide)) z_k317 dX0_canBeNext_14 ?_
    refine lv_icmp_ge (tgt := 51) hx hb dX0_canBeNext_17 (by decide) (fun c2 => ?_) (fun c2 => ?_)
    · have hf := z_t hf c2
      refine lv_iconst (v := 1) hx hb dX0_canBeNext_51 (by decide) ?_
      exact z_retz C hr hs (by decide +kernel) hf dX0_canBeNext_52
    · have hf := z_f hf c2
      refine lv_iload_n hx hb dX0_canBeNext_20 rfl (lv_at hl 2 rfl) ?_
      refine lv_iload_n hx hb dX0_canBeNext_21 rfl (lv_at hl 3 rfl) ?_
      refine lv_ishr hx hb dX0_canBeNext_22 ?_
      refine lv_iconst (v := 1) hx hb dX0_canBeNext_23 (by decide) ?_
      refine lv_iand hx hb dX0_canBeNext_24 ?_
      refine lv_if_ne (tgt := 45) hx hb dX0_canBeNext_25 (by decide) (fun c3 => ?_) (fun c3 => ?_)
      · have hf := z_f hf c3
        obtain ⟨y4, e_y4⟩ : ∃ y : Int32, y = x3 + 1 := ⟨_, rfl⟩
        have hf := z_lte e_y4 hf
        refine lv_iinc (v := y4) (lv' := [(3, .int y4), (0, .ref (z_ad E (40, 0, 0))), (1, .int x1), (2, .int x2)]) hx hb dX0_canBeNext_45 hl (k := 3) rfl (by rw [e_y4]; rfl) (by decide) rfl (fun ls hl => ?_)
        refine lv_goto (tgt := 12) hx hb dX0_canBeNext_48 (by decide) ?_
        exact ih x1 x2 y4 σ _ _ _ hs (lv_sub hl [1, 2, 3, 0] rfl) hf
      · have hf := z_t hf c3
        refine lv_aload_n hx hb dX0_canBeNext_28 rfl (lv_at hl 0 rfl) ?_
        refine zg_H_ended C hs (hB 40 (by decide) (by decide)) z_k310 dX0_canBeNext_29 ?_
        refine lv_iload_n hx hb dX0_canBeNext_32 rfl (lv_at hl 3 rfl) ?_
        obtain ⟨g5, hf⟩ := z_gd hf
        refine z_ald C hs (hB 42 (by decide) (by decide)) (z_c42 E _ _ _ _) g5 rfl dX0_canBeNext_33 ?_
        refine lv_aload_n hx hb dX0_canBeNext_34 rfl (lv_at hl 0 rfl) ?_
        refine zg_H_begun C hs (hB 40 (by decide) (by decide)) z_k309 dX0_canBeNext_35 ?_
        refine lv_iload_n hx hb dX0_canBeNext_38 rfl (lv_at hl 1 rfl) ?_
        obtain ⟨g6, hf⟩ := z_gd hf
        refine z_ald C hs (hB 41 (by decide) (by decide)) (z_c41 E _ _ _ _) g6 rfl dX0_canBeNext_39 ?_
        refine lv_icmp_ge (tgt := 45) hx hb dX0_canBeNext_40 (by decide) (fun c7 => ?_) (fun c7 => ?_)
        · have hf := z_t hf c7
          obtain ⟨y8, e_y8⟩ : ∃ y : Int32, y = x3 + 1 := ⟨_, rfl⟩
          have hf := z_lte e_y8 hf
          refine lv_iinc (v := y8) (lv' := [(3, .int y8), (0, .ref (z_ad E (40, 0, 0))), (1, .int x1), (2, .int x2)]) hx hb dX0_canBeNext_45 hl (k := 3) rfl (by rw [e_y8]; rfl) (by decide) rfl (fun ls hl => ?_)
          refine lv_goto (tgt := 12) hx hb dX0_canBeNext_48 (by decide) ?_
          exact ih x1 x2 y8 σ _ _ _ hs (lv_sub hl [1, 2, 3, 0] rfl) hf
        · have hf := z_f hf c7
          refine lv_iconst (v := 0) hx hb dX0_canBeNext_43 (by decide) ?_
          exact z_retz C hr hs (by decide +kernel) hf dX0_canBeNext_44
set_option maxHeartbeats 4000000 in
set_option maxRecDepth 20000 in
theorem wH_canBeNext {x1 : Int32} {x2 : Int32} (C : z_C E RX0 cX0_canBeNext 4 A p s m args meth c) (hr : meth.sig.returnType = (some .boolean)) (hB : z_B E) {ro : Int32} {σo : zS} (σ : zS) (H : Heap) (locs : List Loc) (ls : Array Slot) (hs : z_H E A s σ H locs) (hl : lv_has ls 4 [(0, .ref (z_ad E (40, 0, 0))), (1, .int x1), (2, .int x2)]) (hf : fH_canBeNext x1 x2 σ = some (ro, σo)) : W p l e (z_rm 1) s m args below meth c H locs 0 0 (MQ below (z_QI E ro σo A) args s 0 0 A) (F0 m 0 ls []) := by
  have hx := C.1
  have hb := C.2.1
  unfold fH_canBeNext at hf
  refine lv_iload_n hx hb dX0_canBeNext_0 rfl (lv_at hl 2 rfl) ?_
  refine lv_iload_n hx hb dX0_canBeNext_1 rfl (lv_at hl 1 rfl) ?_
  refine lv_ishr hx hb dX0_canBeNext_2 ?_
  refine lv_iconst (v := 1) hx hb dX0_canBeNext_3 (by decide) ?_
  refine lv_iand hx hb dX0_canBeNext_4 ?_
  refine lv_if_eq (tgt := 10) hx hb dX0_canBeNext_5 (by decide) (fun c1 => ?_) (fun c1 => ?_)
  · have hf := z_t hf c1
    refine lv_iconst (v := 0) hx hb dX0_canBeNext_10 (by decide) ?_
    refine lv_istore_n (lv' := [(3, .int 0), (0, .ref (z_ad E (40, 0, 0))), (1, .int x1), (2, .int x2)]) hx hb dX0_canBeNext_11 rfl hl (by decide) rfl (fun ls hl => ?_)
    exact wH_canBeNext_12 C hr hB z_fu x1 x2 0 σ _ _ _ hs (lv_sub hl [1, 2, 3, 0] rfl) hf
  · have hf := z_f hf c1
    refine lv_iconst (v := 0) hx hb dX0_canBeNext_8 (by decide) ?_
    exact z_retz C hr hs (by decide +kernel) hf dX0_canBeNext_9
set_option maxHeartbeats 4000000 in
set_option maxRecDepth 20000 in
theorem cH_canBeNext (l : Launch) (E : zE) {x1 : Int32} {x2 : Int32} (hB : z_B E) {σ σo : zS} {ro : Int32} (hf : fH_canBeNext x1 x2 σ = some (ro, σo)) : z_T l E yX0_canBeNext cX0_canBeNext 4 (some .boolean) (z_rm 1) (z_QI E ro σo) [.ref (z_ad E (40, 0, 0)), .int x1, .int x2] σ :=
  z_enter (by decide) (Nat.le_of_ble_eq_true rfl) rfl (fun p e s m below meth c A ls C hr hs hl => wH_canBeNext C hr hB σ _ _ ls hs hl hf)
def fS_clear_2 (a0 : zJ) : Nat → Int32 → zS → Option (Unit × zS)
  | 0, _, _ => none
  | n + 1, x1, σ =>
    if 20 ≤ x1 then
      (some ((), σ))
    else
      (if z_in x1 20 = true then (
      z_let (z_up σ (z_nx a0) (x1.toNatClampNeg) 0) (fun σ3 =>
      z_let (x1 + 1) (fun y4 =>
      fS_clear_2 a0 n y4 σ3))) else none)
def fS_clear (a0 : zJ) (σ : zS) : Option (Unit × zS) :=
  fS_clear_2 a0 z_fu 0 σ
set_option maxHeartbeats 4000000 in
set_option maxRecDepth 20000 in
theorem wS_clear_2 {a0 : zJ} (C : z_C E RX5 cX5_clear 2 A p s m args meth c) (hr : meth.sig.returnType = none) (hS0 : z_St E a0) {ro : Unit} {σo : zS} (n : Nat) : ∀ (x1 : Int32) (σ : zS) (H : Heap) (locs : List Loc) (ls : Array Slot), z_H E A s σ H locs → lv_has ls 2 [(0, .ref (z_ad E a0)), (1, .int x1)] → fS_clear_2 a0 n x1 σ = some (ro, σo) → W p l e (z_rm 1) s m args below meth c H locs 0 0 (MQ below (z_QV E ro σo A) args s 0 0 A) (F0 m 2 ls []) := by
  induction n with
  | zero =>
    intro x1 σ H locs ls hs hl hf
    have hf : none = some (ro, σo) := hf
    cases hf
  | succ n ih =>
    intro x1 σ H locs ls hs hl hf
    have hx := C.1
    have hb := C.2.1
    rw [fS_clear_2.eq_2] at hf
    refine lv_iload_n hx hb dX5_clear_2 rfl (lv_at hl 1 rfl) ?_
    refine lv_bipush (v := 20) hx hb dX5_clear_3 (by decide) ?_
    refine lv_icmp_ge (tgt := 21) hx hb dX5_clear_5 (by decide) (fun c1 => ?_) (fun c1 => ?_)
    · have hf := z_t hf c1
      exact z_retv C hr hs hf dX5_clear_21
    · have hf := z_f hf c1
      refine lv_aload_n hx hb dX5_clear_8 rfl (lv_at hl 0 rfl) ?_
      refine zg_S_parts C hs hS0.1 hS0.2.1 z_k90 dX5_clear_9 ?_
      refine lv_iload_n hx hb dX5_clear_12 rfl (lv_at hl 1 rfl) ?_
      refine lv_iconst (v := 0) hx hb dX5_clear_13 (by decide) ?_
      obtain ⟨g2, hf⟩ := z_gd hf
      refine z_ast C hs hS0.2.2 (fun r h => z_cSn E r h hS0.1) g2 rfl dX5_clear_14 (fun H locs hs => ?_)
      obtain ⟨σ3, -, hs, hf⟩ := z_top hs hf
      obtain ⟨y4, e_y4⟩ : ∃ y : Int32, y = x1 + 1 := ⟨_, rfl⟩
      have hf := z_lte e_y4 hf
      refine lv_iinc (v := y4) (lv' := [(1, .int y4), (0, .ref (z_ad E a0))]) hx hb dX5_clear_15 hl (k := 1) rfl (by rw [e_y4]; rfl) (by decide) rfl (fun ls hl => ?_)
      refine lv_goto (tgt := 2) hx hb dX5_clear_18 (by decide) ?_
      exact ih y4 σ3 _ _ _ hs (lv_sub hl [1, 0] rfl) hf
set_option maxHeartbeats 4000000 in
set_option maxRecDepth 20000 in
theorem wS_clear {a0 : zJ} (C : z_C E RX5 cX5_clear 2 A p s m args meth c) (hr : meth.sig.returnType = none) (hS0 : z_St E a0) {ro : Unit} {σo : zS} (σ : zS) (H : Heap) (locs : List Loc) (ls : Array Slot) (hs : z_H E A s σ H locs) (hl : lv_has ls 2 [(0, .ref (z_ad E a0))]) (hf : fS_clear a0 σ = some (ro, σo)) : W p l e (z_rm 1) s m args below meth c H locs 0 0 (MQ below (z_QV E ro σo A) args s 0 0 A) (F0 m 0 ls []) := by
  have hx := C.1
  have hb := C.2.1
  unfold fS_clear at hf
  refine lv_iconst (v := 0) hx hb dX5_clear_0 (by decide) ?_
  refine lv_istore_n (lv' := [(1, .int 0), (0, .ref (z_ad E a0))]) hx hb dX5_clear_1 rfl hl (by decide) rfl (fun ls hl => ?_)
  exact wS_clear_2 C hr hS0 z_fu 0 σ _ _ _ hs (lv_sub hl [1, 0] rfl) hf
set_option maxHeartbeats 4000000 in
set_option maxRecDepth 20000 in
theorem cS_clear (l : Launch) (E : zE) {a0 : zJ} (hS0 : z_St E a0) {σ σo : zS} {ro : Unit} (hf : fS_clear a0 σ = some (ro, σo)) : z_T l E yX5_clear cX5_clear 2 none (z_rm 1) (z_QV E ro σo) [.ref (z_ad E a0)] σ :=
  z_enter (by decide) (Nat.le_of_ble_eq_true rfl) rfl (fun p e s m below meth c A ls C hr hs hl => wS_clear C hr hS0 σ _ _ ls hs hl hf)
def fK_begin (w0 : Nat) (i0 : Nat) (x1 : Int32) (σ : zS) : Option (Unit × zS) :=
  if z_b01 x1 = true then (
  z_let (z_up σ (10, w0, i0) 0 x1) (fun σ2 =>
  z_let (z_up σ2 (10, w0, i0) 1 0) (fun σ3 =>
  z_let (z_up σ3 (10, w0, i0) 2 0) (fun σ4 =>
  z_let (z_up σ4 (10, w0, i0) 3 ((-1))) (fun σ5 =>
  z_let (z_up σ5 (10, w0, i0) 5 0) (fun σ6 =>
  z_let (z_up σ6 (10, w0, i0) 6 0) (fun σ7 =>
  z_let (z_up σ7 (10, w0, i0) 7 0) (fun σ8 =>
  z_let (z_up σ8 (10, w0, i0) 8 0) (fun σ9 =>
  z_bd (fS_clear (12, w0, i0) σ9) (fun _ σ10 =>
  z_bd (fS_clear (14, w0, i0) σ10) (fun _ σ11 =>
  z_bd (fK_follow w0 i0 σ11) (fun _ σ12 =>
  some ((), σ12))))))))))))) else none
set_option maxHeartbeats 4000000 in
set_option maxRecDepth 20000 in
theorem wK_begin {w0 : Nat} {i0 : Nat} {x1 : Int32} (C : z_C E RX1 cX1_begin 2 A p s m args meth c) (hr : meth.sig.returnType = none) (hV0 : z_W E w0) (hi0 : i0 < 7) {ro : Unit} {σo : zS} (σ : zS) (H : Heap) (locs : List Loc) (ls : Array Slot) (hs : z_H E A s σ H locs) (hl : lv_has ls 2 [(0, .ref (z_ad E (10, w0, i0))), (1, .int x1)]) (hf : fK_begin w0 i0 x1 σ = some (ro, σo)) : W p l e (z_rm 2) s m args below meth c H locs 0 0 (MQ below (z_QV E ro σo A) args s 0 0 A) (F0 m 0 ls []) := by
  have hx := C.1
  have hb := C.2.1
  unfold fK_begin at hf
  refine lv_aload_n hx hb dX1_begin_0 rfl (lv_at hl 0 rfl) ?_
  refine lv_iload_n hx hb dX1_begin_1 rfl (lv_at hl 1 rfl) ?_
  obtain ⟨g1, hf⟩ := z_gd hf
  refine zp_K_voter C hs (hV0.2.1 i0 hi0 10 (by decide) (by decide)) z_k94 g1 dX1_begin_2 (fun H locs hs => ?_)
  obtain ⟨σ2, -, hs, hf⟩ := z_top hs hf
  refine lv_aload_n hx hb dX1_begin_5 rfl (lv_at hl 0 rfl) ?_
  refine lv_iconst (v := 0) hx hb dX1_begin_6 (by decide) ?_
  refine zp_K_fallen C hs (hV0.2.1 i0 hi0 10 (by decide) (by decide)) z_k96 (by decide +kernel) dX1_begin_7 (fun H locs hs => ?_)
  obtain ⟨σ3, -, hs, hf⟩ := z_top hs hf
  refine lv_aload_n hx hb dX1_begin_10 rfl (lv_at hl 0 rfl) ?_
  refine lv_iconst (v := 0) hx hb dX1_begin_11 (by decide) ?_
  refine zp_K_term C hs (hV0.2.1 i0 hi0 10 (by decide) (by decide)) z_k99 dX1_begin_12 (fun H locs hs => ?_)
  obtain ⟨σ4, -, hs, hf⟩ := z_top hs hf
  refine lv_aload_n hx hb dX1_begin_15 rfl (lv_at hl 0 rfl) ?_
  refine lv_iconst (v := (-1)) hx hb dX1_begin_16 (by decide) ?_
  refine zp_K_vote C hs (hV0.2.1 i0 hi0 10 (by decide) (by decide)) z_k101 dX1_begin_17 (fun H locs hs => ?_)
  obtain ⟨σ5, -, hs, hf⟩ := z_top hs hf
  refine lv_aload_n hx hb dX1_begin_20 rfl (lv_at hl 0 rfl) ?_
  refine lv_iconst (v := 0) hx hb dX1_begin_21 (by decide) ?_
  refine zp_K_folded C hs (hV0.2.1 i0 hi0 10 (by decide) (by decide)) z_k105 dX1_begin_22 (fun H locs hs => ?_)
  obtain ⟨σ6, -, hs, hf⟩ := z_top hs hf
  refine lv_aload_n hx hb dX1_begin_25 rfl (lv_at hl 0 rfl) ?_
  refine lv_iconst (v := 0) hx hb dX1_begin_26 (by decide) ?_
  refine zp_K_foldTerm C hs (hV0.2.1 i0 hi0 10 (by decide) (by decide)) z_k109 dX1_begin_27 (fun H locs hs => ?_)
  obtain ⟨σ7, -, hs, hf⟩ := z_top hs hf
  refine lv_aload_n hx hb dX1_begin_30 rfl (lv_at hl 0 rfl) ?_
  refine lv_iconst (v := 0) hx hb dX1_begin_31 (by decide) ?_
  refine zp_K_last C hs (hV0.2.1 i0 hi0 10 (by decide) (by decide)) z_k111 dX1_begin_32 (fun H locs hs => ?_)
  obtain ⟨σ8, -, hs, hf⟩ := z_top hs hf
  refine lv_aload_n hx hb dX1_begin_35 rfl (lv_at hl 0 rfl) ?_
  refine lv_iconst (v := 0) hx hb dX1_begin_36 (by decide) ?_
  refine zp_K_done C hs (hV0.2.1 i0 hi0 10 (by decide) (by decide)) z_k114 dX1_begin_37 (fun H locs hs => ?_)
  obtain ⟨σ9, -, hs, hf⟩ := z_top hs hf
  refine lv_aload_n hx hb dX1_begin_40 rfl (lv_at hl 0 rfl) ?_
  refine zg_K_foldState C hs (hV0.2.1 i0 hi0 10 (by decide) (by decide)) z_k125 dX1_begin_41 ?_
  obtain ⟨r10, σ10, h_10, hf⟩ := z_bds hf
  refine z_goV C hs (z_runV C hs hl.1 (cS_clear l E ⟨(show z_isS (12, w0, i0) from (Or.inl rfl)), (hV0.2.1 i0 hi0 12 (by decide) (by decide)), (hV0.2.1 i0 hi0 13 (by decide) (by decide))⟩ h_10) zcV_RX1_63 (hV0.2.1 i0 hi0 12 (by decide) (by decide)) (z_cS E _ _ (show z_isS (12, w0, i0) from (Or.inl rfl))) rfl rfl rfl (by decide) (Nat.le_of_ble_eq_true rfl) dX1_begin_44) (fun H locs hs => ?_)
  refine lv_aload_n hx hb dX1_begin_47 rfl (lv_at hl 0 rfl) ?_
  refine zg_K_doneState C hs (hV0.2.1 i0 hi0 10 (by decide) (by decide)) z_k127 dX1_begin_48 ?_
  obtain ⟨r11, σ11, h_11, hf⟩ := z_bds hf
  refine z_goV C hs (z_runV C hs hl.1 (cS_clear l E ⟨(show z_isS (14, w0, i0) from (Or.inr (Or.inl rfl))), (hV0.2.1 i0 hi0 14 (by decide) (by decide)), (hV0.2.1 i0 hi0 15 (by decide) (by decide))⟩ h_11) zcV_RX1_63 (hV0.2.1 i0 hi0 14 (by decide) (by decide)) (z_cS E _ _ (show z_isS (14, w0, i0) from (Or.inr (Or.inl rfl)))) rfl rfl rfl (by decide) (Nat.le_of_ble_eq_true rfl) dX1_begin_51) (fun H locs hs => ?_)
  refine lv_aload_n hx hb dX1_begin_54 rfl (lv_at hl 0 rfl) ?_
  obtain ⟨r12, σ12, h_12, hf⟩ := z_bds hf
  refine z_goV C hs (z_runV C hs hl.1 (cK_follow l E hV0 hi0 h_12) zcV_RX1_66 (hV0.2.1 i0 hi0 10 (by decide) (by decide)) (z_c10 E _ _ _ _) rfl rfl rfl (by decide) (Nat.le_of_ble_eq_true rfl) dX1_begin_55) (fun H locs hs => ?_)
  exact z_retv C hr hs hf dX1_begin_58
set_option maxHeartbeats 4000000 in
set_option maxRecDepth 20000 in
theorem cK_begin (l : Launch) (E : zE) {w0 : Nat} {i0 : Nat} {x1 : Int32} (hV0 : z_W E w0) (hi0 : i0 < 7) {σ σo : zS} {ro : Unit} (hf : fK_begin w0 i0 x1 σ = some (ro, σo)) : z_T l E yX1_begin cX1_begin 2 none (z_rm 2) (z_QV E ro σo) [.ref (z_ad E (10, w0, i0)), .int x1] σ :=
  z_enter (by decide) (Nat.le_of_ble_eq_true rfl) rfl (fun p e s m below meth c A ls C hr hs hl => wK_begin C hr hV0 hi0 σ _ _ ls hs hl hf)
def fK_copyFrom (w0 : Nat) (i0 : Nat) (w1 : Nat) (i1 : Nat) (σ : zS) : Option (Unit × zS) :=
  if z_b01 (σ.1 (10, w1, i1) 0) = true then (
  z_let (z_up σ (10, w0, i0) 0 (σ.1 (10, w1, i1) 0)) (fun σ2 =>
  if z_b01 (σ2.1 (10, w1, i1) 1) = true then (
  z_let (z_up σ2 (10, w0, i0) 1 (σ2.1 (10, w1, i1) 1)) (fun σ4 =>
  z_let (z_up σ4 (10, w0, i0) 2 (σ4.1 (10, w1, i1) 2)) (fun σ5 =>
  z_let (z_up σ5 (10, w0, i0) 3 (σ5.1 (10, w1, i1) 3)) (fun σ6 =>
  z_let (z_up σ6 (10, w0, i0) 4 (σ6.1 (10, w1, i1) 4)) (fun σ7 =>
  z_let (z_up σ7 (10, w0, i0) 5 (σ7.1 (10, w1, i1) 5)) (fun σ8 =>
  z_let (z_up σ8 (10, w0, i0) 6 (σ8.1 (10, w1, i1) 6)) (fun σ9 =>
  z_let (z_up σ9 (10, w0, i0) 7 (σ9.1 (10, w1, i1) 7)) (fun σ10 =>
  z_let (z_up σ10 (10, w0, i0) 8 (σ10.1 (10, w1, i1) 8)) (fun σ11 =>
  z_let (z_up σ11 (10, w0, i0) 9 (σ11.1 (10, w1, i1) 9)) (fun σ12 =>
  z_let (z_up σ12 (10, w0, i0) 10 (σ12.1 (10, w1, i1) 10)) (fun σ13 =>
  if z_cp 0 0 240 240 240 = true then (
  z_let (z_cpR σ13 (11, w1, i1) (11, w0, i0) 0 0 240) (fun σ15 =>
  z_bd (fS_copyFrom (12, w0, i0) (12, w1, i1) σ15) (fun _ σ16 =>
  z_bd (fS_copyFrom (14, w0, i0) (14, w1, i1) σ16) (fun _ σ17 =>
  if z_cp 0 0 7 7 7 = true then (
  z_let (z_cpR σ17 (16, w1, i1) (16, w0, i0) 0 0 7) (fun σ19 =>
  if z_cp 0 0 7 7 7 = true then (
  z_let (z_cpR σ19 (17, w1, i1) (17, w0, i0) 0 0 7) (fun σ21 =>
  if z_cp 0 0 7 7 7 = true then (
  z_let (z_cpR σ21 (18, w1, i1) (18, w0, i0) 0 0 7) (fun σ23 =>
  if z_cp 0 0 7 7 7 = true then (
  z_let (z_cpR σ23 (19, w1, i1) (19, w0, i0) 0 0 7) (fun σ25 =>
  some ((), σ25))) else none)) else none)) else none)) else none)))) else none))))))))))) else none)) else none
set_option maxHeartbeats 4000000 in
set_option maxRecDepth 20000 in
theorem wK_copyFrom {w0 : Nat} {i0 : Nat} {w1 : Nat} {i1 : Nat} (C : z_C E RX1 cX1_copyFrom 2 A p s m args meth c) (hr : meth.sig.returnType = none) (hV0 : z_W E w0) (hi0 : i0 < 7) (hV1 : z_W E w1) (hi1 : i1 < 7) {ro : Unit} {σo : zS} (σ : zS) (H : Heap) (locs : List Loc) (ls : Array Slot) (hs : z_H E A s σ H locs) (hl : lv_has ls 2 [(0, .ref (z_ad E (10, w0, i0))), (1, .ref (z_ad E (10, w1, i1)))]) (hf : fK_copyFrom w0 i0 w1 i1 σ = some (ro, σo)) : W p l e (z_rm 3) s m args below meth c H locs 0 0 (MQ below (z_QV E ro σo A) args s 0 0 A) (F0 m 0 ls []) := by
  have hx := C.1
  have hb := C.2.1
  unfold fK_copyFrom at hf
  refine lv_aload_n hx hb dX1_copyFrom_0 rfl (lv_at hl 0 rfl) ?_
  refine lv_aload_n hx hb dX1_copyFrom_1 rfl (lv_at hl 1 rfl) ?_
  refine zg_K_voter C hs (hV1.2.1 i1 hi1 10 (by decide) (by decide)) z_k94 dX1_copyFrom_2 ?_
  obtain ⟨g1, hf⟩ := z_gd hf
  refine zp_K_voter C hs (hV0.2.1 i0 hi0 10 (by decide) (by decide)) z_k94 g1 dX1_copyFrom_5 (fun H locs hs => ?_)
  obtain ⟨σ2, -, hs, hf⟩ := z_top hs hf
  refine lv_aload_n hx hb dX1_copyFrom_8 rfl (lv_at hl 0 rfl) ?_
  refine lv_aload_n hx hb dX1_copyFrom_9 rfl (lv_at hl 1 rfl) ?_
  refine zg_K_fallen C hs (hV1.2.1 i1 hi1 10 (by decide) (by decide)) z_k96 dX1_copyFrom_10 ?_
  obtain ⟨g3, hf⟩ := z_gd hf
  refine zp_K_fallen C hs (hV0.2.1 i0 hi0 10 (by decide) (by decide)) z_k96 g3 dX1_copyFrom_13 (fun H locs hs => ?_)
  obtain ⟨σ4, -, hs, hf⟩ := z_top hs hf
  refine lv_aload_n hx hb dX1_copyFrom_16 rfl (lv_at hl 0 rfl) ?_
  refine lv_aload_n hx hb dX1_copyFrom_17 rfl (lv_at hl 1 rfl) ?_
  refine zg_K_term C hs (hV1.2.1 i1 hi1 10 (by decide) (by decide)) z_k99 dX1_copyFrom_18 ?_
  refine zp_K_term C hs (hV0.2.1 i0 hi0 10 (by decide) (by decide)) z_k99 dX1_copyFrom_21 (fun H locs hs => ?_)
  obtain ⟨σ5, -, hs, hf⟩ := z_top hs hf
  refine lv_aload_n hx hb dX1_copyFrom_24 rfl (lv_at hl 0 rfl) ?_
  refine lv_aload_n hx hb dX1_copyFrom_25 rfl (lv_at hl 1 rfl) ?_
  refine zg_K_vote C hs (hV1.2.1 i1 hi1 10 (by decide) (by decide)) z_k101 dX1_copyFrom_26 ?_
  refine zp_K_vote C hs (hV0.2.1 i0 hi0 10 (by decide) (by decide)) z_k101 dX1_copyFrom_29 (fun H locs hs => ?_)
  obtain ⟨σ6, -, hs, hf⟩ := z_top hs hf
  refine lv_aload_n hx hb dX1_copyFrom_32 rfl (lv_at hl 0 rfl) ?_
  refine lv_aload_n hx hb dX1_copyFrom_33 rfl (lv_at hl 1 rfl) ?_
  refine zg_K_role C hs (hV1.2.1 i1 hi1 10 (by decide) (by decide)) z_k103 dX1_copyFrom_34 ?_
  refine zp_K_role C hs (hV0.2.1 i0 hi0 10 (by decide) (by decide)) z_k103 dX1_copyFrom_37 (fun H locs hs => ?_)
  obtain ⟨σ7, -, hs, hf⟩ := z_top hs hf
  refine lv_aload_n hx hb dX1_copyFrom_40 rfl (lv_at hl 0 rfl) ?_
  refine lv_aload_n hx hb dX1_copyFrom_41 rfl (lv_at hl 1 rfl) ?_
  refine zg_K_folded C hs (hV1.2.1 i1 hi1 10 (by decide) (by decide)) z_k105 dX1_copyFrom_42 ?_
  refine zp_K_folded C hs (hV0.2.1 i0 hi0 10 (by decide) (by decide)) z_k105 dX1_copyFrom_45 (fun H locs hs => ?_)
  obtain ⟨σ8, -, hs, hf⟩ := z_top hs hf
  refine lv_aload_n hx hb dX1_copyFrom_48 rfl (lv_at hl 0 rfl) ?_
  refine lv_aload_n hx hb dX1_copyFrom_49 rfl (lv_at hl 1 rfl) ?_
  refine zg_K_foldTerm C hs (hV1.2.1 i1 hi1 10 (by decide) (by decide)) z_k109 dX1_copyFrom_50 ?_
  refine zp_K_foldTerm C hs (hV0.2.1 i0 hi0 10 (by decide) (by decide)) z_k109 dX1_copyFrom_53 (fun H locs hs => ?_)
  obtain ⟨σ9, -, hs, hf⟩ := z_top hs hf
  refine lv_aload_n hx hb dX1_copyFrom_56 rfl (lv_at hl 0 rfl) ?_
  refine lv_aload_n hx hb dX1_copyFrom_57 rfl (lv_at hl 1 rfl) ?_
  refine zg_K_last C hs (hV1.2.1 i1 hi1 10 (by decide) (by decide)) z_k111 dX1_copyFrom_58 ?_
  refine zp_K_last C hs (hV0.2.1 i0 hi0 10 (by decide) (by decide)) z_k111 dX1_copyFrom_61 (fun H locs hs => ?_)
  obtain ⟨σ10, -, hs, hf⟩ := z_top hs hf
  refine lv_aload_n hx hb dX1_copyFrom_64 rfl (lv_at hl 0 rfl) ?_
  refine lv_aload_n hx hb dX1_copyFrom_65 rfl (lv_at hl 1 rfl) ?_
  refine zg_K_done C hs (hV1.2.1 i1 hi1 10 (by decide) (by decide)) z_k114 dX1_copyFrom_66 ?_
  refine zp_K_done C hs (hV0.2.1 i0 hi0 10 (by decide) (by decide)) z_k114 dX1_copyFrom_69 (fun H locs hs => ?_)
  obtain ⟨σ11, -, hs, hf⟩ := z_top hs hf
  refine lv_aload_n hx hb dX1_copyFrom_72 rfl (lv_at hl 0 rfl) ?_
  refine lv_aload_n hx hb dX1_copyFrom_73 rfl (lv_at hl 1 rfl) ?_
  refine zg_K_ballots C hs (hV1.2.1 i1 hi1 10 (by decide) (by decide)) z_k118 dX1_copyFrom_74 ?_
  refine zp_K_ballots C hs (hV0.2.1 i0 hi0 10 (by decide) (by decide)) z_k118 dX1_copyFrom_77 (fun H locs hs => ?_)
  obtain ⟨σ12, -, hs, hf⟩ := z_top hs hf
  refine lv_aload_n hx hb dX1_copyFrom_80 rfl (lv_at hl 0 rfl) ?_
  refine lv_aload_n hx hb dX1_copyFrom_81 rfl (lv_at hl 1 rfl) ?_
  refine zg_K_round C hs (hV1.2.1 i1 hi1 10 (by decide) (by decide)) z_k120 dX1_copyFrom_82 ?_
  refine zp_K_round C hs (hV0.2.1 i0 hi0 10 (by decide) (by decide)) z_k120 dX1_copyFrom_85 (fun H locs hs => ?_)
  obtain ⟨σ13, -, hs, hf⟩ := z_top hs hf
  refine lv_aload_n hx hb dX1_copyFrom_88 rfl (lv_at hl 1 rfl) ?_
  refine zg_K_entries C hs (hV1.2.1 i1 hi1 10 (by decide) (by decide)) z_k122 dX1_copyFrom_89 ?_
  refine lv_iconst (v := 0) hx hb dX1_copyFrom_92 (by decide) ?_
  refine lv_aload_n hx hb dX1_copyFrom_93 rfl (lv_at hl 0 rfl) ?_
  refine zg_K_entries C hs (hV0.2.1 i0 hi0 10 (by decide) (by decide)) z_k122 dX1_copyFrom_94 ?_
  refine lv_iconst (v := 0) hx hb dX1_copyFrom_97 (by decide) ?_
  refine lv_sipush (v := 240) hx hb dX1_copyFrom_98 (by decide) ?_
  obtain ⟨g14, hf⟩ := z_gd hf
  refine z_acp C hs hl.1 (hV1.2.1 i1 hi1 11 (by decide) (by decide)) (hV0.2.1 i0 hi0 11 (by decide) (by decide)) (fun r h => z_c11 E r h _ _) (fun r h => z_c11 E r h _ _) z_k675 g14 (by decide) (by decide) (Nat.le_of_ble_eq_true rfl) z_k594 z_k593 z_k17 dX1_copyFrom_101 (fun H locs hs => ?_)
  obtain ⟨σ15, -, hs, hf⟩ := z_top hs hf
  refine lv_aload_n hx hb dX1_copyFrom_104 rfl (lv_at hl 0 rfl) ?_
  refine zg_K_foldState C hs (hV0.2.1 i0 hi0 10 (by decide) (by decide)) z_k125 dX1_copyFrom_105 ?_
  refine lv_aload_n hx hb dX1_copyFrom_108 rfl (lv_at hl 1 rfl) ?_
  refine zg_K_foldState C hs (hV1.2.1 i1 hi1 10 (by decide) (by decide)) z_k125 dX1_copyFrom_109 ?_
  obtain ⟨r16, σ16, h_16, hf⟩ := z_bds hf
  refine z_goV C hs (z_runV C hs hl.1 (cS_copyFrom l E ⟨(show z_isS (12, w0, i0) from (Or.inl rfl)), (hV0.2.1 i0 hi0 12 (by decide) (by decide)), (hV0.2.1 i0 hi0 13 (by decide) (by decide))⟩ ⟨(show z_isS (12, w1, i1) from (Or.inl rfl)), (hV1.2.1 i1 hi1 12 (by decide) (by decide)), (hV1.2.1 i1 hi1 13 (by decide) (by decide))⟩ h_16) zcV_RX1_84 (hV0.2.1 i0 hi0 12 (by decide) (by decide)) (z_cS E _ _ (show z_isS (12, w0, i0) from (Or.inl rfl))) rfl rfl rfl (by decide) (Nat.le_of_ble_eq_true rfl) dX1_copyFrom_112) (fun H locs hs => ?_)
  refine lv_aload_n hx hb dX1_copyFrom_115 rfl (lv_at hl 0 rfl) ?_
  refine zg_K_doneState C hs (hV0.2.1 i0 hi0 10 (by decide) (by decide)) z_k127 dX1_copyFrom_116 ?_
  refine lv_aload_n hx hb dX1_copyFrom_119 rfl (lv_at hl 1 rfl) ?_
  refine zg_K_doneState C hs (hV1.2.1 i1 hi1 10 (by decide) (by decide)) z_k127 dX1_copyFrom_120 ?_
  obtain ⟨r17, σ17, h_17, hf⟩ := z_bds hf
  refine z_goV C hs (z_runV C hs hl.1 (cS_copyFrom l E ⟨(show z_isS (14, w0, i0) from (Or.inr (Or.inl rfl))), (hV0.2.1 i0 hi0 14 (by decide) (by decide)), (hV0.2.1 i0 hi0 15 (by decide) (by decide))⟩ ⟨(show z_isS (14, w1, i1) from (Or.inr (Or.inl rfl))), (hV1.2.1 i1 hi1 14 (by decide) (by decide)), (hV1.2.1 i1 hi1 15 (by decide) (by decide))⟩ h_17) zcV_RX1_84 (hV0.2.1 i0 hi0 14 (by decide) (by decide)) (z_cS E _ _ (show z_isS (14, w0, i0) from (Or.inr (Or.inl rfl)))) rfl rfl rfl (by decide) (Nat.le_of_ble_eq_true rfl) dX1_copyFrom_123) (fun H locs hs => ?_)
  refine lv_aload_n hx hb dX1_copyFrom_126 rfl (lv_at hl 1 rfl) ?_
  refine zg_K_next C hs (hV1.2.1 i1 hi1 10 (by decide) (by decide)) z_k130 dX1_copyFrom_127 ?_
  refine lv_iconst (v := 0) hx hb dX1_copyFrom_130 (by decide) ?_
  refine lv_aload_n hx hb dX1_copyFrom_131 rfl (lv_at hl 0 rfl) ?_
  refine zg_K_next C hs (hV0.2.1 i0 hi0 10 (by decide) (by decide)) z_k130 dX1_copyFrom_132 ?_
  refine lv_iconst (v := 0) hx hb dX1_copyFrom_135 (by decide) ?_
  refine lv_bipush (v := 7) hx hb dX1_copyFrom_136 (by decide) ?_
  obtain ⟨g18, hf⟩ := z_gd hf
  refine z_acp C hs hl.1 (hV1.2.1 i1 hi1 16 (by decide) (by decide)) (hV0.2.1 i0 hi0 16 (by decide) (by decide)) (fun r h => z_c16 E r h _ _) (fun r h => z_c16 E r h _ _) z_k675 g18 (by decide) (by decide) (Nat.le_of_ble_eq_true rfl) z_k594 z_k593 z_k17 dX1_copyFrom_138 (fun H locs hs => ?_)
  obtain ⟨σ19, -, hs, hf⟩ := z_top hs hf
  refine lv_aload_n hx hb dX1_copyFrom_141 rfl (lv_at hl 1 rfl) ?_
  refine zg_K_sure C hs (hV1.2.1 i1 hi1 10 (by decide) (by decide)) z_k133 dX1_copyFrom_142 ?_
  refine lv_iconst (v := 0) hx hb dX1_copyFrom_145 (by decide) ?_
  refine lv_aload_n hx hb dX1_copyFrom_146 rfl (lv_at hl 0 rfl) ?_
  refine zg_K_sure C hs (hV0.2.1 i0 hi0 10 (by decide) (by decide)) z_k133 dX1_copyFrom_147 ?_
  refine lv_iconst (v := 0) hx hb dX1_copyFrom_150 (by decide) ?_
  refine lv_bipush (v := 7) hx hb dX1_copyFrom_151 (by decide) ?_
  obtain ⟨g20, hf⟩ := z_gd hf
  refine z_acp C hs hl.1 (hV1.2.1 i1 hi1 17 (by decide) (by decide)) (hV0.2.1 i0 hi0 17 (by decide) (by decide)) (fun r h => z_c17 E r h _ _) (fun r h => z_c17 E r h _ _) z_k675 g20 (by decide) (by decide) (Nat.le_of_ble_eq_true rfl) z_k594 z_k593 z_k17 dX1_copyFrom_153 (fun H locs hs => ?_)
  obtain ⟨σ21, -, hs, hf⟩ := z_top hs hf
  refine lv_aload_n hx hb dX1_copyFrom_156 rfl (lv_at hl 1 rfl) ?_
  refine zg_K_answered C hs (hV1.2.1 i1 hi1 10 (by decide) (by decide)) z_k136 dX1_copyFrom_157 ?_
  refine lv_iconst (v := 0) hx hb dX1_copyFrom_160 (by decide) ?_
  refine lv_aload_n hx hb dX1_copyFrom_161 rfl (lv_at hl 0 rfl) ?_
  refine zg_K_answered C hs (hV0.2.1 i0 hi0 10 (by decide) (by decide)) z_k136 dX1_copyFrom_162 ?_
  refine lv_iconst (v := 0) hx hb dX1_copyFrom_165 (by decide) ?_
  refine lv_bipush (v := 7) hx hb dX1_copyFrom_166 (by decide) ?_
  obtain ⟨g22, hf⟩ := z_gd hf
  refine z_acp C hs hl.1 (hV1.2.1 i1 hi1 18 (by decide) (by decide)) (hV0.2.1 i0 hi0 18 (by decide) (by decide)) (fun r h => z_c18 E r h _ _) (fun r h => z_c18 E r h _ _) z_k675 g22 (by decide) (by decide) (Nat.le_of_ble_eq_true rfl) z_k594 z_k593 z_k17 dX1_copyFrom_168 (fun H locs hs => ?_)
  obtain ⟨σ23, -, hs, hf⟩ := z_top hs hf
  refine lv_aload_n hx hb dX1_copyFrom_171 rfl (lv_at hl 1 rfl) ?_
  refine zg_K_heard C hs (hV1.2.1 i1 hi1 10 (by decide) (by decide)) z_k139 dX1_copyFrom_172 ?_
  refine lv_iconst (v := 0) hx hb dX1_copyFrom_175 (by decide) ?_
  refine lv_aload_n hx hb dX1_copyFrom_176 rfl (lv_at hl 0 rfl) ?_
  refine zg_K_heard C hs (hV0.2.1 i0 hi0 10 (by decide) (by decide)) z_k139 dX1_copyFrom_177 ?_
  refine lv_iconst (v := 0) hx hb dX1_copyFrom_180 (by decide) ?_
  refine lv_bipush (v := 7) hx hb dX1_copyFrom_181 (by decide) ?_
  obtain ⟨g24, hf⟩ := z_gd hf
  refine z_acp C hs hl.1 (hV1.2.1 i1 hi1 19 (by decide) (by decide)) (hV0.2.1 i0 hi0 19 (by decide) (by decide)) (fun r h => z_c19 E r h _ _) (fun r h => z_c19 E r h _ _) z_k675 g24 (by decide) (by decide) (Nat.le_of_ble_eq_true rfl) z_k594 z_k593 z_k17 dX1_copyFrom_183 (fun H locs hs => ?_)
  obtain ⟨σ25, -, hs, hf⟩ := z_top hs hf
  exact z_retv C hr hs hf dX1_copyFrom_186
set_option maxHeartbeats 4000000 in
set_option maxRecDepth 20000 in
theorem cK_copyFrom (l : Launch) (E : zE) {w0 : Nat} {i0 : Nat} {w1 : Nat} {i1 : Nat} (hV0 : z_W E w0) (hi0 : i0 < 7) (hV1 : z_W E w1) (hi1 : i1 < 7) {σ σo : zS} {ro : Unit} (hf : fK_copyFrom w0 i0 w1 i1 σ = some (ro, σo)) : z_T l E yX1_copyFrom cX1_copyFrom 2 none (z_rm 3) (z_QV E ro σo) [.ref (z_ad E (10, w0, i0)), .ref (z_ad E (10, w1, i1))] σ :=
  z_enter (by decide) (Nat.le_of_ble_eq_true rfl) rfl (fun p e s m below meth c A ls C hr hs hl => wK_copyFrom C hr hV0 hi0 hV1 hi1 σ _ _ ls hs hl hf)
def fP_clear_2 (w0 : Nat) : Nat → Int32 → zS → Option (Unit × zS)
  | 0, _, _ => none
  | n + 1, x1, σ =>
    if 40 ≤ x1 then
      (some ((), σ))
    else
      (if z_in x1 40 = true then (
      z_let (z_up σ (20, w0, x1.toNatClampNeg) 0 ((-1))) (fun σ3 =>
      z_let (x1 + 1) (fun y4 =>
      fP_clear_2 w0 n y4 σ3))) else none)
def fP_clear (w0 : Nat) (σ : zS) : Option (Unit × zS) :=
  fP_clear_2 w0 z_fu 0 σ
set_option maxHeartbeats 4000000 in
set_option maxRecDepth 20000 in
theorem wP_clear_2 {w0 : Nat} (C : z_C E RX3 cX3_clear 2 A p s m args meth c) (hr : meth.sig.returnType = none) (hV0 : z_W E w0) {ro : Unit} {σo : zS} (n : Nat) : ∀ (x1 : Int32) (σ : zS) (H : Heap) (locs : List Loc) (ls : Array Slot), z_H E A s σ H locs → lv_has ls 2 [(0, .ref (z_ad E (2, w0, 0))), (1, .int x1)] → fP_clear_2 w0 n x1 σ = some (ro, σo) → W p l e (z_rm 1) s m args below meth c H locs 0 0 (MQ below (z_QV E ro σo A) args s 0 0 A) (F0 m 2 ls []) := by
  induction n with
  | zero =>
    intro x1 σ H locs ls hs hl hf
    have hf : none = some (ro, σo) := hf
    cases hf
  | succ n ih =>
    intro x1 σ H locs ls hs hl hf
    have hx := C.1
    have hb := C.2.1
    rw [fP_clear_2.eq_2] at hf
    refine lv_iload_n hx hb dX3_clear_2 rfl (lv_at hl 1 rfl) ?_
    refine lv_bipush (v := 40) hx hb dX3_clear_3 (by decide) ?_
    refine lv_icmp_ge (tgt := 24) hx hb dX3_clear_5 (by decide) (fun c1 => ?_) (fun c1 => ?_)
    · have hf := z_t hf c1
      exact z_retv C hr hs hf dX3_clear_24
    · have hf := z_f hf c1
      refine lv_aload_n hx hb dX3_clear_8 rfl (lv_at hl 0 rfl) ?_
      refine zg_P_letters C hs (hV0.1 2 (by decide)) z_k244 dX3_clear_9 ?_
      refine lv_iload_n hx hb dX3_clear_12 rfl (lv_at hl 1 rfl) ?_
      obtain ⟨g2, hf⟩ := z_gd hf
      refine z_aald C hs (hV0.1 3 (by decide)) (z_c3 E _ _ _ _) (t0 := 5) rfl g2 rfl dX3_clear_13 ?_
      refine lv_iconst (v := (-1)) hx hb dX3_clear_14 (by decide) ?_
      refine zp_L_kind C hs (hV0.2.2 x1.toNatClampNeg (Nat.lt_succ_of_lt (z_in_lt g2)) 20 (by decide) (by decide)) z_k194 dX3_clear_15 (fun H locs hs => ?_)
      obtain ⟨σ3, -, hs, hf⟩ := z_top hs hf
      obtain ⟨y4, e_y4⟩ : ∃ y : Int32, y = x1 + 1 := ⟨_, rfl⟩
      have hf := z_lte e_y4 hf
      refine lv_iinc (v := y4) (lv' := [(1, .int y4), (0, .ref (z_ad E (2, w0, 0)))]) hx hb dX3_clear_18 hl (k := 1) rfl (by rw [e_y4]; rfl) (by decide) rfl (fun ls hl => ?_)
      refine lv_goto (tgt := 2) hx hb dX3_clear_21 (by decide) ?_
      exact ih y4 σ3 _ _ _ hs (lv_sub hl [1, 0] rfl) hf
set_option maxHeartbeats 4000000 in
set_option maxRecDepth 20000 in
theorem wP_clear {w0 : Nat} (C : z_C E RX3 cX3_clear 2 A p s m args meth c) (hr : meth.sig.returnType = none) (hV0 : z_W E w0) {ro : Unit} {σo : zS} (σ : zS) (H : Heap) (locs : List Loc) (ls : Array Slot) (hs : z_H E A s σ H locs) (hl : lv_has ls 2 [(0, .ref (z_ad E (2, w0, 0)))]) (hf : fP_clear w0 σ = some (ro, σo)) : W p l e (z_rm 1) s m args below meth c H locs 0 0 (MQ below (z_QV E ro σo A) args s 0 0 A) (F0 m 0 ls []) := by
  have hx := C.1
  have hb := C.2.1
  unfold fP_clear at hf
  refine lv_iconst (v := 0) hx hb dX3_clear_0 (by decide) ?_
  refine lv_istore_n (lv' := [(1, .int 0), (0, .ref (z_ad E (2, w0, 0)))]) hx hb dX3_clear_1 rfl hl (by decide) rfl (fun ls hl => ?_)
  exact wP_clear_2 C hr hV0 z_fu 0 σ _ _ _ hs (lv_sub hl [1, 0] rfl) hf
set_option maxHeartbeats 4000000 in
set_option maxRecDepth 20000 in
theorem cP_clear (l : Launch) (E : zE) {w0 : Nat} (hV0 : z_W E w0) {σ σo : zS} {ro : Unit} (hf : fP_clear w0 σ = some (ro, σo)) : z_T l E yX3_clear cX3_clear 2 none (z_rm 1) (z_QV E ro σo) [.ref (z_ad E (2, w0, 0))] σ :=
  z_enter (by decide) (Nat.le_of_ble_eq_true rfl) rfl (fun p e s m below meth c A ls C hr hs hl => wP_clear C hr hV0 σ _ _ ls hs hl hf)
def fP_copyFrom_2 (w0 : Nat) (w1 : Nat) : Nat → Int32 → zS → Option (Unit × zS)
  | 0, _, _ => none
  | n + 1, x2, σ =>
    if 40 ≤ x2 then
      (some ((), σ))
    else
      (if z_in x2 40 = true then (
      if z_in x2 40 = true then (
      z_bd (fL_copyFrom w0 (x2.toNatClampNeg) w1 (x2.toNatClampNeg) σ) (fun _ σ4 =>
      z_let (x2 + 1) (fun y5 =>
      fP_copyFrom_2 w0 w1 n y5 σ4))) else none) else none)
def fP_copyFrom (w0 : Nat) (w1 : Nat) (σ : zS) : Option (Unit × zS) :=
  fP_copyFrom_2 w0 w1 z_fu 0 σ
set_option maxHeartbeats 4000000 in
set_option maxRecDepth 20000 in
theorem wP_copyFrom_2 {w0 : Nat} {w1 : Nat} (C : z_C E RX3 cX3_copyFrom 3 A p s m args meth c) (hr : meth.sig.returnType = none) (hV0 : z_W E w0) (hV1 : z_W E w1) {ro : Unit} {σo : zS} (n : Nat) : ∀ (x2 : Int32) (σ : zS) (H : Heap) (locs : List Loc) (ls : Array Slot), z_H E A s σ H locs → lv_has ls 3 [(0, .ref (z_ad E (2, w0, 0))), (1, .ref (z_ad E (2, w1, 0))), (2, .int x2)] → fP_copyFrom_2 w0 w1 n x2 σ = some (ro, σo) → W p l e (z_rm 4) s m args below meth c H locs 0 0 (MQ below (z_QV E ro σo A) args s 0 0 A) (F0 m 2 ls []) := by
  induction n with
  | zero =>
    intro x2 σ H locs ls hs hl hf
    have hf : none = some (ro, σo) := hf
    cases hf
  | succ n ih =>
    intro x2 σ H locs ls hs hl hf
    have hx := C.1
    have hb := C.2.1
    rw [fP_copyFrom_2.eq_2] at hf
    refine lv_iload_n hx hb dX3_copyFrom_2 rfl (lv_at hl 2 rfl) ?_
    refine lv_bipush (v := 40) hx hb dX3_copyFrom_3 (by decide) ?_
    refine lv_icmp_ge (tgt := 29) hx hb dX3_copyFrom_5 (by decide) (fun c1 => ?_) (fun c1 => ?_)
    · have hf := z_t hf c1
      exact z_retv C hr hs hf dX3_copyFrom_29
    · have hf := z_f hf c1
      refine lv_aload_n hx hb dX3_copyFrom_8 rfl (lv_at hl 0 rfl) ?_
      refine zg_P_letters C hs (hV0.1 2 (by decide)) z_k244 dX3_copyFrom_9 ?_
      refine lv_iload_n hx hb dX3_copyFrom_12 rfl (lv_at hl 2 rfl) ?_
      obtain ⟨g2, hf⟩ := z_gd hf
      refine z_aald C hs (hV0.1 3 (by decide)) (z_c3 E _ _ _ _) (t0 := 5) rfl g2 rfl dX3_copyFrom_13 ?_
      refine lv_aload_n hx hb dX3_copyFrom_14 rfl (lv_at hl 1 rfl) ?_
      refine zg_P_letters C hs (hV1.1 2 (by decide)) z_k244 dX3_copyFrom_15 ?_
      refine lv_iload_n hx hb dX3_copyFrom_18 rfl (lv_at hl 2 rfl) ?_
      obtain ⟨g3, hf⟩ := z_gd hf
      refine z_aald C hs (hV1.1 3 (by decide)) (z_c3 E _ _ _ _) (t0 := 5) rfl g3 rfl dX3_copyFrom_19 ?_
      obtain ⟨r4, σ4, h_4, hf⟩ := z_bds hf
      refine z_goV C hs (z_runV C hs hl.1 (cL_copyFrom l E hV0 (Nat.lt_succ_of_lt (z_in_lt g2)) hV1 (Nat.lt_succ_of_lt (z_in_lt g3)) h_4) zcV_RX3_26 (hV0.2.2 x2.toNatClampNeg (Nat.lt_succ_of_lt (z_in_lt g2)) 20 (by decide) (by decide)) (z_c20 E _ _ _ _) rfl rfl rfl (by decide) (Nat.le_of_ble_eq_true rfl) dX3_copyFrom_20) (fun H locs hs => ?_)
      obtain ⟨y5, e_y5⟩ : ∃ y : Int32, y = x2 + 1 := ⟨_, rfl⟩
      have hf := z_lte e_y5 hf
      refine lv_iinc (v := y5) (lv' := [(2, .int y5), (0, .ref (z_ad E (2, w0, 0))), (1, .ref (z_ad E (2, w1, 0)))]) hx hb dX3_copyFrom_23 hl (k := 2) rfl (by rw [e_y5]; rfl) (by decide) rfl (fun ls hl => ?_)
      refine lv_goto (tgt := 2) hx hb dX3_copyFrom_26 (by decide) ?_
      exact ih y5 σ4 _ _ _ hs (lv_sub hl [1, 2, 0] rfl) hf
set_option maxHeartbeats 4000000 in
set_option maxRecDepth 20000 in
theorem wP_copyFrom {w0 : Nat} {w1 : Nat} (C : z_C E RX3 cX3_copyFrom 3 A p s m args meth c) (hr : meth.sig.returnType = none) (hV0 : z_W E w0) (hV1 : z_W E w1) {ro : Unit} {σo : zS} (σ : zS) (H : Heap) (locs : List Loc) (ls : Array Slot) (hs : z_H E A s σ H locs) (hl : lv_has ls 3 [(0, .ref (z_ad E (2, w0, 0))), (1, .ref (z_ad E (2, w1, 0)))]) (hf : fP_copyFrom w0 w1 σ = some (ro, σo)) : W p l e (z_rm 4) s m args below meth c H locs 0 0 (MQ below (z_QV E ro σo A) args s 0 0 A) (F0 m 0 ls []) := by
  have hx := C.1
  have hb := C.2.1
  unfold fP_copyFrom at hf
  refine lv_iconst (v := 0) hx hb dX3_copyFrom_0 (by decide) ?_
  refine lv_istore_n (lv' := [(2, .int 0), (0, .ref (z_ad E (2, w0, 0))), (1, .ref (z_ad E (2, w1, 0)))]) hx hb dX3_copyFrom_1 rfl hl (by decide) rfl (fun ls hl => ?_)
  exact wP_copyFrom_2 C hr hV0 hV1 z_fu 0 σ _ _ _ hs (lv_sub hl [1, 2, 0] rfl) hf
set_option maxHeartbeats 4000000 in
set_option maxRecDepth 20000 in
theorem cP_copyFrom (l : Launch) (E : zE) {w0 : Nat} {w1 : Nat} (hV0 : z_W E w0) (hV1 : z_W E w1) {σ σo : zS} {ro : Unit} (hf : fP_copyFrom w0 w1 σ = some (ro, σo)) : z_T l E yX3_copyFrom cX3_copyFrom 3 none (z_rm 4) (z_QV E ro σo) [.ref (z_ad E (2, w0, 0)), .ref (z_ad E (2, w1, 0))] σ :=
  z_enter (by decide) (Nat.le_of_ble_eq_true rfl) rfl (fun p e s m below meth c A ls C hr hs hl => wP_copyFrom C hr hV0 hV1 σ _ _ ls hs hl hf)
def fR_copyFrom (w0 : Nat) (w1 : Nat) (σ : zS) : Option (Unit × zS) :=
  if z_cp 0 0 40 40 40 = true then (
  z_let (z_cpR σ (5, w1, 0) (5, w0, 0) 0 0 40) (fun σ2 =>
  if z_cp 0 0 40 40 40 = true then (
  z_let (z_cpR σ2 (6, w1, 0) (6, w0, 0) 0 0 40) (fun σ4 =>
  if z_cp 0 0 40 40 40 = true then (
  z_let (z_cpR σ4 (7, w1, 0) (7, w0, 0) 0 0 40) (fun σ6 =>
  if z_cp 0 0 40 40 40 = true then (
  z_let (z_cpR σ6 (8, w1, 0) (8, w0, 0) 0 0 40) (fun σ8 =>
  z_let (z_up σ8 (4, w0, 0) 4 (σ8.1 (4, w1, 0) 4)) (fun σ9 =>
  some ((), σ9)))) else none)) else none)) else none)) else none
set_option maxHeartbeats 4000000 in
set_option maxRecDepth 20000 in
theorem wR_copyFrom {w0 : Nat} {w1 : Nat} (C : z_C E RX4 cX4_copyFrom 2 A p s m args meth c) (hr : meth.sig.returnType = none) (hV0 : z_W E w0) (hV1 : z_W E w1) {ro : Unit} {σo : zS} (σ : zS) (H : Heap) (locs : List Loc) (ls : Array Slot) (hs : z_H E A s σ H locs) (hl : lv_has ls 2 [(0, .ref (z_ad E (4, w0, 0))), (1, .ref (z_ad E (4, w1, 0)))]) (hf : fR_copyFrom w0 w1 σ = some (ro, σo)) : W p l e (z_rm 2) s m args below meth c H locs 0 0 (MQ below (z_QV E ro σo A) args s 0 0 A) (F0 m 0 ls []) := by
  have hx := C.1
  have hb := C.2.1
  unfold fR_copyFrom at hf
  refine lv_aload_n hx hb dX4_copyFrom_0 rfl (lv_at hl 1 rfl) ?_
  refine zg_R_keeper C hs (hV1.1 4 (by decide)) z_k259 dX4_copyFrom_1 ?_
  refine lv_iconst (v := 0) hx hb dX4_copyFrom_4 (by decide) ?_
  refine lv_aload_n hx hb dX4_copyFrom_5 rfl (lv_at hl 0 rfl) ?_
  refine zg_R_keeper C hs (hV0.1 4 (by decide)) z_k259 dX4_copyFrom_6 ?_
  refine lv_iconst (v := 0) hx hb dX4_copyFrom_9 (by decide) ?_
  refine lv_bipush (v := 40) hx hb dX4_copyFrom_10 (by decide) ?_
  obtain ⟨g1, hf⟩ := z_gd hf
  refine z_acp C hs hl.1 (hV1.1 5 (by decide)) (hV0.1 5 (by decide)) (fun r h => z_c5 E r h _ _) (fun r h => z_c5 E r h _ _) z_k921 g1 (by decide) (by decide) (Nat.le_of_ble_eq_true rfl) z_k594 z_k593 z_k17 dX4_copyFrom_12 (fun H locs hs => ?_)
  obtain ⟨σ2, -, hs, hf⟩ := z_top hs hf
  refine lv_aload_n hx hb dX4_copyFrom_15 rfl (lv_at hl 1 rfl) ?_
  refine zg_R_cell C hs (hV1.1 4 (by decide)) z_k261 dX4_copyFrom_16 ?_
  refine lv_iconst (v := 0) hx hb dX4_copyFrom_19 (by decide) ?_
  refine lv_aload_n hx hb dX4_copyFrom_20 rfl (lv_at hl 0 rfl) ?_
  refine zg_R_cell C hs (hV0.1 4 (by decide)) z_k261 dX4_copyFrom_21 ?_
  refine lv_iconst (v := 0) hx hb dX4_copyFrom_24 (by decide) ?_
  refine lv_bipush (v := 40) hx hb dX4_copyFrom_25 (by decide) ?_
  obtain ⟨g3, hf⟩ := z_gd hf
  refine z_acp C hs hl.1 (hV1.1 6 (by decide)) (hV0.1 6 (by decide)) (fun r h => z_c6 E r h _ _) (fun r h => z_c6 E r h _ _) z_k921 g3 (by decide) (by decide) (Nat.le_of_ble_eq_true rfl) z_k594 z_k593 z_k17 dX4_copyFrom_27 (fun H locs hs => ?_)
  obtain ⟨σ4, -, hs, hf⟩ := z_top hs hf
  refine lv_aload_n hx hb dX4_copyFrom_30 rfl (lv_at hl 1 rfl) ?_
  refine zg_R_term C hs (hV1.1 4 (by decide)) z_k263 dX4_copyFrom_31 ?_
  refine lv_iconst (v := 0) hx hb dX4_copyFrom_34 (by decide) ?_
  refine lv_aload_n hx hb dX4_copyFrom_35 rfl (lv_at hl 0 rfl) ?_
  refine zg_R_term C hs (hV0.1 4 (by decide)) z_k263 dX4_copyFrom_36 ?_
  refine lv_iconst (v := 0) hx hb dX4_copyFrom_39 (by decide) ?_
  refine lv_bipush (v := 40) hx hb dX4_copyFrom_40 (by decide) ?_
  obtain ⟨g5, hf⟩ := z_gd hf
  refine z_acp C hs hl.1 (hV1.1 7 (by decide)) (hV0.1 7 (by decide)) (fun r h => z_c7 E r h _ _) (fun r h => z_c7 E r h _ _) z_k921 g5 (by decide) (by decide) (Nat.le_of_ble_eq_true rfl) z_k594 z_k593 z_k17 dX4_copyFrom_42 (fun H locs hs => ?_)
  obtain ⟨σ6, -, hs, hf⟩ := z_top hs hf
  refine lv_aload_n hx hb dX4_copyFrom_45 rfl (lv_at hl 1 rfl) ?_
  refine zg_R_round C hs (hV1.1 4 (by decide)) z_k265 dX4_copyFrom_46 ?_
  refine lv_iconst (v := 0) hx hb dX4_copyFrom_49 (by decide) ?_
  refine lv_aload_n hx hb dX4_copyFrom_50 rfl (lv_at hl 0 rfl) ?_
  refine zg_R_round C hs (hV0.1 4 (by decide)) z_k265 dX4_copyFrom_51 ?_
  refine lv_iconst (v := 0) hx hb dX4_copyFrom_54 (by decide) ?_
  refine lv_bipush (v := 40) hx hb dX4_copyFrom_55 (by decide) ?_
  obtain ⟨g7, hf⟩ := z_gd hf
  refine z_acp C hs hl.1 (hV1.1 8 (by decide)) (hV0.1 8 (by decide)) (fun r h => z_c8 E r h _ _) (fun r h => z_c8 E r h _ _) z_k921 g7 (by decide) (by decide) (Nat.le_of_ble_eq_true rfl) z_k594 z_k593 z_k17 dX4_copyFrom_57 (fun H locs hs => ?_)
  obtain ⟨σ8, -, hs, hf⟩ := z_top hs hf
  refine lv_aload_n hx hb dX4_copyFrom_60 rfl (lv_at hl 0 rfl) ?_
  refine lv_aload_n hx hb dX4_copyFrom_61 rfl (lv_at hl 1 rfl) ?_
  refine zg_R_size C hs (hV1.1 4 (by decide)) z_k267 dX4_copyFrom_62 ?_
  refine zp_R_size C hs (hV0.1 4 (by decide)) z_k267 dX4_copyFrom_65 (fun H locs hs => ?_)
  obtain ⟨σ9, -, hs, hf⟩ := z_top hs hf
  exact z_retv C hr hs hf dX4_copyFrom_68
set_option maxHeartbeats 4000000 in
set_option maxRecDepth 20000 in
theorem cR_copyFrom (l : Launch) (E : zE) {w0 : Nat} {w1 : Nat} (hV0 : z_W E w0) (hV1 : z_W E w1) {σ σo : zS} {ro : Unit} (hf : fR_copyFrom w0 w1 σ = some (ro, σo)) : z_T l E yX4_copyFrom cX4_copyFrom 2 none (z_rm 2) (z_QV E ro σo) [.ref (z_ad E (4, w0, 0)), .ref (z_ad E (4, w1, 0))] σ :=
  z_enter (by decide) (Nat.le_of_ble_eq_true rfl) rfl (fun p e s m below meth c A ls C hr hs hl => wR_copyFrom C hr hV0 hV1 σ _ _ ls hs hl hf)
def fT_blame (x1 : Int32) (x2 : Int32) (σ : zS) : Option (Unit × zS) :=
  z_let (z_up σ (31, 0, 0) 6 x1) (fun σ1 =>
  z_let (z_up σ1 (31, 0, 0) 7 x2) (fun σ2 =>
  some ((), σ2)))
set_option maxHeartbeats 4000000 in
set_option maxRecDepth 20000 in
theorem wT_blame {x1 : Int32} {x2 : Int32} (C : z_C E RX6 cX6_blame 3 A p s m args meth c) (hr : meth.sig.returnType = none) (hB : z_B E) {ro : Unit} {σo : zS} (σ : zS) (H : Heap) (locs : List Loc) (ls : Array Slot) (hs : z_H E A s σ H locs) (hl : lv_has ls 3 [(0, .ref (z_ad E (31, 0, 0))), (1, .int x1), (2, .int x2)]) (hf : fT_blame x1 x2 σ = some (ro, σo)) : W p l e (z_rm 1) s m args below meth c H locs 0 0 (MQ below (z_QV E ro σo A) args s 0 0 A) (F0 m 0 ls []) := by
  have hx := C.1
  have hb := C.2.1
  unfold fT_blame at hf
  refine lv_aload_n hx hb dX6_blame_0 rfl (lv_at hl 0 rfl) ?_
  refine lv_iload_n hx hb dX6_blame_1 rfl (lv_at hl 1 rfl) ?_
  refine zp_T_fault C hs (hB 31 (by decide) (by decide)) z_k41 dX6_blame_2 (fun H locs hs => ?_)
  obtain ⟨σ1, -, hs, hf⟩ := z_top hs hf
  refine lv_aload_n hx hb dX6_blame_5 rfl (lv_at hl 0 rfl) ?_
  refine lv_iload_n hx hb dX6_blame_6 rfl (lv_at hl 2 rfl) ?_
  refine zp_T_faultPlace C hs (hB 31 (by decide) (by decide)) z_k43 dX6_blame_7 (fun H locs hs => ?_)
  obtain ⟨σ2, -, hs, hf⟩ := z_top hs hf
  exact z_retv C hr hs hf dX6_blame_10
set_option maxHeartbeats 4000000 in
set_option maxRecDepth 20000 in
theorem cT_blame (l : Launch) (E : zE) {x1 : Int32} {x2 : Int32} (hB : z_B E) {σ σo : zS} {ro : Unit} (hf : fT_blame x1 x2 σ = some (ro, σo)) : z_T l E yX6_blame cX6_blame 3 none (z_rm 1) (z_QV E ro σo) [.ref (z_ad E (31, 0, 0)), .int x1, .int x2] σ :=
  z_enter (by decide) (Nat.le_of_ble_eq_true rfl) rfl (fun p e s m below meth c A ls C hr hs hl => wT_blame C hr hB σ _ _ ls hs hl hf)
def fT_countVoters_4 : Nat → Int32 → Int32 → zS → Option (Int32 × zS)
  | 0, _, _, _ => none
  | n + 1, x1, x2, σ =>
    if (σ.1 (31, 0, 0) 5) ≤ x2 then
      (some (x1, σ))
    else
      (if z_in x2 7 = true then (
      if (σ.1 (35, 0, 0) x2.toNatClampNeg) = 0 then
        (z_let (x1 + 1) (fun y4 =>
        z_let (x2 + 1) (fun y5 =>
        fT_countVoters_4 n y4 y5 σ)))
      else
        (z_let (x1 + 0) (fun y6 =>
        z_let (x2 + 1) (fun y7 =>
        fT_countVoters_4 n y6 y7 σ)))) else none)
def fT_countVoters (σ : zS) : Option (Int32 × zS) :=
  fT_countVoters_4 z_fu 0 0 σ
set_option maxHeartbeats 4000000 in
set_option maxRecDepth 20000 in
theorem wT_countVoters_4 (C : z_C E RX6 cX6_countVoters 3 A p s m args meth c) (hr : meth.sig.returnType = (some .int)) (hB : z_B E) {ro : Int32} {σo : zS} (n : Nat) : ∀ (x1 : Int32) (x2 : Int32) (σ : zS) (H : Heap) (locs : List Loc) (ls : Array Slot), z_H E A s σ H locs → lv_has ls 3 [(0, .ref (z_ad E (31, 0, 0))), (1, .int x1), (2, .int x2)] → fT_countVoters_4 n x1 x2 σ = some (ro, σo) → W p l e (z_rm 1) s m args below meth c H locs 0 0 (MQ below (z_QI E ro σo A) args s 0 0 A) (F0 m 4 ls []) := by
  induction n with
  | zero =>
    intro x1 x2 σ H locs ls hs hl hf
    have hf : none = some (ro, σo) := hf
    cases hf
  | succ n ih =>
    intro x1 x2 σ H locs ls hs hl hf
    have hx := C.1
    have hb := C.2.1
    rw [fT_countVoters_4.eq_2] at hf
    refine lv_iload_n hx hb dX6_countVoters_4 rfl (lv_at hl 2 rfl) ?_
    refine lv_aload_n hx hb dX6_countVoters_5 rfl (lv_at hl 0 rfl) ?_
    refine zg_T_told C hs (hB 31 (by decide) (by decide)) z_k40 dX6_countVoters_6 ?_
    refine lv_icmp_ge (tgt := 35) hx hb dX6_countVoters_9 (by decide) (fun c1 => ?_) (fun c1 => ?_)
    · have hf := z_t hf c1
      refine lv_iload_n hx hb dX6_countVoters_35 rfl (lv_at hl 1 rfl) ?_
      exact z_reti C hr hs hf dX6_countVoters_36
    · have hf := z_f hf c1
      refine lv_iload_n hx hb dX6_countVoters_12 rfl (lv_at hl 1 rfl) ?_
      refine lv_aload_n hx hb dX6_countVoters_13 rfl (lv_at hl 0 rfl) ?_
      refine zg_T_silent C hs (hB 31 (by decide) (by decide)) z_k35 dX6_countVoters_14 ?_
      refine lv_iload_n hx hb dX6_countVoters_17 rfl (lv_at hl 2 rfl) ?_
      obtain ⟨g2, hf⟩ := z_gd hf
      refine z_zald C hs (hB 35 (by decide) (by decide)) (z_c35 E _ _ _ _) g2 rfl dX6_countVoters_18 ?_
      refine lv_if_eq (tgt := 26) hx hb dX6_countVoters_19 (by decide) (fun c3 => ?_) (fun c3 => ?_)
      · have hf := z_t hf c3
        refine lv_iconst (v := 1) hx hb dX6_countVoters_26 (by decide) ?_
        refine lv_iadd hx hb dX6_countVoters_27 ?_
        refine lv_topi (fun y4 e_y4 => ?_)
        have hf := z_lte e_y4 hf
        refine lv_istore_n (lv' := [(1, .int y4), (0, .ref (z_ad E (31, 0, 0))), (2, .int x2)]) hx hb dX6_countVoters_28 rfl hl (by decide) rfl (fun ls hl => ?_)
        obtain ⟨y5, e_y5⟩ : ∃ y : Int32, y = x2 + 1 := ⟨_, rfl⟩
        have hf := z_lte e_y5 hf
        refine lv_iinc (v := y5) (lv' := [(2, .int y5), (1, .int y4), (0, .ref (z_ad E (31, 0, 0)))]) hx hb dX6_countVoters_29 hl (k := 2) rfl (by rw [e_y5]; rfl) (by decide) rfl (fun ls hl => ?_)
        refine lv_goto (tgt := 4) hx hb dX6_countVoters_32 (by decide) ?_
        exact ih y4 y5 σ _ _ _ hs (lv_sub hl [2, 1, 0] rfl) hf
      · have hf := z_f hf c3
        refine lv_iconst (v := 0) hx hb dX6_countVoters_22 (by decide) ?_
        refine lv_goto (tgt := 27) hx hb dX6_countVoters_23 (by decide) ?_
        refine lv_iadd hx hb dX6_countVoters_27 ?_
        refine lv_topi (fun y6 e_y6 => ?_)
        have hf := z_lte e_y6 hf
        refine lv_istore_n (lv' := [(1, .int y6), (0, .ref (z_ad E (31, 0, 0))), (2, .int x2)]) hx hb dX6_countVoters_28 rfl hl (by decide) rfl (fun ls hl => ?_)
        obtain ⟨y7, e_y7⟩ : ∃ y : Int32, y = x2 + 1 := ⟨_, rfl⟩
        have hf := z_lte e_y7 hf
        refine lv_iinc (v := y7) (lv' := [(2, .int y7), (1, .int y6), (0, .ref (z_ad E (31, 0, 0)))]) hx hb dX6_countVoters_29 hl (k := 2) rfl (by rw [e_y7]; rfl) (by decide) rfl (fun ls hl => ?_)
        refine lv_goto (tgt := 4) hx hb dX6_countVoters_32 (by decide) ?_
        exact ih y6 y7 σ _ _ _ hs (lv_sub hl [2, 1, 0] rfl) hf
set_option maxHeartbeats 4000000 in
set_option maxRecDepth 20000 in
theorem wT_countVoters (C : z_C E RX6 cX6_countVoters 3 A p s m args meth c) (hr : meth.sig.returnType = (some .int)) (hB : z_B E) {ro : Int32} {σo : zS} (σ : zS) (H : Heap) (locs : List Loc) (ls : Array Slot) (hs : z_H E A s σ H locs) (hl : lv_has ls 3 [(0, .ref (z_ad E (31, 0, 0)))]) (hf : fT_countVoters σ = some (ro, σo)) : W p l e (z_rm 1) s m args below meth c H locs 0 0 (MQ below (z_QI E ro σo A) args s 0 0 A) (F0 m 0 ls []) := by
  have hx := C.1
  have hb := C.2.1
  unfold fT_countVoters at hf
  refine lv_iconst (v := 0) hx hb dX6_countVoters_0 (by decide) ?_
  refine lv_istore_n (lv' := [(1, .int 0), (0, .ref (z_ad E (31, 0, 0)))]) hx hb dX6_countVoters_1 rfl hl (by decide) rfl (fun ls hl => ?_)
  refine lv_iconst (v := 0) hx hb dX6_countVoters_2 (by decide) ?_
  refine lv_istore_n (lv' := [(2, .int 0), (1, .int 0), (0, .ref (z_ad E (31, 0, 0)))]) hx hb dX6_countVoters_3 rfl hl (by decide) rfl (fun ls hl => ?_)
  exact wT_countVoters_4 C hr hB z_fu 0 0 σ _ _ _ hs (lv_sub hl [2, 1, 0] rfl) hf
set_option maxHeartbeats 4000000 in
set_option maxRecDepth 20000 in
theorem cT_countVoters (l : Launch) (E : zE) (hB : z_B E) {σ σo : zS} {ro : Int32} (hf : fT_countVoters σ = some (ro, σo)) : z_T l E yX6_countVoters cX6_countVoters 3 (some .int) (z_rm 1) (z_QI E ro σo) [.ref (z_ad E (31, 0, 0))] σ :=
  z_enter (by decide) (Nat.le_of_ble_eq_true rfl) rfl (fun p e s m below meth c A ls C hr hs hl => wT_countVoters C hr hB σ _ _ ls hs hl hf)
def fT_byteAt (x1 : Int32) (σ : zS) : Option (Int32 × zS) :=
  if x1 < 0 then
    (some ((-1), σ))
  else
    (if (σ.1 (31, 0, 0) 4) ≤ x1 then
      (some ((-1), σ))
    else
      (if 400 ≤ x1 then
        (some ((-1), σ))
      else
        (if z_in x1 400 = true then (
        some ((σ.1 (32, 0, 0) x1.toNatClampNeg) &&& 255, σ)) else none)))
set_option maxHeartbeats 4000000 in
set_option maxRecDepth 20000 in
theorem wT_byteAt {x1 : Int32} (C : z_C E RX6 cX6_byteAt 2 A p s m args meth c) (hr : meth.sig.returnType = (some .int)) (hB : z_B E) {ro : Int32} {σo : zS} (σ : zS) (H : Heap) (locs : List Loc) (ls : Array Slot) (hs : z_H E A s σ H locs) (hl : lv_has ls 2 [(0, .ref (z_ad E (31, 0, 0))), (1, .int x1)]) (hf : fT_byteAt x1 σ = some (ro, σo)) : W p l e (z_rm 1) s m args below meth c H locs 0 0 (MQ below (z_QI E ro σo A) args s 0 0 A) (F0 m 0 ls []) := by
  have hx := C.1
  have hb := C.2.1
  unfold fT_byteAt at hf
  refine lv_iload_n hx hb dX6_byteAt_0 rfl (lv_at hl 1 rfl) ?_
  refine lv_if_lt (tgt := 32) hx hb dX6_byteAt_1 (by decide) (fun c1 => ?_) (fun c1 => ?_)
  · have hf := z_t hf c1
    refine lv_iconst (v := (-1)) hx hb dX6_byteAt_32 (by decide) ?_
    exact z_reti C hr hs hf dX6_byteAt_33
  · have hf := z_f hf c1
    refine lv_iload_n hx hb dX6_byteAt_4 rfl (lv_at hl 1 rfl) ?_
    refine lv_aload_n hx hb dX6_byteAt_5 rfl (lv_at hl 0 rfl) ?_
    refine zg_T_length C hs (hB 31 (by decide) (by decide)) z_k37 dX6_byteAt_6 ?_
    refine lv_icmp_ge (tgt := 32) hx hb dX6_byteAt_9 (by decide) (fun c2 => ?_) (fun c2 => ?_)
    · have hf := z_t hf c2
      refine lv_iconst (v := (-1)) hx hb dX6_byteAt_32 (by decide) ?_
      exact z_reti C hr hs hf dX6_byteAt_33
    · have hf := z_f hf c2
      refine lv_iload_n hx hb dX6_byteAt_12 rfl (lv_at hl 1 rfl) ?_
      refine lv_sipush (v := 400) hx hb dX6_byteAt_13 (by decide) ?_
      refine lv_icmp_ge (tgt := 32) hx hb dX6_byteAt_16 (by decide) (fun c3 => ?_) (fun c3 => ?_)
      · have hf := z_t hf c3
        refine lv_iconst (v := (-1)) hx hb dX6_byteAt_32 (by decide) ?_
        exact z_reti C hr hs hf dX6_byteAt_33
      · have hf := z_f hf c3
        refine lv_aload_n hx hb dX6_byteAt_19 rfl (lv_at hl 0 rfl) ?_
        refine zg_T_bytes C hs (hB 31 (by decide) (by decide)) z_k32 dX6_byteAt_20 ?_
        refine lv_iload_n hx hb dX6_byteAt_23 rfl (lv_at hl 1 rfl) ?_
        obtain ⟨g4, hf⟩ := z_gd hf
        refine z_bald C hs (hB 32 (by decide) (by decide)) (z_c32 E _ _ _ _) g4 rfl dX6_byteAt_24 ?_
        refine lv_sipush (v := 255) hx hb dX6_byteAt_25 (by decide) ?_
        refine lv_iand hx hb dX6_byteAt_28 ?_
        refine lv_goto (tgt := 33) hx hb dX6_byteAt_29 (by decide) ?_
        exact z_reti C hr hs hf dX6_byteAt_33
set_option maxHeartbeats 4000000 in
set_option maxRecDepth 20000 in
theorem cT_byteAt (l : Launch) (E : zE) {x1 : Int32} (hB : z_B E) {σ σo : zS} {ro : Int32} (hf : fT_byteAt x1 σ = some (ro, σo)) : z_T l E yX6_byteAt cX6_byteAt 2 (some .int) (z_rm 1) (z_QI E ro σo) [.ref (z_ad E (31, 0, 0)), .int x1] σ :=
  z_enter (by decide) (Nat.le_of_ble_eq_true rfl) rfl (fun p e s m below meth c A ls C hr hs hl => wT_byteAt C hr hB σ _ _ ls hs hl hf)
def fT_isLetter (x1 : Int32) (σ : zS) : Option (Int32 × zS) :=
  z_bd (fT_byteAt x1 σ) (fun r1 σ1 =>
  if r1 < 97 then
    (some (0, σ1))
  else
    (if 122 < r1 then
      (some (0, σ1))
    else
      (some (1, σ1))))
set_option maxHeartbeats 4000000 in
set_option maxRecDepth 20000 in
theorem wT_isLetter {x1 : Int32} (C : z_C E RX6 cX6_isLetter 3 A p s m args meth c) (hr : meth.sig.returnType = (some .boolean)) (hB : z_B E) {ro : Int32} {σo : zS} (σ : zS) (H : Heap) (locs : List Loc) (ls : Array Slot) (hs : z_H E A s σ H locs) (hl : lv_has ls 3 [(0, .ref (z_ad E (31, 0, 0))), (1, .int x1)]) (hf : fT_isLetter x1 σ = some (ro, σo)) : W p l e (z_rm 2) s m args below meth c H locs 0 0 (MQ below (z_QI E ro σo A) args s 0 0 A) (F0 m 0 ls []) := by
  have hx := C.1
  have hb := C.2.1
  unfold fT_isLetter at hf
  refine lv_aload_n hx hb dX6_isLetter_0 rfl (lv_at hl 0 rfl) ?_
  refine lv_iload_n hx hb dX6_isLetter_1 rfl (lv_at hl 1 rfl) ?_
  obtain ⟨r1, σ1, h_1, hf⟩ := z_bds hf
  refine z_goI C hs (z_runV C hs hl.1 (cT_byteAt l E hB h_1) zcV_RX6_58 (hB 31 (by decide) (by decide)) (z_c31 E _ _ _ _) rfl rfl rfl (by decide) (Nat.le_of_ble_eq_true rfl) dX6_isLetter_2) (fun H locs hs => ?_)
  refine lv_istore_n (lv' := [(2, .int r1), (0, .ref (z_ad E (31, 0, 0))), (1, .int x1)]) hx hb dX6_isLetter_5 rfl hl (by decide) rfl (fun ls hl => ?_)
  refine lv_iload_n hx hb dX6_isLetter_6 rfl (lv_at hl 0 rfl) ?_
  refine lv_bipush (v := 97) hx hb dX6_isLetter_7 (by decide) ?_
  refine lv_icmp_lt (tgt := 22) hx hb dX6_isLetter_9 (by decide) (fun c2 => ?_) (fun c2 => ?_)
  · have hf := z_t hf c2
    refine lv_iconst (v := 0) hx hb dX6_isLetter_22 (by decide) ?_
    exact z_retz C hr hs (by decide +kernel) hf dX6_isLetter_23
  · have hf := z_f hf c2
    refine lv_iload_n hx hb dX6_isLetter_12 rfl (lv_at hl 0 rfl) ?_
    refine lv_bipush (v := 122) hx hb dX6_isLetter_13 (by decide) ?_
    refine lv_icmp_gt (tgt := 22) hx hb dX6_isLetter_15 (by decide) (fun c3 => ?_) (fun c3 => ?_)
    · have hf := z_t hf c3
      refine lv_iconst (v := 0) hx hb dX6_isLetter_22 (by decide) ?_
      exact z_retz C hr hs (by decide +kernel) hf dX6_isLetter_23
    · have hf := z_f hf c3
      refine lv_iconst (v := 1) hx hb dX6_isLetter_18 (by decide) ?_
      refine lv_goto (tgt := 23) hx hb dX6_isLetter_19 (by decide) ?_
      exact z_retz C hr hs (by decide +kernel) hf dX6_isLetter_23
set_option maxHeartbeats 4000000 in
set_option maxRecDepth 20000 in
theorem cT_isLetter (l : Launch) (E : zE) {x1 : Int32} (hB : z_B E) {σ σo : zS} {ro : Int32} (hf : fT_isLetter x1 σ = some (ro, σo)) : z_T l E yX6_isLetter cX6_isLetter 3 (some .boolean) (z_rm 2) (z_QI E ro σo) [.ref (z_ad E (31, 0, 0)), .int x1] σ :=
  z_enter (by decide) (Nat.le_of_ble_eq_true rfl) rfl (fun p e s m below meth c A ls C hr hs hl => wT_isLetter C hr hB σ _ _ ls hs hl hf)
def fT_isBlank (x1 : Int32) (σ : zS) : Option (Int32 × zS) :=
  z_bd (fT_byteAt x1 σ) (fun r1 σ1 =>
  if r1 = 32 then
    (some (1, σ1))
  else
    (if r1 = 10 then
      (some (1, σ1))
    else
      (some (0, σ1))))
set_option maxHeartbeats 4000000 in
set_option maxRecDepth 20000 in
theorem wT_isBlank {x1 : Int32} (C : z_C E RX6 cX6_isBlank 3 A p s m args meth c) (hr : meth.sig.returnType = (some .boolean)) (hB : z_B E) {ro : Int32} {σo : zS} (σ : zS) (H : Heap) (locs : List Loc) (ls : Array Slot) (hs : z_H E A s σ H locs) (hl : lv_has ls 3 [(0, .ref (z_ad E (31, 0, 0))), (1, .int x1)]) (hf : fT_isBlank x1 σ = some (ro, σo)) : W p l e (z_rm 2) s m args below meth c H locs 0 0 (MQ below (z_QI E ro σo A) args s 0 0 A) (F0 m 0 ls []) := by
  have hx := C.1
  have hb := C.2.1
  unfold fT_isBlank at hf
  refine lv_aload_n hx hb dX6_isBlank_0 rfl (lv_at hl 0 rfl) ?_
  refine lv_iload_n hx hb dX6_isBlank_1 rfl (lv_at hl 1 rfl) ?_
  obtain ⟨r1, σ1, h_1, hf⟩ := z_bds hf
  refine z_goI C hs (z_runV C hs hl.1 (cT_byteAt l E hB h_1) zcV_RX6_58 (hB 31 (by decide) (by decide)) (z_c31 E _ _ _ _) rfl rfl rfl (by decide) (Nat.le_of_ble_eq_true rfl) dX6_isBlank_2) (fun H locs hs => ?_)
  refine lv_istore_n (lv' := [(2, .int r1), (0, .ref (z_ad E (31, 0, 0))), (1, .int x1)]) hx hb dX6_isBlank_5 rfl hl (by decide) rfl (fun ls hl => ?_)
  refine lv_iload_n hx hb dX6_isBlank_6 rfl (lv_at hl 0 rfl) ?_
  refine lv_bipush (v := 32) hx hb dX6_isBlank_7 (by decide) ?_
  refine lv_icmp_eq (tgt := 18) hx hb dX6_isBlank_9 (by decide) (fun c2 => ?_) (fun c2 => ?_)
  · have hf := z_t hf c2
    refine lv_iconst (v := 1) hx hb dX6_isBlank_18 (by decide) ?_
    refine lv_goto (tgt := 23) hx hb dX6_isBlank_19 (by decide) ?_
    exact z_retz C hr hs (by decide +kernel) hf dX6_isBlank_23
  · have hf := z_f hf c2
    refine lv_iload_n hx hb dX6_isBlank_12 rfl (lv_at hl 0 rfl) ?_
    refine lv_bipush (v := 10) hx hb dX6_isBlank_13 (by decide) ?_
    refine lv_icmp_ne (tgt := 22) hx hb dX6_isBlank_15 (by decide) (fun c3 => ?_) (fun c3 => ?_)
    · have hf := z_f hf c3
      refine lv_iconst (v := 0) hx hb dX6_isBlank_22 (by decide) ?_
      exact z_retz C hr hs (by decide +kernel) hf dX6_isBlank_23
    · have hf := z_t hf c3
      refine lv_iconst (v := 1) hx hb dX6_isBlank_18 (by decide) ?_
      refine lv_goto (tgt := 23) hx hb dX6_isBlank_19 (by decide) ?_
      exact z_retz C hr hs (by decide +kernel) hf dX6_isBlank_23
set_option maxHeartbeats 4000000 in
set_option maxRecDepth 20000 in
theorem cT_isBlank (l : Launch) (E : zE) {x1 : Int32} (hB : z_B E) {σ σo : zS} {ro : Int32} (hf : fT_isBlank x1 σ = some (ro, σo)) : z_T l E yX6_isBlank cX6_isBlank 3 (some .boolean) (z_rm 2) (z_QI E ro σo) [.ref (z_ad E (31, 0, 0)), .int x1] σ :=
  z_enter (by decide) (Nat.le_of_ble_eq_true rfl) rfl (fun p e s m below meth c A ls C hr hs hl => wT_isBlank C hr hB σ _ _ ls hs hl hf)
def fT_endOfLetters_2 : Nat → Int32 → zS → Option (Int32 × zS)
  | 0, _, _ => none
  | n + 1, x2, σ =>
    if (σ.1 (31, 0, 0) 4) ≤ x2 then
      (some (x2, σ))
    else
      (z_bd (fT_isLetter x2 σ) (fun r2 σ2 =>
      if r2 = 0 then
        (some (x2, σ2))
      else
        (z_let (x2 + 1) (fun y4 =>
        fT_endOfLetters_2 n y4 σ2))))
def fT_endOfLetters (x1 : Int32) (σ : zS) : Option (Int32 × zS) :=
  fT_endOfLetters_2 z_fu x1 σ
set_option maxHeartbeats 4000000 in
set_option maxRecDepth 20000 in
theorem wT_endOfLetters_2 (C : z_C E RX6 cX6_endOfLetters 3 A p s m args meth c) (hr : meth.sig.returnType = (some .int)) (hB : z_B E) {ro : Int32} {σo : zS} (n : Nat) : ∀ (x2 : Int32) (σ : zS) (H : Heap) (locs : List Loc) (ls : Array Slot), z_H E A s σ H locs → lv_has ls 3 [(0, .ref (z_ad E (31, 0, 0))), (2, .int x2)] → fT_endOfLetters_2 n x2 σ = some (ro, σo) → W p l e (z_rm 3) s m args below meth c H locs 0 0 (MQ below (z_QI E ro σo A) args s 0 0 A) (F0 m 2 ls []) := by
  induction n with
  | zero =>
    intro x2 σ H locs ls hs hl hf
    have hf : none = some (ro, σo) := hf
    cases hf
  | succ n ih =>
    intro x2 σ H locs ls hs hl hf
    have hx := C.1
    have hb := C.2.1
    rw [fT_endOfLetters_2.eq_2] at hf
    refine lv_iload_n hx hb dX6_endOfLetters_2 rfl (lv_at hl 1 rfl) ?_
    refine lv_aload_n hx hb dX6_endOfLetters_3 rfl (lv_at hl 0 rfl) ?_
    refine zg_T_length C hs (hB 31 (by decide) (by decide)) z_k37 dX6_endOfLetters_4 ?_
    refine lv_icmp_ge (tgt := 24) hx hb dX6_endOfLetters_7 (by decide) (fun c1 => ?_) (fun c1 => ?_)
    · have hf := z_t hf c1
      refine lv_iload_n hx hb dX6_endOfLetters_24 rfl (lv_at hl 1 rfl) ?_
      exact z_reti C hr hs hf dX6_endOfLetters_25
    · have hf := z_f hf c1
      refine lv_aload_n hx hb dX6_endOfLetters_10 rfl (lv_at hl 0 rfl) ?_
      refine lv_iload_n hx hb dX6_endOfLetters_11 rfl (lv_at hl 1 rfl) ?_
      obtain ⟨r2, σ2, h_2, hf⟩ := z_bds hf
      refine z_goI C hs (z_runV C hs hl.1 (cT_isLetter l E hB h_2) zcV_RX6_71 (hB 31 (by decide) (by decide)) (z_c31 E _ _ _ _) rfl rfl rfl (by decide) (Nat.le_of_ble_eq_true rfl) dX6_endOfLetters_12) (fun H locs hs => ?_)
      refine lv_if_eq (tgt := 24) hx hb dX6_endOfLetters_15 (by decide) (fun c3 => ?_) (fun c3 => ?_)
      · have hf := z_t hf c3
        refine lv_iload_n hx hb dX6_endOfLetters_24 rfl (lv_at hl 1 rfl) ?_
        exact z_reti C hr hs hf dX6_endOfLetters_25
      · have hf := z_f hf c3
        obtain ⟨y4, e_y4⟩ : ∃ y : Int32, y = x2 + 1 := ⟨_, rfl⟩
        have hf := z_lte e_y4 hf
        refine lv_iinc (v := y4) (lv' := [(2, .int y4), (0, .ref (z_ad E (31, 0, 0)))]) hx hb dX6_endOfLetters_18 hl (k := 1) rfl (by rw [e_y4]; rfl) (by decide) rfl (fun ls hl => ?_)
        refine lv_goto (tgt := 2) hx hb dX6_endOfLetters_21 (by decide) ?_
        exact ih y4 σ2 _ _ _ hs (lv_sub hl [1, 0] rfl) hf
set_option maxHeartbeats 4000000 in
set_option maxRecDepth 20000 in
theorem wT_endOfLetters {x1 : Int32} (C : z_C E RX6 cX6_endOfLetters 3 A p s m args meth c) (hr : meth.sig.returnType = (some .int)) (hB : z_B E) {ro : Int32} {σo : zS} (σ : zS) (H : Heap) (locs : List Loc) (ls : Array Slot) (hs : z_H E A s σ H locs) (hl : lv_has ls 3 [(0, .ref (z_ad E (31, 0, 0))), (1, .int x1)]) (hf : fT_endOfLetters x1 σ = some (ro, σo)) : W p l e (z_rm 3) s m args below meth c H locs 0 0 (MQ below (z_QI E ro σo A) args s 0 0 A) (F0 m 0 ls []) := by
  have hx := C.1
  have hb := C.2.1
  unfold fT_endOfLetters at hf
  refine lv_iload_n hx hb dX6_endOfLetters_0 rfl (lv_at hl 1 rfl) ?_
  refine lv_istore_n (lv' := [(2, .int x1), (0, .ref (z_ad E (31, 0, 0))), (1, .int x1)]) hx hb dX6_endOfLetters_1 rfl hl (by decide) rfl (fun ls hl => ?_)
  exact wT_endOfLetters_2 C hr hB z_fu x1 σ _ _ _ hs (lv_sub hl [1, 0] rfl) hf
set_option maxHeartbeats 4000000 in
set_option maxRecDepth 20000 in
theorem cT_endOfLetters (l : Launch) (E : zE) {x1 : Int32} (hB : z_B E) {σ σo : zS} {ro : Int32} (hf : fT_endOfLetters x1 σ = some (ro, σo)) : z_T l E yX6_endOfLetters cX6_endOfLetters 3 (some .int) (z_rm 3) (z_QI E ro σo) [.ref (z_ad E (31, 0, 0)), .int x1] σ :=
  z_enter (by decide) (Nat.le_of_ble_eq_true rfl) rfl (fun p e s m below meth c A ls C hr hs hl => wT_endOfLetters C hr hB σ _ _ ls hs hl hf)
def fT_findToken_115 (σ : zS) : Option (Int32 × zS) :=
  z_bd (fT_blame 1 (σ.1 (31, 0, 0) 8) σ) (fun _ σ9 =>
  some (0, σ9))
def fT_findToken_87 (t1 : Int32) (σ : zS) : Option (Int32 × zS) :=
  z_let (z_up σ (31, 0, 0) 9 t1) (fun σ7 =>
  if (σ7.1 (31, 0, 0) 9) = (σ7.1 (31, 0, 0) 8) then
    (fT_findToken_115 σ7)
  else
    (if ((σ7.1 (31, 0, 0) 9) - (σ7.1 (31, 0, 0) 8)) ≤ 8 then
      (some (1, σ7))
    else
      (fT_findToken_115 σ7)))
def fT_findToken_43 (σ : zS) : Option (Int32 × zS) :=
  if (σ.1 (31, 0, 0) 8) < (σ.1 (31, 0, 0) 4) then
    (z_bd (fT_byteAt (σ.1 (31, 0, 0) 8) σ) (fun r4 σ4 =>
    if r4 = 59 then
      (fT_findToken_87 ((σ4.1 (31, 0, 0) 8) + 1) σ4)
    else
      (z_bd (fT_endOfLetters (σ4.1 (31, 0, 0) 8) σ4) (fun r6 σ6 =>
      fT_findToken_87 r6 σ6))))
  else
    (some (0, σ))
def fT_findToken_8 : Nat → zS → Option (Int32 × zS)
  | 0, _ => none
  | n + 1, σ =>
    if (σ.1 (31, 0, 0) 4) ≤ (σ.1 (31, 0, 0) 8) then
      (fT_findToken_43 σ)
    else
      (z_bd (fT_isBlank (σ.1 (31, 0, 0) 8) σ) (fun r11 σ11 =>
      if r11 = 0 then
        (fT_findToken_43 σ11)
      else
        (z_let (z_up σ11 (31, 0, 0) 8 ((σ11.1 (31, 0, 0) 8) + 1)) (fun σ13 =>
        fT_findToken_8 n σ13))))
def fT_findToken (σ : zS) : Option (Int32 × zS) :=
  z_let (z_up σ (31, 0, 0) 8 (σ.1 (31, 0, 0) 9)) (fun σ1 =>
  fT_findToken_8 z_fu σ1)
set_option maxHeartbeats 4000000 in
set_option maxRecDepth 20000 in
theorem wT_findToken_115 (C : z_C E RX6 cX6_findToken 1 A p s m args meth c) (hr : meth.sig.returnType = (some .boolean)) (hB : z_B E) {ro : Int32} {σo : zS} (σ : zS) (H : Heap) (locs : List Loc) (ls : Array Slot) (hs : z_H E A s σ H locs) (hl : lv_has ls 1 [(0, .ref (z_ad E (31, 0, 0)))]) (hf : fT_findToken_115 σ = some (ro, σo)) : W p l e (z_rm 4) s m args below meth c H locs 0 0 (MQ below (z_QI E ro σo A) args s 0 0 A) (F0 m 115 ls []) := by
  have hx := C.1
  have hb := C.2.1
  unfold fT_findToken_115 at hf
  refine lv_aload_n hx hb dX6_findToken_115 rfl (lv_at hl 0 rfl) ?_
  refine lv_iconst (v := 1) hx hb dX6_findToken_116 (by decide) ?_
  refine lv_aload_n hx hb dX6_findToken_117 rfl (lv_at hl 0 rfl) ?_
  refine zg_T_tokenAt C hs (hB 31 (by decide) (by decide)) z_k45 dX6_findToken_118 ?_
  obtain ⟨r9, σ9, h_9, hf⟩ := z_bds hf
  refine z_goV C hs (z_runV C hs hl.1 (cT_blame l E hB h_9) zcV_RX6_50 (hB 31 (by decide) (by decide)) (z_c31 E _ _ _ _) rfl rfl rfl (by decide) (Nat.le_of_ble_eq_true rfl) dX6_findToken_121) (fun H locs hs => ?_)
  refine lv_iconst (v := 0) hx hb dX6_findToken_124 (by decide) ?_
  exact z_retz C hr hs (by decide +kernel) hf dX6_findToken_125
set_option maxHeartbeats 4000000 in
set_option maxRecDepth 20000 in
theorem wT_findToken_87 (C : z_C E RX6 cX6_findToken 1 A p s m args meth c) (hr : meth.sig.returnType = (some .boolean)) (hB : z_B E) {ro : Int32} {σo : zS} (t1 : Int32) (σ : zS) (H : Heap) (locs : List Loc) (ls : Array Slot) (hs : z_H E A s σ H locs) (hl : lv_has ls 1 [(0, .ref (z_ad E (31, 0, 0)))]) (hf : fT_findToken_87 t1 σ = some (ro, σo)) : W p l e (z_rm 4) s m args below meth c H locs 0 0 (MQ below (z_QI E ro σo A) args s 0 0 A) (F0 m 87 ls [.int t1, .ref (z_ad E (31, 0, 0))]) := by
  have hx := C.1
  have hb := C.2.1
  unfold fT_findToken_87 at hf
  refine zp_T_tokenEnd C hs (hB 31 (by decide) (by decide)) z_k46 dX6_findToken_87 (fun H locs hs => ?_)
  obtain ⟨σ7, -, hs, hf⟩ := z_top hs hf
  refine lv_aload_n hx hb dX6_findToken_90 rfl (lv_at hl 0 rfl) ?_
  refine zg_T_tokenEnd C hs (hB 31 (by decide) (by decide)) z_k46 dX6_findToken_91 ?_
  refine lv_aload_n hx hb dX6_findToken_94 rfl (lv_at hl 0 rfl) ?_
  refine zg_T_tokenAt C hs (hB 31 (by decide) (by decide)) z_k45 dX6_findToken_95 ?_
  refine lv_icmp_eq (tgt := 115) hx hb dX6_findToken_98 (by decide) (fun c8 => ?_) (fun c8 => ?_)
  · have hf := z_t hf c8
    exact wT_findToken_115 C hr hB σ7 _ _ _ hs (lv_sub hl [0] rfl) hf
  · have hf := z_f hf c8
    refine lv_aload_n hx hb dX6_findToken_101 rfl (lv_at hl 0 rfl) ?_
    refine zg_T_tokenEnd C hs (hB 31 (by decide) (by decide)) z_k46 dX6_findToken_102 ?_
    refine lv_aload_n hx hb dX6_findToken_105 rfl (lv_at hl 0 rfl) ?_
    refine zg_T_tokenAt C hs (hB 31 (by decide) (by decide)) z_k45 dX6_findToken_106 ?_
    refine lv_isub hx hb dX6_findToken_109 ?_
    refine lv_bipush (v := 8) hx hb dX6_findToken_110 (by decide) ?_
    refine lv_icmp_le (tgt := 126) hx hb dX6_findToken_112 (by decide) (fun c10 => ?_) (fun c10 => ?_)
    · have hf := z_t hf c10
      refine lv_iconst (v := 1) hx hb dX6_findToken_126 (by decide) ?_
      exact z_retz C hr hs (by decide +kernel) hf dX6_findToken_127
    · have hf := z_f hf c10
      exact wT_findToken_115 C hr hB σ7 _ _ _ hs (lv_sub hl [0] rfl) hf
set_option maxHeartbeats 4000000 in
set_option maxRecDepth 20000 in
theorem wT_findToken_43 (C : z_C E RX6 cX6_findToken 1 A p s m args meth c) (hr : meth.sig.returnType = (some .boolean)) (hB : z_B E) {ro : Int32} {σo : zS} (σ : zS) (H : Heap) (locs : List Loc) (ls : Array Slot) (hs : z_H E A s σ H locs) (hl : lv_has ls 1 [(0, .ref (z_ad E (31, 0, 0)))]) (hf : fT_findToken_43 σ = some (ro, σo)) : W p l e (z_rm 4) s m args below meth c H locs 0 0 (MQ below (z_QI E ro σo A) args s 0 0 A) (F0 m 43 ls []) := by
  have hx := C.1
  have hb := C.2.1
  unfold fT_findToken_43 at hf
  refine lv_aload_n hx hb dX6_findToken_43 rfl (lv_at hl 0 rfl) ?_
  refine zg_T_tokenAt C hs (hB 31 (by decide) (by decide)) z_k45 dX6_findToken_44 ?_
  refine lv_aload_n hx hb dX6_findToken_47 rfl (lv_at hl 0 rfl) ?_
  refine zg_T_length C hs (hB 31 (by decide) (by decide)) z_k37 dX6_findToken_48 ?_
  refine lv_icmp_lt (tgt := 56) hx hb dX6_findToken_51 (by decide) (fun c3 => ?_) (fun c3 => ?_)
  · have hf := z_t hf c3
    refine lv_aload_n hx hb dX6_findToken_56 rfl (lv_at hl 0 rfl) ?_
    refine lv_aload_n hx hb dX6_findToken_57 rfl (lv_at hl 0 rfl) ?_
    refine lv_aload_n hx hb dX6_findToken_58 rfl (lv_at hl 0 rfl) ?_
    refine zg_T_tokenAt C hs (hB 31 (by decide) (by decide)) z_k45 dX6_findToken_59 ?_
    obtain ⟨r4, σ4, h_4, hf⟩ := z_bds hf
    refine z_goI C hs (z_runV C hs hl.1 (cT_byteAt l E hB h_4) zcV_RX6_58 (hB 31 (by decide) (by decide)) (z_c31 E _ _ _ _) rfl rfl rfl (by decide) (Nat.le_of_ble_eq_true rfl) dX6_findToken_62) (fun H locs hs => ?_)
    refine lv_bipush (v := 59) hx hb dX6_findToken_65 (by decide) ?_
    refine lv_icmp_ne (tgt := 79) hx hb dX6_findToken_67 (by decide) (fun c5 => ?_) (fun c5 => ?_)
    · have hf := z_f hf c5
      refine lv_aload_n hx hb dX6_findToken_79 rfl (lv_at hl 0 rfl) ?_
      refine lv_aload_n hx hb dX6_findToken_80 rfl (lv_at hl 0 rfl) ?_
      refine zg_T_tokenAt C hs (hB 31 (by decide) (by decide)) z_k45 dX6_findToken_81 ?_
      obtain ⟨r6, σ6, h_6, hf⟩ := z_bds hf
      refine z_goI C hs (z_runV C hs hl.1 (cT_endOfLetters l E hB h_6) zcV_RX6_68 (hB 31 (by decide) (by decide)) (z_c31 E _ _ _ _) rfl rfl rfl (by decide) (Nat.le_of_ble_eq_true rfl) dX6_findToken_84) (fun H locs hs => ?_)
      exact wT_findToken_87 C hr hB r6 σ6 _ _ _ hs (lv_sub hl [0] rfl) hf
    · have hf := z_t hf c5
      refine lv_aload_n hx hb dX6_findToken_70 rfl (lv_at hl 0 rfl) ?_
      refine zg_T_tokenAt C hs (hB 31 (by decide) (by decide)) z_k45 dX6_findToken_71 ?_
      refine lv_iconst (v := 1) hx hb dX6_findToken_74 (by decide) ?_
      refine lv_iadd hx hb dX6_findToken_75 ?_
      refine lv_goto (tgt := 87) hx hb dX6_findToken_76 (by decide) ?_
      exact wT_findToken_87 C hr hB ((σ4.1 (31, 0, 0) 8) + 1) σ4 _ _ _ hs (lv_sub hl [0] rfl) hf
  · have hf := z_f hf c3
    refine lv_iconst (v := 0) hx hb dX6_findToken_54 (by decide) ?_
    exact z_retz C hr hs (by decide +kernel) hf dX6_findToken_55
set_option maxHeartbeats 4000000 in
set_option maxRecDepth 20000 in
theorem wT_findToken_8 (C : z_C E RX6 cX6_findToken 1 A p s m args meth c) (hr : meth.sig.returnType = (some .boolean)) (hB : z_B E) {ro : Int32} {σo : zS} (n : Nat) : ∀ (σ : zS) (H : Heap) (locs : List Loc) (ls : Array Slot), z_H E A s σ H locs → lv_has ls 1 [(0, .ref (z_ad E (31, 0, 0)))] → fT_findToken_8 n σ = some (ro, σo) → W p l e (z_rm 4) s m args below meth c H locs 0 0 (MQ below (z_QI E ro σo A) args s 0 0 A) (F0 m 8 ls []) := by
  induction n with
  | zero =>
    intro σ H locs ls hs hl hf
    have hf : none = some (ro, σo) := hf
    cases hf
  | succ n ih =>
    intro σ H locs ls hs hl hf
    have hx := C.1
    have hb := C.2.1
    rw [fT_findToken_8.eq_2] at hf
    refine lv_aload_n hx hb dX6_findToken_8 rfl (lv_at hl 0 rfl) ?_
    refine zg_T_tokenAt C hs (hB 31 (by decide) (by decide)) z_k45 dX6_findToken_9 ?_
    refine lv_aload_n hx hb dX6_findToken_12 rfl (lv_at hl 0 rfl) ?_
    refine zg_T_length C hs (hB 31 (by decide) (by decide)) z_k37 dX6_findToken_13 ?_
    refine lv_icmp_ge (tgt := 43) hx hb dX6_findToken_16 (by decide) (fun c2 => ?_) (fun c2 => ?_)
    · have hf := z_t hf c2
      exact wT_findToken_43 C hr hB σ _ _ _ hs (lv_sub hl [0] rfl) hf
    · have hf := z_f hf c2
      refine lv_aload_n hx hb dX6_findToken_19 rfl (lv_at hl 0 rfl) ?_
      refine lv_aload_n hx hb dX6_findToken_20 rfl (lv_at hl 0 rfl) ?_
      refine zg_T_tokenAt C hs (hB 31 (by decide) (by decide)) z_k45 dX6_findToken_21 ?_
      obtain ⟨r11, σ11, h_11, hf⟩ := z_bds hf
      refine z_goI C hs (z_runV C hs hl.1 (cT_isBlank l E hB h_11) zcV_RX6_64 (hB 31 (by decide) (by decide)) (z_c31 E _ _ _ _) rfl rfl rfl (by decide) (Nat.le_of_ble_eq_true rfl) dX6_findToken_24) (fun H locs hs => ?_)
      refine lv_if_eq (tgt := 43) hx hb dX6_findToken_27 (by decide) (fun c12 => ?_) (fun c12 => ?_)
      · have hf := z_t hf c12
        exact wT_findToken_43 C hr hB σ11 _ _ _ hs (lv_sub hl [0] rfl) hf
      · have hf := z_f hf c12
        refine lv_aload_n hx hb dX6_findToken_30 rfl (lv_at hl 0 rfl) ?_
        refine lv_dup hx hb dX6_findToken_31 rfl ?_
        refine zg_T_tokenAt C hs (hB 31 (by decide) (by decide)) z_k45 dX6_findToken_32 ?_
        refine lv_iconst (v := 1) hx hb dX6_findToken_35 (by decide) ?_
        refine lv_iadd hx hb dX6_findToken_36 ?_
        refine zp_T_tokenAt C hs (hB 31 (by decide) (by decide)) z_k45 dX6_findToken_37 (fun H locs hs => ?_)
        obtain ⟨σ13, -, hs, hf⟩ := z_top hs hf
        refine lv_goto (tgt := 8) hx hb dX6_findToken_40 (by decide) ?_
        exact ih σ13 _ _ _ hs (lv_sub hl [0] rfl) hf
set_option maxHeartbeats 4000000 in
set_option maxRecDepth 20000 in
theorem wT_findToken (C : z_C E RX6 cX6_findToken 1 A p s m args meth c) (hr : meth.sig.returnType = (some .boolean)) (hB : z_B E) {ro : Int32} {σo : zS} (σ : zS) (H : Heap) (locs : List Loc) (ls : Array Slot) (hs : z_H E A s σ H locs) (hl : lv_has ls 1 [(0, .ref (z_ad E (31, 0, 0)))]) (hf : fT_findToken σ = some (ro, σo)) : W p l e (z_rm 4) s m args below meth c H locs 0 0 (MQ below (z_QI E ro σo A) args s 0 0 A) (F0 m 0 ls []) := by
  have hx := C.1
  have hb := C.2.1
  unfold fT_findToken at hf
  refine lv_aload_n hx hb dX6_findToken_0 rfl (lv_at hl 0 rfl) ?_
  refine lv_aload_n hx hb dX6_findToken_1 rfl (lv_at hl 0 rfl) ?_
  refine zg_T_tokenEnd C hs (hB 31 (by decide) (by decide)) z_k46 dX6_findToken_2 ?_
  refine zp_T_tokenAt C hs (hB 31 (by decide) (by decide)) z_k45 dX6_findToken_5 (fun H locs hs => ?_)
  obtain ⟨σ1, -, hs, hf⟩ := z_top hs hf
  exact wT_findToken_8 C hr hB z_fu σ1 _ _ _ hs (lv_sub hl [0] rfl) hf
set_option maxHeartbeats 4000000 in
set_option maxRecDepth 20000 in
theorem cT_findToken (l : Launch) (E : zE) (hB : z_B E) {σ σo : zS} {ro : Int32} (hf : fT_findToken σ = some (ro, σo)) : z_T l E yX6_findToken cX6_findToken 1 (some .boolean) (z_rm 4) (z_QI E ro σo) [.ref (z_ad E (31, 0, 0))] σ :=
  z_enter (by decide) (Nat.le_of_ble_eq_true rfl) rfl (fun p e s m below meth c A ls C hr hs hl => wT_findToken C hr hB σ _ _ ls hs hl hf)
def fT_tokenIsName_26 : Nat → Int32 → Int32 → Int32 → zS → Option (Int32 × zS)
  | 0, _, _, _, _ => none
  | n + 1, x1, x2, x3, σ =>
    if x2 = 0 then
      (if z_b01 x2 = true then (
      some (x2, σ)) else none)
    else
      (if z_in x1 7 = true then (
      if (σ.1 (34, 0, 0) x1.toNatClampNeg) ≤ x3 then
        (if z_b01 x2 = true then (
        some (x2, σ)) else none)
      else
        (z_bd (fT_byteAt ((σ.1 (31, 0, 0) 8) + x3) σ) (fun r8 σ8 =>
        if z_in x1 7 = true then (
        z_bd (fT_byteAt ((σ8.1 (33, 0, 0) x1.toNatClampNeg) + x3) σ8) (fun r10 σ10 =>
        if r8 = r10 then
          (z_let (x3 + 1) (fun y13 =>
          fT_tokenIsName_26 n x1 1 y13 σ10))
        else
          (z_let (x3 + 1) (fun y12 =>
          fT_tokenIsName_26 n x1 0 y12 σ10)))) else none))) else none)
def fT_tokenIsName (x1 : Int32) (σ : zS) : Option (Int32 × zS) :=
  if z_in x1 7 = true then (
  if (σ.1 (34, 0, 0) x1.toNatClampNeg) = ((σ.1 (31, 0, 0) 9) - (σ.1 (31, 0, 0) 8)) then
    (fT_tokenIsName_26 z_fu x1 1 0 σ)
  else
    (fT_tokenIsName_26 z_fu x1 0 0 σ)) else none
set_option maxHeartbeats 4000000 in
set_option maxRecDepth 20000 in
theorem wT_tokenIsName_26 (C : z_C E RX6 cX6_tokenIsName 4 A p s m args meth c) (hr : meth.sig.returnType = (some .boolean)) (hB : z_B E) {ro : Int32} {σo : zS} (n : Nat) : ∀ (x1 : Int32) (x2 : Int32) (x3 : Int32) (σ : zS) (H : Heap) (locs : List Loc) (ls : Array Slot), z_H E A s σ H locs → lv_has ls 4 [(0, .ref (z_ad E (31, 0, 0))), (1, .int x1), (2, .int x2), (3, .int x3)] → fT_tokenIsName_26 n x1 x2 x3 σ = some (ro, σo) → W p l e (z_rm 2) s m args below meth c H locs 0 0 (MQ below (z_QI E ro σo A) args s 0 0 A) (F0 m 26 ls []) := by
  induction n with
  | zero =>
    intro x1 x2 x3 σ H locs ls hs hl hf
    have hf : none = some (ro, σo) := hf
    cases hf
  | succ n ih =>
    intro x1 x2 x3 σ H locs ls hs hl hf
    have hx := C.1
    have hb := C.2.1
    rw [fT_tokenIsName_26.eq_2] at hf
    refine lv_iload_n hx hb dX6_tokenIsName_26 rfl (lv_at hl 2 rfl) ?_
    refine lv_if_eq (tgt := 77) hx hb dX6_tokenIsName_27 (by decide) (fun c3 => ?_) (fun c3 => ?_)
    · have hf := z_t hf c3
      refine lv_iload_n hx hb dX6_tokenIsName_77 rfl (lv_at hl 2 rfl) ?_
      obtain ⟨g4, hf⟩ := z_gd hf
      exact z_retz C hr hs g4 hf dX6_tokenIsName_78
    · have hf := z_f hf c3
      refine lv_iload_n hx hb dX6_tokenIsName_30 rfl (lv_at hl 3 rfl) ?_
      refine lv_aload_n hx hb dX6_tokenIsName_31 rfl (lv_at hl 0 rfl) ?_
      refine zg_T_nameLength C hs (hB 31 (by decide) (by decide)) z_k34 dX6_tokenIsName_32 ?_
      refine lv_iload_n hx hb dX6_tokenIsName_35 rfl (lv_at hl 1 rfl) ?_
      obtain ⟨g5, hf⟩ := z_gd hf
      refine z_ald C hs (hB 34 (by decide) (by decide)) (z_c34 E _ _ _ _) g5 rfl dX6_tokenIsName_36 ?_
      refine lv_icmp_ge (tgt := 77) hx hb dX6_tokenIsName_37 (by decide) (fun c6 => ?_) (fun c6 => ?_)
      · have hf := z_t hf c6
        refine lv_iload_n hx hb dX6_tokenIsName_77 rfl (lv_at hl 2 rfl) ?_
        obtain ⟨g7, hf⟩ := z_gd hf
        exact z_retz C hr hs g7 hf dX6_tokenIsName_78
      · have hf := z_f hf c6
        refine lv_aload_n hx hb dX6_tokenIsName_40 rfl (lv_at hl 0 rfl) ?_
        refine lv_aload_n hx hb dX6_tokenIsName_41 rfl (lv_at hl 0 rfl) ?_
        refine zg_T_tokenAt C hs (hB 31 (by decide) (by decide)) z_k45 dX6_tokenIsName_42 ?_
        refine lv_iload_n hx hb dX6_tokenIsName_45 rfl (lv_at hl 3 rfl) ?_
        refine lv_iadd hx hb dX6_tokenIsName_46 ?_
        obtain ⟨r8, σ8, h_8, hf⟩ := z_bds hf
        refine z_goI C hs (z_runV C hs hl.1 (cT_byteAt l E hB h_8) zcV_RX6_58 (hB 31 (by decide) (by decide)) (z_c31 E _ _ _ _) rfl rfl rfl (by decide) (Nat.le_of_ble_eq_true rfl) dX6_tokenIsName_47) (fun H locs hs => ?_)
        refine lv_aload_n hx hb dX6_tokenIsName_50 rfl (lv_at hl 0 rfl) ?_
        refine lv_aload_n hx hb dX6_tokenIsName_51 rfl (lv_at hl 0 rfl) ?_
        refine zg_T_nameAt C hs (hB 31 (by decide) (by decide)) z_k33 dX6_tokenIsName_52 ?_
        refine lv_iload_n hx hb dX6_tokenIsName_55 rfl (lv_at hl 1 rfl) ?_
        obtain ⟨g9, hf⟩ := z_gd hf
        refine z_ald C hs (hB 33 (by decide) (by decide)) (z_c33 E _ _ _ _) g9 rfl dX6_tokenIsName_56 ?_
        refine lv_iload_n hx hb dX6_tokenIsName_57 rfl (lv_at hl 3 rfl) ?_
        refine lv_iadd hx hb dX6_tokenIsName_58 ?_
        obtain ⟨r10, σ10, h_10, hf⟩ := z_bds hf
        refine z_goI C hs (z_runV C hs hl.1 (cT_byteAt l E hB h_10) zcV_RX6_58 (hB 31 (by decide) (by decide)) (z_c31 E _ _ _ _) rfl rfl rfl (by decide) (Nat.le_of_ble_eq_true rfl) dX6_tokenIsName_59) (fun H locs hs => ?_)
        refine lv_icmp_ne (tgt := 69) hx hb dX6_tokenIsName_62 (by decide) (fun c11 => ?_) (fun c11 => ?_)
        · have hf := z_f hf c11
          refine lv_iconst (v := 0) hx hb dX6_tokenIsName_69 (by decide) ?_
          refine lv_istore_n (lv' := [(2, .int 0), (0, .ref (z_ad E (31, 0, 0))), (1, .int x1), (3, .int x3)]) hx hb dX6_tokenIsName_70 rfl hl (by decide) rfl (fun ls hl => ?_)
          obtain ⟨y12, e_y12⟩ : ∃ y : Int32, y = x3 + 1 := ⟨_, rfl⟩
          have hf := z_lte e_y12 hf
          refine lv_iinc (v := y12) (lv' := [(3, .int y12), (2, .int 0), (0, .ref (z_ad E (31, 0, 0))), (1, .int x1)]) hx hb dX6_tokenIsName_71 hl (k := 3) rfl (by rw [e_y12]; rfl) (by decide) rfl (fun ls hl => ?_)
          refine lv_goto (tgt := 26) hx hb dX6_tokenIsName_74 (by decide) ?_
          exact ih x1 0 y12 σ10 _ _ _ hs (lv_sub hl [2, 3, 1, 0] rfl) hf
        · have hf := z_t hf c11
          refine lv_iconst (v := 1) hx hb dX6_tokenIsName_65 (by decide) ?_
          refine lv_goto (tgt := 70) hx hb dX6_tokenIsName_66 (by decide) ?_
          refine lv_istore_n (lv' := [(2, .int 1), (0, .ref (z_ad E (31, 0, 0))), (1, .int x1), (3, .int x3)]) hx hb dX6_tokenIsName_70 rfl hl (by decide) rfl (fun ls hl => ?_)
          obtain ⟨y13, e_y13⟩ : ∃ y : Int32, y = x3 + 1 := ⟨_, rfl⟩
          have hf := z_lte e_y13 hf
          refine lv_iinc (v := y13) (lv' := [(3, .int y13), (2, .int 1), (0, .ref (z_ad E (31, 0, 0))), (1, .int x1)]) hx hb dX6_tokenIsName_71 hl (k := 3) rfl (by rw [e_y13]; rfl) (by decide) rfl (fun ls hl => ?_)
          refine lv_goto (tgt := 26) hx hb dX6_tokenIsName_74 (by decide) ?_
          exact ih x1 1 y13 σ10 _ _ _ hs (lv_sub hl [2, 3, 1, 0] rfl) hf
set_option maxHeartbeats 4000000 in
set_option maxRecDepth 20000 in
theorem wT_tokenIsName {x1 : Int32} (C : z_C E RX6 cX6_tokenIsName 4 A p s m args meth c) (hr : meth.sig.returnType = (some .boolean)) (hB : z_B E) {ro : Int32} {σo : zS} (σ : zS) (H : Heap) (locs : List Loc) (ls : Array Slot) (hs : z_H E A s σ H locs) (hl : lv_has ls 4 [(0, .ref (z_ad E (31, 0, 0))), (1, .int x1)]) (hf : fT_tokenIsName x1 σ = some (ro, σo)) : W p l e (z_rm 2) s m args below meth c H locs 0 0 (MQ below (z_QI E ro σo A) args s 0 0 A) (F0 m 0 ls []) := by
  have hx := C.1
  have hb := C.2.1
  unfold fT_tokenIsName at hf
  refine lv_aload_n hx hb dX6_tokenIsName_0 rfl (lv_at hl 0 rfl) ?_
  refine zg_T_nameLength C hs (hB 31 (by decide) (by decide)) z_k34 dX6_tokenIsName_1 ?_
  refine lv_iload_n hx hb dX6_tokenIsName_4 rfl (lv_at hl 1 rfl) ?_
  obtain ⟨g1, hf⟩ := z_gd hf
  refine z_ald C hs (hB 34 (by decide) (by decide)) (z_c34 E _ _ _ _) g1 rfl dX6_tokenIsName_5 ?_
  refine lv_aload_n hx hb dX6_tokenIsName_6 rfl (lv_at hl 0 rfl) ?_
  refine zg_T_tokenEnd C hs (hB 31 (by decide) (by decide)) z_k46 dX6_tokenIsName_7 ?_
  refine lv_aload_n hx hb dX6_tokenIsName_10 rfl (lv_at hl 0 rfl) ?_
  refine zg_T_tokenAt C hs (hB 31 (by decide) (by decide)) z_k45 dX6_tokenIsName_11 ?_
  refine lv_isub hx hb dX6_tokenIsName_14 ?_
  refine lv_icmp_ne (tgt := 22) hx hb dX6_tokenIsName_15 (by decide) (fun c2 => ?_) (fun c2 => ?_)
  · have hf := z_f hf c2
    refine lv_iconst (v := 0) hx hb dX6_tokenIsName_22 (by decide) ?_
    refine lv_istore_n (lv' := [(2, .int 0), (0, .ref (z_ad E (31, 0, 0))), (1, .int x1)]) hx hb dX6_tokenIsName_23 rfl hl (by decide) rfl (fun ls hl => ?_)
    refine lv_iconst (v := 0) hx hb dX6_tokenIsName_24 (by decide) ?_
    refine lv_istore_n (lv' := [(3, .int 0), (2, .int 0), (0, .ref (z_ad E (31, 0, 0))), (1, .int x1)]) hx hb dX6_tokenIsName_25 rfl hl (by decide) rfl (fun ls hl => ?_)
    exact wT_tokenIsName_26 C hr hB z_fu x1 0 0 σ _ _ _ hs (lv_sub hl [2, 3, 1, 0] rfl) hf
  · have hf := z_t hf c2
    refine lv_iconst (v := 1) hx hb dX6_tokenIsName_18 (by decide) ?_
    refine lv_goto (tgt := 23) hx hb dX6_tokenIsName_19 (by decide) ?_
    refine lv_istore_n (lv' := [(2, .int 1), (0, .ref (z_ad E (31, 0, 0))), (1, .int x1)]) hx hb dX6_tokenIsName_23 rfl hl (by decide) rfl (fun ls hl => ?_)
    refine lv_iconst (v := 0) hx hb dX6_tokenIsName_24 (by decide) ?_
    refine lv_istore_n (lv' := [(3, .int 0), (2, .int 1), (0, .ref (z_ad E (31, 0, 0))), (1, .int x1)]) hx hb dX6_tokenIsName_25 rfl hl (by decide) rfl (fun ls hl => ?_)
    exact wT_tokenIsName_26 C hr hB z_fu x1 1 0 σ _ _ _ hs (lv_sub hl [2, 3, 1, 0] rfl) hf
set_option maxHeartbeats 4000000 in
set_option maxRecDepth 20000 in
theorem cT_tokenIsName (l : Launch) (E : zE) {x1 : Int32} (hB : z_B E) {σ σo : zS} {ro : Int32} (hf : fT_tokenIsName x1 σ = some (ro, σo)) : z_T l E yX6_tokenIsName cX6_tokenIsName 4 (some .boolean) (z_rm 2) (z_QI E ro σo) [.ref (z_ad E (31, 0, 0)), .int x1] σ :=
  z_enter (by decide) (Nat.le_of_ble_eq_true rfl) rfl (fun p e s m below meth c A ls C hr hs hl => wT_tokenIsName C hr hB σ _ _ ls hs hl hf)
def fT_takeName_2 : Nat → Int32 → zS → Option (Unit × zS)
  | 0, _, _ => none
  | n + 1, x1, σ =>
    if (σ.1 (31, 0, 0) 5) ≤ x1 then
      (if 7 ≤ (σ.1 (31, 0, 0) 5) then
        (some ((), σ))
      else
        (if z_in (σ.1 (31, 0, 0) 5) 7 = true then (
        z_let (z_up σ (33, 0, 0) ((σ.1 (31, 0, 0) 5).toNatClampNeg) (σ.1 (31, 0, 0) 8)) (fun σ4 =>
        if z_in (σ4.1 (31, 0, 0) 5) 7 = true then (
        z_let (z_up σ4 (34, 0, 0) ((σ4.1 (31, 0, 0) 5).toNatClampNeg) ((σ4.1 (31, 0, 0) 9) - (σ4.1 (31, 0, 0) 8))) (fun σ6 =>
        if z_in (σ6.1 (31, 0, 0) 5) 7 = true then (
        z_let (z_up σ6 (35, 0, 0) ((σ6.1 (31, 0, 0) 5).toNatClampNeg) (vp_nar .boolean 0)) (fun σ8 =>
        z_let (z_up σ8 (31, 0, 0) 5 ((σ8.1 (31, 0, 0) 5) + 1)) (fun σ9 =>
        some ((), σ9)))) else none)) else none)) else none))
    else
      (z_bd (fT_tokenIsName x1 σ) (fun r10 σ10 =>
      if r10 = 0 then
        (z_let (x1 + 1) (fun y12 =>
        fT_takeName_2 n y12 σ10))
      else
        (z_bd (fT_blame 3 (σ10.1 (31, 0, 0) 8) σ10) (fun _ σ13 =>
        some ((), σ13)))))
def fT_takeName (σ : zS) : Option (Unit × zS) :=
  fT_takeName_2 z_fu 0 σ
set_option maxHeartbeats 4000000 in
set_option maxRecDepth 20000 in
theorem wT_takeName_2 (C : z_C E RX6 cX6_takeName 2 A p s m args meth c) (hr : meth.sig.returnType = none) (hB : z_B E) {ro : Unit} {σo : zS} (n : Nat) : ∀ (x1 : Int32) (σ : zS) (H : Heap) (locs : List Loc) (ls : Array Slot), z_H E A s σ H locs → lv_has ls 2 [(0, .ref (z_ad E (31, 0, 0))), (1, .int x1)] → fT_takeName_2 n x1 σ = some (ro, σo) → W p l e (z_rm 3) s m args below meth c H locs 0 0 (MQ below (z_QV E ro σo A) args s 0 0 A) (F0 m 2 ls []) := by
  induction n with
  | zero =>
    intro x1 σ H locs ls hs hl hf
    have hf : none = some (ro, σo) := hf
    cases hf
  | succ n ih =>
    intro x1 σ H locs ls hs hl hf
    have hx := C.1
    have hb := C.2.1
    rw [fT_takeName_2.eq_2] at hf
    refine lv_iload_n hx hb dX6_takeName_2 rfl (lv_at hl 1 rfl) ?_
    refine lv_aload_n hx hb dX6_takeName_3 rfl (lv_at hl 0 rfl) ?_
    refine zg_T_told C hs (hB 31 (by decide) (by decide)) z_k40 dX6_takeName_4 ?_
    refine lv_icmp_ge (tgt := 34) hx hb dX6_takeName_7 (by decide) (fun c1 => ?_) (fun c1 => ?_)
    · have hf := z_t hf c1
      refine lv_aload_n hx hb dX6_takeName_34 rfl (lv_at hl 0 rfl) ?_
      refine zg_T_told C hs (hB 31 (by decide) (by decide)) z_k40 dX6_takeName_35 ?_
      refine lv_bipush (v := 7) hx hb dX6_takeName_38 (by decide) ?_
      refine lv_icmp_ge (tgt := 94) hx hb dX6_takeName_40 (by decide) (fun c2 => ?_) (fun c2 => ?_)
      · have hf := z_t hf c2
        exact z_retv C hr hs hf dX6_takeName_94
      · have hf := z_f hf c2
        refine lv_aload_n hx hb dX6_takeName_43 rfl (lv_at hl 0 rfl) ?_
        refine zg_T_nameAt C hs (hB 31 (by decide) (by decide)) z_k33 dX6_takeName_44 ?_
        refine lv_aload_n hx hb dX6_takeName_47 rfl (lv_at hl 0 rfl) ?_
        refine zg_T_told C hs (hB 31 (by decide) (by decide)) z_k40 dX6_takeName_48 ?_
        refine lv_aload_n hx hb dX6_takeName_51 rfl (lv_at hl 0 rfl) ?_
        refine zg_T_tokenAt C hs (hB 31 (by decide) (by decide)) z_k45 dX6_takeName_52 ?_
        obtain ⟨g3, hf⟩ := z_gd hf
        refine z_ast C hs (hB 33 (by decide) (by decide)) (fun r h => z_c33 E r h _ _) g3 rfl dX6_takeName_55 (fun H locs hs => ?_)
        obtain ⟨σ4, -, hs, hf⟩ := z_top hs hf
        refine lv_aload_n hx hb dX6_takeName_56 rfl (lv_at hl 0 rfl) ?_
        refine zg_T_nameLength C hs (hB 31 (by decide) (by decide)) z_k34 dX6_takeName_57 ?_
        refine lv_aload_n hx hb dX6_takeName_60 rfl (lv_at hl 0 rfl) ?_
        refine zg_T_told C hs (hB 31 (by decide) (by decide)) z_k40 dX6_takeName_61 ?_
        refine lv_aload_n hx hb dX6_takeName_64 rfl (lv_at hl 0 rfl) ?_
        refine zg_T_tokenEnd C hs (hB 31 (by decide) (by decide)) z_k46 dX6_takeName_65 ?_
        refine lv_aload_n hx hb dX6_takeName_68 rfl (lv_at hl 0 rfl) ?_
        refine zg_T_tokenAt C hs (hB 31 (by decide) (by decide)) z_k45 dX6_takeName_69 ?_
        refine lv_isub hx hb dX6_takeName_72 ?_
        obtain ⟨g5, hf⟩ := z_gd hf
        refine z_ast C hs (hB 34 (by decide) (by decide)) (fun r h => z_c34 E r h _ _) g5 rfl dX6_takeName_73 (fun H locs hs => ?_)
        obtain ⟨σ6, -, hs, hf⟩ := z_top hs hf
        refine lv_aload_n hx hb dX6_takeName_74 rfl (lv_at hl 0 rfl) ?_
        refine zg_T_silent C hs (hB 31 (by decide) (by decide)) z_k35 dX6_takeName_75 ?_
        refine lv_aload_n hx hb dX6_takeName_78 rfl (lv_at hl 0 rfl) ?_
        refine zg_T_told C hs (hB 31 (by decide) (by decide)) z_k40 dX6_takeName_79 ?_
        refine lv_iconst (v := 0) hx hb dX6_takeName_82 (by decide) ?_
        obtain ⟨g7, hf⟩ := z_gd hf
        refine z_zast C hs (hB 35 (by decide) (by decide)) (fun r h => z_c35 E r h _ _) g7 rfl dX6_takeName_83 (fun H locs hs => ?_)
        obtain ⟨σ8, -, hs, hf⟩ := z_top hs hf
        refine lv_aload_n hx hb dX6_takeName_84 rfl (lv_at hl 0 rfl) ?_
        refine lv_dup hx hb dX6_takeName_85 rfl ?_
        refine zg_T_told C hs (hB 31 (by decide) (by decide)) z_k40 dX6_takeName_86 ?_
        refine lv_iconst (v := 1) hx hb dX6_takeName_89 (by decide) ?_
        refine lv_iadd hx hb dX6_takeName_90 ?_
        refine zp_T_told C hs (hB 31 (by decide) (by decide)) z_k40 dX6_takeName_91 (fun H locs hs => ?_)
        obtain ⟨σ9, -, hs, hf⟩ := z_top hs hf
        exact z_retv C hr hs hf dX6_takeName_94
    · have hf := z_f hf c1
      refine lv_aload_n hx hb dX6_takeName_10 rfl (lv_at hl 0 rfl) ?_
      refine lv_iload_n hx hb dX6_takeName_11 rfl (lv_at hl 1 rfl) ?_
      obtain ⟨r10, σ10, h_10, hf⟩ := z_bds hf
      refine z_goI C hs (z_runV C hs hl.1 (cT_tokenIsName l E hB h_10) zcV_RX6_89 (hB 31 (by decide) (by decide)) (z_c31 E _ _ _ _) rfl rfl rfl (by decide) (Nat.le_of_ble_eq_true rfl) dX6_takeName_12) (fun H locs hs => ?_)
      refine lv_if_eq (tgt := 28) hx hb dX6_takeName_15 (by decide) (fun c11 => ?_) (fun c11 => ?_)
      · have hf := z_t hf c11
        obtain ⟨y12, e_y12⟩ : ∃ y : Int32, y = x1 + 1 := ⟨_, rfl⟩
        have hf := z_lte e_y12 hf
        refine lv_iinc (v := y12) (lv' := [(1, .int y12), (0, .ref (z_ad E (31, 0, 0)))]) hx hb dX6_takeName_28 hl (k := 1) rfl (by rw [e_y12]; rfl) (by decide) rfl (fun ls hl => ?_)
        refine lv_goto (tgt := 2) hx hb dX6_takeName_31 (by decide) ?_
        exact ih y12 σ10 _ _ _ hs (lv_sub hl [1, 0] rfl) hf
      · have hf := z_f hf c11
        refine lv_aload_n hx hb dX6_takeName_18 rfl (lv_at hl 0 rfl) ?_
        refine lv_iconst (v := 3) hx hb dX6_takeName_19 (by decide) ?_
        refine lv_aload_n hx hb dX6_takeName_20 rfl (lv_at hl 0 rfl) ?_
        refine zg_T_tokenAt C hs (hB 31 (by decide) (by decide)) z_k45 dX6_takeName_21 ?_
        obtain ⟨r13, σ13, h_13, hf⟩ := z_bds hf
        refine z_goV C hs (z_runV C hs hl.1 (cT_blame l E hB h_13) zcV_RX6_50 (hB 31 (by decide) (by decide)) (z_c31 E _ _ _ _) rfl rfl rfl (by decide) (Nat.le_of_ble_eq_true rfl) dX6_takeName_24) (fun H locs hs => ?_)
        exact z_retv C hr hs hf dX6_takeName_27
set_option maxHeartbeats 4000000 in
set_option maxRecDepth 20000 in
theorem wT_takeName (C : z_C E RX6 cX6_takeName 2 A p s m args meth c) (hr : meth.sig.returnType = none) (hB : z_B E) {ro : Unit} {σo : zS} (σ : zS) (H : Heap) (locs : List Loc) (ls : Array Slot) (hs : z_H E A s σ H locs) (hl : lv_has ls 2 [(0, .ref (z_ad E (31, 0, 0)))]) (hf : fT_takeName σ = some (ro, σo)) : W p l e (z_rm 3) s m args below meth c H locs 0 0 (MQ below (z_QV E ro σo A) args s 0 0 A) (F0 m 0 ls []) := by
  have hx := C.1
  have hb := C.2.1
  unfold fT_takeName at hf
  refine lv_iconst (v := 0) hx hb dX6_takeName_0 (by decide) ?_
  refine lv_istore_n (lv' := [(1, .int 0), (0, .ref (z_ad E (31, 0, 0)))]) hx hb dX6_takeName_1 rfl hl (by decide) rfl (fun ls hl => ?_)
  exact wT_takeName_2 C hr hB z_fu 0 σ _ _ _ hs (lv_sub hl [1, 0] rfl) hf
set_option maxHeartbeats 4000000 in
set_option maxRecDepth 20000 in
theorem cT_takeName (l : Launch) (E : zE) (hB : z_B E) {σ σo : zS} {ro : Unit} (hf : fT_takeName σ = some (ro, σo)) : z_T l E yX6_takeName cX6_takeName 2 none (z_rm 3) (z_QV E ro σo) [.ref (z_ad E (31, 0, 0))] σ :=
  z_enter (by decide) (Nat.le_of_ble_eq_true rfl) rfl (fun p e s m below meth c A ls C hr hs hl => wT_takeName C hr hB σ _ _ ls hs hl hf)
def fT_markSilent (σ : zS) : Option (Unit × zS) :=
  if (σ.1 (31, 0, 0) 5) ≤ 0 then
    (some ((), σ))
  else
    (if 7 < (σ.1 (31, 0, 0) 5) then
      (some ((), σ))
    else
      (if z_in ((σ.1 (31, 0, 0) 5) - 1) 7 = true then (
      z_let (z_up σ (35, 0, 0) (((σ.1 (31, 0, 0) 5) - 1).toNatClampNeg) (vp_nar .boolean 1)) (fun σ4 =>
      some ((), σ4))) else none))
set_option maxHeartbeats 4000000 in
set_option maxRecDepth 20000 in
theorem wT_markSilent (C : z_C E RX6 cX6_markSilent 1 A p s m args meth c) (hr : meth.sig.returnType = none) (hB : z_B E) {ro : Unit} {σo : zS} (σ : zS) (H : Heap) (locs : List Loc) (ls : Array Slot) (hs : z_H E A s σ H locs) (hl : lv_has ls 1 [(0, .ref (z_ad E (31, 0, 0)))]) (hf : fT_markSilent σ = some (ro, σo)) : W p l e (z_rm 1) s m args below meth c H locs 0 0 (MQ below (z_QV E ro σo A) args s 0 0 A) (F0 m 0 ls []) := by
  have hx := C.1
  have hb := C.2.1
  unfold fT_markSilent at hf
  refine lv_aload_n hx hb dX6_markSilent_0 rfl (lv_at hl 0 rfl) ?_
  refine zg_T_told C hs (hB 31 (by decide) (by decide)) z_k40 dX6_markSilent_1 ?_
  refine lv_if_le (tgt := 28) hx hb dX6_markSilent_4 (by decide) (fun c1 => ?_) (fun c1 => ?_)
  · have hf := z_t hf c1
    exact z_retv C hr hs hf dX6_markSilent_28
  · have hf := z_f hf c1
    refine lv_aload_n hx hb dX6_markSilent_7 rfl (lv_at hl 0 rfl) ?_
    refine zg_T_told C hs (hB 31 (by decide) (by decide)) z_k40 dX6_markSilent_8 ?_
    refine lv_bipush (v := 7) hx hb dX6_markSilent_11 (by decide) ?_
    refine lv_icmp_gt (tgt := 28) hx hb dX6_markSilent_13 (by decide) (fun c2 => ?_) (fun c2 => ?_)
    · have hf := z_t hf c2
      exact z_retv C hr hs hf dX6_markSilent_28
    · have hf := z_f hf c2
      refine lv_aload_n hx hb dX6_markSilent_16 rfl (lv_at hl 0 rfl) ?_
      refine zg_T_silent C hs (hB 31 (by decide) (by decide)) z_k35 dX6_markSilent_17 ?_
      refine lv_aload_n hx hb dX6_markSilent_20 rfl (lv_at hl 0 rfl) ?_
      refine zg_T_told C hs (hB 31 (by decide) (by decide)) z_k40 dX6_markSilent_21 ?_
      refine lv_iconst (v := 1) hx hb dX6_markSilent_24 (by decide) ?_
      refine lv_isub hx hb dX6_markSilent_25 ?_
      refine lv_iconst (v := 1) hx hb dX6_markSilent_26 (by decide) ?_
      obtain ⟨g3, hf⟩ := z_gd hf
      refine z_zast C hs (hB 35 (by decide) (by decide)) (fun r h => z_c35 E r h _ _) g3 rfl dX6_markSilent_27 (fun H locs hs => ?_)
      obtain ⟨σ4, -, hs, hf⟩ := z_top hs hf
      exact z_retv C hr hs hf dX6_markSilent_28
set_option maxHeartbeats 4000000 in
set_option maxRecDepth 20000 in
theorem cT_markSilent (l : Launch) (E : zE) (hB : z_B E) {σ σo : zS} {ro : Unit} (hf : fT_markSilent σ = some (ro, σo)) : z_T l E yX6_markSilent cX6_markSilent 1 none (z_rm 1) (z_QV E ro σo) [.ref (z_ad E (31, 0, 0))] σ :=
  z_enter (by decide) (Nat.le_of_ble_eq_true rfl) rfl (fun p e s m below meth c A ls C hr hs hl => wT_markSilent C hr hB σ _ _ ls hs hl hf)
def fW_begin_23 (w0 : Nat) : Nat → Int32 → zS → Option (Unit × zS)
  | 0, _, _ => none
  | n + 1, x2, σ =>
    if (σ.1 (0, w0, 0) 3) ≤ x2 then
      (z_bd (fP_clear w0 σ) (fun _ σ5 =>
      z_let (z_up σ5 (4, w0, 0) 4 0) (fun σ6 =>
      some ((), σ6))))
    else
      (if z_in x2 7 = true then (
      if z_in x2 7 = true then (
      if (σ.1 (35, 0, 0) x2.toNatClampNeg) = 0 then
        (z_bd (fK_begin w0 (x2.toNatClampNeg) 1 σ) (fun _ σ12 =>
        z_let (x2 + 1) (fun y13 =>
        fW_begin_23 w0 n y13 σ12)))
      else
        (z_bd (fK_begin w0 (x2.toNatClampNeg) 0 σ) (fun _ σ10 =>
        z_let (x2 + 1) (fun y11 =>
        fW_begin_23 w0 n y11 σ10)))) else none) else none)
def fW_begin (w0 : Nat) (σ : zS) : Option (Unit × zS) :=
  z_let (z_up σ (0, w0, 0) 3 (if 7 < (σ.1 (31, 0, 0) 5) then 7 else (σ.1 (31, 0, 0) 5))) (fun σ1 =>
  z_bd (fT_countVoters σ1) (fun r2 σ2 =>
  z_let (z_up σ2 (0, w0, 0) 4 r2) (fun σ3 =>
  fW_begin_23 w0 z_fu 0 σ3)))
set_option maxHeartbeats 4000000 in
set_option maxRecDepth 20000 in
theorem wW_begin_23 {w0 : Nat} (C : z_C E RX7 cX7_begin 3 A p s m args meth c) (hr : meth.sig.returnType = none) (hV0 : z_W E w0) (hB : z_B E) {ro : Unit} {σo : zS} (n : Nat) : ∀ (x2 : Int32) (σ : zS) (H : Heap) (locs : List Loc) (ls : Array Slot), z_H E A s σ H locs → lv_has ls 3 [(0, .ref (z_ad E (0, w0, 0))), (1, .ref (z_ad E (31, 0, 0))), (2, .int x2)] → fW_begin_23 w0 n x2 σ = some (ro, σo) → W p l e (z_rm 3) s m args below meth c H locs 0 0 (MQ below (z_QV E ro σo A) args s 0 0 A) (F0 m 23 ls []) := by
  induction n with
  | zero =>
    intro x2 σ H locs ls hs hl hf
    have hf : none = some (ro, σo) := hf
    cases hf
  | succ n ih =>
    intro x2 σ H locs ls hs hl hf
    have hx := C.1
    have hb := C.2.1
    rw [fW_begin_23.eq_2] at hf
    refine lv_iload_n hx hb dX7_begin_23 rfl (lv_at hl 2 rfl) ?_
    refine lv_aload_n hx hb dX7_begin_24 rfl (lv_at hl 0 rfl) ?_
    refine zg_W_count C hs (hV0.1 0 (by decide)) z_k287 dX7_begin_25 ?_
    refine lv_icmp_ge (tgt := 60) hx hb dX7_begin_28 (by decide) (fun c4 => ?_) (fun c4 => ?_)
    · have hf := z_t hf c4
      refine lv_aload_n hx hb dX7_begin_60 rfl (lv_at hl 0 rfl) ?_
      refine zg_W_post C hs (hV0.1 0 (by decide)) z_k283 dX7_begin_61 ?_
      obtain ⟨r5, σ5, h_5, hf⟩ := z_bds hf
      refine z_goV C hs (z_runV C hs hl.1 (cP_clear l E hV0 h_5) zcV_RX7_62 (hV0.1 2 (by decide)) (z_c2 E _ _ _ _) rfl rfl rfl (by decide) (Nat.le_of_ble_eq_true rfl) dX7_begin_64) (fun H locs hs => ?_)
      refine lv_aload_n hx hb dX7_begin_67 rfl (lv_at hl 0 rfl) ?_
      refine zg_W_reads C hs (hV0.1 0 (by decide)) z_k285 dX7_begin_68 ?_
      refine lv_iconst (v := 0) hx hb dX7_begin_71 (by decide) ?_
      refine zp_R_size C hs (hV0.1 4 (by decide)) z_k268 dX7_begin_72 (fun H locs hs => ?_)
      obtain ⟨σ6, -, hs, hf⟩ := z_top hs hf
      exact z_retv C hr hs hf dX7_begin_75
    · have hf := z_f hf c4
      refine lv_aload_n hx hb dX7_begin_31 rfl (lv_at hl 0 rfl) ?_
      refine zg_W_keepers C hs (hV0.1 0 (by decide)) z_k281 dX7_begin_32 ?_
      refine lv_iload_n hx hb dX7_begin_35 rfl (lv_at hl 2 rfl) ?_
      obtain ⟨g7, hf⟩ := z_gd hf
      refine z_aald C hs (hV0.1 1 (by decide)) (z_c1 E _ _ _ _) (t0 := 4) rfl g7 rfl dX7_begin_36 ?_
      refine lv_aload_n hx hb dX7_begin_37 rfl (lv_at hl 1 rfl) ?_
      refine zg_T_silent C hs (hB 31 (by decide) (by decide)) z_k36 dX7_begin_38 ?_
      refine lv_iload_n hx hb dX7_begin_41 rfl (lv_at hl 2 rfl) ?_
      obtain ⟨g8, hf⟩ := z_gd hf
      refine z_zald C hs (hB 35 (by decide) (by decide)) (z_c35 E _ _ _ _) g8 rfl dX7_begin_42 ?_
      refine lv_if_ne (tgt := 50) hx hb dX7_begin_43 (by decide) (fun c9 => ?_) (fun c9 => ?_)
      · have hf := z_f hf c9
        refine lv_iconst (v := 0) hx hb dX7_begin_50 (by decide) ?_
        obtain ⟨r10, σ10, h_10, hf⟩ := z_bds hf
        refine z_goV C hs (z_runV C hs hl.1 (cK_begin l E hV0 (z_in_lt g7) h_10) zcV_RX7_58 (hV0.2.1 x2.toNatClampNeg (z_in_lt g7) 10 (by decide) (by decide)) (z_c10 E _ _ _ _) rfl rfl rfl (by decide) (Nat.le_of_ble_eq_true rfl) dX7_begin_51) (fun H locs hs => ?_)
        obtain ⟨y11, e_y11⟩ : ∃ y : Int32, y = x2 + 1 := ⟨_, rfl⟩
        have hf := z_lte e_y11 hf
        refine lv_iinc (v := y11) (lv' := [(2, .int y11), (0, .ref (z_ad E (0, w0, 0))), (1, .ref (z_ad E (31, 0, 0)))]) hx hb dX7_begin_54 hl (k := 2) rfl (by rw [e_y11]; rfl) (by decide) rfl (fun ls hl => ?_)
        refine lv_goto (tgt := 23) hx hb dX7_begin_57 (by decide) ?_
        exact ih y11 σ10 _ _ _ hs (lv_sub hl [1, 2, 0] rfl) hf
      · have hf := z_t hf c9
        refine lv_iconst (v := 1) hx hb dX7_begin_46 (by decide) ?_
        refine lv_goto (tgt := 51) hx hb dX7_begin_47 (by decide) ?_
        obtain ⟨r12, σ12, h_12, hf⟩ := z_bds hf
        refine z_goV C hs (z_runV C hs hl.1 (cK_begin l E hV0 (z_in_lt g7) h_12) zcV_RX7_58 (hV0.2.1 x2.toNatClampNeg (z_in_lt g7) 10 (by decide) (by decide)) (z_c10 E _ _ _ _) rfl rfl rfl (by decide) (Nat.le_of_ble_eq_true rfl) dX7_begin_51) (fun H locs hs => ?_)
        obtain ⟨y13, e_y13⟩ : ∃ y : Int32, y = x2 + 1 := ⟨_, rfl⟩
        have hf := z_lte e_y13 hf
        refine lv_iinc (v := y13) (lv' := [(2, .int y13), (0, .ref (z_ad E (0, w0, 0))), (1, .ref (z_ad E (31, 0, 0)))]) hx hb dX7_begin_54 hl (k := 2) rfl (by rw [e_y13]; rfl) (by decide) rfl (fun ls hl => ?_)
        refine lv_goto (tgt := 23) hx hb dX7_begin_57 (by decide) ?_
        exact ih y13 σ12 _ _ _ hs (lv_sub hl [1, 2, 0] rfl) hf
set_option maxHeartbeats 4000000 in
set_option maxRecDepth 20000 in
theorem wW_begin {w0 : Nat} (C : z_C E RX7 cX7_begin 3 A p s m args meth c) (hr : meth.sig.returnType = none) (hV0 : z_W E w0) (hB : z_B E) {ro : Unit} {σo : zS} (σ : zS) (H : Heap) (locs : List Loc) (ls : Array Slot) (hs : z_H E A s σ H locs) (hl : lv_has ls 3 [(0, .ref (z_ad E (0, w0, 0))), (1, .ref (z_ad E (31, 0, 0)))]) (hf : fW_begin w0 σ = some (ro, σo)) : W p l e (z_rm 3) s m args below meth c H locs 0 0 (MQ below (z_QV E ro σo A) args s 0 0 A) (F0 m 0 ls []) := by
  have hx := C.1
  have hb := C.2.1
  unfold fW_begin at hf
  refine lv_aload_n hx hb dX7_begin_0 rfl (lv_at hl 0 rfl) ?_
  refine lv_aload_n hx hb dX7_begin_1 rfl (lv_at hl 1 rfl) ?_
  refine zg_T_told C hs (hB 31 (by decide) (by decide)) z_k39 dX7_begin_2 ?_
  refine lv_bipush (v := 7) hx hb dX7_begin_5 (by decide) ?_
  refine z_min C hl.1 z_k485 (by decide) (Nat.le_of_ble_eq_true rfl) dX7_begin_7 ?_
  refine zp_W_count C hs (hV0.1 0 (by decide)) z_k287 dX7_begin_10 (fun H locs hs => ?_)
  obtain ⟨σ1, -, hs, hf⟩ := z_top hs hf
  refine lv_aload_n hx hb dX7_begin_13 rfl (lv_at hl 0 rfl) ?_
  refine lv_aload_n hx hb dX7_begin_14 rfl (lv_at hl 1 rfl) ?_
  obtain ⟨r2, σ2, h_2, hf⟩ := z_bds hf
  refine z_goI C hs (z_runV C hs hl.1 (cT_countVoters l E hB h_2) zcV_RX7_47 (hB 31 (by decide) (by decide)) (z_c31 E _ _ _ _) rfl rfl rfl (by decide) (Nat.le_of_ble_eq_true rfl) dX7_begin_15) (fun H locs hs => ?_)
  refine zp_W_voters C hs (hV0.1 0 (by decide)) z_k289 dX7_begin_18 (fun H locs hs => ?_)
  obtain ⟨σ3, -, hs, hf⟩ := z_top hs hf
  refine lv_iconst (v := 0) hx hb dX7_begin_21 (by decide) ?_
  refine lv_istore_n (lv' := [(2, .int 0), (0, .ref (z_ad E (0, w0, 0))), (1, .ref (z_ad E (31, 0, 0)))]) hx hb dX7_begin_22 rfl hl (by decide) rfl (fun ls hl => ?_)
  exact wW_begin_23 C hr hV0 hB z_fu 0 σ3 _ _ _ hs (lv_sub hl [1, 2, 0] rfl) hf
set_option maxHeartbeats 4000000 in
set_option maxRecDepth 20000 in
theorem cW_begin (l : Launch) (E : zE) {w0 : Nat} (hV0 : z_W E w0) (hB : z_B E) {σ σo : zS} {ro : Unit} (hf : fW_begin w0 σ = some (ro, σo)) : z_T l E yX7_begin cX7_begin 3 none (z_rm 3) (z_QV E ro σo) [.ref (z_ad E (0, w0, 0)), .ref (z_ad E (31, 0, 0))] σ :=
  z_enter (by decide) (Nat.le_of_ble_eq_true rfl) rfl (fun p e s m below meth c A ls C hr hs hl => wW_begin C hr hV0 hB σ _ _ ls hs hl hf)
def fW_copyFrom_18 (w0 : Nat) (w1 : Nat) : Nat → Int32 → zS → Option (Unit × zS)
  | 0, _, _ => none
  | n + 1, x2, σ =>
    if 7 ≤ x2 then
      (z_bd (fP_copyFrom w0 w1 σ) (fun _ σ4 =>
      z_bd (fR_copyFrom w0 w1 σ4) (fun _ σ5 =>
      some ((), σ5))))
    else
      (if z_in x2 7 = true then (
      if z_in x2 7 = true then (
      z_bd (fK_copyFrom w0 (x2.toNatClampNeg) w1 (x2.toNatClampNeg) σ) (fun _ σ8 =>
      z_let (x2 + 1) (fun y9 =>
      fW_copyFrom_18 w0 w1 n y9 σ8))) else none) else none)
def fW_copyFrom (w0 : Nat) (w1 : Nat) (σ : zS) : Option (Unit × zS) :=
  z_let (z_up σ (0, w0, 0) 3 (σ.1 (0, w1, 0) 3)) (fun σ1 =>
  z_let (z_up σ1 (0, w0, 0) 4 (σ1.1 (0, w1, 0) 4)) (fun σ2 =>
  fW_copyFrom_18 w0 w1 z_fu 0 σ2))
set_option maxHeartbeats 4000000 in
set_option maxRecDepth 20000 in
theorem wW_copyFrom_18 {w0 : Nat} {w1 : Nat} (C : z_C E RX7 cX7_copyFrom 3 A p s m args meth c) (hr : meth.sig.returnType = none) (hV0 : z_W E w0) (hV1 : z_W E w1) {ro : Unit} {σo : zS} (n : Nat) : ∀ (x2 : Int32) (σ : zS) (H : Heap) (locs : List Loc) (ls : Array Slot), z_H E A s σ H locs → lv_has ls 3 [(0, .ref (z_ad E (0, w0, 0))), (1, .ref (z_ad E (0, w1, 0))), (2, .int x2)] → fW_copyFrom_18 w0 w1 n x2 σ = some (ro, σo) → W p l e (z_rm 5) s m args below meth c H locs 0 0 (MQ below (z_QV E ro σo A) args s 0 0 A) (F0 m 18 ls []) := by
  induction n with
  | zero =>
    intro x2 σ H locs ls hs hl hf
    have hf : none = some (ro, σo) := hf
    cases hf
  | succ n ih =>
    intro x2 σ H locs ls hs hl hf
    have hx := C.1
    have hb := C.2.1
    rw [fW_copyFrom_18.eq_2] at hf
    refine lv_iload_n hx hb dX7_copyFrom_18 rfl (lv_at hl 2 rfl) ?_
    refine lv_bipush (v := 7) hx hb dX7_copyFrom_19 (by decide) ?_
    refine lv_icmp_ge (tgt := 45) hx hb dX7_copyFrom_21 (by decide) (fun c3 => ?_) (fun c3 => ?_)
    · have hf := z_t hf c3
      refine lv_aload_n hx hb dX7_copyFrom_45 rfl (lv_at hl 0 rfl) ?_
      refine zg_W_post C hs (hV0.1 0 (by decide)) z_k283 dX7_copyFrom_46 ?_
      refine lv_aload_n hx hb dX7_copyFrom_49 rfl (lv_at hl 1 rfl) ?_
      refine zg_W_post C hs (hV1.1 0 (by decide)) z_k283 dX7_copyFrom_50 ?_
      obtain ⟨r4, σ4, h_4, hf⟩ := z_bds hf
      refine z_goV C hs (z_runV C hs hl.1 (cP_copyFrom l E hV0 hV1 h_4) zcV_RX7_72 (hV0.1 2 (by decide)) (z_c2 E _ _ _ _) rfl rfl rfl (by decide) (Nat.le_of_ble_eq_true rfl) dX7_copyFrom_53) (fun H locs hs => ?_)
      refine lv_aload_n hx hb dX7_copyFrom_56 rfl (lv_at hl 0 rfl) ?_
      refine zg_W_reads C hs (hV0.1 0 (by decide)) z_k285 dX7_copyFrom_57 ?_
      refine lv_aload_n hx hb dX7_copyFrom_60 rfl (lv_at hl 1 rfl) ?_
      refine zg_W_reads C hs (hV1.1 0 (by decide)) z_k285 dX7_copyFrom_61 ?_
      obtain ⟨r5, σ5, h_5, hf⟩ := z_bds hf
      refine z_goV C hs (z_runV C hs hl.1 (cR_copyFrom l E hV0 hV1 h_5) zcV_RX7_75 (hV0.1 4 (by decide)) (z_c4 E _ _ _ _) rfl rfl rfl (by decide) (Nat.le_of_ble_eq_true rfl) dX7_copyFrom_64) (fun H locs hs => ?_)
      exact z_retv C hr hs hf dX7_copyFrom_67
    · have hf := z_f hf c3
      refine lv_aload_n hx hb dX7_copyFrom_24 rfl (lv_at hl 0 rfl) ?_
      refine zg_W_keepers C hs (hV0.1 0 (by decide)) z_k281 dX7_copyFrom_25 ?_
      refine lv_iload_n hx hb dX7_copyFrom_28 rfl (lv_at hl 2 rfl) ?_
      obtain ⟨g6, hf⟩ := z_gd hf
      refine z_aald C hs (hV0.1 1 (by decide)) (z_c1 E _ _ _ _) (t0 := 4) rfl g6 rfl dX7_copyFrom_29 ?_
      refine lv_aload_n hx hb dX7_copyFrom_30 rfl (lv_at hl 1 rfl) ?_
      refine zg_W_keepers C hs (hV1.1 0 (by decide)) z_k281 dX7_copyFrom_31 ?_
      refine lv_iload_n hx hb dX7_copyFrom_34 rfl (lv_at hl 2 rfl) ?_
      obtain ⟨g7, hf⟩ := z_gd hf
      refine z_aald C hs (hV1.1 1 (by decide)) (z_c1 E _ _ _ _) (t0 := 4) rfl g7 rfl dX7_copyFrom_35 ?_
      obtain ⟨r8, σ8, h_8, hf⟩ := z_bds hf
      refine z_goV C hs (z_runV C hs hl.1 (cK_copyFrom l E hV0 (z_in_lt g6) hV1 (z_in_lt g7) h_8) zcV_RX7_68 (hV0.2.1 x2.toNatClampNeg (z_in_lt g6) 10 (by decide) (by decide)) (z_c10 E _ _ _ _) rfl rfl rfl (by decide) (Nat.le_of_ble_eq_true rfl) dX7_copyFrom_36) (fun H locs hs => ?_)
      obtain ⟨y9, e_y9⟩ : ∃ y : Int32, y = x2 + 1 := ⟨_, rfl⟩
      have hf := z_lte e_y9 hf
      refine lv_iinc (v := y9) (lv' := [(2, .int y9), (0, .ref (z_ad E (0, w0, 0))), (1, .ref (z_ad E (0, w1, 0)))]) hx hb dX7_copyFrom_39 hl (k := 2) rfl (by rw [e_y9]; rfl) (by decide) rfl (fun ls hl => ?_)
      refine lv_goto (tgt := 18) hx hb dX7_copyFrom_42 (by decide) ?_
      exact ih y9 σ8 _ _ _ hs (lv_sub hl [1, 2, 0] rfl) hf
set_option maxHeartbeats 4000000 in
set_option maxRecDepth 20000 in
theorem wW_copyFrom {w0 : Nat} {w1 : Nat} (C : z_C E RX7 cX7_copyFrom 3 A p s m args meth c) (hr : meth.sig.returnType = none) (hV0 : z_W E w0) (hV1 : z_W E w1) {ro : Unit} {σo : zS} (σ : zS) (H : Heap) (locs : List Loc) (ls : Array Slot) (hs : z_H E A s σ H locs) (hl : lv_has ls 3 [(0, .ref (z_ad E (0, w0, 0))), (1, .ref (z_ad E (0, w1, 0)))]) (hf : fW_copyFrom w0 w1 σ = some (ro, σo)) : W p l e (z_rm 5) s m args below meth c H locs 0 0 (MQ below (z_QV E ro σo A) args s 0 0 A) (F0 m 0 ls []) := by
  have hx := C.1
  have hb := C.2.1
  unfold fW_copyFrom at hf
  refine lv_aload_n hx hb dX7_copyFrom_0 rfl (lv_at hl 0 rfl) ?_
  refine lv_aload_n hx hb dX7_copyFrom_1 rfl (lv_at hl 1 rfl) ?_
  refine zg_W_count C hs (hV1.1 0 (by decide)) z_k287 dX7_copyFrom_2 ?_
  refine zp_W_count C hs (hV0.1 0 (by decide)) z_k287 dX7_copyFrom_5 (fun H locs hs => ?_)
  obtain ⟨σ1, -, hs, hf⟩ := z_top hs hf
  refine lv_aload_n hx hb dX7_copyFrom_8 rfl (lv_at hl 0 rfl) ?_
  refine lv_aload_n hx hb dX7_copyFrom_9 rfl (lv_at hl 1 rfl) ?_
  refine zg_W_voters C hs (hV1.1 0 (by decide)) z_k289 dX7_copyFrom_10 ?_
  refine zp_W_voters C hs (hV0.1 0 (by decide)) z_k289 dX7_copyFrom_13 (fun H locs hs => ?_)
  obtain ⟨σ2, -, hs, hf⟩ := z_top hs hf
  refine lv_iconst (v := 0) hx hb dX7_copyFrom_16 (by decide) ?_
  refine lv_istore_n (lv' := [(2, .int 0), (0, .ref (z_ad E (0, w0, 0))), (1, .ref (z_ad E (0, w1, 0)))]) hx hb dX7_copyFrom_17 rfl hl (by decide) rfl (fun ls hl => ?_)
  exact wW_copyFrom_18 C hr hV0 hV1 z_fu 0 σ2 _ _ _ hs (lv_sub hl [1, 2, 0] rfl) hf
set_option maxHeartbeats 4000000 in
set_option maxRecDepth 20000 in
theorem cW_copyFrom (l : Launch) (E : zE) {w0 : Nat} {w1 : Nat} (hV0 : z_W E w0) (hV1 : z_W E w1) {σ σo : zS} {ro : Unit} (hf : fW_copyFrom w0 w1 σ = some (ro, σo)) : z_T l E yX7_copyFrom cX7_copyFrom 3 none (z_rm 5) (z_QV E ro σo) [.ref (z_ad E (0, w0, 0)), .ref (z_ad E (0, w1, 0))] σ :=
  z_enter (by decide) (Nat.le_of_ble_eq_true rfl) rfl (fun p e s m below meth c A ls C hr hs hl => wW_copyFrom C hr hV0 hV1 σ _ _ ls hs hl hf)
end z_walks
