section z_walks
theorem zcV_RX9_65 : z_CV RX9 65 yX9_begin cX9_begin 2 none 0 := ⟨⟨z_k942, z_k944, z_kp1, z_k10, z_k945⟩, by decide +kernel, by decide⟩
theorem zcV_RX9_80 : z_CV RX9 80 yX9_sign cX9_sign 2 (some .int) 1 := ⟨⟨z_k1041, z_k1043, z_kp4, z_k10, z_k1044⟩, by decide +kernel, by decide⟩
theorem zcS_RX9_87 : z_CS RX9 87 yX9_isLetter cX9_isLetter 1 (some .boolean) 1 := ⟨⟨z_k1045, z_k1046, z_k10, z_k1047⟩, by decide +kernel, by decide⟩
theorem zcV_RX9_99 : z_CV RX9 99 yX9_fails cX9_fails 3 none 2 := ⟨⟨z_k1062, z_k1064, z_kp8, z_k10, z_k1065⟩, by decide +kernel, by decide⟩
theorem zcV_RX9_112 : z_CV RX9 112 yX9_goOn cX9_goOn 3 none 0 := ⟨⟨z_k1037, z_k1039, z_kp3, z_k10, z_k1040⟩, by decide +kernel, by decide⟩
theorem zcV_RX9_115 : z_CV RX9 115 yX9_isGood cX9_isGood 1 (some .boolean) 0 := ⟨⟨z_k1050, z_k1052, z_kp5, z_k10, z_k1053⟩, by decide +kernel, by decide⟩
theorem zcV_RX9_119 : z_CV RX9 119 yX9_readKeeper cX9_readKeeper 2 none 0 := ⟨⟨z_k1054, z_k1056, z_kp6, z_k10, z_k1057⟩, by decide +kernel, by decide⟩
theorem zcS_RX9_122 : z_CS RX9 122 yX9_bitsOf cX9_bitsOf 3 (some .int) 1 := ⟨⟨z_k1066, z_k1067, z_k10, z_k1068⟩, by decide +kernel, by decide⟩
theorem zcV_RX9_125 : z_CV RX9 125 yX9_misplaced cX9_misplaced 1 none 0 := ⟨⟨z_k1058, z_k1060, z_kp7, z_k10, z_k1061⟩, by decide +kernel, by decide⟩
theorem zcV_RX9_128 : z_CV RX9 128 yX9_many cX9_many 1 (some .int) 0 := ⟨⟨z_k1085, z_k1087, z_kp11, z_k10, z_k1088⟩, by decide +kernel, by decide⟩
theorem zcS_RX9_132 : z_CS RX9 132 yX9_isIn cX9_isIn 3 (some .boolean) 3 := ⟨⟨z_k1089, z_k1090, z_k10, z_k1091⟩, by decide +kernel, by decide⟩
theorem zcV_RX9_136 : z_CV RX9 136 yX9_voters cX9_voters 1 (some .int) 0 := ⟨⟨z_k1108, z_k1110, z_kp16, z_k10, z_k1111⟩, by decide +kernel, by decide⟩
theorem zcV_RX9_139 : z_CV RX9 139 yX9_put cX9_put 4 none 3 := ⟨⟨z_k946, z_k948, z_kp2, z_k10, z_k949⟩, by decide +kernel, by decide⟩
theorem zcV_RX9_143 : z_CV RX9 143 yX9_isKeeper cX9_isKeeper 2 (some .boolean) 1 := ⟨⟨z_k1081, z_k1083, z_kp10, z_k10, z_k1084⟩, by decide +kernel, by decide⟩
theorem zcV_RX9_146 : z_CV RX9 146 yX9_of cX9_of 3 (some .int) 2 := ⟨⟨z_k1092, z_k1094, z_kp12, z_k10, z_k1095⟩, by decide +kernel, by decide⟩
theorem zcV_RX9_150 : z_CV RX9 150 yX9_isUp cX9_isUp 2 (some .boolean) 1 := ⟨⟨z_k1077, z_k1079, z_kp9, z_k10, z_k1080⟩, by decide +kernel, by decide⟩
theorem zcV_RX9_153 : z_CV RX9 153 yX9_entryAt cX9_entryAt 3 (some .int) 2 := ⟨⟨z_k1116, z_k1118, z_kp18, z_k10, z_k1119⟩, by decide +kernel, by decide⟩
theorem zcS_RX9_156 : z_CS RX9 156 yX9_after cX9_after 3 (some .int) 3 := ⟨⟨z_k1156, z_k1157, z_k10, z_k1158⟩, by decide +kernel, by decide⟩
theorem zcS_RX9_160 : z_CS RX9 160 yX9_answers cX9_answers 3 (some .int) 3 := ⟨⟨z_k1159, z_k1160, z_k10, z_k1161⟩, by decide +kernel, by decide⟩
theorem zcV_RX9_163 : z_CV RX9 163 yX9_works cX9_works 7 none 2 := ⟨⟨z_k1152, z_k1154, z_kp27, z_k10, z_k1155⟩, by decide +kernel, by decide⟩
theorem zcV_RX9_166 : z_CV RX9 166 yX9_isVoter cX9_isVoter 2 (some .boolean) 1 := ⟨⟨z_k1096, z_k1098, z_kp13, z_k10, z_k1099⟩, by decide +kernel, by decide⟩
theorem zcV_RX9_169 : z_CV RX9 169 yX9_most cX9_most 1 (some .int) 0 := ⟨⟨z_k1136, z_k1138, z_kp23, z_k10, z_k1139⟩, by decide +kernel, by decide⟩
theorem zcV_RX9_172 : z_CV RX9 172 yX9_termOf cX9_termOf 3 (some .int) 2 := ⟨⟨z_k1112, z_k1114, z_kp17, z_k10, z_k1115⟩, by decide +kernel, by decide⟩
theorem zcV_RX9_175 : z_CV RX9 175 yX9_isSure cX9_isSure 5 (some .boolean) 2 := ⟨⟨z_k1144, z_k1146, z_kp25, z_k10, z_k1147⟩, by decide +kernel, by decide⟩
theorem zcV_RX9_179 : z_CV RX9 179 yX9_doneTo cX9_doneTo 4 none 2 := ⟨⟨z_k1148, z_k1150, z_kp26, z_k10, z_k1151⟩, by decide +kernel, by decide⟩
theorem zcV_RX9_182 : z_CV RX9 182 yX9_settles cX9_settles 3 none 1 := ⟨⟨z_k1140, z_k1142, z_kp24, z_k10, z_k1143⟩, by decide +kernel, by decide⟩
theorem zcV_RX9_186 : z_CV RX9 186 yX9_slotOf cX9_slotOf 3 (some .int) 2 := ⟨⟨z_k1104, z_k1106, z_kp15, z_k10, z_k1107⟩, by decide +kernel, by decide⟩
theorem zcV_RX9_189 : z_CV RX9 189 yX9_empty cX9_empty 2 (some .int) 0 := ⟨⟨z_k1124, z_k1126, z_kp20, z_k10, z_k1127⟩, by decide +kernel, by decide⟩
theorem zcV_RX9_192 : z_CV RX9 192 yX9_putSlot cX9_putSlot 4 none 3 := ⟨⟨z_k1128, z_k1130, z_kp21, z_k10, z_k1131⟩, by decide +kernel, by decide⟩
theorem zcV_RX9_195 : z_CV RX9 195 yX9_letters cX9_letters 3 (some .int) 0 := ⟨⟨z_k1100, z_k1102, z_kp14, z_k10, z_k1103⟩, by decide +kernel, by decide⟩
theorem zcV_RX9_198 : z_CV RX9 198 yX9_sends cX9_sends 8 (some .int) 5 := ⟨⟨z_k1120, z_k1122, z_kp19, z_k10, z_k1123⟩, by decide +kernel, by decide⟩
theorem zcV_RX9_202 : z_CV RX9 202 yX9_leads cX9_leads 3 none 1 := ⟨⟨z_k1132, z_k1134, z_kp22, z_k10, z_k1135⟩, by decide +kernel, by decide⟩
theorem zcV_RX9_205 : z_CV RX9 205 yX9_doesLead cX9_doesLead 2 (some .boolean) 1 := ⟨⟨z_k1166, z_k1168, z_kp28, z_k10, z_k1169⟩, by decide +kernel, by decide⟩
theorem zcV_RX9_208 : z_CV RX9 208 yX9_copy cX9_copy 5 none 3 := ⟨⟨z_k1170, z_k1172, z_kp29, z_k10, z_k1173⟩, by decide +kernel, by decide⟩
theorem zcV_RX9_211 : z_CV RX9 211 yX9_hasLetter cX9_hasLetter 2 (some .boolean) 1 := ⟨⟨z_k1182, z_k1184, z_kp30, z_k10, z_k1185⟩, by decide +kernel, by decide⟩
theorem zcV_RX9_214 : z_CV RX9 214 yX9_getsAsk cX9_getsAsk 7 (some .int) 1 := ⟨⟨z_k1186, z_k1188, z_kp31, z_k10, z_k1189⟩, by decide +kernel, by decide⟩
theorem zcV_RX9_217 : z_CV RX9 217 yX9_getsBallot cX9_getsBallot 2 (some .int) 1 := ⟨⟨z_k1190, z_k1192, z_kp32, z_k10, z_k1193⟩, by decide +kernel, by decide⟩
theorem zcV_RX9_220 : z_CV RX9 220 yX9_getsAppend cX9_getsAppend 5 (some .int) 1 := ⟨⟨z_k1194, z_k1196, z_kp33, z_k10, z_k1197⟩, by decide +kernel, by decide⟩
theorem zcV_RX9_223 : z_CV RX9 223 yX9_getsAnswer cX9_getsAnswer 4 (some .int) 1 := ⟨⟨z_k1206, z_k1208, z_kp36, z_k10, z_k1209⟩, by decide +kernel, by decide⟩
theorem zcV_RX9_226 : z_CV RX9 226 yX9_getsFolding cX9_getsFolding 6 (some .int) 1 := ⟨⟨z_k1210, z_k1212, z_kp37, z_k10, z_k1213⟩, by decide +kernel, by decide⟩
theorem zcV_RX9_229 : z_CV RX9 229 yX9_answersBack cX9_answersBack 5 (some .int) 3 := ⟨⟨z_k1198, z_k1200, z_kp34, z_k10, z_k1201⟩, by decide +kernel, by decide⟩
theorem zcV_RX9_233 : z_CV RX9 233 yX9_takes cX9_takes 5 (some .boolean) 3 := ⟨⟨z_k1202, z_k1204, z_kp35, z_k10, z_k1205⟩, by decide +kernel, by decide⟩
theorem zcV_RX9_240 : z_CV RX9 240 yX9_canCome cX9_canCome 5 (some .boolean) 3 := ⟨⟨z_k1283, z_k1285, z_kp39, z_k10, z_k1286⟩, by decide +kernel, by decide⟩
theorem zcV_RX9_243 : z_CV RX9 243 yX9_findOrder cX9_findOrder 4 (some .boolean) 0 := ⟨⟨z_k1279, z_k1281, z_kp38, z_k10, z_k1282⟩, by decide +kernel, by decide⟩
theorem zcV_RX9_246 : z_CV RX9 246 yX9_up cX9_up 3 (some .int) 0 := ⟨⟨z_k1303, z_k1305, z_kp40, z_k10, z_k1306⟩, by decide +kernel, by decide⟩
variable {p : Program} {l : Launch} {e : Env} {s : State} {m : MethodId} {args : Array Value} {below : List Frame} {meth : Method} {c : Code} {E : zE} {A : Nat → Prop}

def fM_sign (x1 : Int32) (σ : zS) : Option (Int32 × zS) :=
  if (σ.1 (100, 0, 0) 6) ≤ x1 then
    (some (0, σ))
  else
    (if z_in x1 400 = true then (
    some ((σ.1 (102, 0, 0) x1.toNatClampNeg) &&& 255, σ)) else none)
set_option maxHeartbeats 4000000 in
set_option maxRecDepth 20000 in
theorem wM_sign {x1 : Int32} (C : z_C E RX9 cX9_sign 2 A p s m args meth c) (hr : meth.sig.returnType = (some .int)) (hM : z_M E) {ro : Int32} {σo : zS} (σ : zS) (H : Heap) (locs : List Loc) (ls : Array Slot) (hs : z_H E A s σ H locs) (hl : lv_has ls 2 [(0, .ref (z_ad E (100, 0, 0))), (1, .int x1)]) (hf : fM_sign x1 σ = some (ro, σo)) : W p l e (z_rm 1) s m args below meth c H locs 0 0 (MQ below (z_QI E ro σo A) args s 0 0 A) (F0 m 0 ls []) := by
  have hx := C.1
  have hb := C.2.1
  unfold fM_sign at hf
  refine lv_iload_n hx hb dX9_sign_0 rfl (lv_at hl 1 rfl) ?_
  refine lv_aload_n hx hb dX9_sign_1 rfl (lv_at hl 0 rfl) ?_
  refine zg_M_size C hs (hM 100 (by decide) (by decide)) z_k956 dX9_sign_2 ?_
  refine lv_icmp_ge (tgt := 21) hx hb dX9_sign_5 (by decide) (fun c1 => ?_) (fun c1 => ?_)
  · have hf := z_t hf c1
    refine lv_iconst (v := 0) hx hb dX9_sign_21 (by decide) ?_
    exact z_reti C hr hs hf dX9_sign_22
  · have hf := z_f hf c1
    refine lv_aload_n hx hb dX9_sign_8 rfl (lv_at hl 0 rfl) ?_
    refine zg_M_text C hs (hM 100 (by decide) (by decide)) z_k951 dX9_sign_9 ?_
    refine lv_iload_n hx hb dX9_sign_12 rfl (lv_at hl 1 rfl) ?_
    obtain ⟨g2, hf⟩ := z_gd hf
    refine z_bald C hs (hM 102 (by decide) (by decide)) (z_c102 E _ _ _ _) g2 rfl dX9_sign_13 ?_
    refine lv_sipush (v := 255) hx hb dX9_sign_14 (by decide) ?_
    refine lv_iand hx hb dX9_sign_17 ?_
    refine lv_goto (tgt := 22) hx hb dX9_sign_18 (by decide) ?_
    exact z_reti C hr hs hf dX9_sign_22
set_option maxHeartbeats 4000000 in
set_option maxRecDepth 20000 in
theorem cM_sign (l : Launch) (E : zE) {x1 : Int32} (hM : z_M E) {σ σo : zS} {ro : Int32} (hf : fM_sign x1 σ = some (ro, σo)) : z_T l E yX9_sign cX9_sign 2 (some .int) (z_rm 1) (z_QI E ro σo) [.ref (z_ad E (100, 0, 0)), .int x1] σ :=
  z_enter (by decide) (Nat.le_of_ble_eq_true rfl) rfl (fun p e s m below meth c A ls C hr hs hl => wM_sign C hr hM σ _ _ ls hs hl hf)
def fM_isLetter (x0 : Int32) (σ : zS) : Option (Int32 × zS) :=
  if x0 < 97 then
    (some (0, σ))
  else
    (if 122 < x0 then
      (some (0, σ))
    else
      (some (1, σ)))
set_option maxHeartbeats 4000000 in
set_option maxRecDepth 20000 in
theorem wM_isLetter {x0 : Int32} (C : z_C E RX9 cX9_isLetter 1 A p s m args meth c) (hr : meth.sig.returnType = (some .boolean)) {ro : Int32} {σo : zS} (σ : zS) (H : Heap) (locs : List Loc) (ls : Array Slot) (hs : z_H E A s σ H locs) (hl : lv_has ls 1 [(0, .int x0)]) (hf : fM_isLetter x0 σ = some (ro, σo)) : W p l e (z_rm 1) s m args below meth c H locs 0 0 (MQ below (z_QI E ro σo A) args s 0 0 A) (F0 m 0 ls []) := by
  have hx := C.1
  have hb := C.2.1
  unfold fM_isLetter at hf
  refine lv_iload_n hx hb dX9_isLetter_0 rfl (lv_at hl 0 rfl) ?_
  refine lv_bipush (v := 97) hx hb dX9_isLetter_1 (by decide) ?_
  refine lv_icmp_lt (tgt := 16) hx hb dX9_isLetter_3 (by decide) (fun c1 => ?_) (fun c1 => ?_)
  · have hf := z_t hf c1
    refine lv_iconst (v := 0) hx hb dX9_isLetter_16 (by decide) ?_
    exact z_retz C hr hs (by decide +kernel) hf dX9_isLetter_17
  · have hf := z_f hf c1
    refine lv_iload_n hx hb dX9_isLetter_6 rfl (lv_at hl 0 rfl) ?_
    refine lv_bipush (v := 122) hx hb dX9_isLetter_7 (by decide) ?_
    refine lv_icmp_gt (tgt := 16) hx hb dX9_isLetter_9 (by decide) (fun c2 => ?_) (fun c2 => ?_)
    · have hf := z_t hf c2
      refine lv_iconst (v := 0) hx hb dX9_isLetter_16 (by decide) ?_
      exact z_retz C hr hs (by decide +kernel) hf dX9_isLetter_17
    · have hf := z_f hf c2
      refine lv_iconst (v := 1) hx hb dX9_isLetter_12 (by decide) ?_
      refine lv_goto (tgt := 17) hx hb dX9_isLetter_13 (by decide) ?_
      exact z_retz C hr hs (by decide +kernel) hf dX9_isLetter_17
set_option maxHeartbeats 4000000 in
set_option maxRecDepth 20000 in
theorem cM_isLetter (l : Launch) (E : zE) {x0 : Int32} {σ σo : zS} {ro : Int32} (hf : fM_isLetter x0 σ = some (ro, σo)) : z_T l E yX9_isLetter cX9_isLetter 1 (some .boolean) (z_rm 1) (z_QI E ro σo) [.int x0] σ :=
  z_enter (by decide) (Nat.le_of_ble_eq_true rfl) rfl (fun p e s m below meth c A ls C hr hs hl => wM_isLetter C hr σ _ _ ls hs hl hf)
def fM_fails (x1 : Int32) (x2 : Int32) (σ : zS) : Option (Unit × zS) :=
  if (σ.1 (100, 0, 0) 7) ≤ 0 then
    (z_let (z_up σ (100, 0, 0) 7 x1) (fun σ2 =>
    z_let (z_up σ2 (100, 0, 0) 8 x2) (fun σ3 =>
    some ((), σ3))))
  else
    (some ((), σ))
set_option maxHeartbeats 4000000 in
set_option maxRecDepth 20000 in
theorem wM_fails {x1 : Int32} {x2 : Int32} (C : z_C E RX9 cX9_fails 3 A p s m args meth c) (hr : meth.sig.returnType = none) (hM : z_M E) {ro : Unit} {σo : zS} (σ : zS) (H : Heap) (locs : List Loc) (ls : Array Slot) (hs : z_H E A s σ H locs) (hl : lv_has ls 3 [(0, .ref (z_ad E (100, 0, 0))), (1, .int x1), (2, .int x2)]) (hf : fM_fails x1 x2 σ = some (ro, σo)) : W p l e (z_rm 1) s m args below meth c H locs 0 0 (MQ below (z_QV E ro σo A) args s 0 0 A) (F0 m 0 ls []) := by
  have hx := C.1
  have hb := C.2.1
  unfold fM_fails at hf
  refine lv_aload_n hx hb dX9_fails_0 rfl (lv_at hl 0 rfl) ?_
  refine zg_M_faultKind C hs (hM 100 (by decide) (by decide)) z_k957 dX9_fails_1 ?_
  refine lv_if_le (tgt := 8) hx hb dX9_fails_4 (by decide) (fun c1 => ?_) (fun c1 => ?_)
  · have hf := z_t hf c1
    refine lv_aload_n hx hb dX9_fails_8 rfl (lv_at hl 0 rfl) ?_
    refine lv_iload_n hx hb dX9_fails_9 rfl (lv_at hl 1 rfl) ?_
    refine zp_M_faultKind C hs (hM 100 (by decide) (by decide)) z_k957 dX9_fails_10 (fun H locs hs => ?_)
    obtain ⟨σ2, -, hs, hf⟩ := z_top hs hf
    refine lv_aload_n hx hb dX9_fails_13 rfl (lv_at hl 0 rfl) ?_
    refine lv_iload_n hx hb dX9_fails_14 rfl (lv_at hl 2 rfl) ?_
    refine zp_M_faultPlace C hs (hM 100 (by decide) (by decide)) z_k958 dX9_fails_15 (fun H locs hs => ?_)
    obtain ⟨σ3, -, hs, hf⟩ := z_top hs hf
    exact z_retv C hr hs hf dX9_fails_18
  · have hf := z_f hf c1
    exact z_retv C hr hs hf dX9_fails_7
set_option maxHeartbeats 4000000 in
set_option maxRecDepth 20000 in
theorem cM_fails (l : Launch) (E : zE) {x1 : Int32} {x2 : Int32} (hM : z_M E) {σ σo : zS} {ro : Unit} (hf : fM_fails x1 x2 σ = some (ro, σo)) : z_T l E yX9_fails cX9_fails 3 none (z_rm 1) (z_QV E ro σo) [.ref (z_ad E (100, 0, 0)), .int x1, .int x2] σ :=
  z_enter (by decide) (Nat.le_of_ble_eq_true rfl) rfl (fun p e s m below meth c A ls C hr hs hl => wM_fails C hr hM σ _ _ ls hs hl hf)
def fM_isGood (σ : zS) : Option (Int32 × zS) :=
  if (σ.1 (100, 0, 0) 7) = 0 then
    (some (1, σ))
  else
    (some (0, σ))
set_option maxHeartbeats 4000000 in
set_option maxRecDepth 20000 in
theorem wM_isGood (C : z_C E RX9 cX9_isGood 1 A p s m args meth c) (hr : meth.sig.returnType = (some .boolean)) (hM : z_M E) {ro : Int32} {σo : zS} (σ : zS) (H : Heap) (locs : List Loc) (ls : Array Slot) (hs : z_H E A s σ H locs) (hl : lv_has ls 1 [(0, .ref (z_ad E (100, 0, 0)))]) (hf : fM_isGood σ = some (ro, σo)) : W p l e (z_rm 1) s m args below meth c H locs 0 0 (MQ below (z_QI E ro σo A) args s 0 0 A) (F0 m 0 ls []) := by
  have hx := C.1
  have hb := C.2.1
  unfold fM_isGood at hf
  refine lv_aload_n hx hb dX9_isGood_0 rfl (lv_at hl 0 rfl) ?_
  refine zg_M_faultKind C hs (hM 100 (by decide) (by decide)) z_k957 dX9_isGood_1 ?_
  refine lv_if_ne (tgt := 11) hx hb dX9_isGood_4 (by decide) (fun c1 => ?_) (fun c1 => ?_)
  · have hf := z_f hf c1
    refine lv_iconst (v := 0) hx hb dX9_isGood_11 (by decide) ?_
    exact z_retz C hr hs (by decide +kernel) hf dX9_isGood_12
  · have hf := z_t hf c1
    refine lv_iconst (v := 1) hx hb dX9_isGood_7 (by decide) ?_
    refine lv_goto (tgt := 12) hx hb dX9_isGood_8 (by decide) ?_
    exact z_retz C hr hs (by decide +kernel) hf dX9_isGood_12
set_option maxHeartbeats 4000000 in
set_option maxRecDepth 20000 in
theorem cM_isGood (l : Launch) (E : zE) (hM : z_M E) {σ σo : zS} {ro : Int32} (hf : fM_isGood σ = some (ro, σo)) : z_T l E yX9_isGood cX9_isGood 1 (some .boolean) (z_rm 1) (z_QI E ro σo) [.ref (z_ad E (100, 0, 0))] σ :=
  z_enter (by decide) (Nat.le_of_ble_eq_true rfl) rfl (fun p e s m below meth c A ls C hr hs hl => wM_isGood C hr hM σ _ _ ls hs hl hf)
def fM_goOn_199 (σ : zS) : Option (Unit × zS) :=
  if ((σ.1 (100, 0, 0) 15) - (σ.1 (100, 0, 0) 14)) ≤ 8 then
    (if (lg_cmp (σ.2 (100, 0, 0) 17) 118083237733746) = 0 then
      (z_let (z_up σ (100, 0, 0) 16 3) (fun σ19 =>
      some ((), σ19)))
    else
      (if (lg_cmp (σ.2 (100, 0, 0) 17) 126896627347060) = 0 then
        (z_let (z_up σ (100, 0, 0) 16 3) (fun σ22 =>
        some ((), σ22)))
      else
        (z_let (z_up σ (100, 0, 0) 16 2) (fun σ21 =>
        some ((), σ21)))))
  else
    (z_let (z_up σ (100, 0, 0) 16 1) (fun σ23 =>
    some ((), σ23)))
def fM_goOn_156 : Nat → Int32 → zS → Option (Unit × zS)
  | 0, _, _ => none
  | n + 1, x2, σ =>
    if (σ.1 (100, 0, 0) 15) ≤ x2 then
      (fM_goOn_199 σ)
    else
      (if ((σ.1 (100, 0, 0) 14) + 8) ≤ x2 then
        (fM_goOn_199 σ)
      else
        (z_bd (fM_sign x2 σ) (fun r25 σ25 =>
        z_let (z_upl σ25 (100, 0, 0) 17 (((σ.2 (100, 0, 0) 17) <<< ((8 : Int32).toInt64 &&& 63)) ||| (r25.toInt64))) (fun σ26 =>
        z_let (x2 + 1) (fun y27 =>
        fM_goOn_156 n y27 σ26)))))
def fM_goOn_119 : Nat → zS → Option (Unit × zS)
  | 0, _ => none
  | n + 1, σ =>
    z_bd (fM_sign (σ.1 (100, 0, 0) 15) σ) (fun r11 σ11 =>
    z_bd (fM_isLetter r11 σ11) (fun r12 σ12 =>
    if r12 = 0 then
      (z_let (z_upl σ12 (100, 0, 0) 17 0) (fun σ14 =>
      z_let (σ14.1 (100, 0, 0) 14) (fun y15 =>
      fM_goOn_156 z_fu y15 σ14)))
    else
      (z_let (z_up σ12 (100, 0, 0) 15 ((σ12.1 (100, 0, 0) 15) + 1)) (fun σ28 =>
      fM_goOn_119 n σ28))))
def fM_goOn_58 (σ : zS) : Option (Unit × zS) :=
  z_bd (fM_sign (σ.1 (100, 0, 0) 14) σ) (fun r3 σ3 =>
  z_let (z_up σ3 (100, 0, 0) 15 ((σ3.1 (100, 0, 0) 14) + 1)) (fun σ4 =>
  if (σ4.1 (100, 0, 0) 14) < (σ4.1 (100, 0, 0) 6) then
    (z_bd (fM_isLetter r3 σ4) (fun r6 σ6 =>
    if r6 = 0 then
      (if r3 = 59 then
        (z_let (z_up σ6 (100, 0, 0) 16 4) (fun σ10 =>
        some ((), σ10)))
      else
        (z_let (z_up σ6 (100, 0, 0) 16 1) (fun σ9 =>
        some ((), σ9))))
    else
      (fM_goOn_119 z_fu σ6)))
  else
    (z_let (z_up σ4 (100, 0, 0) 16 0) (fun σ29 =>
    z_let (z_up σ29 (100, 0, 0) 14 (σ29.1 (100, 0, 0) 6)) (fun σ30 =>
    z_let (z_up σ30 (100, 0, 0) 15 (σ30.1 (100, 0, 0) 6)) (fun σ31 =>
    some ((), σ31)))))))
def fM_goOn_8 : Nat → zS → Option (Unit × zS)
  | 0, _ => none
  | n + 1, σ =>
    if (σ.1 (100, 0, 0) 6) ≤ (σ.1 (100, 0, 0) 14) then
      (fM_goOn_58 σ)
    else
      (z_bd (fM_sign (σ.1 (100, 0, 0) 14) σ) (fun r32 σ32 =>
      if r32 = 32 then
        (z_let (z_up σ32 (100, 0, 0) 14 ((σ32.1 (100, 0, 0) 14) + 1)) (fun σ34 =>
        fM_goOn_8 n σ34))
      else
        (z_bd (fM_sign (σ32.1 (100, 0, 0) 14) σ32) (fun r35 σ35 =>
        if r35 = 10 then
          (z_let (z_up σ35 (100, 0, 0) 14 ((σ35.1 (100, 0, 0) 14) + 1)) (fun σ37 =>
          fM_goOn_8 n σ37))
        else
          (fM_goOn_58 σ35)))))
def fM_goOn (σ : zS) : Option (Unit × zS) :=
  z_let (z_up σ (100, 0, 0) 14 (σ.1 (100, 0, 0) 15)) (fun σ1 =>
  fM_goOn_8 z_fu σ1)
set_option maxHeartbeats 4000000 in
set_option maxRecDepth 20000 in
theorem wM_goOn_199 (C : z_C E RX9 cX9_goOn 3 A p s m args meth c) (hr : meth.sig.returnType = none) (hM : z_M E) {ro : Unit} {σo : zS} (σ : zS) (H : Heap) (locs : List Loc) (ls : Array Slot) (hs : z_H E A s σ H locs) (hl : lv_has ls 3 [(0, .ref (z_ad E (100, 0, 0)))]) (hf : fM_goOn_199 σ = some (ro, σo)) : W p l e (z_rm 2) s m args below meth c H locs 0 0 (MQ below (z_QV E ro σo A) args s 0 0 A) (F0 m 199 ls []) := by
  have hx := C.1
  have hb := C.2.1
  unfold fM_goOn_199 at hf
  refine lv_aload_n hx hb dX9_goOn_199 rfl (lv_at hl 0 rfl) ?_
  refine lv_aload_n hx hb dX9_goOn_200 rfl (lv_at hl 0 rfl) ?_
  refine zg_M_end C hs (hM 100 (by decide) (by decide)) z_k965 dX9_goOn_201 ?_
  refine lv_aload_n hx hb dX9_goOn_204 rfl (lv_at hl 0 rfl) ?_
  refine zg_M_at C hs (hM 100 (by decide) (by decide)) z_k964 dX9_goOn_205 ?_
  refine lv_isub hx hb dX9_goOn_208 ?_
  refine lv_bipush (v := 8) hx hb dX9_goOn_209 (by decide) ?_
  refine lv_icmp_le (tgt := 218) hx hb dX9_goOn_211 (by decide) (fun c17 => ?_) (fun c17 => ?_)
  · have hf := z_t hf c17
    refine lv_aload_n hx hb dX9_goOn_218 rfl (lv_at hl 0 rfl) ?_
    refine zg_M_name C hs (hM 100 (by decide) (by decide)) z_k967 dX9_goOn_219 ?_
    refine lv_ldc2 (v := 118083237733746) hx hb C.2.2.2.1 (C.2.2.2.2.1 _ z_k1048) dX9_goOn_222 ?_
    refine W.lcmp hx hb dX9_goOn_225 ?_
    refine lv_if_eq (tgt := 240) hx hb dX9_goOn_226 (by decide) (fun c18 => ?_) (fun c18 => ?_)
    · have hf := z_t hf c18
      refine lv_iconst (v := 3) hx hb dX9_goOn_240 (by decide) ?_
      refine lv_goto (tgt := 245) hx hb dX9_goOn_241 (by decide) ?_
      refine zp_M_token C hs (hM 100 (by decide) (by decide)) z_k966 dX9_goOn_245 (fun H locs hs => ?_)
      obtain ⟨σ19, -, hs, hf⟩ := z_top hs hf
      refine lv_goto (tgt := 266) hx hb dX9_goOn_248 (by decide) ?_
      exact z_retv C hr hs hf dX9_goOn_266
    · have hf := z_f hf c18
      refine lv_aload_n hx hb dX9_goOn_229 rfl (lv_at hl 0 rfl) ?_
      refine zg_M_name C hs (hM 100 (by decide) (by decide)) z_k967 dX9_goOn_230 ?_
      refine lv_ldc2 (v := 126896627347060) hx hb C.2.2.2.1 (C.2.2.2.2.1 _ z_k1049) dX9_goOn_233 ?_
      refine W.lcmp hx hb dX9_goOn_236 ?_
      refine lv_if_ne (tgt := 244) hx hb dX9_goOn_237 (by decide) (fun c20 => ?_) (fun c20 => ?_)
      · have hf := z_f hf c20
        refine lv_iconst (v := 2) hx hb dX9_goOn_244 (by decide) ?_
        refine zp_M_token C hs (hM 100 (by decide) (by decide)) z_k966 dX9_goOn_245 (fun H locs hs => ?_)
        obtain ⟨σ21, -, hs, hf⟩ := z_top hs hf
        refine lv_goto (tgt := 266) hx hb dX9_goOn_248 (by decide) ?_
        exact z_retv C hr hs hf dX9_goOn_266
      · have hf := z_t hf c20
        refine lv_iconst (v := 3) hx hb dX9_goOn_240 (by decide) ?_
        refine lv_goto (tgt := 245) hx hb dX9_goOn_241 (by decide) ?_
        refine zp_M_token C hs (hM 100 (by decide) (by decide)) z_k966 dX9_goOn_245 (fun H locs hs => ?_)
        obtain ⟨σ22, -, hs, hf⟩ := z_top hs hf
        refine lv_goto (tgt := 266) hx hb dX9_goOn_248 (by decide) ?_
        exact z_retv C hr hs hf dX9_goOn_266
  · have hf := z_f hf c17
    refine lv_iconst (v := 1) hx hb dX9_goOn_214 (by decide) ?_
    refine lv_goto (tgt := 245) hx hb dX9_goOn_215 (by decide) ?_
    refine zp_M_token C hs (hM 100 (by decide) (by decide)) z_k966 dX9_goOn_245 (fun H locs hs => ?_)
    obtain ⟨σ23, -, hs, hf⟩ := z_top hs hf
    refine lv_goto (tgt := 266) hx hb dX9_goOn_248 (by decide) ?_
    exact z_retv C hr hs hf dX9_goOn_266
set_option maxHeartbeats 4000000 in
set_option maxRecDepth 20000 in
theorem wM_goOn_156 (C : z_C E RX9 cX9_goOn 3 A p s m args meth c) (hr : meth.sig.returnType = none) (hM : z_M E) {ro : Unit} {σo : zS} (n : Nat) : ∀ (x2 : Int32) (σ : zS) (H : Heap) (locs : List Loc) (ls : Array Slot), z_H E A s σ H locs → lv_has ls 3 [(0, .ref (z_ad E (100, 0, 0))), (2, .int x2)] → fM_goOn_156 n x2 σ = some (ro, σo) → W p l e (z_rm 2) s m args below meth c H locs 0 0 (MQ below (z_QV E ro σo A) args s 0 0 A) (F0 m 156 ls []) := by
  induction n with
  | zero =>
    intro x2 σ H locs ls hs hl hf
    have hf : none = some (ro, σo) := hf
    cases hf
  | succ n ih =>
    intro x2 σ H locs ls hs hl hf
    have hx := C.1
    have hb := C.2.1
    rw [fM_goOn_156.eq_2] at hf
    refine lv_iload_n hx hb dX9_goOn_156 rfl (lv_at hl 1 rfl) ?_
    refine lv_aload_n hx hb dX9_goOn_157 rfl (lv_at hl 0 rfl) ?_
    refine zg_M_end C hs (hM 100 (by decide) (by decide)) z_k965 dX9_goOn_158 ?_
    refine lv_icmp_ge (tgt := 199) hx hb dX9_goOn_161 (by decide) (fun c16 => ?_) (fun c16 => ?_)
    · have hf := z_t hf c16
      exact wM_goOn_199 C hr hM σ _ _ _ hs (lv_sub hl [0] rfl) hf
    · have hf := z_f hf c16
      refine lv_iload_n hx hb dX9_goOn_164 rfl (lv_at hl 1 rfl) ?_
      refine lv_aload_n hx hb dX9_goOn_165 rfl (lv_at hl 0 rfl) ?_
      refine zg_M_at C hs (hM 100 (by decide) (by decide)) z_k964 dX9_goOn_166 ?_
      refine lv_bipush (v := 8) hx hb dX9_goOn_169 (by decide) ?_
      refine lv_iadd hx hb dX9_goOn_171 ?_
      refine lv_icmp_ge (tgt := 199) hx hb dX9_goOn_172 (by decide) (fun c24 => ?_) (fun c24 => ?_)
      · have hf := z_t hf c24
        exact wM_goOn_199 C hr hM σ _ _ _ hs (lv_sub hl [0] rfl) hf
      · have hf := z_f hf c24
        refine lv_aload_n hx hb dX9_goOn_175 rfl (lv_at hl 0 rfl) ?_
        refine lv_aload_n hx hb dX9_goOn_176 rfl (lv_at hl 0 rfl) ?_
        refine zg_M_name C hs (hM 100 (by decide) (by decide)) z_k967 dX9_goOn_177 ?_
        refine lv_bipush (v := 8) hx hb dX9_goOn_180 (by decide) ?_
        refine lv_lshl hx hb dX9_goOn_182 rfl ?_
        refine lv_aload_n hx hb dX9_goOn_183 rfl (lv_at hl 0 rfl) ?_
        refine lv_iload_n hx hb dX9_goOn_184 rfl (lv_at hl 1 rfl) ?_
        obtain ⟨r25, σ25, h_25, hf⟩ := z_bds hf
        refine z_goI C hs (z_runV C hs hl.1 (cM_sign l E hM h_25) zcV_RX9_80 (hM 100 (by decide) (by decide)) (z_c100 E _ _ _ _) rfl rfl rfl (by decide) (Nat.le_of_ble_eq_true rfl) dX9_goOn_185) (fun H locs hs => ?_)
        refine lv_i2l hx hb dX9_goOn_188 rfl ?_
        refine lv_lor hx hb dX9_goOn_189 ?_
        refine zp_M_name C hs (hM 100 (by decide) (by decide)) z_k967 dX9_goOn_190 (fun H locs hs => ?_)
        obtain ⟨σ26, -, hs, hf⟩ := z_top hs hf
        obtain ⟨y27, e_y27⟩ : ∃ y : Int32, y = x2 + 1 := ⟨_, rfl⟩
        have hf := z_lte e_y27 hf
        refine lv_iinc (v := y27) (lv' := [(2, .int y27), (0, .ref (z_ad E (100, 0, 0)))]) hx hb dX9_goOn_193 hl (k := 1) rfl (by rw [e_y27]; rfl) (by decide) rfl (fun ls hl => ?_)
        refine lv_goto (tgt := 156) hx hb dX9_goOn_196 (by decide) ?_
        exact ih y27 σ26 _ _ _ hs (lv_sub hl [1, 0] rfl) hf
set_option maxHeartbeats 4000000 in
set_option maxRecDepth 20000 in
theorem wM_goOn_119 (C : z_C E RX9 cX9_goOn 3 A p s m args meth c) (hr : meth.sig.returnType = none) (hM : z_M E) {ro : Unit} {σo : zS} (n : Nat) : ∀ (σ : zS) (H : Heap) (locs : List Loc) (ls : Array Slot), z_H E A s σ H locs → lv_has ls 3 [(0, .ref (z_ad E (100, 0, 0)))] → fM_goOn_119 n σ = some (ro, σo) → W p l e (z_rm 2) s m args below meth c H locs 0 0 (MQ below (z_QV E ro σo A) args s 0 0 A) (F0 m 119 ls []) := by
  induction n with
  | zero =>
    intro σ H locs ls hs hl hf
    have hf : none = some (ro, σo) := hf
    cases hf
  | succ n ih =>
    intro σ H locs ls hs hl hf
    have hx := C.1
    have hb := C.2.1
    rw [fM_goOn_119.eq_2] at hf
    refine lv_aload_n hx hb dX9_goOn_119 rfl (lv_at hl 0 rfl) ?_
    refine lv_aload_n hx hb dX9_goOn_120 rfl (lv_at hl 0 rfl) ?_
    refine zg_M_end C hs (hM 100 (by decide) (by decide)) z_k965 dX9_goOn_121 ?_
    obtain ⟨r11, σ11, h_11, hf⟩ := z_bds hf
    refine z_goI C hs (z_runV C hs hl.1 (cM_sign l E hM h_11) zcV_RX9_80 (hM 100 (by decide) (by decide)) (z_c100 E _ _ _ _) rfl rfl rfl (by decide) (Nat.le_of_ble_eq_true rfl) dX9_goOn_124) (fun H locs hs => ?_)
    obtain ⟨r12, σ12, h_12, hf⟩ := z_bds hf
    refine z_goI C hs (z_runS C hs hl.1 (cM_isLetter l E h_12) zcS_RX9_87 rfl rfl rfl (by decide) (Nat.le_of_ble_eq_true rfl) dX9_goOn_127) (fun H locs hs => ?_)
    refine lv_if_eq (tgt := 146) hx hb dX9_goOn_130 (by decide) (fun c13 => ?_) (fun c13 => ?_)
    · have hf := z_t hf c13
      refine lv_aload_n hx hb dX9_goOn_146 rfl (lv_at hl 0 rfl) ?_
      refine lv_lconst (v := 0) hx hb dX9_goOn_147 (by decide) ?_
      refine zp_M_name C hs (hM 100 (by decide) (by decide)) z_k967 dX9_goOn_148 (fun H locs hs => ?_)
      obtain ⟨σ14, -, hs, hf⟩ := z_top hs hf
      refine lv_aload_n hx hb dX9_goOn_151 rfl (lv_at hl 0 rfl) ?_
      refine zg_M_at C hs (hM 100 (by decide) (by decide)) z_k964 dX9_goOn_152 ?_
      refine lv_topi (fun y15 e_y15 => ?_)
      have hf := z_lte e_y15 hf
      refine lv_istore_n (lv' := [(2, .int y15), (0, .ref (z_ad E (100, 0, 0)))]) hx hb dX9_goOn_155 rfl hl (by decide) rfl (fun ls hl => ?_)
      exact wM_goOn_156 C hr hM z_fu y15 σ14 _ _ _ hs (lv_sub hl [1, 0] rfl) hf
    · have hf := z_f hf c13
      refine lv_aload_n hx hb dX9_goOn_133 rfl (lv_at hl 0 rfl) ?_
      refine lv_dup hx hb dX9_goOn_134 rfl ?_
      refine zg_M_end C hs (hM 100 (by decide) (by decide)) z_k965 dX9_goOn_135 ?_
      refine lv_iconst (v := 1) hx hb dX9_goOn_138 (by decide) ?_
      refine lv_iadd hx hb dX9_goOn_139 ?_
      refine zp_M_end C hs (hM 100 (by decide) (by decide)) z_k965 dX9_goOn_140 (fun H locs hs => ?_)
      obtain ⟨σ28, -, hs, hf⟩ := z_top hs hf
      refine lv_goto (tgt := 119) hx hb dX9_goOn_143 (by decide) ?_
      exact ih σ28 _ _ _ hs (lv_sub hl [0] rfl) hf
set_option maxHeartbeats 4000000 in
set_option maxRecDepth 20000 in
theorem wM_goOn_58 (C : z_C E RX9 cX9_goOn 3 A p s m args meth c) (hr : meth.sig.returnType = none) (hM : z_M E) {ro : Unit} {σo : zS} (σ : zS) (H : Heap) (locs : List Loc) (ls : Array Slot) (hs : z_H E A s σ H locs) (hl : lv_has ls 3 [(0, .ref (z_ad E (100, 0, 0)))]) (hf : fM_goOn_58 σ = some (ro, σo)) : W p l e (z_rm 2) s m args below meth c H locs 0 0 (MQ below (z_QV E ro σo A) args s 0 0 A) (F0 m 58 ls []) := by
  have hx := C.1
  have hb := C.2.1
  unfold fM_goOn_58 at hf
  refine lv_aload_n hx hb dX9_goOn_58 rfl (lv_at hl 0 rfl) ?_
  refine lv_aload_n hx hb dX9_goOn_59 rfl (lv_at hl 0 rfl) ?_
  refine zg_M_at C hs (hM 100 (by decide) (by decide)) z_k964 dX9_goOn_60 ?_
  obtain ⟨r3, σ3, h_3, hf⟩ := z_bds hf
  refine z_goI C hs (z_runV C hs hl.1 (cM_sign l E hM h_3) zcV_RX9_80 (hM 100 (by decide) (by decide)) (z_c100 E _ _ _ _) rfl rfl rfl (by decide) (Nat.le_of_ble_eq_true rfl) dX9_goOn_63) (fun H locs hs => ?_)
  refine lv_istore_n (lv' := [(1, .int r3), (0, .ref (z_ad E (100, 0, 0)))]) hx hb dX9_goOn_66 rfl hl (by decide) rfl (fun ls hl => ?_)
  refine lv_aload_n hx hb dX9_goOn_67 rfl (lv_at hl 1 rfl) ?_
  refine lv_aload_n hx hb dX9_goOn_68 rfl (lv_at hl 1 rfl) ?_
  refine zg_M_at C hs (hM 100 (by decide) (by decide)) z_k964 dX9_goOn_69 ?_
  refine lv_iconst (v := 1) hx hb dX9_goOn_72 (by decide) ?_
  refine lv_iadd hx hb dX9_goOn_73 ?_
  refine zp_M_end C hs (hM 100 (by decide) (by decide)) z_k965 dX9_goOn_74 (fun H locs hs => ?_)
  obtain ⟨σ4, -, hs, hf⟩ := z_top hs hf
  refine lv_aload_n hx hb dX9_goOn_77 rfl (lv_at hl 1 rfl) ?_
  refine zg_M_at C hs (hM 100 (by decide) (by decide)) z_k964 dX9_goOn_78 ?_
  refine lv_aload_n hx hb dX9_goOn_81 rfl (lv_at hl 1 rfl) ?_
  refine zg_M_size C hs (hM 100 (by decide) (by decide)) z_k956 dX9_goOn_82 ?_
  refine lv_icmp_lt (tgt := 112) hx hb dX9_goOn_85 (by decide) (fun c5 => ?_) (fun c5 => ?_)
  · have hf := z_t hf c5
    refine lv_iload_n hx hb dX9_goOn_112 rfl (lv_at hl 0 rfl) ?_
    obtain ⟨r6, σ6, h_6, hf⟩ := z_bds hf
    refine z_goI C hs (z_runS C hs hl.1 (cM_isLetter l E h_6) zcS_RX9_87 rfl rfl rfl (by decide) (Nat.le_of_ble_eq_true rfl) dX9_goOn_113) (fun H locs hs => ?_)
    refine lv_if_eq (tgt := 251) hx hb dX9_goOn_116 (by decide) (fun c7 => ?_) (fun c7 => ?_)
    · have hf := z_t hf c7
      refine lv_aload_n hx hb dX9_goOn_251 rfl (lv_at hl 1 rfl) ?_
      refine lv_iload_n hx hb dX9_goOn_252 rfl (lv_at hl 0 rfl) ?_
      refine lv_bipush (v := 59) hx hb dX9_goOn_253 (by decide) ?_
      refine lv_icmp_ne (tgt := 262) hx hb dX9_goOn_255 (by decide) (fun c8 => ?_) (fun c8 => ?_)
      · have hf := z_f hf c8
        refine lv_iconst (v := 1) hx hb dX9_goOn_262 (by decide) ?_
        refine zp_M_token C hs (hM 100 (by decide) (by decide)) z_k966 dX9_goOn_263 (fun H locs hs => ?_)
        obtain ⟨σ9, -, hs, hf⟩ := z_top hs hf
        exact z_retv C hr hs hf dX9_goOn_266
      · have hf := z_t hf c8
        refine lv_iconst (v := 4) hx hb dX9_goOn_258 (by decide) ?_
        refine lv_goto (tgt := 263) hx hb dX9_goOn_259 (by decide) ?_
        refine zp_M_token C hs (hM 100 (by decide) (by decide)) z_k966 dX9_goOn_263 (fun H locs hs => ?_)
        obtain ⟨σ10, -, hs, hf⟩ := z_top hs hf
        exact z_retv C hr hs hf dX9_goOn_266
    · have hf := z_f hf c7
      exact wM_goOn_119 C hr hM z_fu σ6 _ _ _ hs (lv_sub hl [1] rfl) hf
  · have hf := z_f hf c5
    refine lv_aload_n hx hb dX9_goOn_88 rfl (lv_at hl 1 rfl) ?_
    refine lv_iconst (v := 0) hx hb dX9_goOn_89 (by decide) ?_
    refine zp_M_token C hs (hM 100 (by decide) (by decide)) z_k966 dX9_goOn_90 (fun H locs hs => ?_)
    obtain ⟨σ29, -, hs, hf⟩ := z_top hs hf
    refine lv_aload_n hx hb dX9_goOn_93 rfl (lv_at hl 1 rfl) ?_
    refine lv_aload_n hx hb dX9_goOn_94 rfl (lv_at hl 1 rfl) ?_
    refine zg_M_size C hs (hM 100 (by decide) (by decide)) z_k956 dX9_goOn_95 ?_
    refine zp_M_at C hs (hM 100 (by decide) (by decide)) z_k964 dX9_goOn_98 (fun H locs hs => ?_)
    obtain ⟨σ30, -, hs, hf⟩ := z_top hs hf
    refine lv_aload_n hx hb dX9_goOn_101 rfl (lv_at hl 1 rfl) ?_
    refine lv_aload_n hx hb dX9_goOn_102 rfl (lv_at hl 1 rfl) ?_
    refine zg_M_size C hs (hM 100 (by decide) (by decide)) z_k956 dX9_goOn_103 ?_
    refine zp_M_end C hs (hM 100 (by decide) (by decide)) z_k965 dX9_goOn_106 (fun H locs hs => ?_)
    obtain ⟨σ31, -, hs, hf⟩ := z_top hs hf
    refine lv_goto (tgt := 266) hx hb dX9_goOn_109 (by decide) ?_
    exact z_retv C hr hs hf dX9_goOn_266
set_option maxHeartbeats 4000000 in
set_option maxRecDepth 20000 in
theorem wM_goOn_8 (C : z_C E RX9 cX9_goOn 3 A p s m args meth c) (hr : meth.sig.returnType = none) (hM : z_M E) {ro : Unit} {σo : zS} (n : Nat) : ∀ (σ : zS) (H : Heap) (locs : List Loc) (ls : Array Slot), z_H E A s σ H locs → lv_has ls 3 [(0, .ref (z_ad E (100, 0, 0)))] → fM_goOn_8 n σ = some (ro, σo) → W p l e (z_rm 2) s m args below meth c H locs 0 0 (MQ below (z_QV E ro σo A) args s 0 0 A) (F0 m 8 ls []) := by
  induction n with
  | zero =>
    intro σ H locs ls hs hl hf
    have hf : none = some (ro, σo) := hf
    cases hf
  | succ n ih =>
    intro σ H locs ls hs hl hf
    have hx := C.1
    have hb := C.2.1
    rw [fM_goOn_8.eq_2] at hf
    refine lv_aload_n hx hb dX9_goOn_8 rfl (lv_at hl 0 rfl) ?_
    refine zg_M_at C hs (hM 100 (by decide) (by decide)) z_k964 dX9_goOn_9 ?_
    refine lv_aload_n hx hb dX9_goOn_12 rfl (lv_at hl 0 rfl) ?_
    refine zg_M_size C hs (hM 100 (by decide) (by decide)) z_k956 dX9_goOn_13 ?_
    refine lv_icmp_ge (tgt := 58) hx hb dX9_goOn_16 (by decide) (fun c2 => ?_) (fun c2 => ?_)
    · have hf := z_t hf c2
      exact wM_goOn_58 C hr hM σ _ _ _ hs (lv_sub hl [0] rfl) hf
    · have hf := z_f hf c2
      refine lv_aload_n hx hb dX9_goOn_19 rfl (lv_at hl 0 rfl) ?_
      refine lv_aload_n hx hb dX9_goOn_20 rfl (lv_at hl 0 rfl) ?_
      refine zg_M_at C hs (hM 100 (by decide) (by decide)) z_k964 dX9_goOn_21 ?_
      obtain ⟨r32, σ32, h_32, hf⟩ := z_bds hf
      refine z_goI C hs (z_runV C hs hl.1 (cM_sign l E hM h_32) zcV_RX9_80 (hM 100 (by decide) (by decide)) (z_c100 E _ _ _ _) rfl rfl rfl (by decide) (Nat.le_of_ble_eq_true rfl) dX9_goOn_24) (fun H locs hs => ?_)
      refine lv_bipush (v := 32) hx hb dX9_goOn_27 (by decide) ?_
      refine lv_icmp_eq (tgt := 45) hx hb dX9_goOn_29 (by decide) (fun c33 => ?_) (fun c33 => ?_)
      · have hf := z_t hf c33
        refine lv_aload_n hx hb dX9_goOn_45 rfl (lv_at hl 0 rfl) ?_
        refine lv_dup hx hb dX9_goOn_46 rfl ?_
        refine zg_M_at C hs (hM 100 (by decide) (by decide)) z_k964 dX9_goOn_47 ?_
        refine lv_iconst (v := 1) hx hb dX9_goOn_50 (by decide) ?_
        refine lv_iadd hx hb dX9_goOn_51 ?_
        refine zp_M_at C hs (hM 100 (by decide) (by decide)) z_k964 dX9_goOn_52 (fun H locs hs => ?_)
        obtain ⟨σ34, -, hs, hf⟩ := z_top hs hf
        refine lv_goto (tgt := 8) hx hb dX9_goOn_55 (by decide) ?_
        exact ih σ34 _ _ _ hs (lv_sub hl [0] rfl) hf
      · have hf := z_f hf c33
        refine lv_aload_n hx hb dX9_goOn_32 rfl (lv_at hl 0 rfl) ?_
        refine lv_aload_n hx hb dX9_goOn_33 rfl (lv_at hl 0 rfl) ?_
        refine zg_M_at C hs (hM 100 (by decide) (by decide)) z_k964 dX9_goOn_34 ?_
        obtain ⟨r35, σ35, h_35, hf⟩ := z_bds hf
        refine z_goI C hs (z_runV C hs hl.1 (cM_sign l E hM h_35) zcV_RX9_80 (hM 100 (by decide) (by decide)) (z_c100 E _ _ _ _) rfl rfl rfl (by decide) (Nat.le_of_ble_eq_true rfl) dX9_goOn_37) (fun H locs hs => ?_)
        refine lv_bipush (v := 10) hx hb dX9_goOn_40 (by decide) ?_
        refine lv_icmp_ne (tgt := 58) hx hb dX9_goOn_42 (by decide) (fun c36 => ?_) (fun c36 => ?_)
        · have hf := z_f hf c36
          exact wM_goOn_58 C hr hM σ35 _ _ _ hs (lv_sub hl [0] rfl) hf
        · have hf := z_t hf c36
          refine lv_aload_n hx hb dX9_goOn_45 rfl (lv_at hl 0 rfl) ?_
          refine lv_dup hx hb dX9_goOn_46 rfl ?_
          refine zg_M_at C hs (hM 100 (by decide) (by decide)) z_k964 dX9_goOn_47 ?_
          refine lv_iconst (v := 1) hx hb dX9_goOn_50 (by decide) ?_
          refine lv_iadd hx hb dX9_goOn_51 ?_
          refine zp_M_at C hs (hM 100 (by decide) (by decide)) z_k964 dX9_goOn_52 (fun H locs hs => ?_)
          obtain ⟨σ37, -, hs, hf⟩ := z_top hs hf
          refine lv_goto (tgt := 8) hx hb dX9_goOn_55 (by decide) ?_
          exact ih σ37 _ _ _ hs (lv_sub hl [0] rfl) hf
set_option maxHeartbeats 4000000 in
set_option maxRecDepth 20000 in
theorem wM_goOn (C : z_C E RX9 cX9_goOn 3 A p s m args meth c) (hr : meth.sig.returnType = none) (hM : z_M E) {ro : Unit} {σo : zS} (σ : zS) (H : Heap) (locs : List Loc) (ls : Array Slot) (hs : z_H E A s σ H locs) (hl : lv_has ls 3 [(0, .ref (z_ad E (100, 0, 0)))]) (hf : fM_goOn σ = some (ro, σo)) : W p l e (z_rm 2) s m args below meth c H locs 0 0 (MQ below (z_QV E ro σo A) args s 0 0 A) (F0 m 0 ls []) := by
  have hx := C.1
  have hb := C.2.1
  unfold fM_goOn at hf
  refine lv_aload_n hx hb dX9_goOn_0 rfl (lv_at hl 0 rfl) ?_
  refine lv_aload_n hx hb dX9_goOn_1 rfl (lv_at hl 0 rfl) ?_
  refine zg_M_end C hs (hM 100 (by decide) (by decide)) z_k965 dX9_goOn_2 ?_
  refine zp_M_at C hs (hM 100 (by decide) (by decide)) z_k964 dX9_goOn_5 (fun H locs hs => ?_)
  obtain ⟨σ1, -, hs, hf⟩ := z_top hs hf
  exact wM_goOn_8 C hr hM z_fu σ1 _ _ _ hs (lv_sub hl [0] rfl) hf
set_option maxHeartbeats 4000000 in
set_option maxRecDepth 20000 in
theorem cM_goOn (l : Launch) (E : zE) (hM : z_M E) {σ σo : zS} {ro : Unit} (hf : fM_goOn σ = some (ro, σo)) : z_T l E yX9_goOn cX9_goOn 3 none (z_rm 2) (z_QV E ro σo) [.ref (z_ad E (100, 0, 0))] σ :=
  z_enter (by decide) (Nat.le_of_ble_eq_true rfl) rfl (fun p e s m below meth c A ls C hr hs hl => wM_goOn C hr hM σ _ _ ls hs hl hf)
def fM_misplaced (σ : zS) : Option (Unit × zS) :=
  if (σ.1 (100, 0, 0) 16) = 1 then
    (z_bd (fM_fails 1 (σ.1 (100, 0, 0) 14) σ) (fun _ σ3 =>
    some ((), σ3)))
  else
    (z_bd (fM_fails 2 (σ.1 (100, 0, 0) 14) σ) (fun _ σ2 =>
    some ((), σ2)))
set_option maxHeartbeats 4000000 in
set_option maxRecDepth 20000 in
theorem wM_misplaced (C : z_C E RX9 cX9_misplaced 1 A p s m args meth c) (hr : meth.sig.returnType = none) (hM : z_M E) {ro : Unit} {σo : zS} (σ : zS) (H : Heap) (locs : List Loc) (ls : Array Slot) (hs : z_H E A s σ H locs) (hl : lv_has ls 1 [(0, .ref (z_ad E (100, 0, 0)))]) (hf : fM_misplaced σ = some (ro, σo)) : W p l e (z_rm 2) s m args below meth c H locs 0 0 (MQ below (z_QV E ro σo A) args s 0 0 A) (F0 m 0 ls []) := by
  have hx := C.1
  have hb := C.2.1
  unfold fM_misplaced at hf
  refine lv_aload_n hx hb dX9_misplaced_0 rfl (lv_at hl 0 rfl) ?_
  refine lv_aload_n hx hb dX9_misplaced_1 rfl (lv_at hl 0 rfl) ?_
  refine zg_M_token C hs (hM 100 (by decide) (by decide)) z_k966 dX9_misplaced_2 ?_
  refine lv_iconst (v := 1) hx hb dX9_misplaced_5 (by decide) ?_
  refine lv_icmp_ne (tgt := 13) hx hb dX9_misplaced_6 (by decide) (fun c1 => ?_) (fun c1 => ?_)
  · have hf := z_f hf c1
    refine lv_iconst (v := 2) hx hb dX9_misplaced_13 (by decide) ?_
    refine lv_aload_n hx hb dX9_misplaced_14 rfl (lv_at hl 0 rfl) ?_
    refine zg_M_at C hs (hM 100 (by decide) (by decide)) z_k964 dX9_misplaced_15 ?_
    obtain ⟨r2, σ2, h_2, hf⟩ := z_bds hf
    refine z_goV C hs (z_runV C hs hl.1 (cM_fails l E hM h_2) zcV_RX9_99 (hM 100 (by decide) (by decide)) (z_c100 E _ _ _ _) rfl rfl rfl (by decide) (Nat.le_of_ble_eq_true rfl) dX9_misplaced_18) (fun H locs hs => ?_)
    exact z_retv C hr hs hf dX9_misplaced_21
  · have hf := z_t hf c1
    refine lv_iconst (v := 1) hx hb dX9_misplaced_9 (by decide) ?_
    refine lv_goto (tgt := 14) hx hb dX9_misplaced_10 (by decide) ?_
    refine lv_aload_n hx hb dX9_misplaced_14 rfl (lv_at hl 0 rfl) ?_
    refine zg_M_at C hs (hM 100 (by decide) (by decide)) z_k964 dX9_misplaced_15 ?_
    obtain ⟨r3, σ3, h_3, hf⟩ := z_bds hf
    refine z_goV C hs (z_runV C hs hl.1 (cM_fails l E hM h_3) zcV_RX9_99 (hM 100 (by decide) (by decide)) (z_c100 E _ _ _ _) rfl rfl rfl (by decide) (Nat.le_of_ble_eq_true rfl) dX9_misplaced_18) (fun H locs hs => ?_)
    exact z_retv C hr hs hf dX9_misplaced_21
set_option maxHeartbeats 4000000 in
set_option maxRecDepth 20000 in
theorem cM_misplaced (l : Launch) (E : zE) (hM : z_M E) {σ σo : zS} {ro : Unit} (hf : fM_misplaced σ = some (ro, σo)) : z_T l E yX9_misplaced cX9_misplaced 1 none (z_rm 2) (z_QV E ro σo) [.ref (z_ad E (100, 0, 0))] σ :=
  z_enter (by decide) (Nat.le_of_ble_eq_true rfl) rfl (fun p e s m below meth c A ls C hr hs hl => wM_misplaced C hr hM σ _ _ ls hs hl hf)
def fM_readKeeper_216 (σ : zS) : Option (Unit × zS) :=
  z_bd (fM_isGood σ) (fun r17 σ17 =>
  if r17 = 0 then
    (some ((), σ17))
  else
    (z_bd (fM_goOn σ17) (fun _ σ19 =>
    if z_in (σ19.1 (100, 0, 0) 13) 2 = true then (
    if z_in (σ19.1 (100, 0, 0) 13) 2 = true then (
    z_let (z_up σ19 (106, 0, 0) ((σ19.1 (100, 0, 0) 13).toNatClampNeg) ((σ19.1 (106, 0, 0) (σ19.1 (100, 0, 0) 13).toNatClampNeg) + 1)) (fun σ22 =>
    some ((), σ22))) else none) else none)))
def fM_readKeeper_204 (σ : zS) : Option (Unit × zS) :=
  if (σ.1 (100, 0, 0) 16) = 4 then
    (fM_readKeeper_216 σ)
  else
    (z_bd (fM_misplaced σ) (fun _ σ23 =>
    fM_readKeeper_216 σ23))
def fM_readKeeper_63 : Nat → Int32 → zS → Option (Unit × zS)
  | 0, _, _ => none
  | n + 1, x1, σ =>
    if z_in (σ.1 (100, 0, 0) 13) 2 = true then (
    if (σ.1 (106, 0, 0) (σ.1 (100, 0, 0) 13).toNatClampNeg) ≤ x1 then
      (z_bd (fM_isGood σ) (fun r9 σ9 =>
      if r9 = 0 then
        (some ((), σ9))
      else
        (if z_in (σ9.1 (100, 0, 0) 13) 2 = true then (
        if z_in ((7 * (σ9.1 (100, 0, 0) 13)) + (σ9.1 (106, 0, 0) (σ9.1 (100, 0, 0) 13).toNatClampNeg)) 14 = true then (
        z_let (z_upl σ9 (108, 0, 0) (((7 * (σ9.1 (100, 0, 0) 13)) + (σ9.1 (106, 0, 0) (σ9.1 (100, 0, 0) 13).toNatClampNeg)).toNatClampNeg) (σ9.2 (100, 0, 0) 17)) (fun σ13 =>
        z_bd (fM_goOn σ13) (fun _ σ14 =>
        if (σ14.1 (100, 0, 0) 16) = 3 then
          (if (lg_cmp (σ14.2 (100, 0, 0) 17) 126896627347060) = 0 then
            (if z_in (σ14.1 (100, 0, 0) 13) 2 = true then (
            if z_in (σ14.1 (100, 0, 0) 13) 2 = true then (
            if z_in (σ14.1 (100, 0, 0) 13) 2 = true then (
            z_let (z_up σ14 (107, 0, 0) ((σ14.1 (100, 0, 0) 13).toNatClampNeg) ((σ14.1 (107, 0, 0) (σ14.1 (100, 0, 0) 13).toNatClampNeg) ||| (1 <<< ((σ14.1 (106, 0, 0) (σ14.1 (100, 0, 0) 13).toNatClampNeg) &&& 31)))) (fun σ28 =>
            z_bd (fM_goOn σ28) (fun _ σ29 =>
            fM_readKeeper_204 σ29))) else none) else none) else none)
          else
            (fM_readKeeper_204 σ14))
        else
          (fM_readKeeper_204 σ14)))) else none) else none)))
    else
      (z_bd (fM_isGood σ) (fun r30 σ30 =>
      if r30 = 0 then
        (z_let (x1 + 1) (fun y32 =>
        fM_readKeeper_63 n y32 σ30))
      else
        (if z_in ((7 * (σ30.1 (100, 0, 0) 13)) + x1) 14 = true then (
        if (lg_cmp (σ30.2 (108, 0, 0) ((7 * (σ30.1 (100, 0, 0) 13)) + x1).toNatClampNeg) (σ30.2 (100, 0, 0) 17)) = 0 then
          (z_bd (fM_fails 3 (σ30.1 (100, 0, 0) 14) σ30) (fun _ σ36 =>
          z_let (x1 + 1) (fun y37 =>
          fM_readKeeper_63 n y37 σ36)))
        else
          (z_let (x1 + 1) (fun y35 =>
          fM_readKeeper_63 n y35 σ30))) else none)))) else none
def fM_readKeeper_37 (σ : zS) : Option (Unit × zS) :=
  z_bd (fM_isGood σ) (fun r3 σ3 =>
  if r3 = 0 then
    (some ((), σ3))
  else
    (z_bd (fM_goOn σ3) (fun _ σ5 =>
    if (σ5.1 (100, 0, 0) 16) = 2 then
      (fM_readKeeper_63 z_fu 0 σ5)
    else
      (z_bd (fM_misplaced σ5) (fun _ σ38 =>
      fM_readKeeper_63 z_fu 0 σ38)))))
def fM_readKeeper_33 (σ : zS) : Option (Unit × zS) :=
  z_bd (fM_misplaced σ) (fun _ σ2 =>
  fM_readKeeper_37 σ2)
def fM_readKeeper (σ : zS) : Option (Unit × zS) :=
  if (σ.1 (100, 0, 0) 16) = 3 then
    (if (lg_cmp (σ.2 (100, 0, 0) 17) 118083237733746) = 0 then
      (if z_in (σ.1 (100, 0, 0) 13) 2 = true then (
      if (σ.1 (106, 0, 0) (σ.1 (100, 0, 0) 13).toNatClampNeg) = 7 then
        (fM_readKeeper_33 σ)
      else
        (fM_readKeeper_37 σ)) else none)
    else
      (fM_readKeeper_33 σ))
  else
    (fM_readKeeper_33 σ)
set_option maxHeartbeats 4000000 in
set_option maxRecDepth 20000 in
theorem wM_readKeeper_216 (C : z_C E RX9 cX9_readKeeper 2 A p s m args meth c) (hr : meth.sig.returnType = none) (hM : z_M E) {ro : Unit} {σo : zS} (σ : zS) (H : Heap) (locs : List Loc) (ls : Array Slot) (hs : z_H E A s σ H locs) (hl : lv_has ls 2 [(0, .ref (z_ad E (100, 0, 0)))]) (hf : fM_readKeeper_216 σ = some (ro, σo)) : W p l e (z_rm 3) s m args below meth c H locs 0 0 (MQ below (z_QV E ro σo A) args s 0 0 A) (F0 m 216 ls []) := by
  have hx := C.1
  have hb := C.2.1
  unfold fM_readKeeper_216 at hf
  refine lv_aload_n hx hb dX9_readKeeper_216 rfl (lv_at hl 0 rfl) ?_
  obtain ⟨r17, σ17, h_17, hf⟩ := z_bds hf
  refine z_goI C hs (z_runV C hs hl.1 (cM_isGood l E hM h_17) zcV_RX9_115 (hM 100 (by decide) (by decide)) (z_c100 E _ _ _ _) rfl rfl rfl (by decide) (Nat.le_of_ble_eq_true rfl) dX9_readKeeper_217) (fun H locs hs => ?_)
  refine lv_if_ne (tgt := 224) hx hb dX9_readKeeper_220 (by decide) (fun c18 => ?_) (fun c18 => ?_)
  · have hf := z_f hf c18
    refine lv_aload_n hx hb dX9_readKeeper_224 rfl (lv_at hl 0 rfl) ?_
    obtain ⟨r19, σ19, h_19, hf⟩ := z_bds hf
    refine z_goV C hs (z_runV C hs hl.1 (cM_goOn l E hM h_19) zcV_RX9_112 (hM 100 (by decide) (by decide)) (z_c100 E _ _ _ _) rfl rfl rfl (by decide) (Nat.le_of_ble_eq_true rfl) dX9_readKeeper_225) (fun H locs hs => ?_)
    refine lv_aload_n hx hb dX9_readKeeper_228 rfl (lv_at hl 0 rfl) ?_
    refine zg_M_keepers C hs (hM 100 (by decide) (by decide)) z_k959 dX9_readKeeper_229 ?_
    refine lv_aload_n hx hb dX9_readKeeper_232 rfl (lv_at hl 0 rfl) ?_
    refine zg_M_rb C hs (hM 100 (by decide) (by decide)) z_k963 dX9_readKeeper_233 ?_
    refine lv_dup2_11 hx hb dX9_readKeeper_236 rfl rfl ?_
    obtain ⟨g20, hf⟩ := z_gd hf
    refine z_ald C hs (hM 106 (by decide) (by decide)) (z_c106 E _ _ _ _) g20 rfl dX9_readKeeper_237 ?_
    refine lv_iconst (v := 1) hx hb dX9_readKeeper_238 (by decide) ?_
    refine lv_iadd hx hb dX9_readKeeper_239 ?_
    obtain ⟨g21, hf⟩ := z_gd hf
    refine z_ast C hs (hM 106 (by decide) (by decide)) (fun r h => z_c106 E r h _ _) g21 rfl dX9_readKeeper_240 (fun H locs hs => ?_)
    obtain ⟨σ22, -, hs, hf⟩ := z_top hs hf
    exact z_retv C hr hs hf dX9_readKeeper_241
  · have hf := z_t hf c18
    exact z_retv C hr hs hf dX9_readKeeper_223
set_option maxHeartbeats 4000000 in
set_option maxRecDepth 20000 in
theorem wM_readKeeper_204 (C : z_C E RX9 cX9_readKeeper 2 A p s m args meth c) (hr : meth.sig.returnType = none) (hM : z_M E) {ro : Unit} {σo : zS} (σ : zS) (H : Heap) (locs : List Loc) (ls : Array Slot) (hs : z_H E A s σ H locs) (hl : lv_has ls 2 [(0, .ref (z_ad E (100, 0, 0)))]) (hf : fM_readKeeper_204 σ = some (ro, σo)) : W p l e (z_rm 3) s m args below meth c H locs 0 0 (MQ below (z_QV E ro σo A) args s 0 0 A) (F0 m 204 ls []) := by
  have hx := C.1
  have hb := C.2.1
  unfold fM_readKeeper_204 at hf
  refine lv_aload_n hx hb dX9_readKeeper_204 rfl (lv_at hl 0 rfl) ?_
  refine zg_M_token C hs (hM 100 (by decide) (by decide)) z_k966 dX9_readKeeper_205 ?_
  refine lv_iconst (v := 4) hx hb dX9_readKeeper_208 (by decide) ?_
  refine lv_icmp_eq (tgt := 216) hx hb dX9_readKeeper_209 (by decide) (fun c16 => ?_) (fun c16 => ?_)
  · have hf := z_t hf c16
    exact wM_readKeeper_216 C hr hM σ _ _ _ hs (lv_sub hl [0] rfl) hf
  · have hf := z_f hf c16
    refine lv_aload_n hx hb dX9_readKeeper_212 rfl (lv_at hl 0 rfl) ?_
    obtain ⟨r23, σ23, h_23, hf⟩ := z_bds hf
    refine z_goV C hs (z_runV C hs hl.1 (cM_misplaced l E hM h_23) zcV_RX9_125 (hM 100 (by decide) (by decide)) (z_c100 E _ _ _ _) rfl rfl rfl (by decide) (Nat.le_of_ble_eq_true rfl) dX9_readKeeper_213) (fun H locs hs => ?_)
    exact wM_readKeeper_216 C hr hM σ23 _ _ _ hs (lv_sub hl [0] rfl) hf
set_option maxHeartbeats 4000000 in
set_option maxRecDepth 20000 in
theorem wM_readKeeper_63 (C : z_C E RX9 cX9_readKeeper 2 A p s m args meth c) (hr : meth.sig.returnType = none) (hM : z_M E) {ro : Unit} {σo : zS} (n : Nat) : ∀ (x1 : Int32) (σ : zS) (H : Heap) (locs : List Loc) (ls : Array Slot), z_H E A s σ H locs → lv_has ls 2 [(0, .ref (z_ad E (100, 0, 0))), (1, .int x1)] → fM_readKeeper_63 n x1 σ = some (ro, σo) → W p l e (z_rm 3) s m args below meth c H locs 0 0 (MQ below (z_QV E ro σo A) args s 0 0 A) (F0 m 63 ls []) := by
  induction n with
  | zero =>
    intro x1 σ H locs ls hs hl hf
    have hf : none = some (ro, σo) := hf
    cases hf
  | succ n ih =>
    intro x1 σ H locs ls hs hl hf
    have hx := C.1
    have hb := C.2.1
    rw [fM_readKeeper_63.eq_2] at hf
    refine lv_iload_n hx hb dX9_readKeeper_63 rfl (lv_at hl 1 rfl) ?_
    refine lv_aload_n hx hb dX9_readKeeper_64 rfl (lv_at hl 0 rfl) ?_
    refine zg_M_keepers C hs (hM 100 (by decide) (by decide)) z_k959 dX9_readKeeper_65 ?_
    refine lv_aload_n hx hb dX9_readKeeper_68 rfl (lv_at hl 0 rfl) ?_
    refine zg_M_rb C hs (hM 100 (by decide) (by decide)) z_k963 dX9_readKeeper_69 ?_
    obtain ⟨g7, hf⟩ := z_gd hf
    refine z_ald C hs (hM 106 (by decide) (by decide)) (z_c106 E _ _ _ _) g7 rfl dX9_readKeeper_72 ?_
    refine lv_icmp_ge (tgt := 120) hx hb dX9_readKeeper_73 (by decide) (fun c8 => ?_) (fun c8 => ?_)
    · have hf := z_t hf c8
      refine lv_aload_n hx hb dX9_readKeeper_120 rfl (lv_at hl 0 rfl) ?_
      obtain ⟨r9, σ9, h_9, hf⟩ := z_bds hf
      refine z_goI C hs (z_runV C hs hl.1 (cM_isGood l E hM h_9) zcV_RX9_115 (hM 100 (by decide) (by decide)) (z_c100 E _ _ _ _) rfl rfl rfl (by decide) (Nat.le_of_ble_eq_true rfl) dX9_readKeeper_121) (fun H locs hs => ?_)
      refine lv_if_ne (tgt := 128) hx hb dX9_readKeeper_124 (by decide) (fun c10 => ?_) (fun c10 => ?_)
      · have hf := z_f hf c10
        refine lv_aload_n hx hb dX9_readKeeper_128 rfl (lv_at hl 0 rfl) ?_
        refine zg_M_kName C hs (hM 100 (by decide) (by decide)) z_k961 dX9_readKeeper_129 ?_
        refine lv_bipush (v := 7) hx hb dX9_readKeeper_132 (by decide) ?_
        refine lv_aload_n hx hb dX9_readKeeper_134 rfl (lv_at hl 0 rfl) ?_
        refine zg_M_rb C hs (hM 100 (by decide) (by decide)) z_k963 dX9_readKeeper_135 ?_
        refine lv_imul hx hb dX9_readKeeper_138 ?_
        refine lv_aload_n hx hb dX9_readKeeper_139 rfl (lv_at hl 0 rfl) ?_
        refine zg_M_keepers C hs (hM 100 (by decide) (by decide)) z_k959 dX9_readKeeper_140 ?_
        refine lv_aload_n hx hb dX9_readKeeper_143 rfl (lv_at hl 0 rfl) ?_
        refine zg_M_rb C hs (hM 100 (by decide) (by decide)) z_k963 dX9_readKeeper_144 ?_
        obtain ⟨g11, hf⟩ := z_gd hf
        refine z_ald C hs (hM 106 (by decide) (by decide)) (z_c106 E _ _ _ _) g11 rfl dX9_readKeeper_147 ?_
        refine lv_iadd hx hb dX9_readKeeper_148 ?_
        refine lv_aload_n hx hb dX9_readKeeper_149 rfl (lv_at hl 0 rfl) ?_
        refine zg_M_name C hs (hM 100 (by decide) (by decide)) z_k967 dX9_readKeeper_150 ?_
        obtain ⟨g12, hf⟩ := z_gd hf
        refine z_last C hs (hM 108 (by decide) (by decide)) (fun r h => z_c108 E r h _ _) g12 rfl dX9_readKeeper_153 (fun H locs hs => ?_)
        obtain ⟨σ13, -, hs, hf⟩ := z_top hs hf
        refine lv_aload_n hx hb dX9_readKeeper_154 rfl (lv_at hl 0 rfl) ?_
        obtain ⟨r14, σ14, h_14, hf⟩ := z_bds hf
        refine z_goV C hs (z_runV C hs hl.1 (cM_goOn l E hM h_14) zcV_RX9_112 (hM 100 (by decide) (by decide)) (z_c100 E _ _ _ _) rfl rfl rfl (by decide) (Nat.le_of_ble_eq_true rfl) dX9_readKeeper_155) (fun H locs hs => ?_)
        refine lv_aload_n hx hb dX9_readKeeper_158 rfl (lv_at hl 0 rfl) ?_
        refine zg_M_token C hs (hM 100 (by decide) (by decide)) z_k966 dX9_readKeeper_159 ?_
        refine lv_iconst (v := 3) hx hb dX9_readKeeper_162 (by decide) ?_
        refine lv_icmp_ne (tgt := 204) hx hb dX9_readKeeper_163 (by decide) (fun c15 => ?_) (fun c15 => ?_)
        · have hf := z_f hf c15
          exact wM_readKeeper_204 C hr hM σ14 _ _ _ hs (lv_sub hl [0] rfl) hf
        · have hf := z_t hf c15
          refine lv_aload_n hx hb dX9_readKeeper_166 rfl (lv_at hl 0 rfl) ?_
          refine zg_M_name C hs (hM 100 (by decide) (by decide)) z_k967 dX9_readKeeper_167 ?_
          refine lv_ldc2 (v := 126896627347060) hx hb C.2.2.2.1 (C.2.2.2.2.1 _ z_k1049) dX9_readKeeper_170 ?_
          refine W.lcmp hx hb dX9_readKeeper_173 ?_
          refine lv_if_ne (tgt := 204) hx hb dX9_readKeeper_174 (by decide) (fun c24 => ?_) (fun c24 => ?_)
          · have hf := z_f hf c24
            exact wM_readKeeper_204 C hr hM σ14 _ _ _ hs (lv_sub hl [0] rfl) hf
          · have hf := z_t hf c24
            refine lv_aload_n hx hb dX9_readKeeper_177 rfl (lv_at hl 0 rfl) ?_
            refine zg_M_silent C hs (hM 100 (by decide) (by decide)) z_k960 dX9_readKeeper_178 ?_
            refine lv_aload_n hx hb dX9_readKeeper_181 rfl (lv_at hl 0 rfl) ?_
            refine zg_M_rb C hs (hM 100 (by decide) (by decide)) z_k963 dX9_readKeeper_182 ?_
            refine lv_dup2_11 hx hb dX9_readKeeper_185 rfl rfl ?_
            obtain ⟨g25, hf⟩ := z_gd hf
            refine z_ald C hs (hM 107 (by decide) (by decide)) (z_c107 E _ _ _ _) g25 rfl dX9_readKeeper_186 ?_
            refine lv_iconst (v := 1) hx hb dX9_readKeeper_187 (by decide) ?_
            refine lv_aload_n hx hb dX9_readKeeper_188 rfl (lv_at hl 0 rfl) ?_
            refine zg_M_keepers C hs (hM 100 (by decide) (by decide)) z_k959 dX9_readKeeper_189 ?_
            refine lv_aload_n hx hb dX9_readKeeper_192 rfl (lv_at hl 0 rfl) ?_
            refine zg_M_rb C hs (hM 100 (by decide) (by decide)) z_k963 dX9_readKeeper_193 ?_
            obtain ⟨g26, hf⟩ := z_gd hf
            refine z_ald C hs (hM 106 (by decide) (by decide)) (z_c106 E _ _ _ _) g26 rfl dX9_readKeeper_196 ?_
            refine lv_ishl hx hb dX9_readKeeper_197 ?_
            refine lv_ior hx hb dX9_readKeeper_198 ?_
            obtain ⟨g27, hf⟩ := z_gd hf
            refine z_ast C hs (hM 107 (by decide) (by decide)) (fun r h => z_c107 E r h _ _) g27 rfl dX9_readKeeper_199 (fun H locs hs => ?_)
            obtain ⟨σ28, -, hs, hf⟩ := z_top hs hf
            refine lv_aload_n hx hb dX9_readKeeper_200 rfl (lv_at hl 0 rfl) ?_
            obtain ⟨r29, σ29, h_29, hf⟩ := z_bds hf
            refine z_goV C hs (z_runV C hs hl.1 (cM_goOn l E hM h_29) zcV_RX9_112 (hM 100 (by decide) (by decide)) (z_c100 E _ _ _ _) rfl rfl rfl (by decide) (Nat.le_of_ble_eq_true rfl) dX9_readKeeper_201) (fun H locs hs => ?_)
            exact wM_readKeeper_204 C hr hM σ29 _ _ _ hs (lv_sub hl [0] rfl) hf
      · have hf := z_t hf c10
        exact z_retv C hr hs hf dX9_readKeeper_127
    · have hf := z_f hf c8
      refine lv_aload_n hx hb dX9_readKeeper_76 rfl (lv_at hl 0 rfl) ?_
      obtain ⟨r30, σ30, h_30, hf⟩ := z_bds hf
      refine z_goI C hs (z_runV C hs hl.1 (cM_isGood l E hM h_30) zcV_RX9_115 (hM 100 (by decide) (by decide)) (z_c100 E _ _ _ _) rfl rfl rfl (by decide) (Nat.le_of_ble_eq_true rfl) dX9_readKeeper_77) (fun H locs hs => ?_)
      refine lv_if_eq (tgt := 114) hx hb dX9_readKeeper_80 (by decide) (fun c31 => ?_) (fun c31 => ?_)
      · have hf := z_t hf c31
        obtain ⟨y32, e_y32⟩ : ∃ y : Int32, y = x1 + 1 := ⟨_, rfl⟩
        have hf := z_lte e_y32 hf
        refine lv_iinc (v := y32) (lv' := [(1, .int y32), (0, .ref (z_ad E (100, 0, 0)))]) hx hb dX9_readKeeper_114 hl (k := 1) rfl (by rw [e_y32]; rfl) (by decide) rfl (fun ls hl => ?_)
        refine lv_goto (tgt := 63) hx hb dX9_readKeeper_117 (by decide) ?_
        exact ih y32 σ30 _ _ _ hs (lv_sub hl [1, 0] rfl) hf
      · have hf := z_f hf c31
        refine lv_aload_n hx hb dX9_readKeeper_83 rfl (lv_at hl 0 rfl) ?_
        refine zg_M_kName C hs (hM 100 (by decide) (by decide)) z_k961 dX9_readKeeper_84 ?_
        refine lv_bipush (v := 7) hx hb dX9_readKeeper_87 (by decide) ?_
        refine lv_aload_n hx hb dX9_readKeeper_89 rfl (lv_at hl 0 rfl) ?_
        refine zg_M_rb C hs (hM 100 (by decide) (by decide)) z_k963 dX9_readKeeper_90 ?_
        refine lv_imul hx hb dX9_readKeeper_93 ?_
        refine lv_iload_n hx hb dX9_readKeeper_94 rfl (lv_at hl 1 rfl) ?_
        refine lv_iadd hx hb dX9_readKeeper_95 ?_
        obtain ⟨g33, hf⟩ := z_gd hf
        refine z_lald C hs (hM 108 (by decide) (by decide)) (z_c108 E _ _ _ _) g33 rfl dX9_readKeeper_96 ?_
        refine lv_aload_n hx hb dX9_readKeeper_97 rfl (lv_at hl 0 rfl) ?_
        refine zg_M_name C hs (hM 100 (by decide) (by decide)) z_k967 dX9_readKeeper_98 ?_
        refine W.lcmp hx hb dX9_readKeeper_101 ?_
        refine lv_if_ne (tgt := 114) hx hb dX9_readKeeper_102 (by decide) (fun c34 => ?_) (fun c34 => ?_)
        · have hf := z_f hf c34
          obtain ⟨y35, e_y35⟩ : ∃ y : Int32, y = x1 + 1 := ⟨_, rfl⟩
          have hf := z_lte e_y35 hf
          refine lv_iinc (v := y35) (lv' := [(1, .int y35), (0, .ref (z_ad E (100, 0, 0)))]) hx hb dX9_readKeeper_114 hl (k := 1) rfl (by rw [e_y35]; rfl) (by decide) rfl (fun ls hl => ?_)
          refine lv_goto (tgt := 63) hx hb dX9_readKeeper_117 (by decide) ?_
          exact ih y35 σ30 _ _ _ hs (lv_sub hl [1, 0] rfl) hf
        · have hf := z_t hf c34
          refine lv_aload_n hx hb dX9_readKeeper_105 rfl (lv_at hl 0 rfl) ?_
          refine lv_iconst (v := 3) hx hb dX9_readKeeper_106 (by decide) ?_
          refine lv_aload_n hx hb dX9_readKeeper_107 rfl (lv_at hl 0 rfl) ?_
          refine zg_M_at C hs (hM 100 (by decide) (by decide)) z_k964 dX9_readKeeper_108 ?_
          obtain ⟨r36, σ36, h_36, hf⟩ := z_bds hf
          refine z_goV C hs (z_runV C hs hl.1 (cM_fails l E hM h_36) zcV_RX9_99 (hM 100 (by decide) (by decide)) (z_c100 E _ _ _ _) rfl rfl rfl (by decide) (Nat.le_of_ble_eq_true rfl) dX9_readKeeper_111) (fun H locs hs => ?_)
          obtain ⟨y37, e_y37⟩ : ∃ y : Int32, y = x1 + 1 := ⟨_, rfl⟩
          have hf := z_lte e_y37 hf
          refine lv_iinc (v := y37) (lv' := [(1, .int y37), (0, .ref (z_ad E (100, 0, 0)))]) hx hb dX9_readKeeper_114 hl (k := 1) rfl (by rw [e_y37]; rfl) (by decide) rfl (fun ls hl => ?_)
          refine lv_goto (tgt := 63) hx hb dX9_readKeeper_117 (by decide) ?_
          exact ih y37 σ36 _ _ _ hs (lv_sub hl [1, 0] rfl) hf
set_option maxHeartbeats 4000000 in
set_option maxRecDepth 20000 in
theorem wM_readKeeper_37 (C : z_C E RX9 cX9_readKeeper 2 A p s m args meth c) (hr : meth.sig.returnType = none) (hM : z_M E) {ro : Unit} {σo : zS} (σ : zS) (H : Heap) (locs : List Loc) (ls : Array Slot) (hs : z_H E A s σ H locs) (hl : lv_has ls 2 [(0, .ref (z_ad E (100, 0, 0)))]) (hf : fM_readKeeper_37 σ = some (ro, σo)) : W p l e (z_rm 3) s m args below meth c H locs 0 0 (MQ below (z_QV E ro σo A) args s 0 0 A) (F0 m 37 ls []) := by
  have hx := C.1
  have hb := C.2.1
  unfold fM_readKeeper_37 at hf
  refine lv_aload_n hx hb dX9_readKeeper_37 rfl (lv_at hl 0 rfl) ?_
  obtain ⟨r3, σ3, h_3, hf⟩ := z_bds hf
  refine z_goI C hs (z_runV C hs hl.1 (cM_isGood l E hM h_3) zcV_RX9_115 (hM 100 (by decide) (by decide)) (z_c100 E _ _ _ _) rfl rfl rfl (by decide) (Nat.le_of_ble_eq_true rfl) dX9_readKeeper_38) (fun H locs hs => ?_)
  refine lv_if_ne (tgt := 45) hx hb dX9_readKeeper_41 (by decide) (fun c4 => ?_) (fun c4 => ?_)
  · have hf := z_f hf c4
    refine lv_aload_n hx hb dX9_readKeeper_45 rfl (lv_at hl 0 rfl) ?_
    obtain ⟨r5, σ5, h_5, hf⟩ := z_bds hf
    refine z_goV C hs (z_runV C hs hl.1 (cM_goOn l E hM h_5) zcV_RX9_112 (hM 100 (by decide) (by decide)) (z_c100 E _ _ _ _) rfl rfl rfl (by decide) (Nat.le_of_ble_eq_true rfl) dX9_readKeeper_46) (fun H locs hs => ?_)
    refine lv_aload_n hx hb dX9_readKeeper_49 rfl (lv_at hl 0 rfl) ?_
    refine zg_M_token C hs (hM 100 (by decide) (by decide)) z_k966 dX9_readKeeper_50 ?_
    refine lv_iconst (v := 2) hx hb dX9_readKeeper_53 (by decide) ?_
    refine lv_icmp_eq (tgt := 61) hx hb dX9_readKeeper_54 (by decide) (fun c6 => ?_) (fun c6 => ?_)
    · have hf := z_t hf c6
      refine lv_iconst (v := 0) hx hb dX9_readKeeper_61 (by decide) ?_
      refine lv_istore_n (lv' := [(1, .int 0), (0, .ref (z_ad E (100, 0, 0)))]) hx hb dX9_readKeeper_62 rfl hl (by decide) rfl (fun ls hl => ?_)
      exact wM_readKeeper_63 C hr hM z_fu 0 σ5 _ _ _ hs (lv_sub hl [1, 0] rfl) hf
    · have hf := z_f hf c6
      refine lv_aload_n hx hb dX9_readKeeper_57 rfl (lv_at hl 0 rfl) ?_
      obtain ⟨r38, σ38, h_38, hf⟩ := z_bds hf
      refine z_goV C hs (z_runV C hs hl.1 (cM_misplaced l E hM h_38) zcV_RX9_125 (hM 100 (by decide) (by decide)) (z_c100 E _ _ _ _) rfl rfl rfl (by decide) (Nat.le_of_ble_eq_true rfl) dX9_readKeeper_58) (fun H locs hs => ?_)
      refine lv_iconst (v := 0) hx hb dX9_readKeeper_61 (by decide) ?_
      refine lv_istore_n (lv' := [(1, .int 0), (0, .ref (z_ad E (100, 0, 0)))]) hx hb dX9_readKeeper_62 rfl hl (by decide) rfl (fun ls hl => ?_)
      exact wM_readKeeper_63 C hr hM z_fu 0 σ38 _ _ _ hs (lv_sub hl [1, 0] rfl) hf
  · have hf := z_t hf c4
    exact z_retv C hr hs hf dX9_readKeeper_44
set_option maxHeartbeats 4000000 in
set_option maxRecDepth 20000 in
theorem wM_readKeeper_33 (C : z_C E RX9 cX9_readKeeper 2 A p s m args meth c) (hr : meth.sig.returnType = none) (hM : z_M E) {ro : Unit} {σo : zS} (σ : zS) (H : Heap) (locs : List Loc) (ls : Array Slot) (hs : z_H E A s σ H locs) (hl : lv_has ls 2 [(0, .ref (z_ad E (100, 0, 0)))]) (hf : fM_readKeeper_33 σ = some (ro, σo)) : W p l e (z_rm 3) s m args below meth c H locs 0 0 (MQ below (z_QV E ro σo A) args s 0 0 A) (F0 m 33 ls []) := by
  have hx := C.1
  have hb := C.2.1
  unfold fM_readKeeper_33 at hf
  refine lv_aload_n hx hb dX9_readKeeper_33 rfl (lv_at hl 0 rfl) ?_
  obtain ⟨r2, σ2, h_2, hf⟩ := z_bds hf
  refine z_goV C hs (z_runV C hs hl.1 (cM_misplaced l E hM h_2) zcV_RX9_125 (hM 100 (by decide) (by decide)) (z_c100 E _ _ _ _) rfl rfl rfl (by decide) (Nat.le_of_ble_eq_true rfl) dX9_readKeeper_34) (fun H locs hs => ?_)
  exact wM_readKeeper_37 C hr hM σ2 _ _ _ hs (lv_sub hl [0] rfl) hf
set_option maxHeartbeats 4000000 in
set_option maxRecDepth 20000 in
theorem wM_readKeeper (C : z_C E RX9 cX9_readKeeper 2 A p s m args meth c) (hr : meth.sig.returnType = none) (hM : z_M E) {ro : Unit} {σo : zS} (σ : zS) (H : Heap) (locs : List Loc) (ls : Array Slot) (hs : z_H E A s σ H locs) (hl : lv_has ls 2 [(0, .ref (z_ad E (100, 0, 0)))]) (hf : fM_readKeeper σ = some (ro, σo)) : W p l e (z_rm 3) s m args below meth c H locs 0 0 (MQ below (z_QV E ro σo A) args s 0 0 A) (F0 m 0 ls []) := by
  have hx := C.1
  have hb := C.2.1
  unfold fM_readKeeper at hf
  refine lv_aload_n hx hb dX9_readKeeper_0 rfl (lv_at hl 0 rfl) ?_
  refine zg_M_token C hs (hM 100 (by decide) (by decide)) z_k966 dX9_readKeeper_1 ?_
  refine lv_iconst (v := 3) hx hb dX9_readKeeper_4 (by decide) ?_
  refine lv_icmp_ne (tgt := 33) hx hb dX9_readKeeper_5 (by decide) (fun c1 => ?_) (fun c1 => ?_)
  · have hf := z_f hf c1
    exact wM_readKeeper_33 C hr hM σ _ _ _ hs (lv_sub hl [0] rfl) hf
  · have hf := z_t hf c1
    refine lv_aload_n hx hb dX9_readKeeper_8 rfl (lv_at hl 0 rfl) ?_
    refine zg_M_name C hs (hM 100 (by decide) (by decide)) z_k967 dX9_readKeeper_9 ?_
    refine lv_ldc2 (v := 118083237733746) hx hb C.2.2.2.1 (C.2.2.2.2.1 _ z_k1048) dX9_readKeeper_12 ?_
    refine W.lcmp hx hb dX9_readKeeper_15 ?_
    refine lv_if_ne (tgt := 33) hx hb dX9_readKeeper_16 (by decide) (fun c39 => ?_) (fun c39 => ?_)
    · have hf := z_f hf c39
      exact wM_readKeeper_33 C hr hM σ _ _ _ hs (lv_sub hl [0] rfl) hf
    · have hf := z_t hf c39
      refine lv_aload_n hx hb dX9_readKeeper_19 rfl (lv_at hl 0 rfl) ?_
      refine zg_M_keepers C hs (hM 100 (by decide) (by decide)) z_k959 dX9_readKeeper_20 ?_
      refine lv_aload_n hx hb dX9_readKeeper_23 rfl (lv_at hl 0 rfl) ?_
      refine zg_M_rb C hs (hM 100 (by decide) (by decide)) z_k963 dX9_readKeeper_24 ?_
      obtain ⟨g40, hf⟩ := z_gd hf
      refine z_ald C hs (hM 106 (by decide) (by decide)) (z_c106 E _ _ _ _) g40 rfl dX9_readKeeper_27 ?_
      refine lv_bipush (v := 7) hx hb dX9_readKeeper_28 (by decide) ?_
      refine lv_icmp_ne (tgt := 37) hx hb dX9_readKeeper_30 (by decide) (fun c41 => ?_) (fun c41 => ?_)
      · have hf := z_f hf c41
        exact wM_readKeeper_37 C hr hM σ _ _ _ hs (lv_sub hl [0] rfl) hf
      · have hf := z_t hf c41
        exact wM_readKeeper_33 C hr hM σ _ _ _ hs (lv_sub hl [0] rfl) hf
set_option maxHeartbeats 4000000 in
set_option maxRecDepth 20000 in
theorem cM_readKeeper (l : Launch) (E : zE) (hM : z_M E) {σ σo : zS} {ro : Unit} (hf : fM_readKeeper σ = some (ro, σo)) : z_T l E yX9_readKeeper cX9_readKeeper 2 none (z_rm 3) (z_QV E ro σo) [.ref (z_ad E (100, 0, 0))] σ :=
  z_enter (by decide) (Nat.le_of_ble_eq_true rfl) rfl (fun p e s m below meth c A ls C hr hs hl => wM_readKeeper C hr hM σ _ _ ls hs hl hf)
def fM_bitsOf_4 : Nat → Int32 → Int32 → Int32 → zS → Option (Int32 × zS)
  | 0, _, _, _, _ => none
  | n + 1, x0, x1, x2, σ =>
    if 31 ≤ x2 then
      (some (x1, σ))
    else
      (z_let (x1 + ((x0 >>> (x2 &&& 31)) &&& 1)) (fun y2 =>
      z_let (x2 + 1) (fun y3 =>
      fM_bitsOf_4 n x0 y2 y3 σ)))
def fM_bitsOf (x0 : Int32) (σ : zS) : Option (Int32 × zS) :=
  fM_bitsOf_4 z_fu x0 0 0 σ
set_option maxHeartbeats 4000000 in
set_option maxRecDepth 20000 in
theorem wM_bitsOf_4 (C : z_C E RX9 cX9_bitsOf 3 A p s m args meth c) (hr : meth.sig.returnType = (some .int)) {ro : Int32} {σo : zS} (n : Nat) : ∀ (x0 : Int32) (x1 : Int32) (x2 : Int32) (σ : zS) (H : Heap) (locs : List Loc) (ls : Array Slot), z_H E A s σ H locs → lv_has ls 3 [(0, .int x0), (1, .int x1), (2, .int x2)] → fM_bitsOf_4 n x0 x1 x2 σ = some (ro, σo) → W p l e (z_rm 1) s m args below meth c H locs 0 0 (MQ below (z_QI E ro σo A) args s 0 0 A) (F0 m 4 ls []) := by
  induction n with
  | zero =>
    intro x0 x1 x2 σ H locs ls hs hl hf
    have hf : none = some (ro, σo) := hf
    cases hf
  | succ n ih =>
    intro x0 x1 x2 σ H locs ls hs hl hf
    have hx := C.1
    have hb := C.2.1
    rw [fM_bitsOf_4.eq_2] at hf
    refine lv_iload_n hx hb dX9_bitsOf_4 rfl (lv_at hl 2 rfl) ?_
    refine lv_bipush (v := 31) hx hb dX9_bitsOf_5 (by decide) ?_
    refine lv_icmp_ge (tgt := 24) hx hb dX9_bitsOf_7 (by decide) (fun c1 => ?_) (fun c1 => ?_)
    · have hf := z_t hf c1
      refine lv_iload_n hx hb dX9_bitsOf_24 rfl (lv_at hl 1 rfl) ?_
      exact z_reti C hr hs hf dX9_bitsOf_25
    · have hf := z_f hf c1
      refine lv_iload_n hx hb dX9_bitsOf_10 rfl (lv_at hl 1 rfl) ?_
      refine lv_iload_n hx hb dX9_bitsOf_11 rfl (lv_at hl 0 rfl) ?_
      refine lv_iload_n hx hb dX9_bitsOf_12 rfl (lv_at hl 2 rfl) ?_
      refine lv_ishr hx hb dX9_bitsOf_13 ?_
      refine lv_iconst (v := 1) hx hb dX9_bitsOf_14 (by decide) ?_
      refine lv_iand hx hb dX9_bitsOf_15 ?_
      refine lv_iadd hx hb dX9_bitsOf_16 ?_
      refine lv_topi (fun y2 e_y2 => ?_)
      have hf := z_lte e_y2 hf
      refine lv_istore_n (lv' := [(1, .int y2), (0, .int x0), (2, .int x2)]) hx hb dX9_bitsOf_17 rfl hl (by decide) rfl (fun ls hl => ?_)
      obtain ⟨y3, e_y3⟩ : ∃ y : Int32, y = x2 + 1 := ⟨_, rfl⟩
      have hf := z_lte e_y3 hf
      refine lv_iinc (v := y3) (lv' := [(2, .int y3), (1, .int y2), (0, .int x0)]) hx hb dX9_bitsOf_18 hl (k := 2) rfl (by rw [e_y3]; rfl) (by decide) rfl (fun ls hl => ?_)
      refine lv_goto (tgt := 4) hx hb dX9_bitsOf_21 (by decide) ?_
      exact ih x0 y2 y3 σ _ _ _ hs (lv_sub hl [2, 1, 0] rfl) hf
set_option maxHeartbeats 4000000 in
set_option maxRecDepth 20000 in
theorem wM_bitsOf {x0 : Int32} (C : z_C E RX9 cX9_bitsOf 3 A p s m args meth c) (hr : meth.sig.returnType = (some .int)) {ro : Int32} {σo : zS} (σ : zS) (H : Heap) (locs : List Loc) (ls : Array Slot) (hs : z_H E A s σ H locs) (hl : lv_has ls 3 [(0, .int x0)]) (hf : fM_bitsOf x0 σ = some (ro, σo)) : W p l e (z_rm 1) s m args below meth c H locs 0 0 (MQ below (z_QI E ro σo A) args s 0 0 A) (F0 m 0 ls []) := by
  have hx := C.1
  have hb := C.2.1
  unfold fM_bitsOf at hf
  refine lv_iconst (v := 0) hx hb dX9_bitsOf_0 (by decide) ?_
  refine lv_istore_n (lv' := [(1, .int 0), (0, .int x0)]) hx hb dX9_bitsOf_1 rfl hl (by decide) rfl (fun ls hl => ?_)
  refine lv_iconst (v := 0) hx hb dX9_bitsOf_2 (by decide) ?_
  refine lv_istore_n (lv' := [(2, .int 0), (1, .int 0), (0, .int x0)]) hx hb dX9_bitsOf_3 rfl hl (by decide) rfl (fun ls hl => ?_)
  exact wM_bitsOf_4 C hr z_fu x0 0 0 σ _ _ _ hs (lv_sub hl [2, 1, 0] rfl) hf
set_option maxHeartbeats 4000000 in
set_option maxRecDepth 20000 in
theorem cM_bitsOf (l : Launch) (E : zE) {x0 : Int32} {σ σo : zS} {ro : Int32} (hf : fM_bitsOf x0 σ = some (ro, σo)) : z_T l E yX9_bitsOf cX9_bitsOf 3 (some .int) (z_rm 1) (z_QI E ro σo) [.int x0] σ :=
  z_enter (by decide) (Nat.le_of_ble_eq_true rfl) rfl (fun p e s m below meth c A ls C hr hs hl => wM_bitsOf C hr σ _ _ ls hs hl hf)
def fM_put (x1 : Int32) (x2 : Int32) (x3 : Int32) (σ : zS) : Option (Unit × zS) :=
  if z_in ((320 * x1) + x2) 5000 = true then (
  z_let (z_up σ (103, 0, 0) (((320 * x1) + x2).toNatClampNeg) x3) (fun σ2 =>
  some ((), σ2))) else none
set_option maxHeartbeats 4000000 in
set_option maxRecDepth 20000 in
theorem wM_put {x1 : Int32} {x2 : Int32} {x3 : Int32} (C : z_C E RX9 cX9_put 4 A p s m args meth c) (hr : meth.sig.returnType = none) (hM : z_M E) {ro : Unit} {σo : zS} (σ : zS) (H : Heap) (locs : List Loc) (ls : Array Slot) (hs : z_H E A s σ H locs) (hl : lv_has ls 4 [(0, .ref (z_ad E (100, 0, 0))), (1, .int x1), (2, .int x2), (3, .int x3)]) (hf : fM_put x1 x2 x3 σ = some (ro, σo)) : W p l e (z_rm 1) s m args below meth c H locs 0 0 (MQ below (z_QV E ro σo A) args s 0 0 A) (F0 m 0 ls []) := by
  have hx := C.1
  have hb := C.2.1
  unfold fM_put at hf
  refine lv_aload_n hx hb dX9_put_0 rfl (lv_at hl 0 rfl) ?_
  refine zg_M_all C hs (hM 100 (by decide) (by decide)) z_k952 dX9_put_1 ?_
  refine lv_sipush (v := 320) hx hb dX9_put_4 (by decide) ?_
  refine lv_iload_n hx hb dX9_put_7 rfl (lv_at hl 1 rfl) ?_
  refine lv_imul hx hb dX9_put_8 ?_
  refine lv_iload_n hx hb dX9_put_9 rfl (lv_at hl 2 rfl) ?_
  refine lv_iadd hx hb dX9_put_10 ?_
  refine lv_iload_n hx hb dX9_put_11 rfl (lv_at hl 3 rfl) ?_
  obtain ⟨g1, hf⟩ := z_gd hf
  refine z_ast C hs (hM 103 (by decide) (by decide)) (fun r h => z_c103 E r h _ _) g1 rfl dX9_put_12 (fun H locs hs => ?_)
  obtain ⟨σ2, -, hs, hf⟩ := z_top hs hf
  exact z_retv C hr hs hf dX9_put_13
set_option maxHeartbeats 4000000 in
set_option maxRecDepth 20000 in
theorem cM_put (l : Launch) (E : zE) {x1 : Int32} {x2 : Int32} {x3 : Int32} (hM : z_M E) {σ σo : zS} {ro : Unit} (hf : fM_put x1 x2 x3 σ = some (ro, σo)) : z_T l E yX9_put cX9_put 4 none (z_rm 1) (z_QV E ro σo) [.ref (z_ad E (100, 0, 0)), .int x1, .int x2, .int x3] σ :=
  z_enter (by decide) (Nat.le_of_ble_eq_true rfl) rfl (fun p e s m below meth c A ls C hr hs hl => wM_put C hr hM σ _ _ ls hs hl hf)
def fM_begin_73 : Nat → Int32 → zS → Option (Unit × zS)
  | 0, _, _ => none
  | n + 1, x1, σ =>
    if 3 ≤ x1 then
      (some ((), σ))
    else
      (if z_in x1 3 = true then (
      z_let (z_up σ (105, 0, 0) (x1.toNatClampNeg) (vp_nar .boolean 0)) (fun σ6 =>
      z_let (x1 + 1) (fun y7 =>
      fM_begin_73 n y7 σ6))) else none)
def fM_begin_45 : Nat → Int32 → zS → Option (Unit × zS)
  | 0, _, _ => none
  | n + 1, x1, σ =>
    if 40 ≤ x1 then
      (fM_begin_73 z_fu 0 σ)
    else
      (if z_in (2240 + (64 * x1)) 5000 = true then (
      z_let (z_up σ (103, 0, 0) ((2240 + (64 * x1)).toNatClampNeg) ((-1))) (fun σ9 =>
      z_let (x1 + 1) (fun y10 =>
      fM_begin_45 n y10 σ9))) else none)
def fM_begin_24 : Nat → Int32 → zS → Option (Unit × zS)
  | 0, _, _ => none
  | n + 1, x1, σ =>
    if 7 ≤ x1 then
      (fM_begin_45 z_fu 0 σ)
    else
      (z_bd (fM_put x1 1 ((-1)) σ) (fun _ σ11 =>
      z_let (x1 + 1) (fun y12 =>
      fM_begin_24 n y12 σ11)))
def fM_begin_2 : Nat → Int32 → zS → Option (Unit × zS)
  | 0, _, _ => none
  | n + 1, x1, σ =>
    if 5000 ≤ x1 then
      (fM_begin_24 z_fu 0 σ)
    else
      (if z_in x1 5000 = true then (
      z_let (z_up σ (103, 0, 0) (x1.toNatClampNeg) 0) (fun σ14 =>
      z_let (x1 + 1) (fun y15 =>
      fM_begin_2 n y15 σ14))) else none)
def fM_begin (σ : zS) : Option (Unit × zS) :=
  fM_begin_2 z_fu 0 σ
set_option maxHeartbeats 4000000 in
set_option maxRecDepth 20000 in
theorem wM_begin_73 (C : z_C E RX9 cX9_begin 2 A p s m args meth c) (hr : meth.sig.returnType = none) (hM : z_M E) {ro : Unit} {σo : zS} (n : Nat) : ∀ (x1 : Int32) (σ : zS) (H : Heap) (locs : List Loc) (ls : Array Slot), z_H E A s σ H locs → lv_has ls 2 [(0, .ref (z_ad E (100, 0, 0))), (1, .int x1)] → fM_begin_73 n x1 σ = some (ro, σo) → W p l e (z_rm 2) s m args below meth c H locs 0 0 (MQ below (z_QV E ro σo A) args s 0 0 A) (F0 m 73 ls []) := by
  induction n with
  | zero =>
    intro x1 σ H locs ls hs hl hf
    have hf : none = some (ro, σo) := hf
    cases hf
  | succ n ih =>
    intro x1 σ H locs ls hs hl hf
    have hx := C.1
    have hb := C.2.1
    rw [fM_begin_73.eq_2] at hf
    refine lv_iload_n hx hb dX9_begin_73 rfl (lv_at hl 1 rfl) ?_
    refine lv_iconst (v := 3) hx hb dX9_begin_74 (by decide) ?_
    refine lv_icmp_ge (tgt := 91) hx hb dX9_begin_75 (by decide) (fun c4 => ?_) (fun c4 => ?_)
    · have hf := z_t hf c4
      exact z_retv C hr hs hf dX9_begin_91
    · have hf := z_f hf c4
      refine lv_aload_n hx hb dX9_begin_78 rfl (lv_at hl 0 rfl) ?_
      refine zg_M_isBoxed C hs (hM 100 (by decide) (by decide)) z_k954 dX9_begin_79 ?_
      refine lv_iload_n hx hb dX9_begin_82 rfl (lv_at hl 1 rfl) ?_
      refine lv_iconst (v := 0) hx hb dX9_begin_83 (by decide) ?_
      obtain ⟨g5, hf⟩ := z_gd hf
      refine z_zast C hs (hM 105 (by decide) (by decide)) (fun r h => z_c105 E r h _ _) g5 rfl dX9_begin_84 (fun H locs hs => ?_)
      obtain ⟨σ6, -, hs, hf⟩ := z_top hs hf
      obtain ⟨y7, e_y7⟩ : ∃ y : Int32, y = x1 + 1 := ⟨_, rfl⟩
      have hf := z_lte e_y7 hf
      refine lv_iinc (v := y7) (lv' := [(1, .int y7), (0, .ref (z_ad E (100, 0, 0)))]) hx hb dX9_begin_85 hl (k := 1) rfl (by rw [e_y7]; rfl) (by decide) rfl (fun ls hl => ?_)
      refine lv_goto (tgt := 73) hx hb dX9_begin_88 (by decide) ?_
      exact ih y7 σ6 _ _ _ hs (lv_sub hl [1, 0] rfl) hf
set_option maxHeartbeats 4000000 in
set_option maxRecDepth 20000 in
theorem wM_begin_45 (C : z_C E RX9 cX9_begin 2 A p s m args meth c) (hr : meth.sig.returnType = none) (hM : z_M E) {ro : Unit} {σo : zS} (n : Nat) : ∀ (x1 : Int32) (σ : zS) (H : Heap) (locs : List Loc) (ls : Array Slot), z_H E A s σ H locs → lv_has ls 2 [(0, .ref (z_ad E (100, 0, 0))), (1, .int x1)] → fM_begin_45 n x1 σ = some (ro, σo) → W p l e (z_rm 2) s m args below meth c H locs 0 0 (MQ below (z_QV E ro σo A) args s 0 0 A) (F0 m 45 ls []) := by
  induction n with
  | zero =>
    intro x1 σ H locs ls hs hl hf
    have hf : none = some (ro, σo) := hf
    cases hf
  | succ n ih =>
    intro x1 σ H locs ls hs hl hf
    have hx := C.1
    have hb := C.2.1
    rw [fM_begin_45.eq_2] at hf
    refine lv_iload_n hx hb dX9_begin_45 rfl (lv_at hl 1 rfl) ?_
    refine lv_bipush (v := 40) hx hb dX9_begin_46 (by decide) ?_
    refine lv_icmp_ge (tgt := 71) hx hb dX9_begin_48 (by decide) (fun c3 => ?_) (fun c3 => ?_)
    · have hf := z_t hf c3
      refine lv_iconst (v := 0) hx hb dX9_begin_71 (by decide) ?_
      refine lv_istore_n (lv' := [(1, .int 0), (0, .ref (z_ad E (100, 0, 0)))]) hx hb dX9_begin_72 rfl hl (by decide) rfl (fun ls hl => ?_)
      exact wM_begin_73 C hr hM z_fu 0 σ _ _ _ hs (lv_sub hl [1, 0] rfl) hf
    · have hf := z_f hf c3
      refine lv_aload_n hx hb dX9_begin_51 rfl (lv_at hl 0 rfl) ?_
      refine zg_M_all C hs (hM 100 (by decide) (by decide)) z_k952 dX9_begin_52 ?_
      refine lv_sipush (v := 2240) hx hb dX9_begin_55 (by decide) ?_
      refine lv_bipush (v := 64) hx hb dX9_begin_58 (by decide) ?_
      refine lv_iload_n hx hb dX9_begin_60 rfl (lv_at hl 1 rfl) ?_
      refine lv_imul hx hb dX9_begin_61 ?_
      refine lv_iadd hx hb dX9_begin_62 ?_
      refine lv_iconst (v := (-1)) hx hb dX9_begin_63 (by decide) ?_
      obtain ⟨g8, hf⟩ := z_gd hf
      refine z_ast C hs (hM 103 (by decide) (by decide)) (fun r h => z_c103 E r h _ _) g8 rfl dX9_begin_64 (fun H locs hs => ?_)
      obtain ⟨σ9, -, hs, hf⟩ := z_top hs hf
      obtain ⟨y10, e_y10⟩ : ∃ y : Int32, y = x1 + 1 := ⟨_, rfl⟩
      have hf := z_lte e_y10 hf
      refine lv_iinc (v := y10) (lv' := [(1, .int y10), (0, .ref (z_ad E (100, 0, 0)))]) hx hb dX9_begin_65 hl (k := 1) rfl (by rw [e_y10]; rfl) (by decide) rfl (fun ls hl => ?_)
      refine lv_goto (tgt := 45) hx hb dX9_begin_68 (by decide) ?_
      exact ih y10 σ9 _ _ _ hs (lv_sub hl [1, 0] rfl) hf
set_option maxHeartbeats 4000000 in
set_option maxRecDepth 20000 in
theorem wM_begin_24 (C : z_C E RX9 cX9_begin 2 A p s m args meth c) (hr : meth.sig.returnType = none) (hM : z_M E) {ro : Unit} {σo : zS} (n : Nat) : ∀ (x1 : Int32) (σ : zS) (H : Heap) (locs : List Loc) (ls : Array Slot), z_H E A s σ H locs → lv_has ls 2 [(0, .ref (z_ad E (100, 0, 0))), (1, .int x1)] → fM_begin_24 n x1 σ = some (ro, σo) → W p l e (z_rm 2) s m args below meth c H locs 0 0 (MQ below (z_QV E ro σo A) args s 0 0 A) (F0 m 24 ls []) := by
  induction n with
  | zero =>
    intro x1 σ H locs ls hs hl hf
    have hf : none = some (ro, σo) := hf
    cases hf
  | succ n ih =>
    intro x1 σ H locs ls hs hl hf
    have hx := C.1
    have hb := C.2.1
    rw [fM_begin_24.eq_2] at hf
    refine lv_iload_n hx hb dX9_begin_24 rfl (lv_at hl 1 rfl) ?_
    refine lv_bipush (v := 7) hx hb dX9_begin_25 (by decide) ?_
    refine lv_icmp_ge (tgt := 43) hx hb dX9_begin_27 (by decide) (fun c2 => ?_) (fun c2 => ?_)
    · have hf := z_t hf c2
      refine lv_iconst (v := 0) hx hb dX9_begin_43 (by decide) ?_
      refine lv_istore_n (lv' := [(1, .int 0), (0, .ref (z_ad E (100, 0, 0)))]) hx hb dX9_begin_44 rfl hl (by decide) rfl (fun ls hl => ?_)
      exact wM_begin_45 C hr hM z_fu 0 σ _ _ _ hs (lv_sub hl [1, 0] rfl) hf
    · have hf := z_f hf c2
      refine lv_aload_n hx hb dX9_begin_30 rfl (lv_at hl 0 rfl) ?_
      refine lv_iload_n hx hb dX9_begin_31 rfl (lv_at hl 1 rfl) ?_
      refine lv_iconst (v := 1) hx hb dX9_begin_32 (by decide) ?_
      refine lv_iconst (v := (-1)) hx hb dX9_begin_33 (by decide) ?_
      obtain ⟨r11, σ11, h_11, hf⟩ := z_bds hf
      refine z_goV C hs (z_runV C hs hl.1 (cM_put l E hM h_11) zcV_RX9_139 (hM 100 (by decide) (by decide)) (z_c100 E _ _ _ _) rfl rfl rfl (by decide) (Nat.le_of_ble_eq_true rfl) dX9_begin_34) (fun H locs hs => ?_)
      obtain ⟨y12, e_y12⟩ : ∃ y : Int32, y = x1 + 1 := ⟨_, rfl⟩
      have hf := z_lte e_y12 hf
      refine lv_iinc (v := y12) (lv' := [(1, .int y12), (0, .ref (z_ad E (100, 0, 0)))]) hx hb dX9_begin_37 hl (k := 1) rfl (by rw [e_y12]; rfl) (by decide) rfl (fun ls hl => ?_)
      refine lv_goto (tgt := 24) hx hb dX9_begin_40 (by decide) ?_
      exact ih y12 σ11 _ _ _ hs (lv_sub hl [1, 0] rfl) hf
set_option maxHeartbeats 4000000 in
set_option maxRecDepth 20000 in
theorem wM_begin_2 (C : z_C E RX9 cX9_begin 2 A p s m args meth c) (hr : meth.sig.returnType = none) (hM : z_M E) {ro : Unit} {σo : zS} (n : Nat) : ∀ (x1 : Int32) (σ : zS) (H : Heap) (locs : List Loc) (ls : Array Slot), z_H E A s σ H locs → lv_has ls 2 [(0, .ref (z_ad E (100, 0, 0))), (1, .int x1)] → fM_begin_2 n x1 σ = some (ro, σo) → W p l e (z_rm 2) s m args below meth c H locs 0 0 (MQ below (z_QV E ro σo A) args s 0 0 A) (F0 m 2 ls []) := by
  induction n with
  | zero =>
    intro x1 σ H locs ls hs hl hf
    have hf : none = some (ro, σo) := hf
    cases hf
  | succ n ih =>
    intro x1 σ H locs ls hs hl hf
    have hx := C.1
    have hb := C.2.1
    rw [fM_begin_2.eq_2] at hf
    refine lv_iload_n hx hb dX9_begin_2 rfl (lv_at hl 1 rfl) ?_
    refine lv_sipush (v := 5000) hx hb dX9_begin_3 (by decide) ?_
    refine lv_icmp_ge (tgt := 22) hx hb dX9_begin_6 (by decide) (fun c1 => ?_) (fun c1 => ?_)
    · have hf := z_t hf c1
      refine lv_iconst (v := 0) hx hb dX9_begin_22 (by decide) ?_
      refine lv_istore_n (lv' := [(1, .int 0), (0, .ref (z_ad E (100, 0, 0)))]) hx hb dX9_begin_23 rfl hl (by decide) rfl (fun ls hl => ?_)
      exact wM_begin_24 C hr hM z_fu 0 σ _ _ _ hs (lv_sub hl [1, 0] rfl) hf
    · have hf := z_f hf c1
      refine lv_aload_n hx hb dX9_begin_9 rfl (lv_at hl 0 rfl) ?_
      refine zg_M_all C hs (hM 100 (by decide) (by decide)) z_k952 dX9_begin_10 ?_
      refine lv_iload_n hx hb dX9_begin_13 rfl (lv_at hl 1 rfl) ?_
      refine lv_iconst (v := 0) hx hb dX9_begin_14 (by decide) ?_
      obtain ⟨g13, hf⟩ := z_gd hf
      refine z_ast C hs (hM 103 (by decide) (by decide)) (fun r h => z_c103 E r h _ _) g13 rfl dX9_begin_15 (fun H locs hs => ?_)
      obtain ⟨σ14, -, hs, hf⟩ := z_top hs hf
      obtain ⟨y15, e_y15⟩ : ∃ y : Int32, y = x1 + 1 := ⟨_, rfl⟩
      have hf := z_lte e_y15 hf
      refine lv_iinc (v := y15) (lv' := [(1, .int y15), (0, .ref (z_ad E (100, 0, 0)))]) hx hb dX9_begin_16 hl (k := 1) rfl (by rw [e_y15]; rfl) (by decide) rfl (fun ls hl => ?_)
      refine lv_goto (tgt := 2) hx hb dX9_begin_19 (by decide) ?_
      exact ih y15 σ14 _ _ _ hs (lv_sub hl [1, 0] rfl) hf
set_option maxHeartbeats 4000000 in
set_option maxRecDepth 20000 in
theorem wM_begin (C : z_C E RX9 cX9_begin 2 A p s m args meth c) (hr : meth.sig.returnType = none) (hM : z_M E) {ro : Unit} {σo : zS} (σ : zS) (H : Heap) (locs : List Loc) (ls : Array Slot) (hs : z_H E A s σ H locs) (hl : lv_has ls 2 [(0, .ref (z_ad E (100, 0, 0)))]) (hf : fM_begin σ = some (ro, σo)) : W p l e (z_rm 2) s m args below meth c H locs 0 0 (MQ below (z_QV E ro σo A) args s 0 0 A) (F0 m 0 ls []) := by
  have hx := C.1
  have hb := C.2.1
  unfold fM_begin at hf
  refine lv_iconst (v := 0) hx hb dX9_begin_0 (by decide) ?_
  refine lv_istore_n (lv' := [(1, .int 0), (0, .ref (z_ad E (100, 0, 0)))]) hx hb dX9_begin_1 rfl hl (by decide) rfl (fun ls hl => ?_)
  exact wM_begin_2 C hr hM z_fu 0 σ _ _ _ hs (lv_sub hl [1, 0] rfl) hf
set_option maxHeartbeats 4000000 in
set_option maxRecDepth 20000 in
theorem cM_begin (l : Launch) (E : zE) (hM : z_M E) {σ σo : zS} {ro : Unit} (hf : fM_begin σ = some (ro, σo)) : z_T l E yX9_begin cX9_begin 2 none (z_rm 2) (z_QV E ro σo) [.ref (z_ad E (100, 0, 0))] σ :=
  z_enter (by decide) (Nat.le_of_ble_eq_true rfl) rfl (fun p e s m below meth c A ls C hr hs hl => wM_begin C hr hM σ _ _ ls hs hl hf)
def fM_keepers_151 (σ : zS) : Option (Int32 × zS) :=
  z_bd (fM_isGood σ) (fun r17 σ17 =>
  if r17 = 0 then
    (some ((-1), σ17))
  else
    (z_let (z_up σ17 (100, 0, 0) 12 (σ17.1 (100, 0, 0) 13)) (fun σ19 =>
    z_bd (fM_begin σ19) (fun _ σ20 =>
    if z_in (σ20.1 (100, 0, 0) 12) 2 = true then (
    some (σ20.1 (106, 0, 0) (σ20.1 (100, 0, 0) 12).toNatClampNeg, σ20)) else none))))
def fM_keepers_111 (σ : zS) : Option (Int32 × zS) :=
  z_bd (fM_isGood σ) (fun r15 σ15 =>
  if r15 = 0 then
    (fM_keepers_151 σ15)
  else
    (if z_in (σ15.1 (100, 0, 0) 13) 2 = true then (
    z_bd (fM_bitsOf (σ15.1 (107, 0, 0) (σ15.1 (100, 0, 0) 13).toNatClampNeg) σ15) (fun r23 σ23 =>
    if z_in (σ23.1 (100, 0, 0) 13) 2 = true then (
    if r23 = (σ23.1 (106, 0, 0) (σ23.1 (100, 0, 0) 13).toNatClampNeg) then
      (z_bd (fM_fails 4 (σ23.1 (100, 0, 0) 6) σ23) (fun _ σ26 =>
      fM_keepers_151 σ26))
    else
      (fM_keepers_151 σ23)) else none)) else none))
def fM_keepers_90 : Nat → zS → Option (Int32 × zS)
  | 0, _ => none
  | n + 1, σ =>
    z_bd (fM_isGood σ) (fun r13 σ13 =>
    if r13 = 0 then
      (fM_keepers_111 σ13)
    else
      (if (σ13.1 (100, 0, 0) 16) = 0 then
        (fM_keepers_111 σ13)
      else
        (z_bd (fM_readKeeper σ13) (fun _ σ28 =>
        fM_keepers_90 n σ28))))
def fM_keepers_20 : Nat → Int32 → zS → Option (Int32 × zS)
  | 0, _, _ => none
  | n + 1, x1, σ =>
    if (σ.1 (100, 0, 0) 6) ≤ x1 then
      (z_let (z_up σ (100, 0, 0) 5 0) (fun σ5 =>
      z_let (z_up σ5 (100, 0, 0) 15 0) (fun σ6 =>
      z_let (z_up σ6 (100, 0, 0) 13 (1 - (σ6.1 (100, 0, 0) 12))) (fun σ7 =>
      if z_in (σ7.1 (100, 0, 0) 13) 2 = true then (
      z_let (z_up σ7 (106, 0, 0) ((σ7.1 (100, 0, 0) 13).toNatClampNeg) 0) (fun σ9 =>
      if z_in (σ9.1 (100, 0, 0) 13) 2 = true then (
      z_let (z_up σ9 (107, 0, 0) ((σ9.1 (100, 0, 0) 13).toNatClampNeg) 0) (fun σ11 =>
      z_bd (fM_goOn σ11) (fun _ σ12 =>
      fM_keepers_90 z_fu σ12))) else none)) else none))))
    else
      (if z_in x1 420 = true then (
      if z_in x1 400 = true then (
      z_let (z_up σ (102, 0, 0) (x1.toNatClampNeg) (vp_nar .byte (σ.1 (101, 0, 0) x1.toNatClampNeg))) (fun σ31 =>
      z_let (x1 + 1) (fun y32 =>
      fM_keepers_20 n y32 σ31))) else none) else none)
def fM_keepers (σ : zS) : Option (Int32 × zS) :=
  z_let (z_up σ (100, 0, 0) 7 0) (fun σ1 =>
  z_let (z_up σ1 (100, 0, 0) 8 ((-1))) (fun σ2 =>
  z_let (z_up σ2 (100, 0, 0) 6 (σ2.1 (100, 0, 0) 5)) (fun σ3 =>
  fM_keepers_20 z_fu 0 σ3)))
set_option maxHeartbeats 4000000 in
set_option maxRecDepth 20000 in
theorem wM_keepers_151 (C : z_C E RX9 cX9_keepers 2 A p s m args meth c) (hr : meth.sig.returnType = (some .int)) (hM : z_M E) {ro : Int32} {σo : zS} (σ : zS) (H : Heap) (locs : List Loc) (ls : Array Slot) (hs : z_H E A s σ H locs) (hl : lv_has ls 2 [(0, .ref (z_ad E (100, 0, 0)))]) (hf : fM_keepers_151 σ = some (ro, σo)) : W p l e (z_rm 4) s m args below meth c H locs 0 0 (MQ below (z_QI E ro σo A) args s 0 0 A) (F0 m 151 ls []) := by
  have hx := C.1
  have hb := C.2.1
  unfold fM_keepers_151 at hf
  refine lv_aload_n hx hb dX9_keepers_151 rfl (lv_at hl 0 rfl) ?_
  obtain ⟨r17, σ17, h_17, hf⟩ := z_bds hf
  refine z_goI C hs (z_runV C hs hl.1 (cM_isGood l E hM h_17) zcV_RX9_115 (hM 100 (by decide) (by decide)) (z_c100 E _ _ _ _) rfl rfl rfl (by decide) (Nat.le_of_ble_eq_true rfl) dX9_keepers_152) (fun H locs hs => ?_)
  refine lv_if_ne (tgt := 160) hx hb dX9_keepers_155 (by decide) (fun c18 => ?_) (fun c18 => ?_)
  · have hf := z_f hf c18
    refine lv_aload_n hx hb dX9_keepers_160 rfl (lv_at hl 0 rfl) ?_
    refine lv_aload_n hx hb dX9_keepers_161 rfl (lv_at hl 0 rfl) ?_
    refine zg_M_rb C hs (hM 100 (by decide) (by decide)) z_k963 dX9_keepers_162 ?_
    refine zp_M_bank C hs (hM 100 (by decide) (by decide)) z_k962 dX9_keepers_165 (fun H locs hs => ?_)
    obtain ⟨σ19, -, hs, hf⟩ := z_top hs hf
    refine lv_aload_n hx hb dX9_keepers_168 rfl (lv_at hl 0 rfl) ?_
    obtain ⟨r20, σ20, h_20, hf⟩ := z_bds hf
    refine z_goV C hs (z_runV C hs hl.1 (cM_begin l E hM h_20) zcV_RX9_65 (hM 100 (by decide) (by decide)) (z_c100 E _ _ _ _) rfl rfl rfl (by decide) (Nat.le_of_ble_eq_true rfl) dX9_keepers_169) (fun H locs hs => ?_)
    refine lv_aload_n hx hb dX9_keepers_172 rfl (lv_at hl 0 rfl) ?_
    refine zg_M_keepers C hs (hM 100 (by decide) (by decide)) z_k959 dX9_keepers_173 ?_
    refine lv_aload_n hx hb dX9_keepers_176 rfl (lv_at hl 0 rfl) ?_
    refine zg_M_bank C hs (hM 100 (by decide) (by decide)) z_k962 dX9_keepers_177 ?_
    obtain ⟨g21, hf⟩ := z_gd hf
    refine z_ald C hs (hM 106 (by decide) (by decide)) (z_c106 E _ _ _ _) g21 rfl dX9_keepers_180 ?_
    exact z_reti C hr hs hf dX9_keepers_181
  · have hf := z_t hf c18
    refine lv_iconst (v := (-1)) hx hb dX9_keepers_158 (by decide) ?_
    exact z_reti C hr hs hf dX9_keepers_159
set_option maxHeartbeats 4000000 in
set_option maxRecDepth 20000 in
theorem wM_keepers_111 (C : z_C E RX9 cX9_keepers 2 A p s m args meth c) (hr : meth.sig.returnType = (some .int)) (hM : z_M E) {ro : Int32} {σo : zS} (σ : zS) (H : Heap) (locs : List Loc) (ls : Array Slot) (hs : z_H E A s σ H locs) (hl : lv_has ls 2 [(0, .ref (z_ad E (100, 0, 0)))]) (hf : fM_keepers_111 σ = some (ro, σo)) : W p l e (z_rm 4) s m args below meth c H locs 0 0 (MQ below (z_QI E ro σo A) args s 0 0 A) (F0 m 111 ls []) := by
  have hx := C.1
  have hb := C.2.1
  unfold fM_keepers_111 at hf
  refine lv_aload_n hx hb dX9_keepers_111 rfl (lv_at hl 0 rfl) ?_
  obtain ⟨r15, σ15, h_15, hf⟩ := z_bds hf
  refine z_goI C hs (z_runV C hs hl.1 (cM_isGood l E hM h_15) zcV_RX9_115 (hM 100 (by decide) (by decide)) (z_c100 E _ _ _ _) rfl rfl rfl (by decide) (Nat.le_of_ble_eq_true rfl) dX9_keepers_112) (fun H locs hs => ?_)
  refine lv_if_eq (tgt := 151) hx hb dX9_keepers_115 (by decide) (fun c16 => ?_) (fun c16 => ?_)
  · have hf := z_t hf c16
    exact wM_keepers_151 C hr hM σ15 _ _ _ hs (lv_sub hl [0] rfl) hf
  · have hf := z_f hf c16
    refine lv_aload_n hx hb dX9_keepers_118 rfl (lv_at hl 0 rfl) ?_
    refine zg_M_silent C hs (hM 100 (by decide) (by decide)) z_k960 dX9_keepers_119 ?_
    refine lv_aload_n hx hb dX9_keepers_122 rfl (lv_at hl 0 rfl) ?_
    refine zg_M_rb C hs (hM 100 (by decide) (by decide)) z_k963 dX9_keepers_123 ?_
    obtain ⟨g22, hf⟩ := z_gd hf
    refine z_ald C hs (hM 107 (by decide) (by decide)) (z_c107 E _ _ _ _) g22 rfl dX9_keepers_126 ?_
    obtain ⟨r23, σ23, h_23, hf⟩ := z_bds hf
    refine z_goI C hs (z_runS C hs hl.1 (cM_bitsOf l E h_23) zcS_RX9_122 rfl rfl rfl (by decide) (Nat.le_of_ble_eq_true rfl) dX9_keepers_127) (fun H locs hs => ?_)
    refine lv_aload_n hx hb dX9_keepers_130 rfl (lv_at hl 0 rfl) ?_
    refine zg_M_keepers C hs (hM 100 (by decide) (by decide)) z_k959 dX9_keepers_131 ?_
    refine lv_aload_n hx hb dX9_keepers_134 rfl (lv_at hl 0 rfl) ?_
    refine zg_M_rb C hs (hM 100 (by decide) (by decide)) z_k963 dX9_keepers_135 ?_
    obtain ⟨g24, hf⟩ := z_gd hf
    refine z_ald C hs (hM 106 (by decide) (by decide)) (z_c106 E _ _ _ _) g24 rfl dX9_keepers_138 ?_
    refine lv_icmp_ne (tgt := 151) hx hb dX9_keepers_139 (by decide) (fun c25 => ?_) (fun c25 => ?_)
    · have hf := z_f hf c25
      exact wM_keepers_151 C hr hM σ23 _ _ _ hs (lv_sub hl [0] rfl) hf
    · have hf := z_t hf c25
      refine lv_aload_n hx hb dX9_keepers_142 rfl (lv_at hl 0 rfl) ?_
      refine lv_iconst (v := 4) hx hb dX9_keepers_143 (by decide) ?_
      refine lv_aload_n hx hb dX9_keepers_144 rfl (lv_at hl 0 rfl) ?_
      refine zg_M_size C hs (hM 100 (by decide) (by decide)) z_k956 dX9_keepers_145 ?_
      obtain ⟨r26, σ26, h_26, hf⟩ := z_bds hf
      refine z_goV C hs (z_runV C hs hl.1 (cM_fails l E hM h_26) zcV_RX9_99 (hM 100 (by decide) (by decide)) (z_c100 E _ _ _ _) rfl rfl rfl (by decide) (Nat.le_of_ble_eq_true rfl) dX9_keepers_148) (fun H locs hs => ?_)
      exact wM_keepers_151 C hr hM σ26 _ _ _ hs (lv_sub hl [0] rfl) hf
set_option maxHeartbeats 4000000 in
set_option maxRecDepth 20000 in
theorem wM_keepers_90 (C : z_C E RX9 cX9_keepers 2 A p s m args meth c) (hr : meth.sig.returnType = (some .int)) (hM : z_M E) {ro : Int32} {σo : zS} (n : Nat) : ∀ (σ : zS) (H : Heap) (locs : List Loc) (ls : Array Slot), z_H E A s σ H locs → lv_has ls 2 [(0, .ref (z_ad E (100, 0, 0)))] → fM_keepers_90 n σ = some (ro, σo) → W p l e (z_rm 4) s m args below meth c H locs 0 0 (MQ below (z_QI E ro σo A) args s 0 0 A) (F0 m 90 ls []) := by
  induction n with
  | zero =>
    intro σ H locs ls hs hl hf
    have hf : none = some (ro, σo) := hf
    cases hf
  | succ n ih =>
    intro σ H locs ls hs hl hf
    have hx := C.1
    have hb := C.2.1
    rw [fM_keepers_90.eq_2] at hf
    refine lv_aload_n hx hb dX9_keepers_90 rfl (lv_at hl 0 rfl) ?_
    obtain ⟨r13, σ13, h_13, hf⟩ := z_bds hf
    refine z_goI C hs (z_runV C hs hl.1 (cM_isGood l E hM h_13) zcV_RX9_115 (hM 100 (by decide) (by decide)) (z_c100 E _ _ _ _) rfl rfl rfl (by decide) (Nat.le_of_ble_eq_true rfl) dX9_keepers_91) (fun H locs hs => ?_)
    refine lv_if_eq (tgt := 111) hx hb dX9_keepers_94 (by decide) (fun c14 => ?_) (fun c14 => ?_)
    · have hf := z_t hf c14
      exact wM_keepers_111 C hr hM σ13 _ _ _ hs (lv_sub hl [0] rfl) hf
    · have hf := z_f hf c14
      refine lv_aload_n hx hb dX9_keepers_97 rfl (lv_at hl 0 rfl) ?_
      refine zg_M_token C hs (hM 100 (by decide) (by decide)) z_k966 dX9_keepers_98 ?_
      refine lv_if_eq (tgt := 111) hx hb dX9_keepers_101 (by decide) (fun c27 => ?_) (fun c27 => ?_)
      · have hf := z_t hf c27
        exact wM_keepers_111 C hr hM σ13 _ _ _ hs (lv_sub hl [0] rfl) hf
      · have hf := z_f hf c27
        refine lv_aload_n hx hb dX9_keepers_104 rfl (lv_at hl 0 rfl) ?_
        obtain ⟨r28, σ28, h_28, hf⟩ := z_bds hf
        refine z_goV C hs (z_runV C hs hl.1 (cM_readKeeper l E hM h_28) zcV_RX9_119 (hM 100 (by decide) (by decide)) (z_c100 E _ _ _ _) rfl rfl rfl (by decide) (Nat.le_of_ble_eq_true rfl) dX9_keepers_105) (fun H locs hs => ?_)
        refine lv_goto (tgt := 90) hx hb dX9_keepers_108 (by decide) ?_
        exact ih σ28 _ _ _ hs (lv_sub hl [0] rfl) hf
set_option maxHeartbeats 4000000 in
set_option maxRecDepth 20000 in
theorem wM_keepers_20 (C : z_C E RX9 cX9_keepers 2 A p s m args meth c) (hr : meth.sig.returnType = (some .int)) (hM : z_M E) {ro : Int32} {σo : zS} (n : Nat) : ∀ (x1 : Int32) (σ : zS) (H : Heap) (locs : List Loc) (ls : Array Slot), z_H E A s σ H locs → lv_has ls 2 [(0, .ref (z_ad E (100, 0, 0))), (1, .int x1)] → fM_keepers_20 n x1 σ = some (ro, σo) → W p l e (z_rm 4) s m args below meth c H locs 0 0 (MQ below (z_QI E ro σo A) args s 0 0 A) (F0 m 20 ls []) := by
  induction n with
  | zero =>
    intro x1 σ H locs ls hs hl hf
    have hf : none = some (ro, σo) := hf
    cases hf
  | succ n ih =>
    intro x1 σ H locs ls hs hl hf
    have hx := C.1
    have hb := C.2.1
    rw [fM_keepers_20.eq_2] at hf
    refine lv_iload_n hx hb dX9_keepers_20 rfl (lv_at hl 1 rfl) ?_
    refine lv_aload_n hx hb dX9_keepers_21 rfl (lv_at hl 0 rfl) ?_
    refine zg_M_size C hs (hM 100 (by decide) (by decide)) z_k956 dX9_keepers_22 ?_
    refine lv_icmp_ge (tgt := 46) hx hb dX9_keepers_25 (by decide) (fun c4 => ?_) (fun c4 => ?_)
    · have hf := z_t hf c4
      refine lv_aload_n hx hb dX9_keepers_46 rfl (lv_at hl 0 rfl) ?_
      refine lv_iconst (v := 0) hx hb dX9_keepers_47 (by decide) ?_
      refine zp_M_taped C hs (hM 100 (by decide) (by decide)) z_k955 dX9_keepers_48 (fun H locs hs => ?_)
      obtain ⟨σ5, -, hs, hf⟩ := z_top hs hf
      refine lv_aload_n hx hb dX9_keepers_51 rfl (lv_at hl 0 rfl) ?_
      refine lv_iconst (v := 0) hx hb dX9_keepers_52 (by decide) ?_
      refine zp_M_end C hs (hM 100 (by decide) (by decide)) z_k965 dX9_keepers_53 (fun H locs hs => ?_)
      obtain ⟨σ6, -, hs, hf⟩ := z_top hs hf
      refine lv_aload_n hx hb dX9_keepers_56 rfl (lv_at hl 0 rfl) ?_
      refine lv_iconst (v := 1) hx hb dX9_keepers_57 (by decide) ?_
      refine lv_aload_n hx hb dX9_keepers_58 rfl (lv_at hl 0 rfl) ?_
      refine zg_M_bank C hs (hM 100 (by decide) (by decide)) z_k962 dX9_keepers_59 ?_
      refine lv_isub hx hb dX9_keepers_62 ?_
      refine zp_M_rb C hs (hM 100 (by decide) (by decide)) z_k963 dX9_keepers_63 (fun H locs hs => ?_)
      obtain ⟨σ7, -, hs, hf⟩ := z_top hs hf
      refine lv_aload_n hx hb dX9_keepers_66 rfl (lv_at hl 0 rfl) ?_
      refine zg_M_keepers C hs (hM 100 (by decide) (by decide)) z_k959 dX9_keepers_67 ?_
      refine lv_aload_n hx hb dX9_keepers_70 rfl (lv_at hl 0 rfl) ?_
      refine zg_M_rb C hs (hM 100 (by decide) (by decide)) z_k963 dX9_keepers_71 ?_
      refine lv_iconst (v := 0) hx hb dX9_keepers_74 (by decide) ?_
      obtain ⟨g8, hf⟩ := z_gd hf
      refine z_ast C hs (hM 106 (by decide) (by decide)) (fun r h => z_c106 E r h _ _) g8 rfl dX9_keepers_75 (fun H locs hs => ?_)
      obtain ⟨σ9, -, hs, hf⟩ := z_top hs hf
      refine lv_aload_n hx hb dX9_keepers_76 rfl (lv_at hl 0 rfl) ?_
      refine zg_M_silent C hs (hM 100 (by decide) (by decide)) z_k960 dX9_keepers_77 ?_
      refine lv_aload_n hx hb dX9_keepers_80 rfl (lv_at hl 0 rfl) ?_
      refine zg_M_rb C hs (hM 100 (by decide) (by decide)) z_k963 dX9_keepers_81 ?_
      refine lv_iconst (v := 0) hx hb dX9_keepers_84 (by decide) ?_
      obtain ⟨g10, hf⟩ := z_gd hf
      refine z_ast C hs (hM 107 (by decide) (by decide)) (fun r h => z_c107 E r h _ _) g10 rfl dX9_keepers_85 (fun H locs hs => ?_)
      obtain ⟨σ11, -, hs, hf⟩ := z_top hs hf
      refine lv_aload_n hx hb dX9_keepers_86 rfl (lv_at hl 0 rfl) ?_
      obtain ⟨r12, σ12, h_12, hf⟩ := z_bds hf
      refine z_goV C hs (z_runV C hs hl.1 (cM_goOn l E hM h_12) zcV_RX9_112 (hM 100 (by decide) (by decide)) (z_c100 E _ _ _ _) rfl rfl rfl (by decide) (Nat.le_of_ble_eq_true rfl) dX9_keepers_87) (fun H locs hs => ?_)
      exact wM_keepers_90 C hr hM z_fu σ12 _ _ _ hs (lv_sub hl [0] rfl) hf
    · have hf := z_f hf c4
      refine lv_aload_n hx hb dX9_keepers_28 rfl (lv_at hl 0 rfl) ?_
      refine zg_M_text C hs (hM 100 (by decide) (by decide)) z_k951 dX9_keepers_29 ?_
      refine lv_iload_n hx hb dX9_keepers_32 rfl (lv_at hl 1 rfl) ?_
      refine lv_aload_n hx hb dX9_keepers_33 rfl (lv_at hl 0 rfl) ?_
      refine zg_M_tape C hs (hM 100 (by decide) (by decide)) z_k950 dX9_keepers_34 ?_
      refine lv_iload_n hx hb dX9_keepers_37 rfl (lv_at hl 1 rfl) ?_
      obtain ⟨g29, hf⟩ := z_gd hf
      refine z_bald C hs (hM 101 (by decide) (by decide)) (z_c101 E _ _ _ _) g29 rfl dX9_keepers_38 ?_
      obtain ⟨g30, hf⟩ := z_gd hf
      refine z_bast C hs (hM 102 (by decide) (by decide)) (fun r h => z_c102 E r h _ _) g30 rfl dX9_keepers_39 (fun H locs hs => ?_)
      obtain ⟨σ31, -, hs, hf⟩ := z_top hs hf
      obtain ⟨y32, e_y32⟩ : ∃ y : Int32, y = x1 + 1 := ⟨_, rfl⟩
      have hf := z_lte e_y32 hf
      refine lv_iinc (v := y32) (lv' := [(1, .int y32), (0, .ref (z_ad E (100, 0, 0)))]) hx hb dX9_keepers_40 hl (k := 1) rfl (by rw [e_y32]; rfl) (by decide) rfl (fun ls hl => ?_)
      refine lv_goto (tgt := 20) hx hb dX9_keepers_43 (by decide) ?_
      exact ih y32 σ31 _ _ _ hs (lv_sub hl [1, 0] rfl) hf
set_option maxHeartbeats 4000000 in
set_option maxRecDepth 20000 in
theorem wM_keepers (C : z_C E RX9 cX9_keepers 2 A p s m args meth c) (hr : meth.sig.returnType = (some .int)) (hM : z_M E) {ro : Int32} {σo : zS} (σ : zS) (H : Heap) (locs : List Loc) (ls : Array Slot) (hs : z_H E A s σ H locs) (hl : lv_has ls 2 [(0, .ref (z_ad E (100, 0, 0)))]) (hf : fM_keepers σ = some (ro, σo)) : W p l e (z_rm 4) s m args below meth c H locs 0 0 (MQ below (z_QI E ro σo A) args s 0 0 A) (F0 m 0 ls []) := by
  have hx := C.1
  have hb := C.2.1
  unfold fM_keepers at hf
  refine lv_aload_n hx hb dX9_keepers_0 rfl (lv_at hl 0 rfl) ?_
  refine lv_iconst (v := 0) hx hb dX9_keepers_1 (by decide) ?_
  refine zp_M_faultKind C hs (hM 100 (by decide) (by decide)) z_k957 dX9_keepers_2 (fun H locs hs => ?_)
  obtain ⟨σ1, -, hs, hf⟩ := z_top hs hf
  refine lv_aload_n hx hb dX9_keepers_5 rfl (lv_at hl 0 rfl) ?_
  refine lv_iconst (v := (-1)) hx hb dX9_keepers_6 (by decide) ?_
  refine zp_M_faultPlace C hs (hM 100 (by decide) (by decide)) z_k958 dX9_keepers_7 (fun H locs hs => ?_)
  obtain ⟨σ2, -, hs, hf⟩ := z_top hs hf
  refine lv_aload_n hx hb dX9_keepers_10 rfl (lv_at hl 0 rfl) ?_
  refine lv_aload_n hx hb dX9_keepers_11 rfl (lv_at hl 0 rfl) ?_
  refine zg_M_taped C hs (hM 100 (by decide) (by decide)) z_k955 dX9_keepers_12 ?_
  refine zp_M_size C hs (hM 100 (by decide) (by decide)) z_k956 dX9_keepers_15 (fun H locs hs => ?_)
  obtain ⟨σ3, -, hs, hf⟩ := z_top hs hf
  refine lv_iconst (v := 0) hx hb dX9_keepers_18 (by decide) ?_
  refine lv_istore_n (lv' := [(1, .int 0), (0, .ref (z_ad E (100, 0, 0)))]) hx hb dX9_keepers_19 rfl hl (by decide) rfl (fun ls hl => ?_)
  exact wM_keepers_20 C hr hM z_fu 0 σ3 _ _ _ hs (lv_sub hl [1, 0] rfl) hf
set_option maxHeartbeats 4000000 in
set_option maxRecDepth 20000 in
theorem cM_keepers (l : Launch) (E : zE) (hM : z_M E) {σ σo : zS} {ro : Int32} (hf : fM_keepers σ = some (ro, σo)) : z_T l E yX9_keepers cX9_keepers 2 (some .int) (z_rm 4) (z_QI E ro σo) [.ref (z_ad E (100, 0, 0))] σ :=
  z_enter (by decide) (Nat.le_of_ble_eq_true rfl) rfl (fun p e s m below meth c A ls C hr hs hl => wM_keepers C hr hM σ _ _ ls hs hl hf)
def fM_fault (x1 : Int32) (σ : zS) : Option (Int32 × zS) :=
  if x1 = 0 then
    (some (σ.1 (100, 0, 0) 7, σ))
  else
    (if x1 = 1 then
      (some (σ.1 (100, 0, 0) 8, σ))
    else
      (some ((-1), σ)))
set_option maxHeartbeats 4000000 in
set_option maxRecDepth 20000 in
theorem wM_fault {x1 : Int32} (C : z_C E RX9 cX9_fault 2 A p s m args meth c) (hr : meth.sig.returnType = (some .int)) (hM : z_M E) {ro : Int32} {σo : zS} (σ : zS) (H : Heap) (locs : List Loc) (ls : Array Slot) (hs : z_H E A s σ H locs) (hl : lv_has ls 2 [(0, .ref (z_ad E (100, 0, 0))), (1, .int x1)]) (hf : fM_fault x1 σ = some (ro, σo)) : W p l e (z_rm 1) s m args below meth c H locs 0 0 (MQ below (z_QI E ro σo A) args s 0 0 A) (F0 m 0 ls []) := by
  have hx := C.1
  have hb := C.2.1
  unfold fM_fault at hf
  refine lv_iload_n hx hb dX9_fault_0 rfl (lv_at hl 1 rfl) ?_
  refine lv_if_ne (tgt := 11) hx hb dX9_fault_1 (by decide) (fun c1 => ?_) (fun c1 => ?_)
  · have hf := z_f hf c1
    refine lv_iload_n hx hb dX9_fault_11 rfl (lv_at hl 1 rfl) ?_
    refine lv_iconst (v := 1) hx hb dX9_fault_12 (by decide) ?_
    refine lv_icmp_ne (tgt := 23) hx hb dX9_fault_13 (by decide) (fun c2 => ?_) (fun c2 => ?_)
    · have hf := z_f hf c2
      refine lv_iconst (v := (-1)) hx hb dX9_fault_23 (by decide) ?_
      exact z_reti C hr hs hf dX9_fault_24
    · have hf := z_t hf c2
      refine lv_aload_n hx hb dX9_fault_16 rfl (lv_at hl 0 rfl) ?_
      refine zg_M_faultPlace C hs (hM 100 (by decide) (by decide)) z_k958 dX9_fault_17 ?_
      refine lv_goto (tgt := 24) hx hb dX9_fault_20 (by decide) ?_
      exact z_reti C hr hs hf dX9_fault_24
  · have hf := z_t hf c1
    refine lv_aload_n hx hb dX9_fault_4 rfl (lv_at hl 0 rfl) ?_
    refine zg_M_faultKind C hs (hM 100 (by decide) (by decide)) z_k957 dX9_fault_5 ?_
    refine lv_goto (tgt := 24) hx hb dX9_fault_8 (by decide) ?_
    exact z_reti C hr hs hf dX9_fault_24
set_option maxHeartbeats 4000000 in
set_option maxRecDepth 20000 in
theorem cM_fault (l : Launch) (E : zE) {x1 : Int32} (hM : z_M E) {σ σo : zS} {ro : Int32} (hf : fM_fault x1 σ = some (ro, σo)) : z_T l E yX9_fault cX9_fault 2 (some .int) (z_rm 1) (z_QI E ro σo) [.ref (z_ad E (100, 0, 0)), .int x1] σ :=
  z_enter (by decide) (Nat.le_of_ble_eq_true rfl) rfl (fun p e s m below meth c A ls C hr hs hl => wM_fault C hr hM σ _ _ ls hs hl hf)
def fM_isIn (x0 : Int32) (x1 : Int32) (x2 : Int32) (σ : zS) : Option (Int32 × zS) :=
  if x0 < x1 then
    (some (0, σ))
  else
    (if x2 < x0 then
      (some (0, σ))
    else
      (some (1, σ)))
set_option maxHeartbeats 4000000 in
set_option maxRecDepth 20000 in
theorem wM_isIn {x0 : Int32} {x1 : Int32} {x2 : Int32} (C : z_C E RX9 cX9_isIn 3 A p s m args meth c) (hr : meth.sig.returnType = (some .boolean)) {ro : Int32} {σo : zS} (σ : zS) (H : Heap) (locs : List Loc) (ls : Array Slot) (hs : z_H E A s σ H locs) (hl : lv_has ls 3 [(0, .int x0), (1, .int x1), (2, .int x2)]) (hf : fM_isIn x0 x1 x2 σ = some (ro, σo)) : W p l e (z_rm 1) s m args below meth c H locs 0 0 (MQ below (z_QI E ro σo A) args s 0 0 A) (F0 m 0 ls []) := by
  have hx := C.1
  have hb := C.2.1
  unfold fM_isIn at hf
  refine lv_iload_n hx hb dX9_isIn_0 rfl (lv_at hl 0 rfl) ?_
  refine lv_iload_n hx hb dX9_isIn_1 rfl (lv_at hl 1 rfl) ?_
  refine lv_icmp_lt (tgt := 14) hx hb dX9_isIn_2 (by decide) (fun c1 => ?_) (fun c1 => ?_)
  · have hf := z_t hf c1
    refine lv_iconst (v := 0) hx hb dX9_isIn_14 (by decide) ?_
    exact z_retz C hr hs (by decide +kernel) hf dX9_isIn_15
  · have hf := z_f hf c1
    refine lv_iload_n hx hb dX9_isIn_5 rfl (lv_at hl 0 rfl) ?_
    refine lv_iload_n hx hb dX9_isIn_6 rfl (lv_at hl 2 rfl) ?_
    refine lv_icmp_gt (tgt := 14) hx hb dX9_isIn_7 (by decide) (fun c2 => ?_) (fun c2 => ?_)
    · have hf := z_t hf c2
      refine lv_iconst (v := 0) hx hb dX9_isIn_14 (by decide) ?_
      exact z_retz C hr hs (by decide +kernel) hf dX9_isIn_15
    · have hf := z_f hf c2
      refine lv_iconst (v := 1) hx hb dX9_isIn_10 (by decide) ?_
      refine lv_goto (tgt := 15) hx hb dX9_isIn_11 (by decide) ?_
      exact z_retz C hr hs (by decide +kernel) hf dX9_isIn_15
set_option maxHeartbeats 4000000 in
set_option maxRecDepth 20000 in
theorem cM_isIn (l : Launch) (E : zE) {x0 : Int32} {x1 : Int32} {x2 : Int32} {σ σo : zS} {ro : Int32} (hf : fM_isIn x0 x1 x2 σ = some (ro, σo)) : z_T l E yX9_isIn cX9_isIn 3 (some .boolean) (z_rm 1) (z_QI E ro σo) [.int x0, .int x1, .int x2] σ :=
  z_enter (by decide) (Nat.le_of_ble_eq_true rfl) rfl (fun p e s m below meth c A ls C hr hs hl => wM_isIn C hr σ _ _ ls hs hl hf)
def fM_many (σ : zS) : Option (Int32 × zS) :=
  if z_in (σ.1 (100, 0, 0) 12) 2 = true then (
  some (σ.1 (106, 0, 0) (σ.1 (100, 0, 0) 12).toNatClampNeg, σ)) else none
set_option maxHeartbeats 4000000 in
set_option maxRecDepth 20000 in
theorem wM_many (C : z_C E RX9 cX9_many 1 A p s m args meth c) (hr : meth.sig.returnType = (some .int)) (hM : z_M E) {ro : Int32} {σo : zS} (σ : zS) (H : Heap) (locs : List Loc) (ls : Array Slot) (hs : z_H E A s σ H locs) (hl : lv_has ls 1 [(0, .ref (z_ad E (100, 0, 0)))]) (hf : fM_many σ = some (ro, σo)) : W p l e (z_rm 1) s m args below meth c H locs 0 0 (MQ below (z_QI E ro σo A) args s 0 0 A) (F0 m 0 ls []) := by
  have hx := C.1
  have hb := C.2.1
  unfold fM_many at hf
  refine lv_aload_n hx hb dX9_many_0 rfl (lv_at hl 0 rfl) ?_
  refine zg_M_keepers C hs (hM 100 (by decide) (by decide)) z_k959 dX9_many_1 ?_
  refine lv_aload_n hx hb dX9_many_4 rfl (lv_at hl 0 rfl) ?_
  refine zg_M_bank C hs (hM 100 (by decide) (by decide)) z_k962 dX9_many_5 ?_
  obtain ⟨g1, hf⟩ := z_gd hf
  refine z_ald C hs (hM 106 (by decide) (by decide)) (z_c106 E _ _ _ _) g1 rfl dX9_many_8 ?_
  exact z_reti C hr hs hf dX9_many_9
set_option maxHeartbeats 4000000 in
set_option maxRecDepth 20000 in
theorem cM_many (l : Launch) (E : zE) (hM : z_M E) {σ σo : zS} {ro : Int32} (hf : fM_many σ = some (ro, σo)) : z_T l E yX9_many cX9_many 1 (some .int) (z_rm 1) (z_QI E ro σo) [.ref (z_ad E (100, 0, 0))] σ :=
  z_enter (by decide) (Nat.le_of_ble_eq_true rfl) rfl (fun p e s m below meth c A ls C hr hs hl => wM_many C hr hM σ _ _ ls hs hl hf)
def fM_isKeeper (x1 : Int32) (σ : zS) : Option (Int32 × zS) :=
  z_bd (fM_many σ) (fun r1 σ1 =>
  z_bd (fM_isIn x1 0 (r1 - 1) σ1) (fun r2 σ2 =>
  if z_b01 r2 = true then (
  some (r2, σ2)) else none))
set_option maxHeartbeats 4000000 in
set_option maxRecDepth 20000 in
theorem wM_isKeeper {x1 : Int32} (C : z_C E RX9 cX9_isKeeper 2 A p s m args meth c) (hr : meth.sig.returnType = (some .boolean)) (hM : z_M E) {ro : Int32} {σo : zS} (σ : zS) (H : Heap) (locs : List Loc) (ls : Array Slot) (hs : z_H E A s σ H locs) (hl : lv_has ls 2 [(0, .ref (z_ad E (100, 0, 0))), (1, .int x1)]) (hf : fM_isKeeper x1 σ = some (ro, σo)) : W p l e (z_rm 2) s m args below meth c H locs 0 0 (MQ below (z_QI E ro σo A) args s 0 0 A) (F0 m 0 ls []) := by
  have hx := C.1
  have hb := C.2.1
  unfold fM_isKeeper at hf
  refine lv_iload_n hx hb dX9_isKeeper_0 rfl (lv_at hl 1 rfl) ?_
  refine lv_iconst (v := 0) hx hb dX9_isKeeper_1 (by decide) ?_
  refine lv_aload_n hx hb dX9_isKeeper_2 rfl (lv_at hl 0 rfl) ?_
  obtain ⟨r1, σ1, h_1, hf⟩ := z_bds hf
  refine z_goI C hs (z_runV C hs hl.1 (cM_many l E hM h_1) zcV_RX9_128 (hM 100 (by decide) (by decide)) (z_c100 E _ _ _ _) rfl rfl rfl (by decide) (Nat.le_of_ble_eq_true rfl) dX9_isKeeper_3) (fun H locs hs => ?_)
  refine lv_iconst (v := 1) hx hb dX9_isKeeper_6 (by decide) ?_
  refine lv_isub hx hb dX9_isKeeper_7 ?_
  obtain ⟨r2, σ2, h_2, hf⟩ := z_bds hf
  refine z_goI C hs (z_runS C hs hl.1 (cM_isIn l E h_2) zcS_RX9_132 rfl rfl rfl (by decide) (Nat.le_of_ble_eq_true rfl) dX9_isKeeper_8) (fun H locs hs => ?_)
  obtain ⟨g3, hf⟩ := z_gd hf
  exact z_retz C hr hs g3 hf dX9_isKeeper_11
set_option maxHeartbeats 4000000 in
set_option maxRecDepth 20000 in
theorem cM_isKeeper (l : Launch) (E : zE) {x1 : Int32} (hM : z_M E) {σ σo : zS} {ro : Int32} (hf : fM_isKeeper x1 σ = some (ro, σo)) : z_T l E yX9_isKeeper cX9_isKeeper 2 (some .boolean) (z_rm 2) (z_QI E ro σo) [.ref (z_ad E (100, 0, 0)), .int x1] σ :=
  z_enter (by decide) (Nat.le_of_ble_eq_true rfl) rfl (fun p e s m below meth c A ls C hr hs hl => wM_isKeeper C hr hM σ _ _ ls hs hl hf)
def fM_isVoter (x1 : Int32) (σ : zS) : Option (Int32 × zS) :=
  if z_in (σ.1 (100, 0, 0) 12) 2 = true then (
  if (((σ.1 (107, 0, 0) (σ.1 (100, 0, 0) 12).toNatClampNeg) >>> (x1 &&& 31)) &&& 1) = 0 then
    (some (1, σ))
  else
    (some (0, σ))) else none
set_option maxHeartbeats 4000000 in
set_option maxRecDepth 20000 in
theorem wM_isVoter {x1 : Int32} (C : z_C E RX9 cX9_isVoter 2 A p s m args meth c) (hr : meth.sig.returnType = (some .boolean)) (hM : z_M E) {ro : Int32} {σo : zS} (σ : zS) (H : Heap) (locs : List Loc) (ls : Array Slot) (hs : z_H E A s σ H locs) (hl : lv_has ls 2 [(0, .ref (z_ad E (100, 0, 0))), (1, .int x1)]) (hf : fM_isVoter x1 σ = some (ro, σo)) : W p l e (z_rm 1) s m args below meth c H locs 0 0 (MQ below (z_QI E ro σo A) args s 0 0 A) (F0 m 0 ls []) := by
  have hx := C.1
  have hb := C.2.1
  unfold fM_isVoter at hf
  refine lv_aload_n hx hb dX9_isVoter_0 rfl (lv_at hl 0 rfl) ?_
  refine zg_M_silent C hs (hM 100 (by decide) (by decide)) z_k960 dX9_isVoter_1 ?_
  refine lv_aload_n hx hb dX9_isVoter_4 rfl (lv_at hl 0 rfl) ?_
  refine zg_M_bank C hs (hM 100 (by decide) (by decide)) z_k962 dX9_isVoter_5 ?_
  obtain ⟨g1, hf⟩ := z_gd hf
  refine z_ald C hs (hM 107 (by decide) (by decide)) (z_c107 E _ _ _ _) g1 rfl dX9_isVoter_8 ?_
  refine lv_iload_n hx hb dX9_isVoter_9 rfl (lv_at hl 1 rfl) ?_
  refine lv_ishr hx hb dX9_isVoter_10 ?_
  refine lv_iconst (v := 1) hx hb dX9_isVoter_11 (by decide) ?_
  refine lv_iand hx hb dX9_isVoter_12 ?_
  refine lv_if_ne (tgt := 20) hx hb dX9_isVoter_13 (by decide) (fun c2 => ?_) (fun c2 => ?_)
  · have hf := z_f hf c2
    refine lv_iconst (v := 0) hx hb dX9_isVoter_20 (by decide) ?_
    exact z_retz C hr hs (by decide +kernel) hf dX9_isVoter_21
  · have hf := z_t hf c2
    refine lv_iconst (v := 1) hx hb dX9_isVoter_16 (by decide) ?_
    refine lv_goto (tgt := 21) hx hb dX9_isVoter_17 (by decide) ?_
    exact z_retz C hr hs (by decide +kernel) hf dX9_isVoter_21
set_option maxHeartbeats 4000000 in
set_option maxRecDepth 20000 in
theorem cM_isVoter (l : Launch) (E : zE) {x1 : Int32} (hM : z_M E) {σ σo : zS} {ro : Int32} (hf : fM_isVoter x1 σ = some (ro, σo)) : z_T l E yX9_isVoter cX9_isVoter 2 (some .boolean) (z_rm 1) (z_QI E ro σo) [.ref (z_ad E (100, 0, 0)), .int x1] σ :=
  z_enter (by decide) (Nat.le_of_ble_eq_true rfl) rfl (fun p e s m below meth c A ls C hr hs hl => wM_isVoter C hr hM σ _ _ ls hs hl hf)
def fM_voters (σ : zS) : Option (Int32 × zS) :=
  z_bd (fM_many σ) (fun r1 σ1 =>
  if z_in (σ1.1 (100, 0, 0) 12) 2 = true then (
  z_bd (fM_bitsOf (σ1.1 (107, 0, 0) (σ1.1 (100, 0, 0) 12).toNatClampNeg) σ1) (fun r3 σ3 =>
  some (r1 - r3, σ3))) else none)
set_option maxHeartbeats 4000000 in
set_option maxRecDepth 20000 in
theorem wM_voters (C : z_C E RX9 cX9_voters 1 A p s m args meth c) (hr : meth.sig.returnType = (some .int)) (hM : z_M E) {ro : Int32} {σo : zS} (σ : zS) (H : Heap) (locs : List Loc) (ls : Array Slot) (hs : z_H E A s σ H locs) (hl : lv_has ls 1 [(0, .ref (z_ad E (100, 0, 0)))]) (hf : fM_voters σ = some (ro, σo)) : W p l e (z_rm 2) s m args below meth c H locs 0 0 (MQ below (z_QI E ro σo A) args s 0 0 A) (F0 m 0 ls []) := by
  have hx := C.1
  have hb := C.2.1
  unfold fM_voters at hf
  refine lv_aload_n hx hb dX9_voters_0 rfl (lv_at hl 0 rfl) ?_
  obtain ⟨r1, σ1, h_1, hf⟩ := z_bds hf
  refine z_goI C hs (z_runV C hs hl.1 (cM_many l E hM h_1) zcV_RX9_128 (hM 100 (by decide) (by decide)) (z_c100 E _ _ _ _) rfl rfl rfl (by decide) (Nat.le_of_ble_eq_true rfl) dX9_voters_1) (fun H locs hs => ?_)
  refine lv_aload_n hx hb dX9_voters_4 rfl (lv_at hl 0 rfl) ?_
  refine zg_M_silent C hs (hM 100 (by decide) (by decide)) z_k960 dX9_voters_5 ?_
  refine lv_aload_n hx hb dX9_voters_8 rfl (lv_at hl 0 rfl) ?_
  refine zg_M_bank C hs (hM 100 (by decide) (by decide)) z_k962 dX9_voters_9 ?_
  obtain ⟨g2, hf⟩ := z_gd hf
  refine z_ald C hs (hM 107 (by decide) (by decide)) (z_c107 E _ _ _ _) g2 rfl dX9_voters_12 ?_
  obtain ⟨r3, σ3, h_3, hf⟩ := z_bds hf
  refine z_goI C hs (z_runS C hs hl.1 (cM_bitsOf l E h_3) zcS_RX9_122 rfl rfl rfl (by decide) (Nat.le_of_ble_eq_true rfl) dX9_voters_13) (fun H locs hs => ?_)
  refine lv_isub hx hb dX9_voters_16 ?_
  exact z_reti C hr hs hf dX9_voters_17
set_option maxHeartbeats 4000000 in
set_option maxRecDepth 20000 in
theorem cM_voters (l : Launch) (E : zE) (hM : z_M E) {σ σo : zS} {ro : Int32} (hf : fM_voters σ = some (ro, σo)) : z_T l E yX9_voters cX9_voters 1 (some .int) (z_rm 2) (z_QI E ro σo) [.ref (z_ad E (100, 0, 0))] σ :=
  z_enter (by decide) (Nat.le_of_ble_eq_true rfl) rfl (fun p e s m below meth c A ls C hr hs hl => wM_voters C hr hM σ _ _ ls hs hl hf)
def fM_most (σ : zS) : Option (Int32 × zS) :=
  z_bd (fM_many σ) (fun r1 σ1 =>
  if r1 = 0 then
    (some (0, σ1))
  else
    (z_bd (fM_voters σ1) (fun r3 σ3 =>
    some ((r3 / 2) + 1, σ3))))
set_option maxHeartbeats 4000000 in
set_option maxRecDepth 20000 in
theorem wM_most (C : z_C E RX9 cX9_most 1 A p s m args meth c) (hr : meth.sig.returnType = (some .int)) (hM : z_M E) {ro : Int32} {σo : zS} (σ : zS) (H : Heap) (locs : List Loc) (ls : Array Slot) (hs : z_H E A s σ H locs) (hl : lv_has ls 1 [(0, .ref (z_ad E (100, 0, 0)))]) (hf : fM_most σ = some (ro, σo)) : W p l e (z_rm 3) s m args below meth c H locs 0 0 (MQ below (z_QI E ro σo A) args s 0 0 A) (F0 m 0 ls []) := by
  have hx := C.1
  have hb := C.2.1
  unfold fM_most at hf
  refine lv_aload_n hx hb dX9_most_0 rfl (lv_at hl 0 rfl) ?_
  obtain ⟨r1, σ1, h_1, hf⟩ := z_bds hf
  refine z_goI C hs (z_runV C hs hl.1 (cM_many l E hM h_1) zcV_RX9_128 (hM 100 (by decide) (by decide)) (z_c100 E _ _ _ _) rfl rfl rfl (by decide) (Nat.le_of_ble_eq_true rfl) dX9_most_1) (fun H locs hs => ?_)
  refine lv_if_ne (tgt := 11) hx hb dX9_most_4 (by decide) (fun c2 => ?_) (fun c2 => ?_)
  · have hf := z_f hf c2
    refine lv_aload_n hx hb dX9_most_11 rfl (lv_at hl 0 rfl) ?_
    obtain ⟨r3, σ3, h_3, hf⟩ := z_bds hf
    refine z_goI C hs (z_runV C hs hl.1 (cM_voters l E hM h_3) zcV_RX9_136 (hM 100 (by decide) (by decide)) (z_c100 E _ _ _ _) rfl rfl rfl (by decide) (Nat.le_of_ble_eq_true rfl) dX9_most_12) (fun H locs hs => ?_)
    refine lv_iconst (v := 2) hx hb dX9_most_15 (by decide) ?_
    refine lv_idiv hx hb dX9_most_16 (by decide) ?_
    refine lv_iconst (v := 1) hx hb dX9_most_17 (by decide) ?_
    refine lv_iadd hx hb dX9_most_18 ?_
    exact z_reti C hr hs hf dX9_most_19
  · have hf := z_t hf c2
    refine lv_iconst (v := 0) hx hb dX9_most_7 (by decide) ?_
    refine lv_goto (tgt := 19) hx hb dX9_most_8 (by decide) ?_
    exact z_reti C hr hs hf dX9_most_19
set_option maxHeartbeats 4000000 in
set_option maxRecDepth 20000 in
theorem cM_most (l : Launch) (E : zE) (hM : z_M E) {σ σo : zS} {ro : Int32} (hf : fM_most σ = some (ro, σo)) : z_T l E yX9_most cX9_most 1 (some .int) (z_rm 3) (z_QI E ro σo) [.ref (z_ad E (100, 0, 0))] σ :=
  z_enter (by decide) (Nat.le_of_ble_eq_true rfl) rfl (fun p e s m below meth c A ls C hr hs hl => wM_most C hr hM σ _ _ ls hs hl hf)
def fM_of (x1 : Int32) (x2 : Int32) (σ : zS) : Option (Int32 × zS) :=
  if z_in ((320 * x1) + x2) 5000 = true then (
  some (σ.1 (103, 0, 0) ((320 * x1) + x2).toNatClampNeg, σ)) else none
set_option maxHeartbeats 4000000 in
set_option maxRecDepth 20000 in
theorem wM_of {x1 : Int32} {x2 : Int32} (C : z_C E RX9 cX9_of 3 A p s m args meth c) (hr : meth.sig.returnType = (some .int)) (hM : z_M E) {ro : Int32} {σo : zS} (σ : zS) (H : Heap) (locs : List Loc) (ls : Array Slot) (hs : z_H E A s σ H locs) (hl : lv_has ls 3 [(0, .ref (z_ad E (100, 0, 0))), (1, .int x1), (2, .int x2)]) (hf : fM_of x1 x2 σ = some (ro, σo)) : W p l e (z_rm 1) s m args below meth c H locs 0 0 (MQ below (z_QI E ro σo A) args s 0 0 A) (F0 m 0 ls []) := by
  have hx := C.1
  have hb := C.2.1
  unfold fM_of at hf
  refine lv_aload_n hx hb dX9_of_0 rfl (lv_at hl 0 rfl) ?_
  refine zg_M_all C hs (hM 100 (by decide) (by decide)) z_k952 dX9_of_1 ?_
  refine lv_sipush (v := 320) hx hb dX9_of_4 (by decide) ?_
  refine lv_iload_n hx hb dX9_of_7 rfl (lv_at hl 1 rfl) ?_
  refine lv_imul hx hb dX9_of_8 ?_
  refine lv_iload_n hx hb dX9_of_9 rfl (lv_at hl 2 rfl) ?_
  refine lv_iadd hx hb dX9_of_10 ?_
  obtain ⟨g1, hf⟩ := z_gd hf
  refine z_ald C hs (hM 103 (by decide) (by decide)) (z_c103 E _ _ _ _) g1 rfl dX9_of_11 ?_
  exact z_reti C hr hs hf dX9_of_12
set_option maxHeartbeats 4000000 in
set_option maxRecDepth 20000 in
theorem cM_of (l : Launch) (E : zE) {x1 : Int32} {x2 : Int32} (hM : z_M E) {σ σo : zS} {ro : Int32} (hf : fM_of x1 x2 σ = some (ro, σo)) : z_T l E yX9_of cX9_of 3 (some .int) (z_rm 1) (z_QI E ro σo) [.ref (z_ad E (100, 0, 0)), .int x1, .int x2] σ :=
  z_enter (by decide) (Nat.le_of_ble_eq_true rfl) rfl (fun p e s m below meth c A ls C hr hs hl => wM_of C hr hM σ _ _ ls hs hl hf)
def fM_isUp (x1 : Int32) (σ : zS) : Option (Int32 × zS) :=
  z_bd (fM_isKeeper x1 σ) (fun r1 σ1 =>
  if r1 = 0 then
    (some (0, σ1))
  else
    (z_bd (fM_of x1 9 σ1) (fun r3 σ3 =>
    if r3 = 0 then
      (some (1, σ3))
    else
      (some (0, σ3)))))
set_option maxHeartbeats 4000000 in
set_option maxRecDepth 20000 in
theorem wM_isUp {x1 : Int32} (C : z_C E RX9 cX9_isUp 2 A p s m args meth c) (hr : meth.sig.returnType = (some .boolean)) (hM : z_M E) {ro : Int32} {σo : zS} (σ : zS) (H : Heap) (locs : List Loc) (ls : Array Slot) (hs : z_H E A s σ H locs) (hl : lv_has ls 2 [(0, .ref (z_ad E (100, 0, 0))), (1, .int x1)]) (hf : fM_isUp x1 σ = some (ro, σo)) : W p l e (z_rm 3) s m args below meth c H locs 0 0 (MQ below (z_QI E ro σo A) args s 0 0 A) (F0 m 0 ls []) := by
  have hx := C.1
  have hb := C.2.1
  unfold fM_isUp at hf
  refine lv_aload_n hx hb dX9_isUp_0 rfl (lv_at hl 0 rfl) ?_
  refine lv_iload_n hx hb dX9_isUp_1 rfl (lv_at hl 1 rfl) ?_
  obtain ⟨r1, σ1, h_1, hf⟩ := z_bds hf
  refine z_goI C hs (z_runV C hs hl.1 (cM_isKeeper l E hM h_1) zcV_RX9_143 (hM 100 (by decide) (by decide)) (z_c100 E _ _ _ _) rfl rfl rfl (by decide) (Nat.le_of_ble_eq_true rfl) dX9_isUp_2) (fun H locs hs => ?_)
  refine lv_if_eq (tgt := 22) hx hb dX9_isUp_5 (by decide) (fun c2 => ?_) (fun c2 => ?_)
  · have hf := z_t hf c2
    refine lv_iconst (v := 0) hx hb dX9_isUp_22 (by decide) ?_
    exact z_retz C hr hs (by decide +kernel) hf dX9_isUp_23
  · have hf := z_f hf c2
    refine lv_aload_n hx hb dX9_isUp_8 rfl (lv_at hl 0 rfl) ?_
    refine lv_iload_n hx hb dX9_isUp_9 rfl (lv_at hl 1 rfl) ?_
    refine lv_bipush (v := 9) hx hb dX9_isUp_10 (by decide) ?_
    obtain ⟨r3, σ3, h_3, hf⟩ := z_bds hf
    refine z_goI C hs (z_runV C hs hl.1 (cM_of l E hM h_3) zcV_RX9_146 (hM 100 (by decide) (by decide)) (z_c100 E _ _ _ _) rfl rfl rfl (by decide) (Nat.le_of_ble_eq_true rfl) dX9_isUp_12) (fun H locs hs => ?_)
    refine lv_if_ne (tgt := 22) hx hb dX9_isUp_15 (by decide) (fun c4 => ?_) (fun c4 => ?_)
    · have hf := z_f hf c4
      refine lv_iconst (v := 0) hx hb dX9_isUp_22 (by decide) ?_
      exact z_retz C hr hs (by decide +kernel) hf dX9_isUp_23
    · have hf := z_t hf c4
      refine lv_iconst (v := 1) hx hb dX9_isUp_18 (by decide) ?_
      refine lv_goto (tgt := 23) hx hb dX9_isUp_19 (by decide) ?_
      exact z_retz C hr hs (by decide +kernel) hf dX9_isUp_23
set_option maxHeartbeats 4000000 in
set_option maxRecDepth 20000 in
theorem cM_isUp (l : Launch) (E : zE) {x1 : Int32} (hM : z_M E) {σ σo : zS} {ro : Int32} (hf : fM_isUp x1 σ = some (ro, σo)) : z_T l E yX9_isUp cX9_isUp 2 (some .boolean) (z_rm 3) (z_QI E ro σo) [.ref (z_ad E (100, 0, 0)), .int x1] σ :=
  z_enter (by decide) (Nat.le_of_ble_eq_true rfl) rfl (fun p e s m below meth c A ls C hr hs hl => wM_isUp C hr hM σ _ _ ls hs hl hf)
def fM_doesLead (x1 : Int32) (σ : zS) : Option (Int32 × zS) :=
  z_bd (fM_isUp x1 σ) (fun r1 σ1 =>
  if r1 = 0 then
    (some (0, σ1))
  else
    (z_bd (fM_of x1 5 σ1) (fun r3 σ3 =>
    if r3 = 2 then
      (some (1, σ3))
    else
      (some (0, σ3)))))
set_option maxHeartbeats 4000000 in
set_option maxRecDepth 20000 in
theorem wM_doesLead {x1 : Int32} (C : z_C E RX9 cX9_doesLead 2 A p s m args meth c) (hr : meth.sig.returnType = (some .boolean)) (hM : z_M E) {ro : Int32} {σo : zS} (σ : zS) (H : Heap) (locs : List Loc) (ls : Array Slot) (hs : z_H E A s σ H locs) (hl : lv_has ls 2 [(0, .ref (z_ad E (100, 0, 0))), (1, .int x1)]) (hf : fM_doesLead x1 σ = some (ro, σo)) : W p l e (z_rm 4) s m args below meth c H locs 0 0 (MQ below (z_QI E ro σo A) args s 0 0 A) (F0 m 0 ls []) := by
  have hx := C.1
  have hb := C.2.1
  unfold fM_doesLead at hf
  refine lv_aload_n hx hb dX9_doesLead_0 rfl (lv_at hl 0 rfl) ?_
  refine lv_iload_n hx hb dX9_doesLead_1 rfl (lv_at hl 1 rfl) ?_
  obtain ⟨r1, σ1, h_1, hf⟩ := z_bds hf
  refine z_goI C hs (z_runV C hs hl.1 (cM_isUp l E hM h_1) zcV_RX9_150 (hM 100 (by decide) (by decide)) (z_c100 E _ _ _ _) rfl rfl rfl (by decide) (Nat.le_of_ble_eq_true rfl) dX9_doesLead_2) (fun H locs hs => ?_)
  refine lv_if_eq (tgt := 22) hx hb dX9_doesLead_5 (by decide) (fun c2 => ?_) (fun c2 => ?_)
  · have hf := z_t hf c2
    refine lv_iconst (v := 0) hx hb dX9_doesLead_22 (by decide) ?_
    exact z_retz C hr hs (by decide +kernel) hf dX9_doesLead_23
  · have hf := z_f hf c2
    refine lv_aload_n hx hb dX9_doesLead_8 rfl (lv_at hl 0 rfl) ?_
    refine lv_iload_n hx hb dX9_doesLead_9 rfl (lv_at hl 1 rfl) ?_
    refine lv_iconst (v := 5) hx hb dX9_doesLead_10 (by decide) ?_
    obtain ⟨r3, σ3, h_3, hf⟩ := z_bds hf
    refine z_goI C hs (z_runV C hs hl.1 (cM_of l E hM h_3) zcV_RX9_146 (hM 100 (by decide) (by decide)) (z_c100 E _ _ _ _) rfl rfl rfl (by decide) (Nat.le_of_ble_eq_true rfl) dX9_doesLead_11) (fun H locs hs => ?_)
    refine lv_iconst (v := 2) hx hb dX9_doesLead_14 (by decide) ?_
    refine lv_icmp_ne (tgt := 22) hx hb dX9_doesLead_15 (by decide) (fun c4 => ?_) (fun c4 => ?_)
    · have hf := z_f hf c4
      refine lv_iconst (v := 0) hx hb dX9_doesLead_22 (by decide) ?_
      exact z_retz C hr hs (by decide +kernel) hf dX9_doesLead_23
    · have hf := z_t hf c4
      refine lv_iconst (v := 1) hx hb dX9_doesLead_18 (by decide) ?_
      refine lv_goto (tgt := 23) hx hb dX9_doesLead_19 (by decide) ?_
      exact z_retz C hr hs (by decide +kernel) hf dX9_doesLead_23
set_option maxHeartbeats 4000000 in
set_option maxRecDepth 20000 in
theorem cM_doesLead (l : Launch) (E : zE) {x1 : Int32} (hM : z_M E) {σ σo : zS} {ro : Int32} (hf : fM_doesLead x1 σ = some (ro, σo)) : z_T l E yX9_doesLead cX9_doesLead 2 (some .boolean) (z_rm 4) (z_QI E ro σo) [.ref (z_ad E (100, 0, 0)), .int x1] σ :=
  z_enter (by decide) (Nat.le_of_ble_eq_true rfl) rfl (fun p e s m below meth c A ls C hr hs hl => wM_doesLead C hr hM σ _ _ ls hs hl hf)
def fM_entryAt (x1 : Int32) (x2 : Int32) (σ : zS) : Option (Int32 × zS) :=
  z_bd (fM_of x1 2 σ) (fun r1 σ1 =>
  some (((320 * x1) + 80) + (6 * ((x2 - r1) - 1)), σ1))
set_option maxHeartbeats 4000000 in
set_option maxRecDepth 20000 in
theorem wM_entryAt {x1 : Int32} {x2 : Int32} (C : z_C E RX9 cX9_entryAt 3 A p s m args meth c) (hr : meth.sig.returnType = (some .int)) (hM : z_M E) {ro : Int32} {σo : zS} (σ : zS) (H : Heap) (locs : List Loc) (ls : Array Slot) (hs : z_H E A s σ H locs) (hl : lv_has ls 3 [(0, .ref (z_ad E (100, 0, 0))), (1, .int x1), (2, .int x2)]) (hf : fM_entryAt x1 x2 σ = some (ro, σo)) : W p l e (z_rm 2) s m args below meth c H locs 0 0 (MQ below (z_QI E ro σo A) args s 0 0 A) (F0 m 0 ls []) := by
  have hx := C.1
  have hb := C.2.1
  unfold fM_entryAt at hf
  refine lv_sipush (v := 320) hx hb dX9_entryAt_0 (by decide) ?_
  refine lv_iload_n hx hb dX9_entryAt_3 rfl (lv_at hl 1 rfl) ?_
  refine lv_imul hx hb dX9_entryAt_4 ?_
  refine lv_bipush (v := 80) hx hb dX9_entryAt_5 (by decide) ?_
  refine lv_iadd hx hb dX9_entryAt_7 ?_
  refine lv_bipush (v := 6) hx hb dX9_entryAt_8 (by decide) ?_
  refine lv_iload_n hx hb dX9_entryAt_10 rfl (lv_at hl 2 rfl) ?_
  refine lv_aload_n hx hb dX9_entryAt_11 rfl (lv_at hl 0 rfl) ?_
  refine lv_iload_n hx hb dX9_entryAt_12 rfl (lv_at hl 1 rfl) ?_
  refine lv_iconst (v := 2) hx hb dX9_entryAt_13 (by decide) ?_
  obtain ⟨r1, σ1, h_1, hf⟩ := z_bds hf
  refine z_goI C hs (z_runV C hs hl.1 (cM_of l E hM h_1) zcV_RX9_146 (hM 100 (by decide) (by decide)) (z_c100 E _ _ _ _) rfl rfl rfl (by decide) (Nat.le_of_ble_eq_true rfl) dX9_entryAt_14) (fun H locs hs => ?_)
  refine lv_isub hx hb dX9_entryAt_17 ?_
  refine lv_iconst (v := 1) hx hb dX9_entryAt_18 (by decide) ?_
  refine lv_isub hx hb dX9_entryAt_19 ?_
  refine lv_imul hx hb dX9_entryAt_20 ?_
  refine lv_iadd hx hb dX9_entryAt_21 ?_
  exact z_reti C hr hs hf dX9_entryAt_22
set_option maxHeartbeats 4000000 in
set_option maxRecDepth 20000 in
theorem cM_entryAt (l : Launch) (E : zE) {x1 : Int32} {x2 : Int32} (hM : z_M E) {σ σo : zS} {ro : Int32} (hf : fM_entryAt x1 x2 σ = some (ro, σo)) : z_T l E yX9_entryAt cX9_entryAt 3 (some .int) (z_rm 2) (z_QI E ro σo) [.ref (z_ad E (100, 0, 0)), .int x1, .int x2] σ :=
  z_enter (by decide) (Nat.le_of_ble_eq_true rfl) rfl (fun p e s m below meth c A ls C hr hs hl => wM_entryAt C hr hM σ _ _ ls hs hl hf)
def fM_termOf (x1 : Int32) (x2 : Int32) (σ : zS) : Option (Int32 × zS) :=
  z_bd (fM_of x1 2 σ) (fun r1 σ1 =>
  if r1 < x2 then
    (z_bd (fM_entryAt x1 x2 σ1) (fun r3 σ3 =>
    if z_in r3 5000 = true then (
    some (σ3.1 (103, 0, 0) r3.toNatClampNeg, σ3)) else none))
  else
    (z_bd (fM_of x1 3 σ1) (fun r5 σ5 =>
    some (r5, σ5))))
set_option maxHeartbeats 4000000 in
set_option maxRecDepth 20000 in
theorem wM_termOf {x1 : Int32} {x2 : Int32} (C : z_C E RX9 cX9_termOf 3 A p s m args meth c) (hr : meth.sig.returnType = (some .int)) (hM : z_M E) {ro : Int32} {σo : zS} (σ : zS) (H : Heap) (locs : List Loc) (ls : Array Slot) (hs : z_H E A s σ H locs) (hl : lv_has ls 3 [(0, .ref (z_ad E (100, 0, 0))), (1, .int x1), (2, .int x2)]) (hf : fM_termOf x1 x2 σ = some (ro, σo)) : W p l e (z_rm 3) s m args below meth c H locs 0 0 (MQ below (z_QI E ro σo A) args s 0 0 A) (F0 m 0 ls []) := by
  have hx := C.1
  have hb := C.2.1
  unfold fM_termOf at hf
  refine lv_iload_n hx hb dX9_termOf_0 rfl (lv_at hl 2 rfl) ?_
  refine lv_aload_n hx hb dX9_termOf_1 rfl (lv_at hl 0 rfl) ?_
  refine lv_iload_n hx hb dX9_termOf_2 rfl (lv_at hl 1 rfl) ?_
  refine lv_iconst (v := 2) hx hb dX9_termOf_3 (by decide) ?_
  obtain ⟨r1, σ1, h_1, hf⟩ := z_bds hf
  refine z_goI C hs (z_runV C hs hl.1 (cM_of l E hM h_1) zcV_RX9_146 (hM 100 (by decide) (by decide)) (z_c100 E _ _ _ _) rfl rfl rfl (by decide) (Nat.le_of_ble_eq_true rfl) dX9_termOf_4) (fun H locs hs => ?_)
  refine lv_icmp_gt (tgt := 19) hx hb dX9_termOf_7 (by decide) (fun c2 => ?_) (fun c2 => ?_)
  · have hf := z_t hf c2
    refine lv_aload_n hx hb dX9_termOf_19 rfl (lv_at hl 0 rfl) ?_
    refine zg_M_all C hs (hM 100 (by decide) (by decide)) z_k952 dX9_termOf_20 ?_
    refine lv_aload_n hx hb dX9_termOf_23 rfl (lv_at hl 0 rfl) ?_
    refine lv_iload_n hx hb dX9_termOf_24 rfl (lv_at hl 1 rfl) ?_
    refine lv_iload_n hx hb dX9_termOf_25 rfl (lv_at hl 2 rfl) ?_
    obtain ⟨r3, σ3, h_3, hf⟩ := z_bds hf
    refine z_goI C hs (z_runV C hs hl.1 (cM_entryAt l E hM h_3) zcV_RX9_153 (hM 100 (by decide) (by decide)) (z_c100 E _ _ _ _) rfl rfl rfl (by decide) (Nat.le_of_ble_eq_true rfl) dX9_termOf_26) (fun H locs hs => ?_)
    obtain ⟨g4, hf⟩ := z_gd hf
    refine z_ald C hs (hM 103 (by decide) (by decide)) (z_c103 E _ _ _ _) g4 rfl dX9_termOf_29 ?_
    exact z_reti C hr hs hf dX9_termOf_30
  · have hf := z_f hf c2
    refine lv_aload_n hx hb dX9_termOf_10 rfl (lv_at hl 0 rfl) ?_
    refine lv_iload_n hx hb dX9_termOf_11 rfl (lv_at hl 1 rfl) ?_
    refine lv_iconst (v := 3) hx hb dX9_termOf_12 (by decide) ?_
    obtain ⟨r5, σ5, h_5, hf⟩ := z_bds hf
    refine z_goI C hs (z_runV C hs hl.1 (cM_of l E hM h_5) zcV_RX9_146 (hM 100 (by decide) (by decide)) (z_c100 E _ _ _ _) rfl rfl rfl (by decide) (Nat.le_of_ble_eq_true rfl) dX9_termOf_13) (fun H locs hs => ?_)
    refine lv_goto (tgt := 30) hx hb dX9_termOf_16 (by decide) ?_
    exact z_reti C hr hs hf dX9_termOf_30
set_option maxHeartbeats 4000000 in
set_option maxRecDepth 20000 in
theorem cM_termOf (l : Launch) (E : zE) {x1 : Int32} {x2 : Int32} (hM : z_M E) {σ σo : zS} {ro : Int32} (hf : fM_termOf x1 x2 σ = some (ro, σo)) : z_T l E yX9_termOf cX9_termOf 3 (some .int) (z_rm 3) (z_QI E ro σo) [.ref (z_ad E (100, 0, 0)), .int x1, .int x2] σ :=
  z_enter (by decide) (Nat.le_of_ble_eq_true rfl) rfl (fun p e s m below meth c A ls C hr hs hl => wM_termOf C hr hM σ _ _ ls hs hl hf)
def fM_copy_3 : Nat → Int32 → Int32 → Int32 → Int32 → zS → Option (Unit × zS)
  | 0, _, _, _, _, _ => none
  | n + 1, x1, x2, x3, x4, σ =>
    if x3 ≤ x4 then
      (some ((), σ))
    else
      (if z_in (x1 + x4) 5000 = true then (
      if z_in (x2 + x4) 5000 = true then (
      z_let (z_up σ (103, 0, 0) ((x2 + x4).toNatClampNeg) (σ.1 (103, 0, 0) (x1 + x4).toNatClampNeg)) (fun σ4 =>
      z_let (x4 + 1) (fun y5 =>
      fM_copy_3 n x1 x2 x3 y5 σ4))) else none) else none)
def fM_copy (x1 : Int32) (x2 : Int32) (x3 : Int32) (σ : zS) : Option (Unit × zS) :=
  fM_copy_3 z_fu x1 x2 x3 0 σ
set_option maxHeartbeats 4000000 in
set_option maxRecDepth 20000 in
theorem wM_copy_3 (C : z_C E RX9 cX9_copy 5 A p s m args meth c) (hr : meth.sig.returnType = none) (hM : z_M E) {ro : Unit} {σo : zS} (n : Nat) : ∀ (x1 : Int32) (x2 : Int32) (x3 : Int32) (x4 : Int32) (σ : zS) (H : Heap) (locs : List Loc) (ls : Array Slot), z_H E A s σ H locs → lv_has ls 5 [(0, .ref (z_ad E (100, 0, 0))), (1, .int x1), (2, .int x2), (3, .int x3), (4, .int x4)] → fM_copy_3 n x1 x2 x3 x4 σ = some (ro, σo) → W p l e (z_rm 1) s m args below meth c H locs 0 0 (MQ below (z_QV E ro σo A) args s 0 0 A) (F0 m 3 ls []) := by
  induction n with
  | zero =>
    intro x1 x2 x3 x4 σ H locs ls hs hl hf
    have hf : none = some (ro, σo) := hf
    cases hf
  | succ n ih =>
    intro x1 x2 x3 x4 σ H locs ls hs hl hf
    have hx := C.1
    have hb := C.2.1
    rw [fM_copy_3.eq_2] at hf
    refine lv_iload hx hb dX9_copy_3 (lv_at hl 4 rfl) ?_
    refine lv_iload_n hx hb dX9_copy_5 rfl (lv_at hl 3 rfl) ?_
    refine lv_icmp_ge (tgt := 33) hx hb dX9_copy_6 (by decide) (fun c1 => ?_) (fun c1 => ?_)
    · have hf := z_t hf c1
      exact z_retv C hr hs hf dX9_copy_33
    · have hf := z_f hf c1
      refine lv_aload_n hx hb dX9_copy_9 rfl (lv_at hl 0 rfl) ?_
      refine zg_M_all C hs (hM 100 (by decide) (by decide)) z_k952 dX9_copy_10 ?_
      refine lv_iload_n hx hb dX9_copy_13 rfl (lv_at hl 2 rfl) ?_
      refine lv_iload hx hb dX9_copy_14 (lv_at hl 4 rfl) ?_
      refine lv_iadd hx hb dX9_copy_16 ?_
      refine lv_aload_n hx hb dX9_copy_17 rfl (lv_at hl 0 rfl) ?_
      refine zg_M_all C hs (hM 100 (by decide) (by decide)) z_k952 dX9_copy_18 ?_
      refine lv_iload_n hx hb dX9_copy_21 rfl (lv_at hl 1 rfl) ?_
      refine lv_iload hx hb dX9_copy_22 (lv_at hl 4 rfl) ?_
      refine lv_iadd hx hb dX9_copy_24 ?_
      obtain ⟨g2, hf⟩ := z_gd hf
      refine z_ald C hs (hM 103 (by decide) (by decide)) (z_c103 E _ _ _ _) g2 rfl dX9_copy_25 ?_
      obtain ⟨g3, hf⟩ := z_gd hf
      refine z_ast C hs (hM 103 (by decide) (by decide)) (fun r h => z_c103 E r h _ _) g3 rfl dX9_copy_26 (fun H locs hs => ?_)
      obtain ⟨σ4, -, hs, hf⟩ := z_top hs hf
      obtain ⟨y5, e_y5⟩ : ∃ y : Int32, y = x4 + 1 := ⟨_, rfl⟩
      have hf := z_lte e_y5 hf
      refine lv_iinc (v := y5) (lv' := [(4, .int y5), (0, .ref (z_ad E (100, 0, 0))), (1, .int x1), (2, .int x2), (3, .int x3)]) hx hb dX9_copy_27 hl (k := 4) rfl (by rw [e_y5]; rfl) (by decide) rfl (fun ls hl => ?_)
      refine lv_goto (tgt := 3) hx hb dX9_copy_30 (by decide) ?_
      exact ih x1 x2 x3 y5 σ4 _ _ _ hs (lv_sub hl [1, 2, 3, 4, 0] rfl) hf
set_option maxHeartbeats 4000000 in
set_option maxRecDepth 20000 in
theorem wM_copy {x1 : Int32} {x2 : Int32} {x3 : Int32} (C : z_C E RX9 cX9_copy 5 A p s m args meth c) (hr : meth.sig.returnType = none) (hM : z_M E) {ro : Unit} {σo : zS} (σ : zS) (H : Heap) (locs : List Loc) (ls : Array Slot) (hs : z_H E A s σ H locs) (hl : lv_has ls 5 [(0, .ref (z_ad E (100, 0, 0))), (1, .int x1), (2, .int x2), (3, .int x3)]) (hf : fM_copy x1 x2 x3 σ = some (ro, σo)) : W p l e (z_rm 1) s m args below meth c H locs 0 0 (MQ below (z_QV E ro σo A) args s 0 0 A) (F0 m 0 ls []) := by
  have hx := C.1
  have hb := C.2.1
  unfold fM_copy at hf
  refine lv_iconst (v := 0) hx hb dX9_copy_0 (by decide) ?_
  refine lv_istore (lv' := [(4, .int 0), (0, .ref (z_ad E (100, 0, 0))), (1, .int x1), (2, .int x2), (3, .int x3)]) hx hb dX9_copy_1 hl (by decide) rfl (fun ls hl => ?_)
  exact wM_copy_3 C hr hM z_fu x1 x2 x3 0 σ _ _ _ hs (lv_sub hl [1, 2, 3, 4, 0] rfl) hf
set_option maxHeartbeats 4000000 in
set_option maxRecDepth 20000 in
theorem cM_copy (l : Launch) (E : zE) {x1 : Int32} {x2 : Int32} {x3 : Int32} (hM : z_M E) {σ σo : zS} {ro : Unit} (hf : fM_copy x1 x2 x3 σ = some (ro, σo)) : z_T l E yX9_copy cX9_copy 5 none (z_rm 1) (z_QV E ro σo) [.ref (z_ad E (100, 0, 0)), .int x1, .int x2, .int x3] σ :=
  z_enter (by decide) (Nat.le_of_ble_eq_true rfl) rfl (fun p e s m below meth c A ls C hr hs hl => wM_copy C hr hM σ _ _ ls hs hl hf)
def fM_after (x0 : Int32) (x1 : Int32) (x2 : Int32) (σ : zS) : Option (Int32 × zS) :=
  if x0 = 0 then
    (some (x2, σ))
  else
    (if x0 = 1 then
      (some (x1 + x2, σ))
    else
      (if x0 = 2 then
        (if x2 ≤ x1 then
          (some (x1, σ))
        else
          (some (x2, σ)))
      else
        (if x1 = 0 then
          (some (x2, σ))
        else
          (some (x1, σ)))))
set_option maxHeartbeats 4000000 in
set_option maxRecDepth 20000 in
theorem wM_after {x0 : Int32} {x1 : Int32} {x2 : Int32} (C : z_C E RX9 cX9_after 3 A p s m args meth c) (hr : meth.sig.returnType = (some .int)) {ro : Int32} {σo : zS} (σ : zS) (H : Heap) (locs : List Loc) (ls : Array Slot) (hs : z_H E A s σ H locs) (hl : lv_has ls 3 [(0, .int x0), (1, .int x1), (2, .int x2)]) (hf : fM_after x0 x1 x2 σ = some (ro, σo)) : W p l e (z_rm 1) s m args below meth c H locs 0 0 (MQ below (z_QI E ro σo A) args s 0 0 A) (F0 m 0 ls []) := by
  have hx := C.1
  have hb := C.2.1
  unfold fM_after at hf
  refine lv_iload_n hx hb dX9_after_0 rfl (lv_at hl 0 rfl) ?_
  refine lv_if_ne (tgt := 6) hx hb dX9_after_1 (by decide) (fun c1 => ?_) (fun c1 => ?_)
  · have hf := z_f hf c1
    refine lv_iload_n hx hb dX9_after_6 rfl (lv_at hl 0 rfl) ?_
    refine lv_iconst (v := 1) hx hb dX9_after_7 (by decide) ?_
    refine lv_icmp_ne (tgt := 15) hx hb dX9_after_8 (by decide) (fun c2 => ?_) (fun c2 => ?_)
    · have hf := z_f hf c2
      refine lv_iload_n hx hb dX9_after_15 rfl (lv_at hl 0 rfl) ?_
      refine lv_iconst (v := 2) hx hb dX9_after_16 (by decide) ?_
      refine lv_icmp_ne (tgt := 31) hx hb dX9_after_17 (by decide) (fun c3 => ?_) (fun c3 => ?_)
      · have hf := z_f hf c3
        refine lv_iload_n hx hb dX9_after_31 rfl (lv_at hl 1 rfl) ?_
        refine lv_if_ne (tgt := 39) hx hb dX9_after_32 (by decide) (fun c4 => ?_) (fun c4 => ?_)
        · have hf := z_f hf c4
          refine lv_iload_n hx hb dX9_after_39 rfl (lv_at hl 1 rfl) ?_
          exact z_reti C hr hs hf dX9_after_40
        · have hf := z_t hf c4
          refine lv_iload_n hx hb dX9_after_35 rfl (lv_at hl 2 rfl) ?_
          refine lv_goto (tgt := 40) hx hb dX9_after_36 (by decide) ?_
          exact z_reti C hr hs hf dX9_after_40
      · have hf := z_t hf c3
        refine lv_iload_n hx hb dX9_after_20 rfl (lv_at hl 2 rfl) ?_
        refine lv_iload_n hx hb dX9_after_21 rfl (lv_at hl 1 rfl) ?_
        refine lv_icmp_le (tgt := 29) hx hb dX9_after_22 (by decide) (fun c5 => ?_) (fun c5 => ?_)
        · have hf := z_t hf c5
          refine lv_iload_n hx hb dX9_after_29 rfl (lv_at hl 1 rfl) ?_
          exact z_reti C hr hs hf dX9_after_30
        · have hf := z_f hf c5
          refine lv_iload_n hx hb dX9_after_25 rfl (lv_at hl 2 rfl) ?_
          refine lv_goto (tgt := 30) hx hb dX9_after_26 (by decide) ?_
          exact z_reti C hr hs hf dX9_after_30
    · have hf := z_t hf c2
      refine lv_iload_n hx hb dX9_after_11 rfl (lv_at hl 1 rfl) ?_
      refine lv_iload_n hx hb dX9_after_12 rfl (lv_at hl 2 rfl) ?_
      refine lv_iadd hx hb dX9_after_13 ?_
      exact z_reti C hr hs hf dX9_after_14
  · have hf := z_t hf c1
    refine lv_iload_n hx hb dX9_after_4 rfl (lv_at hl 2 rfl) ?_
    exact z_reti C hr hs hf dX9_after_5
set_option maxHeartbeats 4000000 in
set_option maxRecDepth 20000 in
theorem cM_after (l : Launch) (E : zE) {x0 : Int32} {x1 : Int32} {x2 : Int32} {σ σo : zS} {ro : Int32} (hf : fM_after x0 x1 x2 σ = some (ro, σo)) : z_T l E yX9_after cX9_after 3 (some .int) (z_rm 1) (z_QI E ro σo) [.int x0, .int x1, .int x2] σ :=
  z_enter (by decide) (Nat.le_of_ble_eq_true rfl) rfl (fun p e s m below meth c A ls C hr hs hl => wM_after C hr σ _ _ ls hs hl hf)
def fM_answers (x0 : Int32) (x1 : Int32) (x2 : Int32) (σ : zS) : Option (Int32 × zS) :=
  if x0 = 0 then
    (some (x1, σ))
  else
    (if x0 = 3 then
      (if x1 = 0 then
        (some (1, σ))
      else
        (some (0, σ)))
    else
      (z_bd (fM_after x0 x1 x2 σ) (fun r3 σ3 =>
      some (r3, σ3))))
set_option maxHeartbeats 4000000 in
set_option maxRecDepth 20000 in
theorem wM_answers {x0 : Int32} {x1 : Int32} {x2 : Int32} (C : z_C E RX9 cX9_answers 3 A p s m args meth c) (hr : meth.sig.returnType = (some .int)) {ro : Int32} {σo : zS} (σ : zS) (H : Heap) (locs : List Loc) (ls : Array Slot) (hs : z_H E A s σ H locs) (hl : lv_has ls 3 [(0, .int x0), (1, .int x1), (2, .int x2)]) (hf : fM_answers x0 x1 x2 σ = some (ro, σo)) : W p l e (z_rm 2) s m args below meth c H locs 0 0 (MQ below (z_QI E ro σo A) args s 0 0 A) (F0 m 0 ls []) := by
  have hx := C.1
  have hb := C.2.1
  unfold fM_answers at hf
  refine lv_iload_n hx hb dX9_answers_0 rfl (lv_at hl 0 rfl) ?_
  refine lv_if_ne (tgt := 8) hx hb dX9_answers_1 (by decide) (fun c1 => ?_) (fun c1 => ?_)
  · have hf := z_f hf c1
    refine lv_iload_n hx hb dX9_answers_8 rfl (lv_at hl 0 rfl) ?_
    refine lv_iconst (v := 3) hx hb dX9_answers_9 (by decide) ?_
    refine lv_icmp_ne (tgt := 25) hx hb dX9_answers_10 (by decide) (fun c2 => ?_) (fun c2 => ?_)
    · have hf := z_f hf c2
      refine lv_iload_n hx hb dX9_answers_25 rfl (lv_at hl 0 rfl) ?_
      refine lv_iload_n hx hb dX9_answers_26 rfl (lv_at hl 1 rfl) ?_
      refine lv_iload_n hx hb dX9_answers_27 rfl (lv_at hl 2 rfl) ?_
      obtain ⟨r3, σ3, h_3, hf⟩ := z_bds hf
      refine z_goI C hs (z_runS C hs hl.1 (cM_after l E h_3) zcS_RX9_156 rfl rfl rfl (by decide) (Nat.le_of_ble_eq_true rfl) dX9_answers_28) (fun H locs hs => ?_)
      exact z_reti C hr hs hf dX9_answers_31
    · have hf := z_t hf c2
      refine lv_iload_n hx hb dX9_answers_13 rfl (lv_at hl 1 rfl) ?_
      refine lv_if_ne (tgt := 21) hx hb dX9_answers_14 (by decide) (fun c4 => ?_) (fun c4 => ?_)
      · have hf := z_f hf c4
        refine lv_iconst (v := 0) hx hb dX9_answers_21 (by decide) ?_
        refine lv_goto (tgt := 31) hx hb dX9_answers_22 (by decide) ?_
        exact z_reti C hr hs hf dX9_answers_31
      · have hf := z_t hf c4
        refine lv_iconst (v := 1) hx hb dX9_answers_17 (by decide) ?_
        refine lv_goto (tgt := 31) hx hb dX9_answers_18 (by decide) ?_
        exact z_reti C hr hs hf dX9_answers_31
  · have hf := z_t hf c1
    refine lv_iload_n hx hb dX9_answers_4 rfl (lv_at hl 1 rfl) ?_
    refine lv_goto (tgt := 31) hx hb dX9_answers_5 (by decide) ?_
    exact z_reti C hr hs hf dX9_answers_31
set_option maxHeartbeats 4000000 in
set_option maxRecDepth 20000 in
theorem cM_answers (l : Launch) (E : zE) {x0 : Int32} {x1 : Int32} {x2 : Int32} {σ σo : zS} {ro : Int32} (hf : fM_answers x0 x1 x2 σ = some (ro, σo)) : z_T l E yX9_answers cX9_answers 3 (some .int) (z_rm 2) (z_QI E ro σo) [.int x0, .int x1, .int x2] σ :=
  z_enter (by decide) (Nat.le_of_ble_eq_true rfl) rfl (fun p e s m below meth c A ls C hr hs hl => wM_answers C hr σ _ _ ls hs hl hf)
def fM_works (x1 : Int32) (x2 : Int32) (σ : zS) : Option (Unit × zS) :=
  if z_in (x2 + 1) 5000 = true then (
  z_let ((x1 + 8) + (2 * (σ.1 (103, 0, 0) (x2 + 1).toNatClampNeg))) (fun y2 =>
  if z_in (x2 + 4) 5000 = true then (
  z_let (x1 + (σ.1 (103, 0, 0) (x2 + 4).toNatClampNeg)) (fun y4 =>
  if z_in (x2 + 5) 5000 = true then (
  z_let (σ.1 (103, 0, 0) (x2 + 5).toNatClampNeg) (fun y6 =>
  if z_in (x2 + 2) 5000 = true then (
  if z_in y2 5000 = true then (
  if (σ.1 (103, 0, 0) y2.toNatClampNeg) < (σ.1 (103, 0, 0) (x2 + 2).toNatClampNeg) then
    (if z_in y4 5000 = true then (
    z_let (σ.1 (103, 0, 0) y4.toNatClampNeg) (fun y11 =>
    if z_in (x2 + 3) 5000 = true then (
    z_bd (fM_after (σ.1 (103, 0, 0) (x2 + 3).toNatClampNeg) y11 y6 σ) (fun r13 σ13 =>
    if z_in y4 5000 = true then (
    z_let (z_up σ13 (103, 0, 0) (y4.toNatClampNeg) r13) (fun σ15 =>
    if z_in (x2 + 2) 5000 = true then (
    if z_in y2 5000 = true then (
    z_let (z_up σ15 (103, 0, 0) (y2.toNatClampNeg) (σ15.1 (103, 0, 0) (x2 + 2).toNatClampNeg)) (fun σ18 =>
    if z_in (x2 + 3) 5000 = true then (
    z_bd (fM_answers (σ18.1 (103, 0, 0) (x2 + 3).toNatClampNeg) y11 y6 σ18) (fun r20 σ20 =>
    if z_in (y2 + 1) 5000 = true then (
    z_let (z_up σ20 (103, 0, 0) ((y2 + 1).toNatClampNeg) r20) (fun σ22 =>
    some ((), σ22))) else none)) else none)) else none) else none)) else none)) else none)) else none)
  else
    (some ((), σ))) else none) else none)) else none)) else none)) else none
set_option maxHeartbeats 4000000 in
set_option maxRecDepth 20000 in
theorem wM_works {x1 : Int32} {x2 : Int32} (C : z_C E RX9 cX9_works 7 A p s m args meth c) (hr : meth.sig.returnType = none) (hM : z_M E) {ro : Unit} {σo : zS} (σ : zS) (H : Heap) (locs : List Loc) (ls : Array Slot) (hs : z_H E A s σ H locs) (hl : lv_has ls 7 [(0, .ref (z_ad E (100, 0, 0))), (1, .int x1), (2, .int x2)]) (hf : fM_works x1 x2 σ = some (ro, σo)) : W p l e (z_rm 3) s m args below meth c H locs 0 0 (MQ below (z_QV E ro σo A) args s 0 0 A) (F0 m 0 ls []) := by
  have hx := C.1
  have hb := C.2.1
  unfold fM_works at hf
  refine lv_iload_n hx hb dX9_works_0 rfl (lv_at hl 1 rfl) ?_
  refine lv_bipush (v := 8) hx hb dX9_works_1 (by decide) ?_
  refine lv_iadd hx hb dX9_works_3 ?_
  refine lv_iconst (v := 2) hx hb dX9_works_4 (by decide) ?_
  refine lv_aload_n hx hb dX9_works_5 rfl (lv_at hl 0 rfl) ?_
  refine zg_M_all C hs (hM 100 (by decide) (by decide)) z_k952 dX9_works_6 ?_
  refine lv_iload_n hx hb dX9_works_9 rfl (lv_at hl 2 rfl) ?_
  refine lv_iconst (v := 1) hx hb dX9_works_10 (by decide) ?_
  refine lv_iadd hx hb dX9_works_11 ?_
  obtain ⟨g1, hf⟩ := z_gd hf
  refine z_ald C hs (hM 103 (by decide) (by decide)) (z_c103 E _ _ _ _) g1 rfl dX9_works_12 ?_
  refine lv_imul hx hb dX9_works_13 ?_
  refine lv_iadd hx hb dX9_works_14 ?_
  refine lv_topi (fun y2 e_y2 => ?_)
  have hf := z_lte e_y2 hf
  refine lv_istore_n (lv' := [(3, .int y2), (0, .ref (z_ad E (100, 0, 0))), (1, .int x1), (2, .int x2)]) hx hb dX9_works_15 rfl hl (by decide) rfl (fun ls hl => ?_)
  refine lv_iload_n hx hb dX9_works_16 rfl (lv_at hl 2 rfl) ?_
  refine lv_aload_n hx hb dX9_works_17 rfl (lv_at hl 1 rfl) ?_
  refine zg_M_all C hs (hM 100 (by decide) (by decide)) z_k952 dX9_works_18 ?_
  refine lv_iload_n hx hb dX9_works_21 rfl (lv_at hl 3 rfl) ?_
  refine lv_iconst (v := 4) hx hb dX9_works_22 (by decide) ?_
  refine lv_iadd hx hb dX9_works_23 ?_
  obtain ⟨g3, hf⟩ := z_gd hf
  refine z_ald C hs (hM 103 (by decide) (by decide)) (z_c103 E _ _ _ _) g3 rfl dX9_works_24 ?_
  refine lv_iadd hx hb dX9_works_25 ?_
  refine lv_topi (fun y4 e_y4 => ?_)
  have hf := z_lte e_y4 hf
  refine lv_istore (lv' := [(4, .int y4), (3, .int y2), (0, .ref (z_ad E (100, 0, 0))), (1, .int x1), (2, .int x2)]) hx hb dX9_works_26 hl (by decide) rfl (fun ls hl => ?_)
  refine lv_aload_n hx hb dX9_works_28 rfl (lv_at hl 2 rfl) ?_
  refine zg_M_all C hs (hM 100 (by decide) (by decide)) z_k952 dX9_works_29 ?_
  refine lv_iload_n hx hb dX9_works_32 rfl (lv_at hl 4 rfl) ?_
  refine lv_iconst (v := 5) hx hb dX9_works_33 (by decide) ?_
  refine lv_iadd hx hb dX9_works_34 ?_
  obtain ⟨g5, hf⟩ := z_gd hf
  refine z_ald C hs (hM 103 (by decide) (by decide)) (z_c103 E _ _ _ _) g5 rfl dX9_works_35 ?_
  refine lv_topi (fun y6 e_y6 => ?_)
  have hf := z_lte e_y6 hf
  refine lv_istore (lv' := [(5, .int y6), (4, .int y4), (3, .int y2), (0, .ref (z_ad E (100, 0, 0))), (1, .int x1), (2, .int x2)]) hx hb dX9_works_36 hl (by decide) rfl (fun ls hl => ?_)
  refine lv_aload_n hx hb dX9_works_38 rfl (lv_at hl 3 rfl) ?_
  refine zg_M_all C hs (hM 100 (by decide) (by decide)) z_k952 dX9_works_39 ?_
  refine lv_iload_n hx hb dX9_works_42 rfl (lv_at hl 5 rfl) ?_
  refine lv_iconst (v := 2) hx hb dX9_works_43 (by decide) ?_
  refine lv_iadd hx hb dX9_works_44 ?_
  obtain ⟨g7, hf⟩ := z_gd hf
  refine z_ald C hs (hM 103 (by decide) (by decide)) (z_c103 E _ _ _ _) g7 rfl dX9_works_45 ?_
  refine lv_aload_n hx hb dX9_works_46 rfl (lv_at hl 3 rfl) ?_
  refine zg_M_all C hs (hM 100 (by decide) (by decide)) z_k952 dX9_works_47 ?_
  refine lv_iload_n hx hb dX9_works_50 rfl (lv_at hl 2 rfl) ?_
  obtain ⟨g8, hf⟩ := z_gd hf
  refine z_ald C hs (hM 103 (by decide) (by decide)) (z_c103 E _ _ _ _) g8 rfl dX9_works_51 ?_
  refine lv_icmp_gt (tgt := 56) hx hb dX9_works_52 (by decide) (fun c9 => ?_) (fun c9 => ?_)
  · have hf := z_t hf c9
    refine lv_aload_n hx hb dX9_works_56 rfl (lv_at hl 3 rfl) ?_
    refine zg_M_all C hs (hM 100 (by decide) (by decide)) z_k952 dX9_works_57 ?_
    refine lv_iload hx hb dX9_works_60 (lv_at hl 1 rfl) ?_
    obtain ⟨g10, hf⟩ := z_gd hf
    refine z_ald C hs (hM 103 (by decide) (by decide)) (z_c103 E _ _ _ _) g10 rfl dX9_works_62 ?_
    refine lv_topi (fun y11 e_y11 => ?_)
    have hf := z_lte e_y11 hf
    refine lv_istore (lv' := [(6, .int y11), (5, .int y6), (4, .int y4), (3, .int y2), (0, .ref (z_ad E (100, 0, 0))), (1, .int x1), (2, .int x2)]) hx hb dX9_works_63 hl (by decide) rfl (fun ls hl => ?_)
    refine lv_aload_n hx hb dX9_works_65 rfl (lv_at hl 4 rfl) ?_
    refine zg_M_all C hs (hM 100 (by decide) (by decide)) z_k952 dX9_works_66 ?_
    refine lv_iload hx hb dX9_works_69 (lv_at hl 2 rfl) ?_
    refine lv_aload_n hx hb dX9_works_71 rfl (lv_at hl 4 rfl) ?_
    refine zg_M_all C hs (hM 100 (by decide) (by decide)) z_k952 dX9_works_72 ?_
    refine lv_iload_n hx hb dX9_works_75 rfl (lv_at hl 6 rfl) ?_
    refine lv_iconst (v := 3) hx hb dX9_works_76 (by decide) ?_
    refine lv_iadd hx hb dX9_works_77 ?_
    obtain ⟨g12, hf⟩ := z_gd hf
    refine z_ald C hs (hM 103 (by decide) (by decide)) (z_c103 E _ _ _ _) g12 rfl dX9_works_78 ?_
    refine lv_iload hx hb dX9_works_79 (lv_at hl 0 rfl) ?_
    refine lv_iload hx hb dX9_works_81 (lv_at hl 1 rfl) ?_
    obtain ⟨r13, σ13, h_13, hf⟩ := z_bds hf
    refine z_goI C hs (z_runS C hs hl.1 (cM_after l E h_13) zcS_RX9_156 rfl rfl rfl (by decide) (Nat.le_of_ble_eq_true rfl) dX9_works_83) (fun H locs hs => ?_)
    obtain ⟨g14, hf⟩ := z_gd hf
    refine z_ast C hs (hM 103 (by decide) (by decide)) (fun r h => z_c103 E r h _ _) g14 rfl dX9_works_86 (fun H locs hs => ?_)
    obtain ⟨σ15, -, hs, hf⟩ := z_top hs hf
    refine lv_aload_n hx hb dX9_works_87 rfl (lv_at hl 4 rfl) ?_
    refine zg_M_all C hs (hM 100 (by decide) (by decide)) z_k952 dX9_works_88 ?_
    refine lv_iload_n hx hb dX9_works_91 rfl (lv_at hl 3 rfl) ?_
    refine lv_aload_n hx hb dX9_works_92 rfl (lv_at hl 4 rfl) ?_
    refine zg_M_all C hs (hM 100 (by decide) (by decide)) z_k952 dX9_works_93 ?_
    refine lv_iload_n hx hb dX9_works_96 rfl (lv_at hl 6 rfl) ?_
    refine lv_iconst (v := 2) hx hb dX9_works_97 (by decide) ?_
    refine lv_iadd hx hb dX9_works_98 ?_
    obtain ⟨g16, hf⟩ := z_gd hf
    refine z_ald C hs (hM 103 (by decide) (by decide)) (z_c103 E _ _ _ _) g16 rfl dX9_works_99 ?_
    obtain ⟨g17, hf⟩ := z_gd hf
    refine z_ast C hs (hM 103 (by decide) (by decide)) (fun r h => z_c103 E r h _ _) g17 rfl dX9_works_100 (fun H locs hs => ?_)
    obtain ⟨σ18, -, hs, hf⟩ := z_top hs hf
    refine lv_aload_n hx hb dX9_works_101 rfl (lv_at hl 4 rfl) ?_
    refine zg_M_all C hs (hM 100 (by decide) (by decide)) z_k952 dX9_works_102 ?_
    refine lv_iload_n hx hb dX9_works_105 rfl (lv_at hl 3 rfl) ?_
    refine lv_iconst (v := 1) hx hb dX9_works_106 (by decide) ?_
    refine lv_iadd hx hb dX9_works_107 ?_
    refine lv_aload_n hx hb dX9_works_108 rfl (lv_at hl 4 rfl) ?_
    refine zg_M_all C hs (hM 100 (by decide) (by decide)) z_k952 dX9_works_109 ?_
    refine lv_iload_n hx hb dX9_works_112 rfl (lv_at hl 6 rfl) ?_
    refine lv_iconst (v := 3) hx hb dX9_works_113 (by decide) ?_
    refine lv_iadd hx hb dX9_works_114 ?_
    obtain ⟨g19, hf⟩ := z_gd hf
    refine z_ald C hs (hM 103 (by decide) (by decide)) (z_c103 E _ _ _ _) g19 rfl dX9_works_115 ?_
    refine lv_iload hx hb dX9_works_116 (lv_at hl 0 rfl) ?_
    refine lv_iload hx hb dX9_works_118 (lv_at hl 1 rfl) ?_
    obtain ⟨r20, σ20, h_20, hf⟩ := z_bds hf
    refine z_goI C hs (z_runS C hs hl.1 (cM_answers l E h_20) zcS_RX9_160 rfl rfl rfl (by decide) (Nat.le_of_ble_eq_true rfl) dX9_works_120) (fun H locs hs => ?_)
    obtain ⟨g21, hf⟩ := z_gd hf
    refine z_ast C hs (hM 103 (by decide) (by decide)) (fun r h => z_c103 E r h _ _) g21 rfl dX9_works_123 (fun H locs hs => ?_)
    obtain ⟨σ22, -, hs, hf⟩ := z_top hs hf
    exact z_retv C hr hs hf dX9_works_124
  · have hf := z_f hf c9
    exact z_retv C hr hs hf dX9_works_55
set_option maxHeartbeats 4000000 in
set_option maxRecDepth 20000 in
theorem cM_works (l : Launch) (E : zE) {x1 : Int32} {x2 : Int32} (hM : z_M E) {σ σo : zS} {ro : Unit} (hf : fM_works x1 x2 σ = some (ro, σo)) : z_T l E yX9_works cX9_works 7 none (z_rm 3) (z_QV E ro σo) [.ref (z_ad E (100, 0, 0)), .int x1, .int x2] σ :=
  z_enter (by decide) (Nat.le_of_ble_eq_true rfl) rfl (fun p e s m below meth c A ls C hr hs hl => wM_works C hr hM σ _ _ ls hs hl hf)
def fM_doneTo_10 : Nat → Int32 → Int32 → Int32 → zS → Option (Unit × zS)
  | 0, _, _, _, _ => none
  | n + 1, x1, x2, x3, σ =>
    if x2 < x3 then
      (z_bd (fM_of x1 6 σ) (fun r4 σ4 =>
      if x2 ≤ r4 then
        (some ((), σ4))
      else
        (z_bd (fM_put x1 6 x2 σ4) (fun _ σ6 =>
        some ((), σ6)))))
    else
      (z_bd (fM_entryAt x1 x3 σ) (fun r7 σ7 =>
      z_bd (fM_works ((320 * x1) + 30) r7 σ7) (fun _ σ8 =>
      z_let (x3 + 1) (fun y9 =>
      fM_doneTo_10 n x1 x2 y9 σ8))))
def fM_doneTo (x1 : Int32) (x2 : Int32) (σ : zS) : Option (Unit × zS) :=
  z_bd (fM_of x1 6 σ) (fun r1 σ1 =>
  z_let (r1 + 1) (fun y2 =>
  fM_doneTo_10 z_fu x1 x2 y2 σ1))
set_option maxHeartbeats 4000000 in
set_option maxRecDepth 20000 in
theorem wM_doneTo_10 (C : z_C E RX9 cX9_doneTo 4 A p s m args meth c) (hr : meth.sig.returnType = none) (hM : z_M E) {ro : Unit} {σo : zS} (n : Nat) : ∀ (x1 : Int32) (x2 : Int32) (x3 : Int32) (σ : zS) (H : Heap) (locs : List Loc) (ls : Array Slot), z_H E A s σ H locs → lv_has ls 4 [(0, .ref (z_ad E (100, 0, 0))), (1, .int x1), (2, .int x2), (3, .int x3)] → fM_doneTo_10 n x1 x2 x3 σ = some (ro, σo) → W p l e (z_rm 4) s m args below meth c H locs 0 0 (MQ below (z_QV E ro σo A) args s 0 0 A) (F0 m 10 ls []) := by
  induction n with
  | zero =>
    intro x1 x2 x3 σ H locs ls hs hl hf
    have hf : none = some (ro, σo) := hf
    cases hf
  | succ n ih =>
    intro x1 x2 x3 σ H locs ls hs hl hf
    have hx := C.1
    have hb := C.2.1
    rw [fM_doneTo_10.eq_2] at hf
    refine lv_iload_n hx hb dX9_doneTo_10 rfl (lv_at hl 3 rfl) ?_
    refine lv_iload_n hx hb dX9_doneTo_11 rfl (lv_at hl 2 rfl) ?_
    refine lv_icmp_gt (tgt := 39) hx hb dX9_doneTo_12 (by decide) (fun c3 => ?_) (fun c3 => ?_)
    · have hf := z_t hf c3
      refine lv_iload_n hx hb dX9_doneTo_39 rfl (lv_at hl 2 rfl) ?_
      refine lv_aload_n hx hb dX9_doneTo_40 rfl (lv_at hl 0 rfl) ?_
      refine lv_iload_n hx hb dX9_doneTo_41 rfl (lv_at hl 1 rfl) ?_
      refine lv_bipush (v := 6) hx hb dX9_doneTo_42 (by decide) ?_
      obtain ⟨r4, σ4, h_4, hf⟩ := z_bds hf
      refine z_goI C hs (z_runV C hs hl.1 (cM_of l E hM h_4) zcV_RX9_146 (hM 100 (by decide) (by decide)) (z_c100 E _ _ _ _) rfl rfl rfl (by decide) (Nat.le_of_ble_eq_true rfl) dX9_doneTo_44) (fun H locs hs => ?_)
      refine lv_icmp_le (tgt := 58) hx hb dX9_doneTo_47 (by decide) (fun c5 => ?_) (fun c5 => ?_)
      · have hf := z_t hf c5
        exact z_retv C hr hs hf dX9_doneTo_58
      · have hf := z_f hf c5
        refine lv_aload_n hx hb dX9_doneTo_50 rfl (lv_at hl 0 rfl) ?_
        refine lv_iload_n hx hb dX9_doneTo_51 rfl (lv_at hl 1 rfl) ?_
        refine lv_bipush (v := 6) hx hb dX9_doneTo_52 (by decide) ?_
        refine lv_iload_n hx hb dX9_doneTo_54 rfl (lv_at hl 2 rfl) ?_
        obtain ⟨r6, σ6, h_6, hf⟩ := z_bds hf
        refine z_goV C hs (z_runV C hs hl.1 (cM_put l E hM h_6) zcV_RX9_139 (hM 100 (by decide) (by decide)) (z_c100 E _ _ _ _) rfl rfl rfl (by decide) (Nat.le_of_ble_eq_true rfl) dX9_doneTo_55) (fun H locs hs => ?_)
        exact z_retv C hr hs hf dX9_doneTo_58
    · have hf := z_f hf c3
      refine lv_aload_n hx hb dX9_doneTo_15 rfl (lv_at hl 0 rfl) ?_
      refine lv_sipush (v := 320) hx hb dX9_doneTo_16 (by decide) ?_
      refine lv_iload_n hx hb dX9_doneTo_19 rfl (lv_at hl 1 rfl) ?_
      refine lv_imul hx hb dX9_doneTo_20 ?_
      refine lv_bipush (v := 30) hx hb dX9_doneTo_21 (by decide) ?_
      refine lv_iadd hx hb dX9_doneTo_23 ?_
      refine lv_aload_n hx hb dX9_doneTo_24 rfl (lv_at hl 0 rfl) ?_
      refine lv_iload_n hx hb dX9_doneTo_25 rfl (lv_at hl 1 rfl) ?_
      refine lv_iload_n hx hb dX9_doneTo_26 rfl (lv_at hl 3 rfl) ?_
      obtain ⟨r7, σ7, h_7, hf⟩ := z_bds hf
      refine z_goI C hs (z_runV C hs hl.1 (cM_entryAt l E hM h_7) zcV_RX9_153 (hM 100 (by decide) (by decide)) (z_c100 E _ _ _ _) rfl rfl rfl (by decide) (Nat.le_of_ble_eq_true rfl) dX9_doneTo_27) (fun H locs hs => ?_)
      obtain ⟨r8, σ8, h_8, hf⟩ := z_bds hf
      refine z_goV C hs (z_runV C hs hl.1 (cM_works l E hM h_8) zcV_RX9_163 (hM 100 (by decide) (by decide)) (z_c100 E _ _ _ _) rfl rfl rfl (by decide) (Nat.le_of_ble_eq_true rfl) dX9_doneTo_30) (fun H locs hs => ?_)
      obtain ⟨y9, e_y9⟩ : ∃ y : Int32, y = x3 + 1 := ⟨_, rfl⟩
      have hf := z_lte e_y9 hf
      refine lv_iinc (v := y9) (lv' := [(3, .int y9), (0, .ref (z_ad E (100, 0, 0))), (1, .int x1), (2, .int x2)]) hx hb dX9_doneTo_33 hl (k := 3) rfl (by rw [e_y9]; rfl) (by decide) rfl (fun ls hl => ?_)
      refine lv_goto (tgt := 10) hx hb dX9_doneTo_36 (by decide) ?_
      exact ih x1 x2 y9 σ8 _ _ _ hs (lv_sub hl [1, 2, 3, 0] rfl) hf
set_option maxHeartbeats 4000000 in
set_option maxRecDepth 20000 in
theorem wM_doneTo {x1 : Int32} {x2 : Int32} (C : z_C E RX9 cX9_doneTo 4 A p s m args meth c) (hr : meth.sig.returnType = none) (hM : z_M E) {ro : Unit} {σo : zS} (σ : zS) (H : Heap) (locs : List Loc) (ls : Array Slot) (hs : z_H E A s σ H locs) (hl : lv_has ls 4 [(0, .ref (z_ad E (100, 0, 0))), (1, .int x1), (2, .int x2)]) (hf : fM_doneTo x1 x2 σ = some (ro, σo)) : W p l e (z_rm 4) s m args below meth c H locs 0 0 (MQ below (z_QV E ro σo A) args s 0 0 A) (F0 m 0 ls []) := by
  have hx := C.1
  have hb := C.2.1
  unfold fM_doneTo at hf
  refine lv_aload_n hx hb dX9_doneTo_0 rfl (lv_at hl 0 rfl) ?_
  refine lv_iload_n hx hb dX9_doneTo_1 rfl (lv_at hl 1 rfl) ?_
  refine lv_bipush (v := 6) hx hb dX9_doneTo_2 (by decide) ?_
  obtain ⟨r1, σ1, h_1, hf⟩ := z_bds hf
  refine z_goI C hs (z_runV C hs hl.1 (cM_of l E hM h_1) zcV_RX9_146 (hM 100 (by decide) (by decide)) (z_c100 E _ _ _ _) rfl rfl rfl (by decide) (Nat.le_of_ble_eq_true rfl) dX9_doneTo_4) (fun H locs hs => ?_)
  refine lv_iconst (v := 1) hx hb dX9_doneTo_7 (by decide) ?_
  refine lv_iadd hx hb dX9_doneTo_8 ?_
  refine lv_topi (fun y2 e_y2 => ?_)
  have hf := z_lte e_y2 hf
  refine lv_istore_n (lv' := [(3, .int y2), (0, .ref (z_ad E (100, 0, 0))), (1, .int x1), (2, .int x2)]) hx hb dX9_doneTo_9 rfl hl (by decide) rfl (fun ls hl => ?_)
  exact wM_doneTo_10 C hr hM z_fu x1 x2 y2 σ1 _ _ _ hs (lv_sub hl [1, 2, 3, 0] rfl) hf
set_option maxHeartbeats 4000000 in
set_option maxRecDepth 20000 in
theorem cM_doneTo (l : Launch) (E : zE) {x1 : Int32} {x2 : Int32} (hM : z_M E) {σ σo : zS} {ro : Unit} (hf : fM_doneTo x1 x2 σ = some (ro, σo)) : z_T l E yX9_doneTo cX9_doneTo 4 none (z_rm 4) (z_QV E ro σo) [.ref (z_ad E (100, 0, 0)), .int x1, .int x2] σ :=
  z_enter (by decide) (Nat.le_of_ble_eq_true rfl) rfl (fun p e s m below meth c A ls C hr hs hl => wM_doneTo C hr hM σ _ _ ls hs hl hf)
def fM_isSure_5 : Nat → Int32 → Int32 → Int32 → Int32 → zS → Option (Int32 × zS)
  | 0, _, _, _, _, _ => none
  | n + 1, x1, x2, x3, x4, σ =>
    z_bd (fM_many σ) (fun r1 σ1 =>
    if r1 ≤ x4 then
      (z_bd (fM_most σ1) (fun r3 σ3 =>
      if x3 < r3 then
        (some (0, σ3))
      else
        (some (1, σ3))))
    else
      (z_bd (fM_isVoter x4 σ1) (fun r5 σ5 =>
      if r5 = 0 then
        (z_let (x3 + 0) (fun y7 =>
        z_let (x4 + 1) (fun y8 =>
        fM_isSure_5 n x1 x2 y7 y8 σ5)))
      else
        (if x4 = x1 then
          (z_let (x3 + 1) (fun y10 =>
          z_let (x4 + 1) (fun y11 =>
          fM_isSure_5 n x1 x2 y10 y11 σ5)))
        else
          (z_bd (fM_of x1 (57 + x4) σ5) (fun r12 σ12 =>
          if r12 < x2 then
            (z_let (x3 + 0) (fun y14 =>
            z_let (x4 + 1) (fun y15 =>
            fM_isSure_5 n x1 x2 y14 y15 σ12)))
          else
            (z_let (x3 + 1) (fun y16 =>
            z_let (x4 + 1) (fun y17 =>
            fM_isSure_5 n x1 x2 y16 y17 σ12)))))))))
def fM_isSure (x1 : Int32) (x2 : Int32) (σ : zS) : Option (Int32 × zS) :=
  fM_isSure_5 z_fu x1 x2 0 0 σ
set_option maxHeartbeats 4000000 in
set_option maxRecDepth 20000 in
theorem wM_isSure_5 (C : z_C E RX9 cX9_isSure 5 A p s m args meth c) (hr : meth.sig.returnType = (some .boolean)) (hM : z_M E) {ro : Int32} {σo : zS} (n : Nat) : ∀ (x1 : Int32) (x2 : Int32) (x3 : Int32) (x4 : Int32) (σ : zS) (H : Heap) (locs : List Loc) (ls : Array Slot), z_H E A s σ H locs → lv_has ls 5 [(0, .ref (z_ad E (100, 0, 0))), (1, .int x1), (2, .int x2), (3, .int x3), (4, .int x4)] → fM_isSure_5 n x1 x2 x3 x4 σ = some (ro, σo) → W p l e (z_rm 4) s m args below meth c H locs 0 0 (MQ below (z_QI E ro σo A) args s 0 0 A) (F0 m 5 ls []) := by
  induction n with
  | zero =>
    intro x1 x2 x3 x4 σ H locs ls hs hl hf
    have hf : none = some (ro, σo) := hf
    cases hf
  | succ n ih =>
    intro x1 x2 x3 x4 σ H locs ls hs hl hf
    have hx := C.1
    have hb := C.2.1
    rw [fM_isSure_5.eq_2] at hf
    refine lv_iload hx hb dX9_isSure_5 (lv_at hl 4 rfl) ?_
    refine lv_aload_n hx hb dX9_isSure_7 rfl (lv_at hl 0 rfl) ?_
    obtain ⟨r1, σ1, h_1, hf⟩ := z_bds hf
    refine z_goI C hs (z_runV C hs hl.1 (cM_many l E hM h_1) zcV_RX9_128 (hM 100 (by decide) (by decide)) (z_c100 E _ _ _ _) rfl rfl rfl (by decide) (Nat.le_of_ble_eq_true rfl) dX9_isSure_8) (fun H locs hs => ?_)
    refine lv_icmp_ge (tgt := 57) hx hb dX9_isSure_11 (by decide) (fun c2 => ?_) (fun c2 => ?_)
    · have hf := z_t hf c2
      refine lv_iload_n hx hb dX9_isSure_57 rfl (lv_at hl 3 rfl) ?_
      refine lv_aload_n hx hb dX9_isSure_58 rfl (lv_at hl 0 rfl) ?_
      obtain ⟨r3, σ3, h_3, hf⟩ := z_bds hf
      refine z_goI C hs (z_runV C hs hl.1 (cM_most l E hM h_3) zcV_RX9_169 (hM 100 (by decide) (by decide)) (z_c100 E _ _ _ _) rfl rfl rfl (by decide) (Nat.le_of_ble_eq_true rfl) dX9_isSure_59) (fun H locs hs => ?_)
      refine lv_icmp_lt (tgt := 69) hx hb dX9_isSure_62 (by decide) (fun c4 => ?_) (fun c4 => ?_)
      · have hf := z_t hf c4
        refine lv_iconst (v := 0) hx hb dX9_isSure_69 (by decide) ?_
        exact z_retz C hr hs (by decide +kernel) hf dX9_isSure_70
      · have hf := z_f hf c4
        refine lv_iconst (v := 1) hx hb dX9_isSure_65 (by decide) ?_
        refine lv_goto (tgt := 70) hx hb dX9_isSure_66 (by decide) ?_
        exact z_retz C hr hs (by decide +kernel) hf dX9_isSure_70
    · have hf := z_f hf c2
      refine lv_iload_n hx hb dX9_isSure_14 rfl (lv_at hl 3 rfl) ?_
      refine lv_aload_n hx hb dX9_isSure_15 rfl (lv_at hl 0 rfl) ?_
      refine lv_iload hx hb dX9_isSure_16 (lv_at hl 4 rfl) ?_
      obtain ⟨r5, σ5, h_5, hf⟩ := z_bds hf
      refine z_goI C hs (z_runV C hs hl.1 (cM_isVoter l E hM h_5) zcV_RX9_166 (hM 100 (by decide) (by decide)) (z_c100 E _ _ _ _) rfl rfl rfl (by decide) (Nat.le_of_ble_eq_true rfl) dX9_isSure_18) (fun H locs hs => ?_)
      refine lv_if_eq (tgt := 48) hx hb dX9_isSure_21 (by decide) (fun c6 => ?_) (fun c6 => ?_)
      · have hf := z_t hf c6
        refine lv_iconst (v := 0) hx hb dX9_isSure_48 (by decide) ?_
        refine lv_iadd hx hb dX9_isSure_49 ?_
        refine lv_topi (fun y7 e_y7 => ?_)
        have hf := z_lte e_y7 hf
        refine lv_istore_n (lv' := [(3, .int y7), (0, .ref (z_ad E (100, 0, 0))), (1, .int x1), (2, .int x2), (4, .int x4)]) hx hb dX9_isSure_50 rfl hl (by decide) rfl (fun ls hl => ?_)
        obtain ⟨y8, e_y8⟩ : ∃ y : Int32, y = x4 + 1 := ⟨_, rfl⟩
        have hf := z_lte e_y8 hf
        refine lv_iinc (v := y8) (lv' := [(4, .int y8), (3, .int y7), (0, .ref (z_ad E (100, 0, 0))), (1, .int x1), (2, .int x2)]) hx hb dX9_isSure_51 hl (k := 4) rfl (by rw [e_y8]; rfl) (by decide) rfl (fun ls hl => ?_)
        refine lv_goto (tgt := 5) hx hb dX9_isSure_54 (by decide) ?_
        exact ih x1 x2 y7 y8 σ5 _ _ _ hs (lv_sub hl [2, 3, 4, 1, 0] rfl) hf
      · have hf := z_f hf c6
        refine lv_iload hx hb dX9_isSure_24 (lv_at hl 4 rfl) ?_
        refine lv_iload_n hx hb dX9_isSure_26 rfl (lv_at hl 1 rfl) ?_
        refine lv_icmp_eq (tgt := 44) hx hb dX9_isSure_27 (by decide) (fun c9 => ?_) (fun c9 => ?_)
        · have hf := z_t hf c9
          refine lv_iconst (v := 1) hx hb dX9_isSure_44 (by decide) ?_
          refine lv_goto (tgt := 49) hx hb dX9_isSure_45 (by decide) ?_
          refine lv_iadd hx hb dX9_isSure_49 ?_
          refine lv_topi (fun y10 e_y10 => ?_)
          have hf := z_lte e_y10 hf
          refine lv_istore_n (lv' := [(3, .int y10), (0, .ref (z_ad E (100, 0, 0))), (1, .int x1), (2, .int x2), (4, .int x4)]) hx hb dX9_isSure_50 rfl hl (by decide) rfl (fun ls hl => ?_)
          obtain ⟨y11, e_y11⟩ : ∃ y : Int32, y = x4 + 1 := ⟨_, rfl⟩
          have hf := z_lte e_y11 hf
          refine lv_iinc (v := y11) (lv' := [(4, .int y11), (3, .int y10), (0, .ref (z_ad E (100, 0, 0))), (1, .int x1), (2, .int x2)]) hx hb dX9_isSure_51 hl (k := 4) rfl (by rw [e_y11]; rfl) (by decide) rfl (fun ls hl => ?_)
          refine lv_goto (tgt := 5) hx hb dX9_isSure_54 (by decide) ?_
          exact ih x1 x2 y10 y11 σ5 _ _ _ hs (lv_sub hl [2, 3, 4, 1, 0] rfl) hf
        · have hf := z_f hf c9
          refine lv_aload_n hx hb dX9_isSure_30 rfl (lv_at hl 0 rfl) ?_
          refine lv_iload_n hx hb dX9_isSure_31 rfl (lv_at hl 1 rfl) ?_
          refine lv_bipush (v := 57) hx hb dX9_isSure_32 (by decide) ?_
          refine lv_iload hx hb dX9_isSure_34 (lv_at hl 4 rfl) ?_
          refine lv_iadd hx hb dX9_isSure_36 ?_
          obtain ⟨r12, σ12, h_12, hf⟩ := z_bds hf
          refine z_goI C hs (z_runV C hs hl.1 (cM_of l E hM h_12) zcV_RX9_146 (hM 100 (by decide) (by decide)) (z_c100 E _ _ _ _) rfl rfl rfl (by decide) (Nat.le_of_ble_eq_true rfl) dX9_isSure_37) (fun H locs hs => ?_)
          refine lv_iload_n hx hb dX9_isSure_40 rfl (lv_at hl 2 rfl) ?_
          refine lv_icmp_lt (tgt := 48) hx hb dX9_isSure_41 (by decide) (fun c13 => ?_) (fun c13 => ?_)
          · have hf := z_t hf c13
            refine lv_iconst (v := 0) hx hb dX9_isSure_48 (by decide) ?_
            refine lv_iadd hx hb dX9_isSure_49 ?_
            refine lv_topi (fun y14 e_y14 => ?_)
            have hf := z_lte e_y14 hf
            refine lv_istore_n (lv' := [(3, .int y14), (0, .ref (z_ad E (100, 0, 0))), (1, .int x1), (2, .int x2), (4, .int x4)]) hx hb dX9_isSure_50 rfl hl (by decide) rfl (fun ls hl => ?_)
            obtain ⟨y15, e_y15⟩ : ∃ y : Int32, y = x4 + 1 := ⟨_, rfl⟩
            have hf := z_lte e_y15 hf
            refine lv_iinc (v := y15) (lv' := [(4, .int y15), (3, .int y14), (0, .ref (z_ad E (100, 0, 0))), (1, .int x1), (2, .int x2)]) hx hb dX9_isSure_51 hl (k := 4) rfl (by rw [e_y15]; rfl) (by decide) rfl (fun ls hl => ?_)
            refine lv_goto (tgt := 5) hx hb dX9_isSure_54 (by decide) ?_
            exact ih x1 x2 y14 y15 σ12 _ _ _ hs (lv_sub hl [2, 3, 4, 1, 0] rfl) hf
          · have hf := z_f hf c13
            refine lv_iconst (v := 1) hx hb dX9_isSure_44 (by decide) ?_
            refine lv_goto (tgt := 49) hx hb dX9_isSure_45 (by decide) ?_
            refine lv_iadd hx hb dX9_isSure_49 ?_
            refine lv_topi (fun y16 e_y16 => ?_)
            have hf := z_lte e_y16 hf
            refine lv_istore_n (lv' := [(3, .int y16), (0, .ref (z_ad E (100, 0, 0))), (1, .int x1), (2, .int x2), (4, .int x4)]) hx hb dX9_isSure_50 rfl hl (by decide) rfl (fun ls hl => ?_)
            obtain ⟨y17, e_y17⟩ : ∃ y : Int32, y = x4 + 1 := ⟨_, rfl⟩
            have hf := z_lte e_y17 hf
            refine lv_iinc (v := y17) (lv' := [(4, .int y17), (3, .int y16), (0, .ref (z_ad E (100, 0, 0))), (1, .int x1), (2, .int x2)]) hx hb dX9_isSure_51 hl (k := 4) rfl (by rw [e_y17]; rfl) (by decide) rfl (fun ls hl => ?_)
            refine lv_goto (tgt := 5) hx hb dX9_isSure_54 (by decide) ?_
            exact ih x1 x2 y16 y17 σ12 _ _ _ hs (lv_sub hl [2, 3, 4, 1, 0] rfl) hf
set_option maxHeartbeats 4000000 in
set_option maxRecDepth 20000 in
theorem wM_isSure {x1 : Int32} {x2 : Int32} (C : z_C E RX9 cX9_isSure 5 A p s m args meth c) (hr : meth.sig.returnType = (some .boolean)) (hM : z_M E) {ro : Int32} {σo : zS} (σ : zS) (H : Heap) (locs : List Loc) (ls : Array Slot) (hs : z_H E A s σ H locs) (hl : lv_has ls 5 [(0, .ref (z_ad E (100, 0, 0))), (1, .int x1), (2, .int x2)]) (hf : fM_isSure x1 x2 σ = some (ro, σo)) : W p l e (z_rm 4) s m args below meth c H locs 0 0 (MQ below (z_QI E ro σo A) args s 0 0 A) (F0 m 0 ls []) := by
  have hx := C.1
  have hb := C.2.1
  unfold fM_isSure at hf
  refine lv_iconst (v := 0) hx hb dX9_isSure_0 (by decide) ?_
  refine lv_istore_n (lv' := [(3, .int 0), (0, .ref (z_ad E (100, 0, 0))), (1, .int x1), (2, .int x2)]) hx hb dX9_isSure_1 rfl hl (by decide) rfl (fun ls hl => ?_)
  refine lv_iconst (v := 0) hx hb dX9_isSure_2 (by decide) ?_
  refine lv_istore (lv' := [(4, .int 0), (3, .int 0), (0, .ref (z_ad E (100, 0, 0))), (1, .int x1), (2, .int x2)]) hx hb dX9_isSure_3 hl (by decide) rfl (fun ls hl => ?_)
  exact wM_isSure_5 C hr hM z_fu x1 x2 0 0 σ _ _ _ hs (lv_sub hl [2, 3, 4, 1, 0] rfl) hf
set_option maxHeartbeats 4000000 in
set_option maxRecDepth 20000 in
theorem cM_isSure (l : Launch) (E : zE) {x1 : Int32} {x2 : Int32} (hM : z_M E) {σ σo : zS} {ro : Int32} (hf : fM_isSure x1 x2 σ = some (ro, σo)) : z_T l E yX9_isSure cX9_isSure 5 (some .boolean) (z_rm 4) (z_QI E ro σo) [.ref (z_ad E (100, 0, 0)), .int x1, .int x2] σ :=
  z_enter (by decide) (Nat.le_of_ble_eq_true rfl) rfl (fun p e s m below meth c A ls C hr hs hl => wM_isSure C hr hM σ _ _ ls hs hl hf)
def fM_settles_18 : Nat → Int32 → Int32 → zS → Option (Unit × zS)
  | 0, _, _, _ => none
  | n + 1, x1, x2, σ =>
    z_bd (fM_of x1 6 σ) (fun r4 σ4 =>
    if x2 ≤ r4 then
      (some ((), σ4))
    else
      (z_bd (fM_termOf x1 x2 σ4) (fun r6 σ6 =>
      z_bd (fM_of x1 0 σ6) (fun r7 σ7 =>
      if r6 = r7 then
        (z_bd (fM_isSure x1 x2 σ7) (fun r10 σ10 =>
        if r10 = 0 then
          (z_let (x2 + (-1)) (fun y13 =>
          fM_settles_18 n x1 y13 σ10))
        else
          (z_bd (fM_doneTo x1 x2 σ10) (fun _ σ12 =>
          some ((), σ12)))))
      else
        (z_let (x2 + (-1)) (fun y9 =>
        fM_settles_18 n x1 y9 σ7))))))
def fM_settles (x1 : Int32) (σ : zS) : Option (Unit × zS) :=
  z_bd (fM_of x1 5 σ) (fun r1 σ1 =>
  if r1 = 2 then
    (z_bd (fM_of x1 4 σ1) (fun r3 σ3 =>
    fM_settles_18 z_fu x1 r3 σ3))
  else
    (some ((), σ1)))
set_option maxHeartbeats 4000000 in
set_option maxRecDepth 20000 in
theorem wM_settles_18 (C : z_C E RX9 cX9_settles 3 A p s m args meth c) (hr : meth.sig.returnType = none) (hM : z_M E) {ro : Unit} {σo : zS} (n : Nat) : ∀ (x1 : Int32) (x2 : Int32) (σ : zS) (H : Heap) (locs : List Loc) (ls : Array Slot), z_H E A s σ H locs → lv_has ls 3 [(0, .ref (z_ad E (100, 0, 0))), (1, .int x1), (2, .int x2)] → fM_settles_18 n x1 x2 σ = some (ro, σo) → W p l e (z_rm 5) s m args below meth c H locs 0 0 (MQ below (z_QV E ro σo A) args s 0 0 A) (F0 m 18 ls []) := by
  induction n with
  | zero =>
    intro x1 x2 σ H locs ls hs hl hf
    have hf : none = some (ro, σo) := hf
    cases hf
  | succ n ih =>
    intro x1 x2 σ H locs ls hs hl hf
    have hx := C.1
    have hb := C.2.1
    rw [fM_settles_18.eq_2] at hf
    refine lv_iload_n hx hb dX9_settles_18 rfl (lv_at hl 2 rfl) ?_
    refine lv_aload_n hx hb dX9_settles_19 rfl (lv_at hl 0 rfl) ?_
    refine lv_iload_n hx hb dX9_settles_20 rfl (lv_at hl 1 rfl) ?_
    refine lv_bipush (v := 6) hx hb dX9_settles_21 (by decide) ?_
    obtain ⟨r4, σ4, h_4, hf⟩ := z_bds hf
    refine z_goI C hs (z_runV C hs hl.1 (cM_of l E hM h_4) zcV_RX9_146 (hM 100 (by decide) (by decide)) (z_c100 E _ _ _ _) rfl rfl rfl (by decide) (Nat.le_of_ble_eq_true rfl) dX9_settles_23) (fun H locs hs => ?_)
    refine lv_icmp_le (tgt := 69) hx hb dX9_settles_26 (by decide) (fun c5 => ?_) (fun c5 => ?_)
    · have hf := z_t hf c5
      exact z_retv C hr hs hf dX9_settles_69
    · have hf := z_f hf c5
      refine lv_aload_n hx hb dX9_settles_29 rfl (lv_at hl 0 rfl) ?_
      refine lv_iload_n hx hb dX9_settles_30 rfl (lv_at hl 1 rfl) ?_
      refine lv_iload_n hx hb dX9_settles_31 rfl (lv_at hl 2 rfl) ?_
      obtain ⟨r6, σ6, h_6, hf⟩ := z_bds hf
      refine z_goI C hs (z_runV C hs hl.1 (cM_termOf l E hM h_6) zcV_RX9_172 (hM 100 (by decide) (by decide)) (z_c100 E _ _ _ _) rfl rfl rfl (by decide) (Nat.le_of_ble_eq_true rfl) dX9_settles_32) (fun H locs hs => ?_)
      refine lv_aload_n hx hb dX9_settles_35 rfl (lv_at hl 0 rfl) ?_
      refine lv_iload_n hx hb dX9_settles_36 rfl (lv_at hl 1 rfl) ?_
      refine lv_iconst (v := 0) hx hb dX9_settles_37 (by decide) ?_
      obtain ⟨r7, σ7, h_7, hf⟩ := z_bds hf
      refine z_goI C hs (z_runV C hs hl.1 (cM_of l E hM h_7) zcV_RX9_146 (hM 100 (by decide) (by decide)) (z_c100 E _ _ _ _) rfl rfl rfl (by decide) (Nat.le_of_ble_eq_true rfl) dX9_settles_38) (fun H locs hs => ?_)
      refine lv_icmp_ne (tgt := 63) hx hb dX9_settles_41 (by decide) (fun c8 => ?_) (fun c8 => ?_)
      · have hf := z_f hf c8
        obtain ⟨y9, e_y9⟩ : ∃ y : Int32, y = x2 + (-1) := ⟨_, rfl⟩
        have hf := z_lte e_y9 hf
        refine lv_iinc (v := y9) (lv' := [(2, .int y9), (0, .ref (z_ad E (100, 0, 0))), (1, .int x1)]) hx hb dX9_settles_63 hl (k := 2) rfl (by rw [e_y9]; rfl) (by decide) rfl (fun ls hl => ?_)
        refine lv_goto (tgt := 18) hx hb dX9_settles_66 (by decide) ?_
        exact ih x1 y9 σ7 _ _ _ hs (lv_sub hl [1, 2, 0] rfl) hf
      · have hf := z_t hf c8
        refine lv_aload_n hx hb dX9_settles_44 rfl (lv_at hl 0 rfl) ?_
        refine lv_iload_n hx hb dX9_settles_45 rfl (lv_at hl 1 rfl) ?_
        refine lv_iload_n hx hb dX9_settles_46 rfl (lv_at hl 2 rfl) ?_
        obtain ⟨r10, σ10, h_10, hf⟩ := z_bds hf
        refine z_goI C hs (z_runV C hs hl.1 (cM_isSure l E hM h_10) zcV_RX9_175 (hM 100 (by decide) (by decide)) (z_c100 E _ _ _ _) rfl rfl rfl (by decide) (Nat.le_of_ble_eq_true rfl) dX9_settles_47) (fun H locs hs => ?_)
        refine lv_if_ne (tgt := 56) hx hb dX9_settles_50 (by decide) (fun c11 => ?_) (fun c11 => ?_)
        · have hf := z_f hf c11
          refine lv_aload_n hx hb dX9_settles_56 rfl (lv_at hl 0 rfl) ?_
          refine lv_iload_n hx hb dX9_settles_57 rfl (lv_at hl 1 rfl) ?_
          refine lv_iload_n hx hb dX9_settles_58 rfl (lv_at hl 2 rfl) ?_
          obtain ⟨r12, σ12, h_12, hf⟩ := z_bds hf
          refine z_goV C hs (z_runV C hs hl.1 (cM_doneTo l E hM h_12) zcV_RX9_179 (hM 100 (by decide) (by decide)) (z_c100 E _ _ _ _) rfl rfl rfl (by decide) (Nat.le_of_ble_eq_true rfl) dX9_settles_59) (fun H locs hs => ?_)
          exact z_retv C hr hs hf dX9_settles_62
        · have hf := z_t hf c11
          refine lv_goto (tgt := 63) hx hb dX9_settles_53 (by decide) ?_
          obtain ⟨y13, e_y13⟩ : ∃ y : Int32, y = x2 + (-1) := ⟨_, rfl⟩
          have hf := z_lte e_y13 hf
          refine lv_iinc (v := y13) (lv' := [(2, .int y13), (0, .ref (z_ad E (100, 0, 0))), (1, .int x1)]) hx hb dX9_settles_63 hl (k := 2) rfl (by rw [e_y13]; rfl) (by decide) rfl (fun ls hl => ?_)
          refine lv_goto (tgt := 18) hx hb dX9_settles_66 (by decide) ?_
          exact ih x1 y13 σ10 _ _ _ hs (lv_sub hl [1, 2, 0] rfl) hf
set_option maxHeartbeats 4000000 in
set_option maxRecDepth 20000 in
theorem wM_settles {x1 : Int32} (C : z_C E RX9 cX9_settles 3 A p s m args meth c) (hr : meth.sig.returnType = none) (hM : z_M E) {ro : Unit} {σo : zS} (σ : zS) (H : Heap) (locs : List Loc) (ls : Array Slot) (hs : z_H E A s σ H locs) (hl : lv_has ls 3 [(0, .ref (z_ad E (100, 0, 0))), (1, .int x1)]) (hf : fM_settles x1 σ = some (ro, σo)) : W p l e (z_rm 5) s m args below meth c H locs 0 0 (MQ below (z_QV E ro σo A) args s 0 0 A) (F0 m 0 ls []) := by
  have hx := C.1
  have hb := C.2.1
  unfold fM_settles at hf
  refine lv_aload_n hx hb dX9_settles_0 rfl (lv_at hl 0 rfl) ?_
  refine lv_iload_n hx hb dX9_settles_1 rfl (lv_at hl 1 rfl) ?_
  refine lv_iconst (v := 5) hx hb dX9_settles_2 (by decide) ?_
  obtain ⟨r1, σ1, h_1, hf⟩ := z_bds hf
  refine z_goI C hs (z_runV C hs hl.1 (cM_of l E hM h_1) zcV_RX9_146 (hM 100 (by decide) (by decide)) (z_c100 E _ _ _ _) rfl rfl rfl (by decide) (Nat.le_of_ble_eq_true rfl) dX9_settles_3) (fun H locs hs => ?_)
  refine lv_iconst (v := 2) hx hb dX9_settles_6 (by decide) ?_
  refine lv_icmp_eq (tgt := 11) hx hb dX9_settles_7 (by decide) (fun c2 => ?_) (fun c2 => ?_)
  · have hf := z_t hf c2
    refine lv_aload_n hx hb dX9_settles_11 rfl (lv_at hl 0 rfl) ?_
    refine lv_iload_n hx hb dX9_settles_12 rfl (lv_at hl 1 rfl) ?_
    refine lv_iconst (v := 4) hx hb dX9_settles_13 (by decide) ?_
    obtain ⟨r3, σ3, h_3, hf⟩ := z_bds hf
    refine z_goI C hs (z_runV C hs hl.1 (cM_of l E hM h_3) zcV_RX9_146 (hM 100 (by decide) (by decide)) (z_c100 E _ _ _ _) rfl rfl rfl (by decide) (Nat.le_of_ble_eq_true rfl) dX9_settles_14) (fun H locs hs => ?_)
    refine lv_istore_n (lv' := [(2, .int r3), (0, .ref (z_ad E (100, 0, 0))), (1, .int x1)]) hx hb dX9_settles_17 rfl hl (by decide) rfl (fun ls hl => ?_)
    exact wM_settles_18 C hr hM z_fu x1 r3 σ3 _ _ _ hs (lv_sub hl [1, 2, 0] rfl) hf
  · have hf := z_f hf c2
    exact z_retv C hr hs hf dX9_settles_10
set_option maxHeartbeats 4000000 in
set_option maxRecDepth 20000 in
theorem cM_settles (l : Launch) (E : zE) {x1 : Int32} (hM : z_M E) {σ σo : zS} {ro : Unit} (hf : fM_settles x1 σ = some (ro, σo)) : z_T l E yX9_settles cX9_settles 3 none (z_rm 5) (z_QV E ro σo) [.ref (z_ad E (100, 0, 0)), .int x1] σ :=
  z_enter (by decide) (Nat.le_of_ble_eq_true rfl) rfl (fun p e s m below meth c A ls C hr hs hl => wM_settles C hr hM σ _ _ ls hs hl hf)
def fM_leads_35 : Nat → Int32 → Int32 → zS → Option (Unit × zS)
  | 0, _, _, _ => none
  | n + 1, x1, x2, σ =>
    if 7 ≤ x2 then
      (z_bd (fM_settles x1 σ) (fun _ σ8 =>
      some ((), σ8)))
    else
      (z_bd (fM_of x1 4 σ) (fun r9 σ9 =>
      z_bd (fM_put x1 (50 + x2) (r9 + 1) σ9) (fun _ σ10 =>
      z_bd (fM_put x1 (57 + x2) 0 σ10) (fun _ σ11 =>
      z_bd (fM_put x1 (64 + x2) 0 σ11) (fun _ σ12 =>
      z_let (x2 + 1) (fun y13 =>
      fM_leads_35 n x1 y13 σ12))))))
def fM_leads (x1 : Int32) (σ : zS) : Option (Unit × zS) :=
  z_bd (fM_of x1 7 σ) (fun r1 σ1 =>
  z_bd (fM_bitsOf r1 σ1) (fun r2 σ2 =>
  z_bd (fM_most σ2) (fun r3 σ3 =>
  if r3 ≤ r2 then
    (z_bd (fM_put x1 5 2 σ3) (fun _ σ5 =>
    z_bd (fM_put x1 8 0 σ5) (fun _ σ6 =>
    fM_leads_35 z_fu x1 0 σ6)))
  else
    (some ((), σ3)))))
set_option maxHeartbeats 4000000 in
set_option maxRecDepth 20000 in
theorem wM_leads_35 (C : z_C E RX9 cX9_leads 3 A p s m args meth c) (hr : meth.sig.returnType = none) (hM : z_M E) {ro : Unit} {σo : zS} (n : Nat) : ∀ (x1 : Int32) (x2 : Int32) (σ : zS) (H : Heap) (locs : List Loc) (ls : Array Slot), z_H E A s σ H locs → lv_has ls 3 [(0, .ref (z_ad E (100, 0, 0))), (1, .int x1), (2, .int x2)] → fM_leads_35 n x1 x2 σ = some (ro, σo) → W p l e (z_rm 6) s m args below meth c H locs 0 0 (MQ below (z_QV E ro σo A) args s 0 0 A) (F0 m 35 ls []) := by
  induction n with
  | zero =>
    intro x1 x2 σ H locs ls hs hl hf
    have hf : none = some (ro, σo) := hf
    cases hf
  | succ n ih =>
    intro x1 x2 σ H locs ls hs hl hf
    have hx := C.1
    have hb := C.2.1
    rw [fM_leads_35.eq_2] at hf
    refine lv_iload_n hx hb dX9_leads_35 rfl (lv_at hl 2 rfl) ?_
    refine lv_bipush (v := 7) hx hb dX9_leads_36 (by decide) ?_
    refine lv_icmp_ge (tgt := 84) hx hb dX9_leads_38 (by decide) (fun c7 => ?_) (fun c7 => ?_)
    · have hf := z_t hf c7
      refine lv_aload_n hx hb dX9_leads_84 rfl (lv_at hl 0 rfl) ?_
      refine lv_iload_n hx hb dX9_leads_85 rfl (lv_at hl 1 rfl) ?_
      obtain ⟨r8, σ8, h_8, hf⟩ := z_bds hf
      refine z_goV C hs (z_runV C hs hl.1 (cM_settles l E hM h_8) zcV_RX9_182 (hM 100 (by decide) (by decide)) (z_c100 E _ _ _ _) rfl rfl rfl (by decide) (Nat.le_of_ble_eq_true rfl) dX9_leads_86) (fun H locs hs => ?_)
      exact z_retv C hr hs hf dX9_leads_89
    · have hf := z_f hf c7
      refine lv_aload_n hx hb dX9_leads_41 rfl (lv_at hl 0 rfl) ?_
      refine lv_iload_n hx hb dX9_leads_42 rfl (lv_at hl 1 rfl) ?_
      refine lv_bipush (v := 50) hx hb dX9_leads_43 (by decide) ?_
      refine lv_iload_n hx hb dX9_leads_45 rfl (lv_at hl 2 rfl) ?_
      refine lv_iadd hx hb dX9_leads_46 ?_
      refine lv_aload_n hx hb dX9_leads_47 rfl (lv_at hl 0 rfl) ?_
      refine lv_iload_n hx hb dX9_leads_48 rfl (lv_at hl 1 rfl) ?_
      refine lv_iconst (v := 4) hx hb dX9_leads_49 (by decide) ?_
      obtain ⟨r9, σ9, h_9, hf⟩ := z_bds hf
      refine z_goI C hs (z_runV C hs hl.1 (cM_of l E hM h_9) zcV_RX9_146 (hM 100 (by decide) (by decide)) (z_c100 E _ _ _ _) rfl rfl rfl (by decide) (Nat.le_of_ble_eq_true rfl) dX9_leads_50) (fun H locs hs => ?_)
      refine lv_iconst (v := 1) hx hb dX9_leads_53 (by decide) ?_
      refine lv_iadd hx hb dX9_leads_54 ?_
      obtain ⟨r10, σ10, h_10, hf⟩ := z_bds hf
      refine z_goV C hs (z_runV C hs hl.1 (cM_put l E hM h_10) zcV_RX9_139 (hM 100 (by decide) (by decide)) (z_c100 E _ _ _ _) rfl rfl rfl (by decide) (Nat.le_of_ble_eq_true rfl) dX9_leads_55) (fun H locs hs => ?_)
      refine lv_aload_n hx hb dX9_leads_58 rfl (lv_at hl 0 rfl) ?_
      refine lv_iload_n hx hb dX9_leads_59 rfl (lv_at hl 1 rfl) ?_
      refine lv_bipush (v := 57) hx hb dX9_leads_60 (by decide) ?_
      refine lv_iload_n hx hb dX9_leads_62 rfl (lv_at hl 2 rfl) ?_
      refine lv_iadd hx hb dX9_leads_63 ?_
      refine lv_iconst (v := 0) hx hb dX9_leads_64 (by decide) ?_
      obtain ⟨r11, σ11, h_11, hf⟩ := z_bds hf
      refine z_goV C hs (z_runV C hs hl.1 (cM_put l E hM h_11) zcV_RX9_139 (hM 100 (by decide) (by decide)) (z_c100 E _ _ _ _) rfl rfl rfl (by decide) (Nat.le_of_ble_eq_true rfl) dX9_leads_65) (fun H locs hs => ?_)
      refine lv_aload_n hx hb dX9_leads_68 rfl (lv_at hl 0 rfl) ?_
      refine lv_iload_n hx hb dX9_leads_69 rfl (lv_at hl 1 rfl) ?_
      refine lv_bipush (v := 64) hx hb dX9_leads_70 (by decide) ?_
      refine lv_iload_n hx hb dX9_leads_72 rfl (lv_at hl 2 rfl) ?_
      refine lv_iadd hx hb dX9_leads_73 ?_
      refine lv_iconst (v := 0) hx hb dX9_leads_74 (by decide) ?_
      obtain ⟨r12, σ12, h_12, hf⟩ := z_bds hf
      refine z_goV C hs (z_runV C hs hl.1 (cM_put l E hM h_12) zcV_RX9_139 (hM 100 (by decide) (by decide)) (z_c100 E _ _ _ _) rfl rfl rfl (by decide) (Nat.le_of_ble_eq_true rfl) dX9_leads_75) (fun H locs hs => ?_)
      obtain ⟨y13, e_y13⟩ : ∃ y : Int32, y = x2 + 1 := ⟨_, rfl⟩
      have hf := z_lte e_y13 hf
      refine lv_iinc (v := y13) (lv' := [(2, .int y13), (0, .ref (z_ad E (100, 0, 0))), (1, .int x1)]) hx hb dX9_leads_78 hl (k := 2) rfl (by rw [e_y13]; rfl) (by decide) rfl (fun ls hl => ?_)
      refine lv_goto (tgt := 35) hx hb dX9_leads_81 (by decide) ?_
      exact ih x1 y13 σ12 _ _ _ hs (lv_sub hl [1, 2, 0] rfl) hf
set_option maxHeartbeats 4000000 in
set_option maxRecDepth 20000 in
theorem wM_leads {x1 : Int32} (C : z_C E RX9 cX9_leads 3 A p s m args meth c) (hr : meth.sig.returnType = none) (hM : z_M E) {ro : Unit} {σo : zS} (σ : zS) (H : Heap) (locs : List Loc) (ls : Array Slot) (hs : z_H E A s σ H locs) (hl : lv_has ls 3 [(0, .ref (z_ad E (100, 0, 0))), (1, .int x1)]) (hf : fM_leads x1 σ = some (ro, σo)) : W p l e (z_rm 6) s m args below meth c H locs 0 0 (MQ below (z_QV E ro σo A) args s 0 0 A) (F0 m 0 ls []) := by
  have hx := C.1
  have hb := C.2.1
  unfold fM_leads at hf
  refine lv_aload_n hx hb dX9_leads_0 rfl (lv_at hl 0 rfl) ?_
  refine lv_iload_n hx hb dX9_leads_1 rfl (lv_at hl 1 rfl) ?_
  refine lv_bipush (v := 7) hx hb dX9_leads_2 (by decide) ?_
  obtain ⟨r1, σ1, h_1, hf⟩ := z_bds hf
  refine z_goI C hs (z_runV C hs hl.1 (cM_of l E hM h_1) zcV_RX9_146 (hM 100 (by decide) (by decide)) (z_c100 E _ _ _ _) rfl rfl rfl (by decide) (Nat.le_of_ble_eq_true rfl) dX9_leads_4) (fun H locs hs => ?_)
  obtain ⟨r2, σ2, h_2, hf⟩ := z_bds hf
  refine z_goI C hs (z_runS C hs hl.1 (cM_bitsOf l E h_2) zcS_RX9_122 rfl rfl rfl (by decide) (Nat.le_of_ble_eq_true rfl) dX9_leads_7) (fun H locs hs => ?_)
  refine lv_aload_n hx hb dX9_leads_10 rfl (lv_at hl 0 rfl) ?_
  obtain ⟨r3, σ3, h_3, hf⟩ := z_bds hf
  refine z_goI C hs (z_runV C hs hl.1 (cM_most l E hM h_3) zcV_RX9_169 (hM 100 (by decide) (by decide)) (z_c100 E _ _ _ _) rfl rfl rfl (by decide) (Nat.le_of_ble_eq_true rfl) dX9_leads_11) (fun H locs hs => ?_)
  refine lv_icmp_ge (tgt := 18) hx hb dX9_leads_14 (by decide) (fun c4 => ?_) (fun c4 => ?_)
  · have hf := z_t hf c4
    refine lv_aload_n hx hb dX9_leads_18 rfl (lv_at hl 0 rfl) ?_
    refine lv_iload_n hx hb dX9_leads_19 rfl (lv_at hl 1 rfl) ?_
    refine lv_iconst (v := 5) hx hb dX9_leads_20 (by decide) ?_
    refine lv_iconst (v := 2) hx hb dX9_leads_21 (by decide) ?_
    obtain ⟨r5, σ5, h_5, hf⟩ := z_bds hf
    refine z_goV C hs (z_runV C hs hl.1 (cM_put l E hM h_5) zcV_RX9_139 (hM 100 (by decide) (by decide)) (z_c100 E _ _ _ _) rfl rfl rfl (by decide) (Nat.le_of_ble_eq_true rfl) dX9_leads_22) (fun H locs hs => ?_)
    refine lv_aload_n hx hb dX9_leads_25 rfl (lv_at hl 0 rfl) ?_
    refine lv_iload_n hx hb dX9_leads_26 rfl (lv_at hl 1 rfl) ?_
    refine lv_bipush (v := 8) hx hb dX9_leads_27 (by decide) ?_
    refine lv_iconst (v := 0) hx hb dX9_leads_29 (by decide) ?_
    obtain ⟨r6, σ6, h_6, hf⟩ := z_bds hf
    refine z_goV C hs (z_runV C hs hl.1 (cM_put l E hM h_6) zcV_RX9_139 (hM 100 (by decide) (by decide)) (z_c100 E _ _ _ _) rfl rfl rfl (by decide) (Nat.le_of_ble_eq_true rfl) dX9_leads_30) (fun H locs hs => ?_)
    refine lv_iconst (v := 0) hx hb dX9_leads_33 (by decide) ?_
    refine lv_istore_n (lv' := [(2, .int 0), (0, .ref (z_ad E (100, 0, 0))), (1, .int x1)]) hx hb dX9_leads_34 rfl hl (by decide) rfl (fun ls hl => ?_)
    exact wM_leads_35 C hr hM z_fu x1 0 σ6 _ _ _ hs (lv_sub hl [1, 2, 0] rfl) hf
  · have hf := z_f hf c4
    exact z_retv C hr hs hf dX9_leads_17
set_option maxHeartbeats 4000000 in
set_option maxRecDepth 20000 in
theorem cM_leads (l : Launch) (E : zE) {x1 : Int32} (hM : z_M E) {σ σo : zS} {ro : Unit} (hf : fM_leads x1 σ = some (ro, σo)) : z_T l E yX9_leads cX9_leads 3 none (z_rm 6) (z_QV E ro σo) [.ref (z_ad E (100, 0, 0)), .int x1] σ :=
  z_enter (by decide) (Nat.le_of_ble_eq_true rfl) rfl (fun p e s m below meth c A ls C hr hs hl => wM_leads C hr hM σ _ _ ls hs hl hf)
def fM_slotOf (x1 : Int32) (x2 : Int32) (σ : zS) : Option (Int32 × zS) :=
  if z_in ((2240 + (64 * x1)) + x2) 5000 = true then (
  some (σ.1 (103, 0, 0) ((2240 + (64 * x1)) + x2).toNatClampNeg, σ)) else none
set_option maxHeartbeats 4000000 in
set_option maxRecDepth 20000 in
theorem wM_slotOf {x1 : Int32} {x2 : Int32} (C : z_C E RX9 cX9_slotOf 3 A p s m args meth c) (hr : meth.sig.returnType = (some .int)) (hM : z_M E) {ro : Int32} {σo : zS} (σ : zS) (H : Heap) (locs : List Loc) (ls : Array Slot) (hs : z_H E A s σ H locs) (hl : lv_has ls 3 [(0, .ref (z_ad E (100, 0, 0))), (1, .int x1), (2, .int x2)]) (hf : fM_slotOf x1 x2 σ = some (ro, σo)) : W p l e (z_rm 1) s m args below meth c H locs 0 0 (MQ below (z_QI E ro σo A) args s 0 0 A) (F0 m 0 ls []) := by
  have hx := C.1
  have hb := C.2.1
  unfold fM_slotOf at hf
  refine lv_aload_n hx hb dX9_slotOf_0 rfl (lv_at hl 0 rfl) ?_
  refine zg_M_all C hs (hM 100 (by decide) (by decide)) z_k952 dX9_slotOf_1 ?_
  refine lv_sipush (v := 2240) hx hb dX9_slotOf_4 (by decide) ?_
  refine lv_bipush (v := 64) hx hb dX9_slotOf_7 (by decide) ?_
  refine lv_iload_n hx hb dX9_slotOf_9 rfl (lv_at hl 1 rfl) ?_
  refine lv_imul hx hb dX9_slotOf_10 ?_
  refine lv_iadd hx hb dX9_slotOf_11 ?_
  refine lv_iload_n hx hb dX9_slotOf_12 rfl (lv_at hl 2 rfl) ?_
  refine lv_iadd hx hb dX9_slotOf_13 ?_
  obtain ⟨g1, hf⟩ := z_gd hf
  refine z_ald C hs (hM 103 (by decide) (by decide)) (z_c103 E _ _ _ _) g1 rfl dX9_slotOf_14 ?_
  exact z_reti C hr hs hf dX9_slotOf_15
set_option maxHeartbeats 4000000 in
set_option maxRecDepth 20000 in
theorem cM_slotOf (l : Launch) (E : zE) {x1 : Int32} {x2 : Int32} (hM : z_M E) {σ σo : zS} {ro : Int32} (hf : fM_slotOf x1 x2 σ = some (ro, σo)) : z_T l E yX9_slotOf cX9_slotOf 3 (some .int) (z_rm 1) (z_QI E ro σo) [.ref (z_ad E (100, 0, 0)), .int x1, .int x2] σ :=
  z_enter (by decide) (Nat.le_of_ble_eq_true rfl) rfl (fun p e s m below meth c A ls C hr hs hl => wM_slotOf C hr hM σ _ _ ls hs hl hf)
def fM_putSlot (x1 : Int32) (x2 : Int32) (x3 : Int32) (σ : zS) : Option (Unit × zS) :=
  if z_in ((2240 + (64 * x1)) + x2) 5000 = true then (
  z_let (z_up σ (103, 0, 0) (((2240 + (64 * x1)) + x2).toNatClampNeg) x3) (fun σ2 =>
  some ((), σ2))) else none
set_option maxHeartbeats 4000000 in
set_option maxRecDepth 20000 in
theorem wM_putSlot {x1 : Int32} {x2 : Int32} {x3 : Int32} (C : z_C E RX9 cX9_putSlot 4 A p s m args meth c) (hr : meth.sig.returnType = none) (hM : z_M E) {ro : Unit} {σo : zS} (σ : zS) (H : Heap) (locs : List Loc) (ls : Array Slot) (hs : z_H E A s σ H locs) (hl : lv_has ls 4 [(0, .ref (z_ad E (100, 0, 0))), (1, .int x1), (2, .int x2), (3, .int x3)]) (hf : fM_putSlot x1 x2 x3 σ = some (ro, σo)) : W p l e (z_rm 1) s m args below meth c H locs 0 0 (MQ below (z_QV E ro σo A) args s 0 0 A) (F0 m 0 ls []) := by
  have hx := C.1
  have hb := C.2.1
  unfold fM_putSlot at hf
  refine lv_aload_n hx hb dX9_putSlot_0 rfl (lv_at hl 0 rfl) ?_
  refine zg_M_all C hs (hM 100 (by decide) (by decide)) z_k952 dX9_putSlot_1 ?_
  refine lv_sipush (v := 2240) hx hb dX9_putSlot_4 (by decide) ?_
  refine lv_bipush (v := 64) hx hb dX9_putSlot_7 (by decide) ?_
  refine lv_iload_n hx hb dX9_putSlot_9 rfl (lv_at hl 1 rfl) ?_
  refine lv_imul hx hb dX9_putSlot_10 ?_
  refine lv_iadd hx hb dX9_putSlot_11 ?_
  refine lv_iload_n hx hb dX9_putSlot_12 rfl (lv_at hl 2 rfl) ?_
  refine lv_iadd hx hb dX9_putSlot_13 ?_
  refine lv_iload_n hx hb dX9_putSlot_14 rfl (lv_at hl 3 rfl) ?_
  obtain ⟨g1, hf⟩ := z_gd hf
  refine z_ast C hs (hM 103 (by decide) (by decide)) (fun r h => z_c103 E r h _ _) g1 rfl dX9_putSlot_15 (fun H locs hs => ?_)
  obtain ⟨σ2, -, hs, hf⟩ := z_top hs hf
  exact z_retv C hr hs hf dX9_putSlot_16
set_option maxHeartbeats 4000000 in
set_option maxRecDepth 20000 in
theorem cM_putSlot (l : Launch) (E : zE) {x1 : Int32} {x2 : Int32} {x3 : Int32} (hM : z_M E) {σ σo : zS} {ro : Unit} (hf : fM_putSlot x1 x2 x3 σ = some (ro, σo)) : z_T l E yX9_putSlot cX9_putSlot 4 none (z_rm 1) (z_QV E ro σo) [.ref (z_ad E (100, 0, 0)), .int x1, .int x2, .int x3] σ :=
  z_enter (by decide) (Nat.le_of_ble_eq_true rfl) rfl (fun p e s m below meth c A ls C hr hs hl => wM_putSlot C hr hM σ _ _ ls hs hl hf)
def fM_hasLetter (x1 : Int32) (σ : zS) : Option (Int32 × zS) :=
  z_bd (fM_isIn x1 0 39 σ) (fun r1 σ1 =>
  if r1 = 0 then
    (some (0, σ1))
  else
    (z_bd (fM_slotOf x1 0 σ1) (fun r3 σ3 =>
    if r3 < 0 then
      (some (0, σ3))
    else
      (some (1, σ3)))))
set_option maxHeartbeats 4000000 in
set_option maxRecDepth 20000 in
theorem wM_hasLetter {x1 : Int32} (C : z_C E RX9 cX9_hasLetter 2 A p s m args meth c) (hr : meth.sig.returnType = (some .boolean)) (hM : z_M E) {ro : Int32} {σo : zS} (σ : zS) (H : Heap) (locs : List Loc) (ls : Array Slot) (hs : z_H E A s σ H locs) (hl : lv_has ls 2 [(0, .ref (z_ad E (100, 0, 0))), (1, .int x1)]) (hf : fM_hasLetter x1 σ = some (ro, σo)) : W p l e (z_rm 2) s m args below meth c H locs 0 0 (MQ below (z_QI E ro σo A) args s 0 0 A) (F0 m 0 ls []) := by
  have hx := C.1
  have hb := C.2.1
  unfold fM_hasLetter at hf
  refine lv_iload_n hx hb dX9_hasLetter_0 rfl (lv_at hl 1 rfl) ?_
  refine lv_iconst (v := 0) hx hb dX9_hasLetter_1 (by decide) ?_
  refine lv_bipush (v := 39) hx hb dX9_hasLetter_2 (by decide) ?_
  obtain ⟨r1, σ1, h_1, hf⟩ := z_bds hf
  refine z_goI C hs (z_runS C hs hl.1 (cM_isIn l E h_1) zcS_RX9_132 rfl rfl rfl (by decide) (Nat.le_of_ble_eq_true rfl) dX9_hasLetter_4) (fun H locs hs => ?_)
  refine lv_if_eq (tgt := 23) hx hb dX9_hasLetter_7 (by decide) (fun c2 => ?_) (fun c2 => ?_)
  · have hf := z_t hf c2
    refine lv_iconst (v := 0) hx hb dX9_hasLetter_23 (by decide) ?_
    exact z_retz C hr hs (by decide +kernel) hf dX9_hasLetter_24
  · have hf := z_f hf c2
    refine lv_aload_n hx hb dX9_hasLetter_10 rfl (lv_at hl 0 rfl) ?_
    refine lv_iload_n hx hb dX9_hasLetter_11 rfl (lv_at hl 1 rfl) ?_
    refine lv_iconst (v := 0) hx hb dX9_hasLetter_12 (by decide) ?_
    obtain ⟨r3, σ3, h_3, hf⟩ := z_bds hf
    refine z_goI C hs (z_runV C hs hl.1 (cM_slotOf l E hM h_3) zcV_RX9_186 (hM 100 (by decide) (by decide)) (z_c100 E _ _ _ _) rfl rfl rfl (by decide) (Nat.le_of_ble_eq_true rfl) dX9_hasLetter_13) (fun H locs hs => ?_)
    refine lv_if_lt (tgt := 23) hx hb dX9_hasLetter_16 (by decide) (fun c4 => ?_) (fun c4 => ?_)
    · have hf := z_t hf c4
      refine lv_iconst (v := 0) hx hb dX9_hasLetter_23 (by decide) ?_
      exact z_retz C hr hs (by decide +kernel) hf dX9_hasLetter_24
    · have hf := z_f hf c4
      refine lv_iconst (v := 1) hx hb dX9_hasLetter_19 (by decide) ?_
      refine lv_goto (tgt := 24) hx hb dX9_hasLetter_20 (by decide) ?_
      exact z_retz C hr hs (by decide +kernel) hf dX9_hasLetter_24
set_option maxHeartbeats 4000000 in
set_option maxRecDepth 20000 in
theorem cM_hasLetter (l : Launch) (E : zE) {x1 : Int32} (hM : z_M E) {σ σo : zS} {ro : Int32} (hf : fM_hasLetter x1 σ = some (ro, σo)) : z_T l E yX9_hasLetter cX9_hasLetter 2 (some .boolean) (z_rm 2) (z_QI E ro σo) [.ref (z_ad E (100, 0, 0)), .int x1] σ :=
  z_enter (by decide) (Nat.le_of_ble_eq_true rfl) rfl (fun p e s m below meth c A ls C hr hs hl => wM_hasLetter C hr hM σ _ _ ls hs hl hf)
def fM_empty_2 : Nat → Int32 → zS → Option (Int32 × zS)
  | 0, _, _ => none
  | n + 1, x1, σ =>
    if 40 ≤ x1 then
      (some ((-1), σ))
    else
      (z_bd (fM_slotOf x1 0 σ) (fun r2 σ2 =>
      if 0 ≤ r2 then
        (z_let (x1 + 1) (fun y4 =>
        fM_empty_2 n y4 σ2))
      else
        (some (x1, σ2))))
def fM_empty (σ : zS) : Option (Int32 × zS) :=
  fM_empty_2 z_fu 0 σ
set_option maxHeartbeats 4000000 in
set_option maxRecDepth 20000 in
theorem wM_empty_2 (C : z_C E RX9 cX9_empty 2 A p s m args meth c) (hr : meth.sig.returnType = (some .int)) (hM : z_M E) {ro : Int32} {σo : zS} (n : Nat) : ∀ (x1 : Int32) (σ : zS) (H : Heap) (locs : List Loc) (ls : Array Slot), z_H E A s σ H locs → lv_has ls 2 [(0, .ref (z_ad E (100, 0, 0))), (1, .int x1)] → fM_empty_2 n x1 σ = some (ro, σo) → W p l e (z_rm 2) s m args below meth c H locs 0 0 (MQ below (z_QI E ro σo A) args s 0 0 A) (F0 m 2 ls []) := by
  induction n with
  | zero =>
    intro x1 σ H locs ls hs hl hf
    have hf : none = some (ro, σo) := hf
    cases hf
  | succ n ih =>
    intro x1 σ H locs ls hs hl hf
    have hx := C.1
    have hb := C.2.1
    rw [fM_empty_2.eq_2] at hf
    refine lv_iload_n hx hb dX9_empty_2 rfl (lv_at hl 1 rfl) ?_
    refine lv_bipush (v := 40) hx hb dX9_empty_3 (by decide) ?_
    refine lv_icmp_ge (tgt := 25) hx hb dX9_empty_5 (by decide) (fun c1 => ?_) (fun c1 => ?_)
    · have hf := z_t hf c1
      refine lv_iconst (v := (-1)) hx hb dX9_empty_25 (by decide) ?_
      exact z_reti C hr hs hf dX9_empty_26
    · have hf := z_f hf c1
      refine lv_aload_n hx hb dX9_empty_8 rfl (lv_at hl 0 rfl) ?_
      refine lv_iload_n hx hb dX9_empty_9 rfl (lv_at hl 1 rfl) ?_
      refine lv_iconst (v := 0) hx hb dX9_empty_10 (by decide) ?_
      obtain ⟨r2, σ2, h_2, hf⟩ := z_bds hf
      refine z_goI C hs (z_runV C hs hl.1 (cM_slotOf l E hM h_2) zcV_RX9_186 (hM 100 (by decide) (by decide)) (z_c100 E _ _ _ _) rfl rfl rfl (by decide) (Nat.le_of_ble_eq_true rfl) dX9_empty_11) (fun H locs hs => ?_)
      refine lv_if_ge (tgt := 19) hx hb dX9_empty_14 (by decide) (fun c3 => ?_) (fun c3 => ?_)
      · have hf := z_t hf c3
        obtain ⟨y4, e_y4⟩ : ∃ y : Int32, y = x1 + 1 := ⟨_, rfl⟩
        have hf := z_lte e_y4 hf
        refine lv_iinc (v := y4) (lv' := [(1, .int y4), (0, .ref (z_ad E (100, 0, 0)))]) hx hb dX9_empty_19 hl (k := 1) rfl (by rw [e_y4]; rfl) (by decide) rfl (fun ls hl => ?_)
        refine lv_goto (tgt := 2) hx hb dX9_empty_22 (by decide) ?_
        exact ih y4 σ2 _ _ _ hs (lv_sub hl [1, 0] rfl) hf
      · have hf := z_f hf c3
        refine lv_iload_n hx hb dX9_empty_17 rfl (lv_at hl 1 rfl) ?_
        exact z_reti C hr hs hf dX9_empty_18
set_option maxHeartbeats 4000000 in
set_option maxRecDepth 20000 in
theorem wM_empty (C : z_C E RX9 cX9_empty 2 A p s m args meth c) (hr : meth.sig.returnType = (some .int)) (hM : z_M E) {ro : Int32} {σo : zS} (σ : zS) (H : Heap) (locs : List Loc) (ls : Array Slot) (hs : z_H E A s σ H locs) (hl : lv_has ls 2 [(0, .ref (z_ad E (100, 0, 0)))]) (hf : fM_empty σ = some (ro, σo)) : W p l e (z_rm 2) s m args below meth c H locs 0 0 (MQ below (z_QI E ro σo A) args s 0 0 A) (F0 m 0 ls []) := by
  have hx := C.1
  have hb := C.2.1
  unfold fM_empty at hf
  refine lv_iconst (v := 0) hx hb dX9_empty_0 (by decide) ?_
  refine lv_istore_n (lv' := [(1, .int 0), (0, .ref (z_ad E (100, 0, 0)))]) hx hb dX9_empty_1 rfl hl (by decide) rfl (fun ls hl => ?_)
  exact wM_empty_2 C hr hM z_fu 0 σ _ _ _ hs (lv_sub hl [1, 0] rfl) hf
set_option maxHeartbeats 4000000 in
set_option maxRecDepth 20000 in
theorem cM_empty (l : Launch) (E : zE) (hM : z_M E) {σ σo : zS} {ro : Int32} (hf : fM_empty σ = some (ro, σo)) : z_T l E yX9_empty cX9_empty 2 (some .int) (z_rm 2) (z_QI E ro σo) [.ref (z_ad E (100, 0, 0))] σ :=
  z_enter (by decide) (Nat.le_of_ble_eq_true rfl) rfl (fun p e s m below meth c A ls C hr hs hl => wM_empty C hr hM σ _ _ ls hs hl hf)
def fM_letters_4 : Nat → Int32 → Int32 → zS → Option (Int32 × zS)
  | 0, _, _, _ => none
  | n + 1, x1, x2, σ =>
    if 40 ≤ x2 then
      (some (x1, σ))
    else
      (z_bd (fM_slotOf x2 0 σ) (fun r2 σ2 =>
      if r2 < 0 then
        (z_let (x1 + 0) (fun y4 =>
        z_let (x2 + 1) (fun y5 =>
        fM_letters_4 n y4 y5 σ2)))
      else
        (z_let (x1 + 1) (fun y6 =>
        z_let (x2 + 1) (fun y7 =>
        fM_letters_4 n y6 y7 σ2)))))
def fM_letters (σ : zS) : Option (Int32 × zS) :=
  fM_letters_4 z_fu 0 0 σ
set_option maxHeartbeats 4000000 in
set_option maxRecDepth 20000 in
theorem wM_letters_4 (C : z_C E RX9 cX9_letters 3 A p s m args meth c) (hr : meth.sig.returnType = (some .int)) (hM : z_M E) {ro : Int32} {σo : zS} (n : Nat) : ∀ (x1 : Int32) (x2 : Int32) (σ : zS) (H : Heap) (locs : List Loc) (ls : Array Slot), z_H E A s σ H locs → lv_has ls 3 [(0, .ref (z_ad E (100, 0, 0))), (1, .int x1), (2, .int x2)] → fM_letters_4 n x1 x2 σ = some (ro, σo) → W p l e (z_rm 2) s m args below meth c H locs 0 0 (MQ below (z_QI E ro σo A) args s 0 0 A) (F0 m 4 ls []) := by
  induction n with
  | zero =>
    intro x1 x2 σ H locs ls hs hl hf
    have hf : none = some (ro, σo) := hf
    cases hf
  | succ n ih =>
    intro x1 x2 σ H locs ls hs hl hf
    have hx := C.1
    have hb := C.2.1
    rw [fM_letters_4.eq_2] at hf
    refine lv_iload_n hx hb dX9_letters_4 rfl (lv_at hl 2 rfl) ?_
    refine lv_bipush (v := 40) hx hb dX9_letters_5 (by decide) ?_
    refine lv_icmp_ge (tgt := 33) hx hb dX9_letters_7 (by decide) (fun c1 => ?_) (fun c1 => ?_)
    · have hf := z_t hf c1
      refine lv_iload_n hx hb dX9_letters_33 rfl (lv_at hl 1 rfl) ?_
      exact z_reti C hr hs hf dX9_letters_34
    · have hf := z_f hf c1
      refine lv_iload_n hx hb dX9_letters_10 rfl (lv_at hl 1 rfl) ?_
      refine lv_aload_n hx hb dX9_letters_11 rfl (lv_at hl 0 rfl) ?_
      refine lv_iload_n hx hb dX9_letters_12 rfl (lv_at hl 2 rfl) ?_
      refine lv_iconst (v := 0) hx hb dX9_letters_13 (by decide) ?_
      obtain ⟨r2, σ2, h_2, hf⟩ := z_bds hf
      refine z_goI C hs (z_runV C hs hl.1 (cM_slotOf l E hM h_2) zcV_RX9_186 (hM 100 (by decide) (by decide)) (z_c100 E _ _ _ _) rfl rfl rfl (by decide) (Nat.le_of_ble_eq_true rfl) dX9_letters_14) (fun H locs hs => ?_)
      refine lv_if_lt (tgt := 24) hx hb dX9_letters_17 (by decide) (fun c3 => ?_) (fun c3 => ?_)
      · have hf := z_t hf c3
        refine lv_iconst (v := 0) hx hb dX9_letters_24 (by decide) ?_
        refine lv_iadd hx hb dX9_letters_25 ?_
        refine lv_topi (fun y4 e_y4 => ?_)
        have hf := z_lte e_y4 hf
        refine lv_istore_n (lv' := [(1, .int y4), (0, .ref (z_ad E (100, 0, 0))), (2, .int x2)]) hx hb dX9_letters_26 rfl hl (by decide) rfl (fun ls hl => ?_)
        obtain ⟨y5, e_y5⟩ : ∃ y : Int32, y = x2 + 1 := ⟨_, rfl⟩
        have hf := z_lte e_y5 hf
        refine lv_iinc (v := y5) (lv' := [(2, .int y5), (1, .int y4), (0, .ref (z_ad E (100, 0, 0)))]) hx hb dX9_letters_27 hl (k := 2) rfl (by rw [e_y5]; rfl) (by decide) rfl (fun ls hl => ?_)
        refine lv_goto (tgt := 4) hx hb dX9_letters_30 (by decide) ?_
        exact ih y4 y5 σ2 _ _ _ hs (lv_sub hl [2, 1, 0] rfl) hf
      · have hf := z_f hf c3
        refine lv_iconst (v := 1) hx hb dX9_letters_20 (by decide) ?_
        refine lv_goto (tgt := 25) hx hb dX9_letters_21 (by decide) ?_
        refine lv_iadd hx hb dX9_letters_25 ?_
        refine lv_topi (fun y6 e_y6 => ?_)
        have hf := z_lte e_y6 hf
        refine lv_istore_n (lv' := [(1, .int y6), (0, .ref (z_ad E (100, 0, 0))), (2, .int x2)]) hx hb dX9_letters_26 rfl hl (by decide) rfl (fun ls hl => ?_)
        obtain ⟨y7, e_y7⟩ : ∃ y : Int32, y = x2 + 1 := ⟨_, rfl⟩
        have hf := z_lte e_y7 hf
        refine lv_iinc (v := y7) (lv' := [(2, .int y7), (1, .int y6), (0, .ref (z_ad E (100, 0, 0)))]) hx hb dX9_letters_27 hl (k := 2) rfl (by rw [e_y7]; rfl) (by decide) rfl (fun ls hl => ?_)
        refine lv_goto (tgt := 4) hx hb dX9_letters_30 (by decide) ?_
        exact ih y6 y7 σ2 _ _ _ hs (lv_sub hl [2, 1, 0] rfl) hf
set_option maxHeartbeats 4000000 in
set_option maxRecDepth 20000 in
theorem wM_letters (C : z_C E RX9 cX9_letters 3 A p s m args meth c) (hr : meth.sig.returnType = (some .int)) (hM : z_M E) {ro : Int32} {σo : zS} (σ : zS) (H : Heap) (locs : List Loc) (ls : Array Slot) (hs : z_H E A s σ H locs) (hl : lv_has ls 3 [(0, .ref (z_ad E (100, 0, 0)))]) (hf : fM_letters σ = some (ro, σo)) : W p l e (z_rm 2) s m args below meth c H locs 0 0 (MQ below (z_QI E ro σo A) args s 0 0 A) (F0 m 0 ls []) := by
  have hx := C.1
  have hb := C.2.1
  unfold fM_letters at hf
  refine lv_iconst (v := 0) hx hb dX9_letters_0 (by decide) ?_
  refine lv_istore_n (lv' := [(1, .int 0), (0, .ref (z_ad E (100, 0, 0)))]) hx hb dX9_letters_1 rfl hl (by decide) rfl (fun ls hl => ?_)
  refine lv_iconst (v := 0) hx hb dX9_letters_2 (by decide) ?_
  refine lv_istore_n (lv' := [(2, .int 0), (1, .int 0), (0, .ref (z_ad E (100, 0, 0)))]) hx hb dX9_letters_3 rfl hl (by decide) rfl (fun ls hl => ?_)
  exact wM_letters_4 C hr hM z_fu 0 0 σ _ _ _ hs (lv_sub hl [2, 1, 0] rfl) hf
set_option maxHeartbeats 4000000 in
set_option maxRecDepth 20000 in
theorem cM_letters (l : Launch) (E : zE) (hM : z_M E) {σ σo : zS} {ro : Int32} (hf : fM_letters σ = some (ro, σo)) : z_T l E yX9_letters cX9_letters 3 (some .int) (z_rm 2) (z_QI E ro σo) [.ref (z_ad E (100, 0, 0))] σ :=
  z_enter (by decide) (Nat.le_of_ble_eq_true rfl) rfl (fun p e s m below meth c A ls C hr hs hl => wM_letters C hr hM σ _ _ ls hs hl hf)
def fM_sends_9 : Nat → Int32 → Int32 → Int32 → Int32 → Int32 → Int32 → Int32 → zS → Option (Int32 × zS)
  | 0, _, _, _, _, _, _, _, _ => none
  | n + 1, x1, x2, x3, x4, x5, x6, x7, σ =>
    if 64 ≤ x7 then
      (z_bd (fM_putSlot x6 0 x1 σ) (fun _ σ3 =>
      z_bd (fM_putSlot x6 1 x2 σ3) (fun _ σ4 =>
      z_bd (fM_putSlot x6 2 x3 σ4) (fun _ σ5 =>
      z_bd (fM_of x2 0 σ5) (fun r6 σ6 =>
      z_bd (fM_putSlot x6 3 r6 σ6) (fun _ σ7 =>
      z_bd (fM_putSlot x6 4 x4 σ7) (fun _ σ8 =>
      z_bd (fM_putSlot x6 5 x5 σ8) (fun _ σ9 =>
      some (x6, σ9)))))))))
    else
      (z_bd (fM_putSlot x6 x7 0 σ) (fun _ σ10 =>
      z_let (x7 + 1) (fun y11 =>
      fM_sends_9 n x1 x2 x3 x4 x5 x6 y11 σ10)))
def fM_sends (x1 : Int32) (x2 : Int32) (x3 : Int32) (x4 : Int32) (x5 : Int32) (σ : zS) : Option (Int32 × zS) :=
  z_bd (fM_empty σ) (fun r1 σ1 =>
  fM_sends_9 z_fu x1 x2 x3 x4 x5 r1 0 σ1)
set_option maxHeartbeats 4000000 in
set_option maxRecDepth 20000 in
theorem wM_sends_9 (C : z_C E RX9 cX9_sends 8 A p s m args meth c) (hr : meth.sig.returnType = (some .int)) (hM : z_M E) {ro : Int32} {σo : zS} (n : Nat) : ∀ (x1 : Int32) (x2 : Int32) (x3 : Int32) (x4 : Int32) (x5 : Int32) (x6 : Int32) (x7 : Int32) (σ : zS) (H : Heap) (locs : List Loc) (ls : Array Slot), z_H E A s σ H locs → lv_has ls 8 [(0, .ref (z_ad E (100, 0, 0))), (1, .int x1), (2, .int x2), (3, .int x3), (4, .int x4), (5, .int x5), (6, .int x6), (7, .int x7)] → fM_sends_9 n x1 x2 x3 x4 x5 x6 x7 σ = some (ro, σo) → W p l e (z_rm 3) s m args below meth c H locs 0 0 (MQ below (z_QI E ro σo A) args s 0 0 A) (F0 m 9 ls []) := by
  induction n with
  | zero =>
    intro x1 x2 x3 x4 x5 x6 x7 σ H locs ls hs hl hf
    have hf : none = some (ro, σo) := hf
    cases hf
  | succ n ih =>
    intro x1 x2 x3 x4 x5 x6 x7 σ H locs ls hs hl hf
    have hx := C.1
    have hb := C.2.1
    rw [fM_sends_9.eq_2] at hf
    refine lv_iload hx hb dX9_sends_9 (lv_at hl 7 rfl) ?_
    refine lv_bipush (v := 64) hx hb dX9_sends_11 (by decide) ?_
    refine lv_icmp_ge (tgt := 31) hx hb dX9_sends_13 (by decide) (fun c2 => ?_) (fun c2 => ?_)
    · have hf := z_t hf c2
      refine lv_aload_n hx hb dX9_sends_31 rfl (lv_at hl 0 rfl) ?_
      refine lv_iload hx hb dX9_sends_32 (lv_at hl 6 rfl) ?_
      refine lv_iconst (v := 0) hx hb dX9_sends_34 (by decide) ?_
      refine lv_iload_n hx hb dX9_sends_35 rfl (lv_at hl 1 rfl) ?_
      obtain ⟨r3, σ3, h_3, hf⟩ := z_bds hf
      refine z_goV C hs (z_runV C hs hl.1 (cM_putSlot l E hM h_3) zcV_RX9_192 (hM 100 (by decide) (by decide)) (z_c100 E _ _ _ _) rfl rfl rfl (by decide) (Nat.le_of_ble_eq_true rfl) dX9_sends_36) (fun H locs hs => ?_)
      refine lv_aload_n hx hb dX9_sends_39 rfl (lv_at hl 0 rfl) ?_
      refine lv_iload hx hb dX9_sends_40 (lv_at hl 6 rfl) ?_
      refine lv_iconst (v := 1) hx hb dX9_sends_42 (by decide) ?_
      refine lv_iload_n hx hb dX9_sends_43 rfl (lv_at hl 2 rfl) ?_
      obtain ⟨r4, σ4, h_4, hf⟩ := z_bds hf
      refine z_goV C hs (z_runV C hs hl.1 (cM_putSlot l E hM h_4) zcV_RX9_192 (hM 100 (by decide) (by decide)) (z_c100 E _ _ _ _) rfl rfl rfl (by decide) (Nat.le_of_ble_eq_true rfl) dX9_sends_44) (fun H locs hs => ?_)
      refine lv_aload_n hx hb dX9_sends_47 rfl (lv_at hl 0 rfl) ?_
      refine lv_iload hx hb dX9_sends_48 (lv_at hl 6 rfl) ?_
      refine lv_iconst (v := 2) hx hb dX9_sends_50 (by decide) ?_
      refine lv_iload_n hx hb dX9_sends_51 rfl (lv_at hl 3 rfl) ?_
      obtain ⟨r5, σ5, h_5, hf⟩ := z_bds hf
      refine z_goV C hs (z_runV C hs hl.1 (cM_putSlot l E hM h_5) zcV_RX9_192 (hM 100 (by decide) (by decide)) (z_c100 E _ _ _ _) rfl rfl rfl (by decide) (Nat.le_of_ble_eq_true rfl) dX9_sends_52) (fun H locs hs => ?_)
      refine lv_aload_n hx hb dX9_sends_55 rfl (lv_at hl 0 rfl) ?_
      refine lv_iload hx hb dX9_sends_56 (lv_at hl 6 rfl) ?_
      refine lv_iconst (v := 3) hx hb dX9_sends_58 (by decide) ?_
      refine lv_aload_n hx hb dX9_sends_59 rfl (lv_at hl 0 rfl) ?_
      refine lv_iload_n hx hb dX9_sends_60 rfl (lv_at hl 2 rfl) ?_
      refine lv_iconst (v := 0) hx hb dX9_sends_61 (by decide) ?_
      obtain ⟨r6, σ6, h_6, hf⟩ := z_bds hf
      refine z_goI C hs (z_runV C hs hl.1 (cM_of l E hM h_6) zcV_RX9_146 (hM 100 (by decide) (by decide)) (z_c100 E _ _ _ _) rfl rfl rfl (by decide) (Nat.le_of_ble_eq_true rfl) dX9_sends_62) (fun H locs hs => ?_)
      obtain ⟨r7, σ7, h_7, hf⟩ := z_bds hf
      refine z_goV C hs (z_runV C hs hl.1 (cM_putSlot l E hM h_7) zcV_RX9_192 (hM 100 (by decide) (by decide)) (z_c100 E _ _ _ _) rfl rfl rfl (by decide) (Nat.le_of_ble_eq_true rfl) dX9_sends_65) (fun H locs hs => ?_)
      refine lv_aload_n hx hb dX9_sends_68 rfl (lv_at hl 0 rfl) ?_
      refine lv_iload hx hb dX9_sends_69 (lv_at hl 6 rfl) ?_
      refine lv_iconst (v := 4) hx hb dX9_sends_71 (by decide) ?_
      refine lv_iload hx hb dX9_sends_72 (lv_at hl 4 rfl) ?_
      obtain ⟨r8, σ8, h_8, hf⟩ := z_bds hf
      refine z_goV C hs (z_runV C hs hl.1 (cM_putSlot l E hM h_8) zcV_RX9_192 (hM 100 (by decide) (by decide)) (z_c100 E _ _ _ _) rfl rfl rfl (by decide) (Nat.le_of_ble_eq_true rfl) dX9_sends_74) (fun H locs hs => ?_)
      refine lv_aload_n hx hb dX9_sends_77 rfl (lv_at hl 0 rfl) ?_
      refine lv_iload hx hb dX9_sends_78 (lv_at hl 6 rfl) ?_
      refine lv_iconst (v := 5) hx hb dX9_sends_80 (by decide) ?_
      refine lv_iload hx hb dX9_sends_81 (lv_at hl 5 rfl) ?_
      obtain ⟨r9, σ9, h_9, hf⟩ := z_bds hf
      refine z_goV C hs (z_runV C hs hl.1 (cM_putSlot l E hM h_9) zcV_RX9_192 (hM 100 (by decide) (by decide)) (z_c100 E _ _ _ _) rfl rfl rfl (by decide) (Nat.le_of_ble_eq_true rfl) dX9_sends_83) (fun H locs hs => ?_)
      refine lv_iload hx hb dX9_sends_86 (lv_at hl 6 rfl) ?_
      exact z_reti C hr hs hf dX9_sends_88
    · have hf := z_f hf c2
      refine lv_aload_n hx hb dX9_sends_16 rfl (lv_at hl 0 rfl) ?_
      refine lv_iload hx hb dX9_sends_17 (lv_at hl 6 rfl) ?_
      refine lv_iload hx hb dX9_sends_19 (lv_at hl 7 rfl) ?_
      refine lv_iconst (v := 0) hx hb dX9_sends_21 (by decide) ?_
      obtain ⟨r10, σ10, h_10, hf⟩ := z_bds hf
      refine z_goV C hs (z_runV C hs hl.1 (cM_putSlot l E hM h_10) zcV_RX9_192 (hM 100 (by decide) (by decide)) (z_c100 E _ _ _ _) rfl rfl rfl (by decide) (Nat.le_of_ble_eq_true rfl) dX9_sends_22) (fun H locs hs => ?_)
      obtain ⟨y11, e_y11⟩ : ∃ y : Int32, y = x7 + 1 := ⟨_, rfl⟩
      have hf := z_lte e_y11 hf
      refine lv_iinc (v := y11) (lv' := [(7, .int y11), (0, .ref (z_ad E (100, 0, 0))), (1, .int x1), (2, .int x2), (3, .int x3), (4, .int x4), (5, .int x5), (6, .int x6)]) hx hb dX9_sends_25 hl (k := 7) rfl (by rw [e_y11]; rfl) (by decide) rfl (fun ls hl => ?_)
      refine lv_goto (tgt := 9) hx hb dX9_sends_28 (by decide) ?_
      exact ih x1 x2 x3 x4 x5 x6 y11 σ10 _ _ _ hs (lv_sub hl [1, 2, 3, 4, 5, 6, 7, 0] rfl) hf
set_option maxHeartbeats 4000000 in
set_option maxRecDepth 20000 in
theorem wM_sends {x1 : Int32} {x2 : Int32} {x3 : Int32} {x4 : Int32} {x5 : Int32} (C : z_C E RX9 cX9_sends 8 A p s m args meth c) (hr : meth.sig.returnType = (some .int)) (hM : z_M E) {ro : Int32} {σo : zS} (σ : zS) (H : Heap) (locs : List Loc) (ls : Array Slot) (hs : z_H E A s σ H locs) (hl : lv_has ls 8 [(0, .ref (z_ad E (100, 0, 0))), (1, .int x1), (2, .int x2), (3, .int x3), (4, .int x4), (5, .int x5)]) (hf : fM_sends x1 x2 x3 x4 x5 σ = some (ro, σo)) : W p l e (z_rm 3) s m args below meth c H locs 0 0 (MQ below (z_QI E ro σo A) args s 0 0 A) (F0 m 0 ls []) := by
  have hx := C.1
  have hb := C.2.1
  unfold fM_sends at hf
  refine lv_aload_n hx hb dX9_sends_0 rfl (lv_at hl 0 rfl) ?_
  obtain ⟨r1, σ1, h_1, hf⟩ := z_bds hf
  refine z_goI C hs (z_runV C hs hl.1 (cM_empty l E hM h_1) zcV_RX9_189 (hM 100 (by decide) (by decide)) (z_c100 E _ _ _ _) rfl rfl rfl (by decide) (Nat.le_of_ble_eq_true rfl) dX9_sends_1) (fun H locs hs => ?_)
  refine lv_istore (lv' := [(6, .int r1), (0, .ref (z_ad E (100, 0, 0))), (1, .int x1), (2, .int x2), (3, .int x3), (4, .int x4), (5, .int x5)]) hx hb dX9_sends_4 hl (by decide) rfl (fun ls hl => ?_)
  refine lv_iconst (v := 0) hx hb dX9_sends_6 (by decide) ?_
  refine lv_istore (lv' := [(7, .int 0), (6, .int r1), (0, .ref (z_ad E (100, 0, 0))), (1, .int x1), (2, .int x2), (3, .int x3), (4, .int x4), (5, .int x5)]) hx hb dX9_sends_7 hl (by decide) rfl (fun ls hl => ?_)
  exact wM_sends_9 C hr hM z_fu x1 x2 x3 x4 x5 r1 0 σ1 _ _ _ hs (lv_sub hl [2, 3, 4, 5, 6, 7, 1, 0] rfl) hf
set_option maxHeartbeats 4000000 in
set_option maxRecDepth 20000 in
theorem cM_sends (l : Launch) (E : zE) {x1 : Int32} {x2 : Int32} {x3 : Int32} {x4 : Int32} {x5 : Int32} (hM : z_M E) {σ σo : zS} {ro : Int32} (hf : fM_sends x1 x2 x3 x4 x5 σ = some (ro, σo)) : z_T l E yX9_sends cX9_sends 8 (some .int) (z_rm 3) (z_QI E ro σo) [.ref (z_ad E (100, 0, 0)), .int x1, .int x2, .int x3, .int x4, .int x5] σ :=
  z_enter (by decide) (Nat.le_of_ble_eq_true rfl) rfl (fun p e s m below meth c A ls C hr hs hl => wM_sends C hr hM σ _ _ ls hs hl hf)
def fM_ask_84 : Nat → Int32 → Int32 → zS → Option (Int32 × zS)
  | 0, _, _, _ => none
  | n + 1, x1, x2, σ =>
    z_bd (fM_many σ) (fun r15 σ15 =>
    if r15 ≤ x2 then
      (z_bd (fM_leads x1 σ15) (fun _ σ17 =>
      z_bd (fM_of x1 0 σ17) (fun r18 σ18 =>
      some (r18, σ18))))
    else
      (if x2 = x1 then
        (z_let (x2 + 1) (fun y20 =>
        fM_ask_84 n x1 y20 σ15))
      else
        (z_bd (fM_isVoter x2 σ15) (fun r21 σ21 =>
        if r21 = 0 then
          (z_let (x2 + 1) (fun y23 =>
          fM_ask_84 n x1 y23 σ21))
        else
          (z_bd (fM_of x1 4 σ21) (fun r24 σ24 =>
          z_bd (fM_of x1 4 σ24) (fun r25 σ25 =>
          z_bd (fM_termOf x1 r25 σ25) (fun r26 σ26 =>
          z_bd (fM_sends 0 x1 x2 r24 r26 σ26) (fun r27 σ27 =>
          z_let (x2 + 1) (fun y28 =>
          fM_ask_84 n x1 y28 σ27))))))))))
def fM_ask (x1 : Int32) (σ : zS) : Option (Int32 × zS) :=
  z_bd (fM_isUp x1 σ) (fun r1 σ1 =>
  if r1 = 0 then
    (some ((-1), σ1))
  else
    (z_bd (fM_isVoter x1 σ1) (fun r3 σ3 =>
    if r3 = 0 then
      (some ((-1), σ3))
    else
      (z_bd (fM_of x1 5 σ3) (fun r5 σ5 =>
      if r5 = 2 then
        (some ((-1), σ5))
      else
        (z_bd (fM_letters σ5) (fun r7 σ7 =>
        z_bd (fM_voters σ7) (fun r8 σ8 =>
        if (r8 - 1) ≤ (40 - r7) then
          (z_bd (fM_of x1 0 σ8) (fun r10 σ10 =>
          z_bd (fM_put x1 0 (r10 + 1) σ10) (fun _ σ11 =>
          z_bd (fM_put x1 1 x1 σ11) (fun _ σ12 =>
          z_bd (fM_put x1 5 1 σ12) (fun _ σ13 =>
          z_bd (fM_put x1 7 (1 <<< (x1 &&& 31)) σ13) (fun _ σ14 =>
          fM_ask_84 z_fu x1 0 σ14))))))
        else
          (some ((-1), σ8))))))))))
set_option maxHeartbeats 4000000 in
set_option maxRecDepth 20000 in
theorem wM_ask_84 (C : z_C E RX9 cX9_ask 3 A p s m args meth c) (hr : meth.sig.returnType = (some .int)) (hM : z_M E) {ro : Int32} {σo : zS} (n : Nat) : ∀ (x1 : Int32) (x2 : Int32) (σ : zS) (H : Heap) (locs : List Loc) (ls : Array Slot), z_H E A s σ H locs → lv_has ls 3 [(0, .ref (z_ad E (100, 0, 0))), (1, .int x1), (2, .int x2)] → fM_ask_84 n x1 x2 σ = some (ro, σo) → W p l e (z_rm 7) s m args below meth c H locs 0 0 (MQ below (z_QI E ro σo A) args s 0 0 A) (F0 m 84 ls []) := by
  induction n with
  | zero =>
    intro x1 x2 σ H locs ls hs hl hf
    have hf : none = some (ro, σo) := hf
    cases hf
  | succ n ih =>
    intro x1 x2 σ H locs ls hs hl hf
    have hx := C.1
    have hb := C.2.1
    rw [fM_ask_84.eq_2] at hf
    refine lv_iload_n hx hb dX9_ask_84 rfl (lv_at hl 2 rfl) ?_
    refine lv_aload_n hx hb dX9_ask_85 rfl (lv_at hl 0 rfl) ?_
    obtain ⟨r15, σ15, h_15, hf⟩ := z_bds hf
    refine z_goI C hs (z_runV C hs hl.1 (cM_many l E hM h_15) zcV_RX9_128 (hM 100 (by decide) (by decide)) (z_c100 E _ _ _ _) rfl rfl rfl (by decide) (Nat.le_of_ble_eq_true rfl) dX9_ask_86) (fun H locs hs => ?_)
    refine lv_icmp_ge (tgt := 136) hx hb dX9_ask_89 (by decide) (fun c16 => ?_) (fun c16 => ?_)
    · have hf := z_t hf c16
      refine lv_aload_n hx hb dX9_ask_136 rfl (lv_at hl 0 rfl) ?_
      refine lv_iload_n hx hb dX9_ask_137 rfl (lv_at hl 1 rfl) ?_
      obtain ⟨r17, σ17, h_17, hf⟩ := z_bds hf
      refine z_goV C hs (z_runV C hs hl.1 (cM_leads l E hM h_17) zcV_RX9_202 (hM 100 (by decide) (by decide)) (z_c100 E _ _ _ _) rfl rfl rfl (by decide) (Nat.le_of_ble_eq_true rfl) dX9_ask_138) (fun H locs hs => ?_)
      refine lv_aload_n hx hb dX9_ask_141 rfl (lv_at hl 0 rfl) ?_
      refine lv_iload_n hx hb dX9_ask_142 rfl (lv_at hl 1 rfl) ?_
      refine lv_iconst (v := 0) hx hb dX9_ask_143 (by decide) ?_
      obtain ⟨r18, σ18, h_18, hf⟩ := z_bds hf
      refine z_goI C hs (z_runV C hs hl.1 (cM_of l E hM h_18) zcV_RX9_146 (hM 100 (by decide) (by decide)) (z_c100 E _ _ _ _) rfl rfl rfl (by decide) (Nat.le_of_ble_eq_true rfl) dX9_ask_144) (fun H locs hs => ?_)
      exact z_reti C hr hs hf dX9_ask_147
    · have hf := z_f hf c16
      refine lv_iload_n hx hb dX9_ask_92 rfl (lv_at hl 2 rfl) ?_
      refine lv_iload_n hx hb dX9_ask_93 rfl (lv_at hl 1 rfl) ?_
      refine lv_icmp_eq (tgt := 130) hx hb dX9_ask_94 (by decide) (fun c19 => ?_) (fun c19 => ?_)
      · have hf := z_t hf c19
        obtain ⟨y20, e_y20⟩ : ∃ y : Int32, y = x2 + 1 := ⟨_, rfl⟩
        have hf := z_lte e_y20 hf
        refine lv_iinc (v := y20) (lv' := [(2, .int y20), (0, .ref (z_ad E (100, 0, 0))), (1, .int x1)]) hx hb dX9_ask_130 hl (k := 2) rfl (by rw [e_y20]; rfl) (by decide) rfl (fun ls hl => ?_)
        refine lv_goto (tgt := 84) hx hb dX9_ask_133 (by decide) ?_
        exact ih x1 y20 σ15 _ _ _ hs (lv_sub hl [1, 2, 0] rfl) hf
      · have hf := z_f hf c19
        refine lv_aload_n hx hb dX9_ask_97 rfl (lv_at hl 0 rfl) ?_
        refine lv_iload_n hx hb dX9_ask_98 rfl (lv_at hl 2 rfl) ?_
        obtain ⟨r21, σ21, h_21, hf⟩ := z_bds hf
        refine z_goI C hs (z_runV C hs hl.1 (cM_isVoter l E hM h_21) zcV_RX9_166 (hM 100 (by decide) (by decide)) (z_c100 E _ _ _ _) rfl rfl rfl (by decide) (Nat.le_of_ble_eq_true rfl) dX9_ask_99) (fun H locs hs => ?_)
        refine lv_if_eq (tgt := 130) hx hb dX9_ask_102 (by decide) (fun c22 => ?_) (fun c22 => ?_)
        · have hf := z_t hf c22
          obtain ⟨y23, e_y23⟩ : ∃ y : Int32, y = x2 + 1 := ⟨_, rfl⟩
          have hf := z_lte e_y23 hf
          refine lv_iinc (v := y23) (lv' := [(2, .int y23), (0, .ref (z_ad E (100, 0, 0))), (1, .int x1)]) hx hb dX9_ask_130 hl (k := 2) rfl (by rw [e_y23]; rfl) (by decide) rfl (fun ls hl => ?_)
          refine lv_goto (tgt := 84) hx hb dX9_ask_133 (by decide) ?_
          exact ih x1 y23 σ21 _ _ _ hs (lv_sub hl [1, 2, 0] rfl) hf
        · have hf := z_f hf c22
          refine lv_aload_n hx hb dX9_ask_105 rfl (lv_at hl 0 rfl) ?_
          refine lv_iconst (v := 0) hx hb dX9_ask_106 (by decide) ?_
          refine lv_iload_n hx hb dX9_ask_107 rfl (lv_at hl 1 rfl) ?_
          refine lv_iload_n hx hb dX9_ask_108 rfl (lv_at hl 2 rfl) ?_
          refine lv_aload_n hx hb dX9_ask_109 rfl (lv_at hl 0 rfl) ?_
          refine lv_iload_n hx hb dX9_ask_110 rfl (lv_at hl 1 rfl) ?_
          refine lv_iconst (v := 4) hx hb dX9_ask_111 (by decide) ?_
          obtain ⟨r24, σ24, h_24, hf⟩ := z_bds hf
          refine z_goI C hs (z_runV C hs hl.1 (cM_of l E hM h_24) zcV_RX9_146 (hM 100 (by decide) (by decide)) (z_c100 E _ _ _ _) rfl rfl rfl (by decide) (Nat.le_of_ble_eq_true rfl) dX9_ask_112) (fun H locs hs => ?_)
          refine lv_aload_n hx hb dX9_ask_115 rfl (lv_at hl 0 rfl) ?_
          refine lv_iload_n hx hb dX9_ask_116 rfl (lv_at hl 1 rfl) ?_
          refine lv_aload_n hx hb dX9_ask_117 rfl (lv_at hl 0 rfl) ?_
          refine lv_iload_n hx hb dX9_ask_118 rfl (lv_at hl 1 rfl) ?_
          refine lv_iconst (v := 4) hx hb dX9_ask_119 (by decide) ?_
          obtain ⟨r25, σ25, h_25, hf⟩ := z_bds hf
          refine z_goI C hs (z_runV C hs hl.1 (cM_of l E hM h_25) zcV_RX9_146 (hM 100 (by decide) (by decide)) (z_c100 E _ _ _ _) rfl rfl rfl (by decide) (Nat.le_of_ble_eq_true rfl) dX9_ask_120) (fun H locs hs => ?_)
          obtain ⟨r26, σ26, h_26, hf⟩ := z_bds hf
          refine z_goI C hs (z_runV C hs hl.1 (cM_termOf l E hM h_26) zcV_RX9_172 (hM 100 (by decide) (by decide)) (z_c100 E _ _ _ _) rfl rfl rfl (by decide) (Nat.le_of_ble_eq_true rfl) dX9_ask_123) (fun H locs hs => ?_)
          obtain ⟨r27, σ27, h_27, hf⟩ := z_bds hf
          refine z_goI C hs (z_runV C hs hl.1 (cM_sends l E hM h_27) zcV_RX9_198 (hM 100 (by decide) (by decide)) (z_c100 E _ _ _ _) rfl rfl rfl (by decide) (Nat.le_of_ble_eq_true rfl) dX9_ask_126) (fun H locs hs => ?_)
          refine lv_pop hx hb dX9_ask_129 rfl ?_
          obtain ⟨y28, e_y28⟩ : ∃ y : Int32, y = x2 + 1 := ⟨_, rfl⟩
          have hf := z_lte e_y28 hf
          refine lv_iinc (v := y28) (lv' := [(2, .int y28), (0, .ref (z_ad E (100, 0, 0))), (1, .int x1)]) hx hb dX9_ask_130 hl (k := 2) rfl (by rw [e_y28]; rfl) (by decide) rfl (fun ls hl => ?_)
          refine lv_goto (tgt := 84) hx hb dX9_ask_133 (by decide) ?_
          exact ih x1 y28 σ27 _ _ _ hs (lv_sub hl [1, 2, 0] rfl) hf
set_option maxHeartbeats 4000000 in
set_option maxRecDepth 20000 in
theorem wM_ask {x1 : Int32} (C : z_C E RX9 cX9_ask 3 A p s m args meth c) (hr : meth.sig.returnType = (some .int)) (hM : z_M E) {ro : Int32} {σo : zS} (σ : zS) (H : Heap) (locs : List Loc) (ls : Array Slot) (hs : z_H E A s σ H locs) (hl : lv_has ls 3 [(0, .ref (z_ad E (100, 0, 0))), (1, .int x1)]) (hf : fM_ask x1 σ = some (ro, σo)) : W p l e (z_rm 7) s m args below meth c H locs 0 0 (MQ below (z_QI E ro σo A) args s 0 0 A) (F0 m 0 ls []) := by
  have hx := C.1
  have hb := C.2.1
  unfold fM_ask at hf
  refine lv_aload_n hx hb dX9_ask_0 rfl (lv_at hl 0 rfl) ?_
  refine lv_iload_n hx hb dX9_ask_1 rfl (lv_at hl 1 rfl) ?_
  obtain ⟨r1, σ1, h_1, hf⟩ := z_bds hf
  refine z_goI C hs (z_runV C hs hl.1 (cM_isUp l E hM h_1) zcV_RX9_150 (hM 100 (by decide) (by decide)) (z_c100 E _ _ _ _) rfl rfl rfl (by decide) (Nat.le_of_ble_eq_true rfl) dX9_ask_2) (fun H locs hs => ?_)
  refine lv_if_eq (tgt := 42) hx hb dX9_ask_5 (by decide) (fun c2 => ?_) (fun c2 => ?_)
  · have hf := z_t hf c2
    refine lv_iconst (v := (-1)) hx hb dX9_ask_42 (by decide) ?_
    exact z_reti C hr hs hf dX9_ask_43
  · have hf := z_f hf c2
    refine lv_aload_n hx hb dX9_ask_8 rfl (lv_at hl 0 rfl) ?_
    refine lv_iload_n hx hb dX9_ask_9 rfl (lv_at hl 1 rfl) ?_
    obtain ⟨r3, σ3, h_3, hf⟩ := z_bds hf
    refine z_goI C hs (z_runV C hs hl.1 (cM_isVoter l E hM h_3) zcV_RX9_166 (hM 100 (by decide) (by decide)) (z_c100 E _ _ _ _) rfl rfl rfl (by decide) (Nat.le_of_ble_eq_true rfl) dX9_ask_10) (fun H locs hs => ?_)
    refine lv_if_eq (tgt := 42) hx hb dX9_ask_13 (by decide) (fun c4 => ?_) (fun c4 => ?_)
    · have hf := z_t hf c4
      refine lv_iconst (v := (-1)) hx hb dX9_ask_42 (by decide) ?_
      exact z_reti C hr hs hf dX9_ask_43
    · have hf := z_f hf c4
      refine lv_aload_n hx hb dX9_ask_16 rfl (lv_at hl 0 rfl) ?_
      refine lv_iload_n hx hb dX9_ask_17 rfl (lv_at hl 1 rfl) ?_
      refine lv_iconst (v := 5) hx hb dX9_ask_18 (by decide) ?_
      obtain ⟨r5, σ5, h_5, hf⟩ := z_bds hf
      refine z_goI C hs (z_runV C hs hl.1 (cM_of l E hM h_5) zcV_RX9_146 (hM 100 (by decide) (by decide)) (z_c100 E _ _ _ _) rfl rfl rfl (by decide) (Nat.le_of_ble_eq_true rfl) dX9_ask_19) (fun H locs hs => ?_)
      refine lv_iconst (v := 2) hx hb dX9_ask_22 (by decide) ?_
      refine lv_icmp_eq (tgt := 42) hx hb dX9_ask_23 (by decide) (fun c6 => ?_) (fun c6 => ?_)
      · have hf := z_t hf c6
        refine lv_iconst (v := (-1)) hx hb dX9_ask_42 (by decide) ?_
        exact z_reti C hr hs hf dX9_ask_43
      · have hf := z_f hf c6
        refine lv_bipush (v := 40) hx hb dX9_ask_26 (by decide) ?_
        refine lv_aload_n hx hb dX9_ask_28 rfl (lv_at hl 0 rfl) ?_
        obtain ⟨r7, σ7, h_7, hf⟩ := z_bds hf
        refine z_goI C hs (z_runV C hs hl.1 (cM_letters l E hM h_7) zcV_RX9_195 (hM 100 (by decide) (by decide)) (z_c100 E _ _ _ _) rfl rfl rfl (by decide) (Nat.le_of_ble_eq_true rfl) dX9_ask_29) (fun H locs hs => ?_)
        refine lv_isub hx hb dX9_ask_32 ?_
        refine lv_aload_n hx hb dX9_ask_33 rfl (lv_at hl 0 rfl) ?_
        obtain ⟨r8, σ8, h_8, hf⟩ := z_bds hf
        refine z_goI C hs (z_runV C hs hl.1 (cM_voters l E hM h_8) zcV_RX9_136 (hM 100 (by decide) (by decide)) (z_c100 E _ _ _ _) rfl rfl rfl (by decide) (Nat.le_of_ble_eq_true rfl) dX9_ask_34) (fun H locs hs => ?_)
        refine lv_iconst (v := 1) hx hb dX9_ask_37 (by decide) ?_
        refine lv_isub hx hb dX9_ask_38 ?_
        refine lv_icmp_ge (tgt := 44) hx hb dX9_ask_39 (by decide) (fun c9 => ?_) (fun c9 => ?_)
        · have hf := z_t hf c9
          refine lv_aload_n hx hb dX9_ask_44 rfl (lv_at hl 0 rfl) ?_
          refine lv_iload_n hx hb dX9_ask_45 rfl (lv_at hl 1 rfl) ?_
          refine lv_iconst (v := 0) hx hb dX9_ask_46 (by decide) ?_
          refine lv_aload_n hx hb dX9_ask_47 rfl (lv_at hl 0 rfl) ?_
          refine lv_iload_n hx hb dX9_ask_48 rfl (lv_at hl 1 rfl) ?_
          refine lv_iconst (v := 0) hx hb dX9_ask_49 (by decide) ?_
          obtain ⟨r10, σ10, h_10, hf⟩ := z_bds hf
          refine z_goI C hs (z_runV C hs hl.1 (cM_of l E hM h_10) zcV_RX9_146 (hM 100 (by decide) (by decide)) (z_c100 E _ _ _ _) rfl rfl rfl (by decide) (Nat.le_of_ble_eq_true rfl) dX9_ask_50) (fun H locs hs => ?_)
          refine lv_iconst (v := 1) hx hb dX9_ask_53 (by decide) ?_
          refine lv_iadd hx hb dX9_ask_54 ?_
          obtain ⟨r11, σ11, h_11, hf⟩ := z_bds hf
          refine z_goV C hs (z_runV C hs hl.1 (cM_put l E hM h_11) zcV_RX9_139 (hM 100 (by decide) (by decide)) (z_c100 E _ _ _ _) rfl rfl rfl (by decide) (Nat.le_of_ble_eq_true rfl) dX9_ask_55) (fun H locs hs => ?_)
          refine lv_aload_n hx hb dX9_ask_58 rfl (lv_at hl 0 rfl) ?_
          refine lv_iload_n hx hb dX9_ask_59 rfl (lv_at hl 1 rfl) ?_
          refine lv_iconst (v := 1) hx hb dX9_ask_60 (by decide) ?_
          refine lv_iload_n hx hb dX9_ask_61 rfl (lv_at hl 1 rfl) ?_
          obtain ⟨r12, σ12, h_12, hf⟩ := z_bds hf
          refine z_goV C hs (z_runV C hs hl.1 (cM_put l E hM h_12) zcV_RX9_139 (hM 100 (by decide) (by decide)) (z_c100 E _ _ _ _) rfl rfl rfl (by decide) (Nat.le_of_ble_eq_true rfl) dX9_ask_62) (fun H locs hs => ?_)
          refine lv_aload_n hx hb dX9_ask_65 rfl (lv_at hl 0 rfl) ?_
          refine lv_iload_n hx hb dX9_ask_66 rfl (lv_at hl 1 rfl) ?_
          refine lv_iconst (v := 5) hx hb dX9_ask_67 (by decide) ?_
          refine lv_iconst (v := 1) hx hb dX9_ask_68 (by decide) ?_
          obtain ⟨r13, σ13, h_13, hf⟩ := z_bds hf
          refine z_goV C hs (z_runV C hs hl.1 (cM_put l E hM h_13) zcV_RX9_139 (hM 100 (by decide) (by decide)) (z_c100 E _ _ _ _) rfl rfl rfl (by decide) (Nat.le_of_ble_eq_true rfl) dX9_ask_69) (fun H locs hs => ?_)
          refine lv_aload_n hx hb dX9_ask_72 rfl (lv_at hl 0 rfl) ?_
          refine lv_iload_n hx hb dX9_ask_73 rfl (lv_at hl 1 rfl) ?_
          refine lv_bipush (v := 7) hx hb dX9_ask_74 (by decide) ?_
          refine lv_iconst (v := 1) hx hb dX9_ask_76 (by decide) ?_
          refine lv_iload_n hx hb dX9_ask_77 rfl (lv_at hl 1 rfl) ?_
          refine lv_ishl hx hb dX9_ask_78 ?_
          obtain ⟨r14, σ14, h_14, hf⟩ := z_bds hf
          refine z_goV C hs (z_runV C hs hl.1 (cM_put l E hM h_14) zcV_RX9_139 (hM 100 (by decide) (by decide)) (z_c100 E _ _ _ _) rfl rfl rfl (by decide) (Nat.le_of_ble_eq_true rfl) dX9_ask_79) (fun H locs hs => ?_)
          refine lv_iconst (v := 0) hx hb dX9_ask_82 (by decide) ?_
          refine lv_istore_n (lv' := [(2, .int 0), (0, .ref (z_ad E (100, 0, 0))), (1, .int x1)]) hx hb dX9_ask_83 rfl hl (by decide) rfl (fun ls hl => ?_)
          exact wM_ask_84 C hr hM z_fu x1 0 σ14 _ _ _ hs (lv_sub hl [1, 2, 0] rfl) hf
        · have hf := z_f hf c9
          refine lv_iconst (v := (-1)) hx hb dX9_ask_42 (by decide) ?_
          exact z_reti C hr hs hf dX9_ask_43
set_option maxHeartbeats 4000000 in
set_option maxRecDepth 20000 in
theorem cM_ask (l : Launch) (E : zE) {x1 : Int32} (hM : z_M E) {σ σo : zS} {ro : Int32} (hf : fM_ask x1 σ = some (ro, σo)) : z_T l E yX9_ask cX9_ask 3 (some .int) (z_rm 7) (z_QI E ro σo) [.ref (z_ad E (100, 0, 0)), .int x1] σ :=
  z_enter (by decide) (Nat.le_of_ble_eq_true rfl) rfl (fun p e s m below meth c A ls C hr hs hl => wM_ask C hr hM σ _ _ ls hs hl hf)
def fM_append_223 : Nat → Int32 → Int32 → Int32 → Int32 → Int32 → zS → Option (Int32 × zS)
  | 0, _, _, _, _, _, _ => none
  | n + 1, x1, x3, x5, x6, x7, σ =>
    if x6 ≤ x7 then
      (z_bd (fM_settles x1 σ) (fun _ σ26 =>
      some (x5, σ26)))
    else
      (z_bd (fM_entryAt x1 (x3 + x7) σ) (fun r27 σ27 =>
      z_bd (fM_copy r27 (((2240 + (64 * x5)) + 10) + (6 * x7)) 6 σ27) (fun _ σ28 =>
      z_let (x7 + 1) (fun y29 =>
      fM_append_223 n x1 x3 x5 x6 y29 σ28))))
def fM_append_193 (x1 : Int32) (x3 : Int32) (x5 : Int32) (t0 : Int32) (σ : zS) : Option (Int32 × zS) :=
  z_bd (fM_putSlot x5 6 t0 σ) (fun _ σ22 =>
  z_bd (fM_of x1 6 σ22) (fun r23 σ23 =>
  z_bd (fM_putSlot x5 7 r23 σ23) (fun _ σ24 =>
  fM_append_223 z_fu x1 x3 x5 t0 0 σ24)))
def fM_append_118 (x1 : Int32) (x3 : Int32) (x4 : Int32) (t0 : Int32) (σ : zS) : Option (Int32 × zS) :=
  z_bd (fM_of x1 8 σ) (fun r16 σ16 =>
  z_bd (fM_putSlot t0 8 r16 σ16) (fun _ σ17 =>
  if x4 = 0 then
    (z_bd (fM_of x1 4 σ17) (fun r19 σ19 =>
    z_let ((r19 - x3) + 1) (fun y20 =>
    if 5 ≤ y20 then
      (fM_append_193 x1 x3 t0 5 σ19)
    else
      (fM_append_193 x1 x3 t0 y20 σ19))))
  else
    (z_bd (fM_copy ((320 * x1) + 10) ((2240 + (64 * t0)) + 10) 20 σ17) (fun _ σ30 =>
    z_bd (fM_settles x1 σ30) (fun _ σ31 =>
    some (t0, σ31))))))
def fM_append_71 (x1 : Int32) (x2 : Int32) (x3 : Int32) (t0 : Int32) (σ : zS) : Option (Int32 × zS) :=
  if t0 = 0 then
    (z_bd (fM_termOf x1 (x3 - 1) σ) (fun r14 σ14 =>
    z_bd (fM_sends 2 x1 x2 (x3 - 1) r14 σ14) (fun r15 σ15 =>
    fM_append_118 x1 x3 t0 r15 σ15)))
  else
    (z_bd (fM_of x1 2 σ) (fun r32 σ32 =>
    z_bd (fM_of x1 3 σ32) (fun r33 σ33 =>
    z_bd (fM_sends 4 x1 x2 r32 r33 σ33) (fun r34 σ34 =>
    fM_append_118 x1 x3 t0 r34 σ34))))
def fM_append (x1 : Int32) (x2 : Int32) (σ : zS) : Option (Int32 × zS) :=
  z_bd (fM_doesLead x1 σ) (fun r1 σ1 =>
  if r1 = 0 then
    (some ((-1), σ1))
  else
    (z_bd (fM_isKeeper x2 σ1) (fun r3 σ3 =>
    if r3 = 0 then
      (some ((-1), σ3))
    else
      (if x1 = x2 then
        (some ((-1), σ3))
      else
        (z_bd (fM_empty σ3) (fun r6 σ6 =>
        if 0 ≤ r6 then
          (z_bd (fM_of x1 8 σ6) (fun r8 σ8 =>
          z_bd (fM_put x1 8 (r8 + 1) σ8) (fun _ σ9 =>
          z_bd (fM_of x1 (50 + x2) σ9) (fun r10 σ10 =>
          z_bd (fM_of x1 2 σ10) (fun r11 σ11 =>
          if r11 < r10 then
            (fM_append_71 x1 x2 r10 0 σ11)
          else
            (fM_append_71 x1 x2 r10 1 σ11))))))
        else
          (some ((-1), σ6))))))))
set_option maxHeartbeats 4000000 in
set_option maxRecDepth 20000 in
theorem wM_append_223 (C : z_C E RX9 cX9_append 8 A p s m args meth c) (hr : meth.sig.returnType = (some .int)) (hM : z_M E) {ro : Int32} {σo : zS} (n : Nat) : ∀ (x1 : Int32) (x3 : Int32) (x5 : Int32) (x6 : Int32) (x7 : Int32) (σ : zS) (H : Heap) (locs : List Loc) (ls : Array Slot), z_H E A s σ H locs → lv_has ls 8 [(0, .ref (z_ad E (100, 0, 0))), (1, .int x1), (3, .int x3), (5, .int x5), (6, .int x6), (7, .int x7)] → fM_append_223 n x1 x3 x5 x6 x7 σ = some (ro, σo) → W p l e (z_rm 6) s m args below meth c H locs 0 0 (MQ below (z_QI E ro σo A) args s 0 0 A) (F0 m 223 ls []) := by
  induction n with
  | zero =>
    intro x1 x3 x5 x6 x7 σ H locs ls hs hl hf
    have hf : none = some (ro, σo) := hf
    cases hf
  | succ n ih =>
    intro x1 x3 x5 x6 x7 σ H locs ls hs hl hf
    have hx := C.1
    have hb := C.2.1
    rw [fM_append_223.eq_2] at hf
    refine lv_iload hx hb dX9_append_223 (lv_at hl 5 rfl) ?_
    refine lv_iload hx hb dX9_append_225 (lv_at hl 4 rfl) ?_
    refine lv_icmp_ge (tgt := 269) hx hb dX9_append_227 (by decide) (fun c25 => ?_) (fun c25 => ?_)
    · have hf := z_t hf c25
      refine lv_aload_n hx hb dX9_append_269 rfl (lv_at hl 0 rfl) ?_
      refine lv_iload_n hx hb dX9_append_270 rfl (lv_at hl 1 rfl) ?_
      obtain ⟨r26, σ26, h_26, hf⟩ := z_bds hf
      refine z_goV C hs (z_runV C hs hl.1 (cM_settles l E hM h_26) zcV_RX9_182 (hM 100 (by decide) (by decide)) (z_c100 E _ _ _ _) rfl rfl rfl (by decide) (Nat.le_of_ble_eq_true rfl) dX9_append_271) (fun H locs hs => ?_)
      refine lv_iload hx hb dX9_append_274 (lv_at hl 3 rfl) ?_
      exact z_reti C hr hs hf dX9_append_276
    · have hf := z_f hf c25
      refine lv_aload_n hx hb dX9_append_230 rfl (lv_at hl 0 rfl) ?_
      refine lv_aload_n hx hb dX9_append_231 rfl (lv_at hl 0 rfl) ?_
      refine lv_iload_n hx hb dX9_append_232 rfl (lv_at hl 1 rfl) ?_
      refine lv_iload_n hx hb dX9_append_233 rfl (lv_at hl 2 rfl) ?_
      refine lv_iload hx hb dX9_append_234 (lv_at hl 5 rfl) ?_
      refine lv_iadd hx hb dX9_append_236 ?_
      obtain ⟨r27, σ27, h_27, hf⟩ := z_bds hf
      refine z_goI C hs (z_runV C hs hl.1 (cM_entryAt l E hM h_27) zcV_RX9_153 (hM 100 (by decide) (by decide)) (z_c100 E _ _ _ _) rfl rfl rfl (by decide) (Nat.le_of_ble_eq_true rfl) dX9_append_237) (fun H locs hs => ?_)
      refine lv_sipush (v := 2240) hx hb dX9_append_240 (by decide) ?_
      refine lv_bipush (v := 64) hx hb dX9_append_243 (by decide) ?_
      refine lv_iload hx hb dX9_append_245 (lv_at hl 3 rfl) ?_
      refine lv_imul hx hb dX9_append_247 ?_
      refine lv_iadd hx hb dX9_append_248 ?_
      refine lv_bipush (v := 10) hx hb dX9_append_249 (by decide) ?_
      refine lv_iadd hx hb dX9_append_251 ?_
      refine lv_bipush (v := 6) hx hb dX9_append_252 (by decide) ?_
      refine lv_iload hx hb dX9_append_254 (lv_at hl 5 rfl) ?_
      refine lv_imul hx hb dX9_append_256 ?_
      refine lv_iadd hx hb dX9_append_257 ?_
      refine lv_bipush (v := 6) hx hb dX9_append_258 (by decide) ?_
      obtain ⟨r28, σ28, h_28, hf⟩ := z_bds hf
      refine z_goV C hs (z_runV C hs hl.1 (cM_copy l E hM h_28) zcV_RX9_208 (hM 100 (by decide) (by decide)) (z_c100 E _ _ _ _) rfl rfl rfl (by decide) (Nat.le_of_ble_eq_true rfl) dX9_append_260) (fun H locs hs => ?_)
      obtain ⟨y29, e_y29⟩ : ∃ y : Int32, y = x7 + 1 := ⟨_, rfl⟩
      have hf := z_lte e_y29 hf
      refine lv_iinc (v := y29) (lv' := [(7, .int y29), (0, .ref (z_ad E (100, 0, 0))), (1, .int x1), (3, .int x3), (5, .int x5), (6, .int x6)]) hx hb dX9_append_263 hl (k := 5) rfl (by rw [e_y29]; rfl) (by decide) rfl (fun ls hl => ?_)
      refine lv_goto (tgt := 223) hx hb dX9_append_266 (by decide) ?_
      exact ih x1 x3 x5 x6 y29 σ28 _ _ _ hs (lv_sub hl [1, 2, 3, 4, 5, 0] rfl) hf
set_option maxHeartbeats 4000000 in
set_option maxRecDepth 20000 in
theorem wM_append_193 (C : z_C E RX9 cX9_append 8 A p s m args meth c) (hr : meth.sig.returnType = (some .int)) (hM : z_M E) {ro : Int32} {σo : zS} (x1 : Int32) (x3 : Int32) (x5 : Int32) (t0 : Int32) (σ : zS) (H : Heap) (locs : List Loc) (ls : Array Slot) (hs : z_H E A s σ H locs) (hl : lv_has ls 8 [(0, .ref (z_ad E (100, 0, 0))), (1, .int x1), (3, .int x3), (5, .int x5)]) (hf : fM_append_193 x1 x3 x5 t0 σ = some (ro, σo)) : W p l e (z_rm 6) s m args below meth c H locs 0 0 (MQ below (z_QI E ro σo A) args s 0 0 A) (F0 m 193 ls [.int t0]) := by
  have hx := C.1
  have hb := C.2.1
  unfold fM_append_193 at hf
  refine lv_istore (lv' := [(6, .int t0), (0, .ref (z_ad E (100, 0, 0))), (1, .int x1), (3, .int x3), (5, .int x5)]) hx hb dX9_append_193 hl (by decide) rfl (fun ls hl => ?_)
  refine lv_aload_n hx hb dX9_append_195 rfl (lv_at hl 1 rfl) ?_
  refine lv_iload hx hb dX9_append_196 (lv_at hl 4 rfl) ?_
  refine lv_bipush (v := 6) hx hb dX9_append_198 (by decide) ?_
  refine lv_iload hx hb dX9_append_200 (lv_at hl 0 rfl) ?_
  obtain ⟨r22, σ22, h_22, hf⟩ := z_bds hf
  refine z_goV C hs (z_runV C hs hl.1 (cM_putSlot l E hM h_22) zcV_RX9_192 (hM 100 (by decide) (by decide)) (z_c100 E _ _ _ _) rfl rfl rfl (by decide) (Nat.le_of_ble_eq_true rfl) dX9_append_202) (fun H locs hs => ?_)
  refine lv_aload_n hx hb dX9_append_205 rfl (lv_at hl 1 rfl) ?_
  refine lv_iload hx hb dX9_append_206 (lv_at hl 4 rfl) ?_
  refine lv_bipush (v := 7) hx hb dX9_append_208 (by decide) ?_
  refine lv_aload_n hx hb dX9_append_210 rfl (lv_at hl 1 rfl) ?_
  refine lv_iload_n hx hb dX9_append_211 rfl (lv_at hl 2 rfl) ?_
  refine lv_bipush (v := 6) hx hb dX9_append_212 (by decide) ?_
  obtain ⟨r23, σ23, h_23, hf⟩ := z_bds hf
  refine z_goI C hs (z_runV C hs hl.1 (cM_of l E hM h_23) zcV_RX9_146 (hM 100 (by decide) (by decide)) (z_c100 E _ _ _ _) rfl rfl rfl (by decide) (Nat.le_of_ble_eq_true rfl) dX9_append_214) (fun H locs hs => ?_)
  obtain ⟨r24, σ24, h_24, hf⟩ := z_bds hf
  refine z_goV C hs (z_runV C hs hl.1 (cM_putSlot l E hM h_24) zcV_RX9_192 (hM 100 (by decide) (by decide)) (z_c100 E _ _ _ _) rfl rfl rfl (by decide) (Nat.le_of_ble_eq_true rfl) dX9_append_217) (fun H locs hs => ?_)
  refine lv_iconst (v := 0) hx hb dX9_append_220 (by decide) ?_
  refine lv_istore (lv' := [(7, .int 0), (6, .int t0), (0, .ref (z_ad E (100, 0, 0))), (1, .int x1), (3, .int x3), (5, .int x5)]) hx hb dX9_append_221 hl (by decide) rfl (fun ls hl => ?_)
  exact wM_append_223 C hr hM z_fu x1 x3 x5 t0 0 σ24 _ _ _ hs (lv_sub hl [2, 3, 4, 5, 1, 0] rfl) hf
set_option maxHeartbeats 4000000 in
set_option maxRecDepth 20000 in
theorem wM_append_118 (C : z_C E RX9 cX9_append 8 A p s m args meth c) (hr : meth.sig.returnType = (some .int)) (hM : z_M E) {ro : Int32} {σo : zS} (x1 : Int32) (x3 : Int32) (x4 : Int32) (t0 : Int32) (σ : zS) (H : Heap) (locs : List Loc) (ls : Array Slot) (hs : z_H E A s σ H locs) (hl : lv_has ls 8 [(0, .ref (z_ad E (100, 0, 0))), (1, .int x1), (3, .int x3), (4, .int x4)]) (hf : fM_append_118 x1 x3 x4 t0 σ = some (ro, σo)) : W p l e (z_rm 6) s m args below meth c H locs 0 0 (MQ below (z_QI E ro σo A) args s 0 0 A) (F0 m 118 ls [.int t0]) := by
  have hx := C.1
  have hb := C.2.1
  unfold fM_append_118 at hf
  refine lv_istore (lv' := [(5, .int t0), (0, .ref (z_ad E (100, 0, 0))), (1, .int x1), (3, .int x3), (4, .int x4)]) hx hb dX9_append_118 hl (by decide) rfl (fun ls hl => ?_)
  refine lv_aload_n hx hb dX9_append_120 rfl (lv_at hl 1 rfl) ?_
  refine lv_iload hx hb dX9_append_121 (lv_at hl 0 rfl) ?_
  refine lv_bipush (v := 8) hx hb dX9_append_123 (by decide) ?_
  refine lv_aload_n hx hb dX9_append_125 rfl (lv_at hl 1 rfl) ?_
  refine lv_iload_n hx hb dX9_append_126 rfl (lv_at hl 2 rfl) ?_
  refine lv_bipush (v := 8) hx hb dX9_append_127 (by decide) ?_
  obtain ⟨r16, σ16, h_16, hf⟩ := z_bds hf
  refine z_goI C hs (z_runV C hs hl.1 (cM_of l E hM h_16) zcV_RX9_146 (hM 100 (by decide) (by decide)) (z_c100 E _ _ _ _) rfl rfl rfl (by decide) (Nat.le_of_ble_eq_true rfl) dX9_append_129) (fun H locs hs => ?_)
  obtain ⟨r17, σ17, h_17, hf⟩ := z_bds hf
  refine z_goV C hs (z_runV C hs hl.1 (cM_putSlot l E hM h_17) zcV_RX9_192 (hM 100 (by decide) (by decide)) (z_c100 E _ _ _ _) rfl rfl rfl (by decide) (Nat.le_of_ble_eq_true rfl) dX9_append_132) (fun H locs hs => ?_)
  refine lv_iload hx hb dX9_append_135 (lv_at hl 4 rfl) ?_
  refine lv_if_eq (tgt := 169) hx hb dX9_append_137 (by decide) (fun c18 => ?_) (fun c18 => ?_)
  · have hf := z_t hf c18
    refine lv_aload_n hx hb dX9_append_169 rfl (lv_at hl 1 rfl) ?_
    refine lv_iload_n hx hb dX9_append_170 rfl (lv_at hl 2 rfl) ?_
    refine lv_iconst (v := 4) hx hb dX9_append_171 (by decide) ?_
    obtain ⟨r19, σ19, h_19, hf⟩ := z_bds hf
    refine z_goI C hs (z_runV C hs hl.1 (cM_of l E hM h_19) zcV_RX9_146 (hM 100 (by decide) (by decide)) (z_c100 E _ _ _ _) rfl rfl rfl (by decide) (Nat.le_of_ble_eq_true rfl) dX9_append_172) (fun H locs hs => ?_)
    refine lv_iload_n hx hb dX9_append_175 rfl (lv_at hl 3 rfl) ?_
    refine lv_isub hx hb dX9_append_176 ?_
    refine lv_iconst (v := 1) hx hb dX9_append_177 (by decide) ?_
    refine lv_iadd hx hb dX9_append_178 ?_
    refine lv_topi (fun y20 e_y20 => ?_)
    have hf := z_lte e_y20 hf
    refine lv_istore (lv' := [(6, .int y20), (5, .int t0), (0, .ref (z_ad E (100, 0, 0))), (1, .int x1), (3, .int x3), (4, .int x4)]) hx hb dX9_append_179 hl (by decide) rfl (fun ls hl => ?_)
    refine lv_iload hx hb dX9_append_181 (lv_at hl 0 rfl) ?_
    refine lv_iconst (v := 5) hx hb dX9_append_183 (by decide) ?_
    refine lv_icmp_ge (tgt := 192) hx hb dX9_append_184 (by decide) (fun c21 => ?_) (fun c21 => ?_)
    · have hf := z_t hf c21
      refine lv_iconst (v := 5) hx hb dX9_append_192 (by decide) ?_
      exact wM_append_193 C hr hM x1 x3 t0 5 σ19 _ _ _ hs (lv_sub hl [2, 3, 4, 1] rfl) hf
    · have hf := z_f hf c21
      refine lv_iload hx hb dX9_append_187 (lv_at hl 0 rfl) ?_
      refine lv_goto (tgt := 193) hx hb dX9_append_189 (by decide) ?_
      exact wM_append_193 C hr hM x1 x3 t0 y20 σ19 _ _ _ hs (lv_sub hl [2, 3, 4, 1] rfl) hf
  · have hf := z_f hf c18
    refine lv_aload_n hx hb dX9_append_140 rfl (lv_at hl 1 rfl) ?_
    refine lv_sipush (v := 320) hx hb dX9_append_141 (by decide) ?_
    refine lv_iload_n hx hb dX9_append_144 rfl (lv_at hl 2 rfl) ?_
    refine lv_imul hx hb dX9_append_145 ?_
    refine lv_bipush (v := 10) hx hb dX9_append_146 (by decide) ?_
    refine lv_iadd hx hb dX9_append_148 ?_
    refine lv_sipush (v := 2240) hx hb dX9_append_149 (by decide) ?_
    refine lv_bipush (v := 64) hx hb dX9_append_152 (by decide) ?_
    refine lv_iload hx hb dX9_append_154 (lv_at hl 0 rfl) ?_
    refine lv_imul hx hb dX9_append_156 ?_
    refine lv_iadd hx hb dX9_append_157 ?_
    refine lv_bipush (v := 10) hx hb dX9_append_158 (by decide) ?_
    refine lv_iadd hx hb dX9_append_160 ?_
    refine lv_bipush (v := 20) hx hb dX9_append_161 (by decide) ?_
    obtain ⟨r30, σ30, h_30, hf⟩ := z_bds hf
    refine z_goV C hs (z_runV C hs hl.1 (cM_copy l E hM h_30) zcV_RX9_208 (hM 100 (by decide) (by decide)) (z_c100 E _ _ _ _) rfl rfl rfl (by decide) (Nat.le_of_ble_eq_true rfl) dX9_append_163) (fun H locs hs => ?_)
    refine lv_goto (tgt := 269) hx hb dX9_append_166 (by decide) ?_
    refine lv_aload_n hx hb dX9_append_269 rfl (lv_at hl 1 rfl) ?_
    refine lv_iload_n hx hb dX9_append_270 rfl (lv_at hl 2 rfl) ?_
    obtain ⟨r31, σ31, h_31, hf⟩ := z_bds hf
    refine z_goV C hs (z_runV C hs hl.1 (cM_settles l E hM h_31) zcV_RX9_182 (hM 100 (by decide) (by decide)) (z_c100 E _ _ _ _) rfl rfl rfl (by decide) (Nat.le_of_ble_eq_true rfl) dX9_append_271) (fun H locs hs => ?_)
    refine lv_iload hx hb dX9_append_274 (lv_at hl 0 rfl) ?_
    exact z_reti C hr hs hf dX9_append_276
set_option maxHeartbeats 4000000 in
set_option maxRecDepth 20000 in
theorem wM_append_71 (C : z_C E RX9 cX9_append 8 A p s m args meth c) (hr : meth.sig.returnType = (some .int)) (hM : z_M E) {ro : Int32} {σo : zS} (x1 : Int32) (x2 : Int32) (x3 : Int32) (t0 : Int32) (σ : zS) (H : Heap) (locs : List Loc) (ls : Array Slot) (hs : z_H E A s σ H locs) (hl : lv_has ls 8 [(0, .ref (z_ad E (100, 0, 0))), (1, .int x1), (2, .int x2), (3, .int x3)]) (hf : fM_append_71 x1 x2 x3 t0 σ = some (ro, σo)) : W p l e (z_rm 6) s m args below meth c H locs 0 0 (MQ below (z_QI E ro σo A) args s 0 0 A) (F0 m 71 ls [.int t0]) := by
  have hx := C.1
  have hb := C.2.1
  unfold fM_append_71 at hf
  refine lv_istore (lv' := [(4, .int t0), (0, .ref (z_ad E (100, 0, 0))), (1, .int x1), (2, .int x2), (3, .int x3)]) hx hb dX9_append_71 hl (by decide) rfl (fun ls hl => ?_)
  refine lv_iload hx hb dX9_append_73 (lv_at hl 0 rfl) ?_
  refine lv_if_eq (tgt := 100) hx hb dX9_append_75 (by decide) (fun c13 => ?_) (fun c13 => ?_)
  · have hf := z_t hf c13
    refine lv_aload_n hx hb dX9_append_100 rfl (lv_at hl 1 rfl) ?_
    refine lv_iconst (v := 2) hx hb dX9_append_101 (by decide) ?_
    refine lv_iload_n hx hb dX9_append_102 rfl (lv_at hl 2 rfl) ?_
    refine lv_iload_n hx hb dX9_append_103 rfl (lv_at hl 3 rfl) ?_
    refine lv_iload_n hx hb dX9_append_104 rfl (lv_at hl 4 rfl) ?_
    refine lv_iconst (v := 1) hx hb dX9_append_105 (by decide) ?_
    refine lv_isub hx hb dX9_append_106 ?_
    refine lv_aload_n hx hb dX9_append_107 rfl (lv_at hl 1 rfl) ?_
    refine lv_iload_n hx hb dX9_append_108 rfl (lv_at hl 2 rfl) ?_
    refine lv_iload_n hx hb dX9_append_109 rfl (lv_at hl 4 rfl) ?_
    refine lv_iconst (v := 1) hx hb dX9_append_110 (by decide) ?_
    refine lv_isub hx hb dX9_append_111 ?_
    obtain ⟨r14, σ14, h_14, hf⟩ := z_bds hf
    refine z_goI C hs (z_runV C hs hl.1 (cM_termOf l E hM h_14) zcV_RX9_172 (hM 100 (by decide) (by decide)) (z_c100 E _ _ _ _) rfl rfl rfl (by decide) (Nat.le_of_ble_eq_true rfl) dX9_append_112) (fun H locs hs => ?_)
    obtain ⟨r15, σ15, h_15, hf⟩ := z_bds hf
    refine z_goI C hs (z_runV C hs hl.1 (cM_sends l E hM h_15) zcV_RX9_198 (hM 100 (by decide) (by decide)) (z_c100 E _ _ _ _) rfl rfl rfl (by decide) (Nat.le_of_ble_eq_true rfl) dX9_append_115) (fun H locs hs => ?_)
    exact wM_append_118 C hr hM x1 x3 t0 r15 σ15 _ _ _ hs (lv_sub hl [1, 2, 4, 0] rfl) hf
  · have hf := z_f hf c13
    refine lv_aload_n hx hb dX9_append_78 rfl (lv_at hl 1 rfl) ?_
    refine lv_iconst (v := 4) hx hb dX9_append_79 (by decide) ?_
    refine lv_iload_n hx hb dX9_append_80 rfl (lv_at hl 2 rfl) ?_
    refine lv_iload_n hx hb dX9_append_81 rfl (lv_at hl 3 rfl) ?_
    refine lv_aload_n hx hb dX9_append_82 rfl (lv_at hl 1 rfl) ?_
    refine lv_iload_n hx hb dX9_append_83 rfl (lv_at hl 2 rfl) ?_
    refine lv_iconst (v := 2) hx hb dX9_append_84 (by decide) ?_
    obtain ⟨r32, σ32, h_32, hf⟩ := z_bds hf
    refine z_goI C hs (z_runV C hs hl.1 (cM_of l E hM h_32) zcV_RX9_146 (hM 100 (by decide) (by decide)) (z_c100 E _ _ _ _) rfl rfl rfl (by decide) (Nat.le_of_ble_eq_true rfl) dX9_append_85) (fun H locs hs => ?_)
    refine lv_aload_n hx hb dX9_append_88 rfl (lv_at hl 1 rfl) ?_
    refine lv_iload_n hx hb dX9_append_89 rfl (lv_at hl 2 rfl) ?_
    refine lv_iconst (v := 3) hx hb dX9_append_90 (by decide) ?_
    obtain ⟨r33, σ33, h_33, hf⟩ := z_bds hf
    refine z_goI C hs (z_runV C hs hl.1 (cM_of l E hM h_33) zcV_RX9_146 (hM 100 (by decide) (by decide)) (z_c100 E _ _ _ _) rfl rfl rfl (by decide) (Nat.le_of_ble_eq_true rfl) dX9_append_91) (fun H locs hs => ?_)
    obtain ⟨r34, σ34, h_34, hf⟩ := z_bds hf
    refine z_goI C hs (z_runV C hs hl.1 (cM_sends l E hM h_34) zcV_RX9_198 (hM 100 (by decide) (by decide)) (z_c100 E _ _ _ _) rfl rfl rfl (by decide) (Nat.le_of_ble_eq_true rfl) dX9_append_94) (fun H locs hs => ?_)
    refine lv_goto (tgt := 118) hx hb dX9_append_97 (by decide) ?_
    exact wM_append_118 C hr hM x1 x3 t0 r34 σ34 _ _ _ hs (lv_sub hl [1, 2, 4, 0] rfl) hf
set_option maxHeartbeats 4000000 in
set_option maxRecDepth 20000 in
theorem wM_append {x1 : Int32} {x2 : Int32} (C : z_C E RX9 cX9_append 8 A p s m args meth c) (hr : meth.sig.returnType = (some .int)) (hM : z_M E) {ro : Int32} {σo : zS} (σ : zS) (H : Heap) (locs : List Loc) (ls : Array Slot) (hs : z_H E A s σ H locs) (hl : lv_has ls 8 [(0, .ref (z_ad E (100, 0, 0))), (1, .int x1), (2, .int x2)]) (hf : fM_append x1 x2 σ = some (ro, σo)) : W p l e (z_rm 6) s m args below meth c H locs 0 0 (MQ below (z_QI E ro σo A) args s 0 0 A) (F0 m 0 ls []) := by
  have hx := C.1
  have hb := C.2.1
  unfold fM_append at hf
  refine lv_aload_n hx hb dX9_append_0 rfl (lv_at hl 0 rfl) ?_
  refine lv_iload_n hx hb dX9_append_1 rfl (lv_at hl 1 rfl) ?_
  obtain ⟨r1, σ1, h_1, hf⟩ := z_bds hf
  refine z_goI C hs (z_runV C hs hl.1 (cM_doesLead l E hM h_1) zcV_RX9_205 (hM 100 (by decide) (by decide)) (z_c100 E _ _ _ _) rfl rfl rfl (by decide) (Nat.le_of_ble_eq_true rfl) dX9_append_2) (fun H locs hs => ?_)
  refine lv_if_eq (tgt := 28) hx hb dX9_append_5 (by decide) (fun c2 => ?_) (fun c2 => ?_)
  · have hf := z_t hf c2
    refine lv_iconst (v := (-1)) hx hb dX9_append_28 (by decide) ?_
    exact z_reti C hr hs hf dX9_append_29
  · have hf := z_f hf c2
    refine lv_aload_n hx hb dX9_append_8 rfl (lv_at hl 0 rfl) ?_
    refine lv_iload_n hx hb dX9_append_9 rfl (lv_at hl 2 rfl) ?_
    obtain ⟨r3, σ3, h_3, hf⟩ := z_bds hf
    refine z_goI C hs (z_runV C hs hl.1 (cM_isKeeper l E hM h_3) zcV_RX9_143 (hM 100 (by decide) (by decide)) (z_c100 E _ _ _ _) rfl rfl rfl (by decide) (Nat.le_of_ble_eq_true rfl) dX9_append_10) (fun H locs hs => ?_)
    refine lv_if_eq (tgt := 28) hx hb dX9_append_13 (by decide) (fun c4 => ?_) (fun c4 => ?_)
    · have hf := z_t hf c4
      refine lv_iconst (v := (-1)) hx hb dX9_append_28 (by decide) ?_
      exact z_reti C hr hs hf dX9_append_29
    · have hf := z_f hf c4
      refine lv_iload_n hx hb dX9_append_16 rfl (lv_at hl 1 rfl) ?_
      refine lv_iload_n hx hb dX9_append_17 rfl (lv_at hl 2 rfl) ?_
      refine lv_icmp_eq (tgt := 28) hx hb dX9_append_18 (by decide) (fun c5 => ?_) (fun c5 => ?_)
      · have hf := z_t hf c5
        refine lv_iconst (v := (-1)) hx hb dX9_append_28 (by decide) ?_
        exact z_reti C hr hs hf dX9_append_29
      · have hf := z_f hf c5
        refine lv_aload_n hx hb dX9_append_21 rfl (lv_at hl 0 rfl) ?_
        obtain ⟨r6, σ6, h_6, hf⟩ := z_bds hf
        refine z_goI C hs (z_runV C hs hl.1 (cM_empty l E hM h_6) zcV_RX9_189 (hM 100 (by decide) (by decide)) (z_c100 E _ _ _ _) rfl rfl rfl (by decide) (Nat.le_of_ble_eq_true rfl) dX9_append_22) (fun H locs hs => ?_)
        refine lv_if_ge (tgt := 30) hx hb dX9_append_25 (by decide) (fun c7 => ?_) (fun c7 => ?_)
        · have hf := z_t hf c7
          refine lv_aload_n hx hb dX9_append_30 rfl (lv_at hl 0 rfl) ?_
          refine lv_iload_n hx hb dX9_append_31 rfl (lv_at hl 1 rfl) ?_
          refine lv_bipush (v := 8) hx hb dX9_append_32 (by decide) ?_
          refine lv_aload_n hx hb dX9_append_34 rfl (lv_at hl 0 rfl) ?_
          refine lv_iload_n hx hb dX9_append_35 rfl (lv_at hl 1 rfl) ?_
          refine lv_bipush (v := 8) hx hb dX9_append_36 (by decide) ?_
          obtain ⟨r8, σ8, h_8, hf⟩ := z_bds hf
          refine z_goI C hs (z_runV C hs hl.1 (cM_of l E hM h_8) zcV_RX9_146 (hM 100 (by decide) (by decide)) (z_c100 E _ _ _ _) rfl rfl rfl (by decide) (Nat.le_of_ble_eq_true rfl) dX9_append_38) (fun H locs hs => ?_)
          refine lv_iconst (v := 1) hx hb dX9_append_41 (by decide) ?_
          refine lv_iadd hx hb dX9_append_42 ?_
          obtain ⟨r9, σ9, h_9, hf⟩ := z_bds hf
          refine z_goV C hs (z_runV C hs hl.1 (cM_put l E hM h_9) zcV_RX9_139 (hM 100 (by decide) (by decide)) (z_c100 E _ _ _ _) rfl rfl rfl (by decide) (Nat.le_of_ble_eq_true rfl) dX9_append_43) (fun H locs hs => ?_)
          refine lv_aload_n hx hb dX9_append_46 rfl (lv_at hl 0 rfl) ?_
          refine lv_iload_n hx hb dX9_append_47 rfl (lv_at hl 1 rfl) ?_
          refine lv_bipush (v := 50) hx hb dX9_append_48 (by decide) ?_
          refine lv_iload_n hx hb dX9_append_50 rfl (lv_at hl 2 rfl) ?_
          refine lv_iadd hx hb dX9_append_51 ?_
          obtain ⟨r10, σ10, h_10, hf⟩ := z_bds hf
          refine z_goI C hs (z_runV C hs hl.1 (cM_of l E hM h_10) zcV_RX9_146 (hM 100 (by decide) (by decide)) (z_c100 E _ _ _ _) rfl rfl rfl (by decide) (Nat.le_of_ble_eq_true rfl) dX9_append_52) (fun H locs hs => ?_)
          refine lv_istore_n (lv' := [(3, .int r10), (0, .ref (z_ad E (100, 0, 0))), (1, .int x1), (2, .int x2)]) hx hb dX9_append_55 rfl hl (by decide) rfl (fun ls hl => ?_)
          refine lv_iload_n hx hb dX9_append_56 rfl (lv_at hl 0 rfl) ?_
          refine lv_aload_n hx hb dX9_append_57 rfl (lv_at hl 1 rfl) ?_
          refine lv_iload_n hx hb dX9_append_58 rfl (lv_at hl 2 rfl) ?_
          refine lv_iconst (v := 2) hx hb dX9_append_59 (by decide) ?_
          obtain ⟨r11, σ11, h_11, hf⟩ := z_bds hf
          refine z_goI C hs (z_runV C hs hl.1 (cM_of l E hM h_11) zcV_RX9_146 (hM 100 (by decide) (by decide)) (z_c100 E _ _ _ _) rfl rfl rfl (by decide) (Nat.le_of_ble_eq_true rfl) dX9_append_60) (fun H locs hs => ?_)
          refine lv_icmp_gt (tgt := 70) hx hb dX9_append_63 (by decide) (fun c12 => ?_) (fun c12 => ?_)
          · have hf := z_t hf c12
            refine lv_iconst (v := 0) hx hb dX9_append_70 (by decide) ?_
            exact wM_append_71 C hr hM x1 x2 r10 0 σ11 _ _ _ hs (lv_sub hl [1, 2, 3, 0] rfl) hf
          · have hf := z_f hf c12
            refine lv_iconst (v := 1) hx hb dX9_append_66 (by decide) ?_
            refine lv_goto (tgt := 71) hx hb dX9_append_67 (by decide) ?_
            exact wM_append_71 C hr hM x1 x2 r10 1 σ11 _ _ _ hs (lv_sub hl [1, 2, 3, 0] rfl) hf
        · have hf := z_f hf c7
          refine lv_iconst (v := (-1)) hx hb dX9_append_28 (by decide) ?_
          exact z_reti C hr hs hf dX9_append_29
set_option maxHeartbeats 4000000 in
set_option maxRecDepth 20000 in
theorem cM_append (l : Launch) (E : zE) {x1 : Int32} {x2 : Int32} (hM : z_M E) {σ σo : zS} {ro : Int32} (hf : fM_append x1 x2 σ = some (ro, σo)) : z_T l E yX9_append cX9_append 8 (some .int) (z_rm 6) (z_QI E ro σo) [.ref (z_ad E (100, 0, 0)), .int x1, .int x2] σ :=
  z_enter (by decide) (Nat.le_of_ble_eq_true rfl) rfl (fun p e s m below meth c A ls C hr hs hl => wM_append C hr hM σ _ _ ls hs hl hf)
def fM_command (x1 : Int32) (x2 : Int32) (x3 : Int32) (x4 : Int32) (x5 : Int32) (x6 : Int32) (σ : zS) : Option (Int32 × zS) :=
  z_bd (fM_doesLead x1 σ) (fun r1 σ1 =>
  if r1 = 0 then
    (some ((-1), σ1))
  else
    (z_bd (fM_of x1 4 σ1) (fun r3 σ3 =>
    z_bd (fM_of x1 2 σ3) (fun r4 σ4 =>
    if 40 ≤ (r3 - r4) then
      (some ((-1), σ4))
    else
      (z_bd (fM_isIn x2 0 5 σ4) (fun r6 σ6 =>
      if r6 = 0 then
        (some ((-1), σ6))
      else
        (z_bd (fM_isIn x3 1 99 σ6) (fun r8 σ8 =>
        if r8 = 0 then
          (some ((-1), σ8))
        else
          (z_bd (fM_isIn x4 0 3 σ8) (fun r10 σ10 =>
          if r10 = 0 then
            (some ((-1), σ10))
          else
            (z_bd (fM_isIn x5 0 7 σ10) (fun r12 σ12 =>
            if r12 = 0 then
              (some ((-1), σ12))
            else
              (z_bd (fM_of x1 4 σ12) (fun r14 σ14 =>
              z_bd (fM_put x1 4 (r14 + 1) σ14) (fun _ σ15 =>
              z_bd (fM_of x1 4 σ15) (fun r16 σ16 =>
              z_bd (fM_entryAt x1 r16 σ16) (fun r17 σ17 =>
              z_bd (fM_of x1 0 σ17) (fun r18 σ18 =>
              if z_in r17 5000 = true then (
              z_let (z_up σ18 (103, 0, 0) (r17.toNatClampNeg) r18) (fun σ20 =>
              if z_in (r17 + 1) 5000 = true then (
              z_let (z_up σ20 (103, 0, 0) ((r17 + 1).toNatClampNeg) x2) (fun σ22 =>
              if z_in (r17 + 2) 5000 = true then (
              z_let (z_up σ22 (103, 0, 0) ((r17 + 2).toNatClampNeg) x3) (fun σ24 =>
              if z_in (r17 + 3) 5000 = true then (
              z_let (z_up σ24 (103, 0, 0) ((r17 + 3).toNatClampNeg) x4) (fun σ26 =>
              if z_in (r17 + 4) 5000 = true then (
              z_let (z_up σ26 (103, 0, 0) ((r17 + 4).toNatClampNeg) x5) (fun σ28 =>
              if z_in (r17 + 5) 5000 = true then (
              z_let (z_up σ28 (103, 0, 0) ((r17 + 5).toNatClampNeg) x6) (fun σ30 =>
              z_bd (fM_settles x1 σ30) (fun _ σ31 =>
              z_bd (fM_of x1 4 σ31) (fun r32 σ32 =>
              some (r32, σ32))))) else none)) else none)) else none)) else none)) else none)) else none))))))))))))))))))
set_option maxHeartbeats 4000000 in
set_option maxRecDepth 20000 in
theorem wM_command {x1 : Int32} {x2 : Int32} {x3 : Int32} {x4 : Int32} {x5 : Int32} {x6 : Int32} (C : z_C E RX9 cX9_command 8 A p s m args meth c) (hr : meth.sig.returnType = (some .int)) (hM : z_M E) {ro : Int32} {σo : zS} (σ : zS) (H : Heap) (locs : List Loc) (ls : Array Slot) (hs : z_H E A s σ H locs) (hl : lv_has ls 8 [(0, .ref (z_ad E (100, 0, 0))), (1, .int x1), (2, .int x2), (3, .int x3), (4, .int x4), (5, .int x5), (6, .int x6)]) (hf : fM_command x1 x2 x3 x4 x5 x6 σ = some (ro, σo)) : W p l e (z_rm 6) s m args below meth c H locs 0 0 (MQ below (z_QI E ro σo A) args s 0 0 A) (F0 m 0 ls []) := by
  have hx := C.1
  have hb := C.2.1
  unfold fM_command at hf
  refine lv_aload_n hx hb dX9_command_0 rfl (lv_at hl 0 rfl) ?_
  refine lv_iload_n hx hb dX9_command_1 rfl (lv_at hl 1 rfl) ?_
  obtain ⟨r1, σ1, h_1, hf⟩ := z_bds hf
  refine z_goI C hs (z_runV C hs hl.1 (cM_doesLead l E hM h_1) zcV_RX9_205 (hM 100 (by decide) (by decide)) (z_c100 E _ _ _ _) rfl rfl rfl (by decide) (Nat.le_of_ble_eq_true rfl) dX9_command_2) (fun H locs hs => ?_)
  refine lv_if_eq (tgt := 66) hx hb dX9_command_5 (by decide) (fun c2 => ?_) (fun c2 => ?_)
  · have hf := z_t hf c2
    refine lv_iconst (v := (-1)) hx hb dX9_command_66 (by decide) ?_
    exact z_reti C hr hs hf dX9_command_67
  · have hf := z_f hf c2
    refine lv_aload_n hx hb dX9_command_8 rfl (lv_at hl 0 rfl) ?_
    refine lv_iload_n hx hb dX9_command_9 rfl (lv_at hl 1 rfl) ?_
    refine lv_iconst (v := 4) hx hb dX9_command_10 (by decide) ?_
    obtain ⟨r3, σ3, h_3, hf⟩ := z_bds hf
    refine z_goI C hs (z_runV C hs hl.1 (cM_of l E hM h_3) zcV_RX9_146 (hM 100 (by decide) (by decide)) (z_c100 E _ _ _ _) rfl rfl rfl (by decide) (Nat.le_of_ble_eq_true rfl) dX9_command_11) (fun H locs hs => ?_)
    refine lv_aload_n hx hb dX9_command_14 rfl (lv_at hl 0 rfl) ?_
    refine lv_iload_n hx hb dX9_command_15 rfl (lv_at hl 1 rfl) ?_
    refine lv_iconst (v := 2) hx hb dX9_command_16 (by decide) ?_
    obtain ⟨r4, σ4, h_4, hf⟩ := z_bds hf
    refine z_goI C hs (z_runV C hs hl.1 (cM_of l E hM h_4) zcV_RX9_146 (hM 100 (by decide) (by decide)) (z_c100 E _ _ _ _) rfl rfl rfl (by decide) (Nat.le_of_ble_eq_true rfl) dX9_command_17) (fun H locs hs => ?_)
    refine lv_isub hx hb dX9_command_20 ?_
    refine lv_bipush (v := 40) hx hb dX9_command_21 (by decide) ?_
    refine lv_icmp_ge (tgt := 66) hx hb dX9_command_23 (by decide) (fun c5 => ?_) (fun c5 => ?_)
    · have hf := z_t hf c5
      refine lv_iconst (v := (-1)) hx hb dX9_command_66 (by decide) ?_
      exact z_reti C hr hs hf dX9_command_67
    · have hf := z_f hf c5
      refine lv_iload_n hx hb dX9_command_26 rfl (lv_at hl 2 rfl) ?_
      refine lv_iconst (v := 0) hx hb dX9_command_27 (by decide) ?_
      refine lv_iconst (v := 5) hx hb dX9_command_28 (by decide) ?_
      obtain ⟨r6, σ6, h_6, hf⟩ := z_bds hf
      refine z_goI C hs (z_runS C hs hl.1 (cM_isIn l E h_6) zcS_RX9_132 rfl rfl rfl (by decide) (Nat.le_of_ble_eq_true rfl) dX9_command_29) (fun H locs hs => ?_)
      refine lv_if_eq (tgt := 66) hx hb dX9_command_32 (by decide) (fun c7 => ?_) (fun c7 => ?_)
      · have hf := z_t hf c7
        refine lv_iconst (v := (-1)) hx hb dX9_command_66 (by decide) ?_
        exact z_reti C hr hs hf dX9_command_67
      · have hf := z_f hf c7
        refine lv_iload_n hx hb dX9_command_35 rfl (lv_at hl 3 rfl) ?_
        refine lv_iconst (v := 1) hx hb dX9_command_36 (by decide) ?_
        refine lv_bipush (v := 99) hx hb dX9_command_37 (by decide) ?_
        obtain ⟨r8, σ8, h_8, hf⟩ := z_bds hf
        refine z_goI C hs (z_runS C hs hl.1 (cM_isIn l E h_8) zcS_RX9_132 rfl rfl rfl (by decide) (Nat.le_of_ble_eq_true rfl) dX9_command_39) (fun H locs hs => ?_)
        refine lv_if_eq (tgt := 66) hx hb dX9_command_42 (by decide) (fun c9 => ?_) (fun c9 => ?_)
        · have hf := z_t hf c9
          refine lv_iconst (v := (-1)) hx hb dX9_command_66 (by decide) ?_
          exact z_reti C hr hs hf dX9_command_67
        · have hf := z_f hf c9
          refine lv_iload hx hb dX9_command_45 (lv_at hl 4 rfl) ?_
          refine lv_iconst (v := 0) hx hb dX9_command_47 (by decide) ?_
          refine lv_iconst (v := 3) hx hb dX9_command_48 (by decide) ?_
          obtain ⟨r10, σ10, h_10, hf⟩ := z_bds hf
          refine z_goI C hs (z_runS C hs hl.1 (cM_isIn l E h_10) zcS_RX9_132 rfl rfl rfl (by decide) (Nat.le_of_ble_eq_true rfl) dX9_command_49) (fun H locs hs => ?_)
          refine lv_if_eq (tgt := 66) hx hb dX9_command_52 (by decide) (fun c11 => ?_) (fun c11 => ?_)
          · have hf := z_t hf c11
            refine lv_iconst (v := (-1)) hx hb dX9_command_66 (by decide) ?_
            exact z_reti C hr hs hf dX9_command_67
          · have hf := z_f hf c11
            refine lv_iload hx hb dX9_command_55 (lv_at hl 5 rfl) ?_
            refine lv_iconst (v := 0) hx hb dX9_command_57 (by decide) ?_
            refine lv_bipush (v := 7) hx hb dX9_command_58 (by decide) ?_
            obtain ⟨r12, σ12, h_12, hf⟩ := z_bds hf
            refine z_goI C hs (z_runS C hs hl.1 (cM_isIn l E h_12) zcS_RX9_132 rfl rfl rfl (by decide) (Nat.le_of_ble_eq_true rfl) dX9_command_60) (fun H locs hs => ?_)
            refine lv_if_ne (tgt := 68) hx hb dX9_command_63 (by decide) (fun c13 => ?_) (fun c13 => ?_)
            · have hf := z_f hf c13
              refine lv_aload_n hx hb dX9_command_68 rfl (lv_at hl 0 rfl) ?_
              refine lv_iload_n hx hb dX9_command_69 rfl (lv_at hl 1 rfl) ?_
              refine lv_iconst (v := 4) hx hb dX9_command_70 (by decide) ?_
              refine lv_aload_n hx hb dX9_command_71 rfl (lv_at hl 0 rfl) ?_
              refine lv_iload_n hx hb dX9_command_72 rfl (lv_at hl 1 rfl) ?_
              refine lv_iconst (v := 4) hx hb dX9_command_73 (by decide) ?_
              obtain ⟨r14, σ14, h_14, hf⟩ := z_bds hf
              refine z_goI C hs (z_runV C hs hl.1 (cM_of l E hM h_14) zcV_RX9_146 (hM 100 (by decide) (by decide)) (z_c100 E _ _ _ _) rfl rfl rfl (by decide) (Nat.le_of_ble_eq_true rfl) dX9_command_74) (fun H locs hs => ?_)
              refine lv_iconst (v := 1) hx hb dX9_command_77 (by decide) ?_
              refine lv_iadd hx hb dX9_command_78 ?_
              obtain ⟨r15, σ15, h_15, hf⟩ := z_bds hf
              refine z_goV C hs (z_runV C hs hl.1 (cM_put l E hM h_15) zcV_RX9_139 (hM 100 (by decide) (by decide)) (z_c100 E _ _ _ _) rfl rfl rfl (by decide) (Nat.le_of_ble_eq_true rfl) dX9_command_79) (fun H locs hs => ?_)
              refine lv_aload_n hx hb dX9_command_82 rfl (lv_at hl 0 rfl) ?_
              refine lv_iload_n hx hb dX9_command_83 rfl (lv_at hl 1 rfl) ?_
              refine lv_aload_n hx hb dX9_command_84 rfl (lv_at hl 0 rfl) ?_
              refine lv_iload_n hx hb dX9_command_85 rfl (lv_at hl 1 rfl) ?_
              refine lv_iconst (v := 4) hx hb dX9_command_86 (by decide) ?_
              obtain ⟨r16, σ16, h_16, hf⟩ := z_bds hf
              refine z_goI C hs (z_runV C hs hl.1 (cM_of l E hM h_16) zcV_RX9_146 (hM 100 (by decide) (by decide)) (z_c100 E _ _ _ _) rfl rfl rfl (by decide) (Nat.le_of_ble_eq_true rfl) dX9_command_87) (fun H locs hs => ?_)
              obtain ⟨r17, σ17, h_17, hf⟩ := z_bds hf
              refine z_goI C hs (z_runV C hs hl.1 (cM_entryAt l E hM h_17) zcV_RX9_153 (hM 100 (by decide) (by decide)) (z_c100 E _ _ _ _) rfl rfl rfl (by decide) (Nat.le_of_ble_eq_true rfl) dX9_command_90) (fun H locs hs => ?_)
              refine lv_istore (lv' := [(7, .int r17), (0, .ref (z_ad E (100, 0, 0))), (1, .int x1), (2, .int x2), (3, .int x3), (4, .int x4), (5, .int x5), (6, .int x6)]) hx hb dX9_command_93 hl (by decide) rfl (fun ls hl => ?_)
              refine lv_aload_n hx hb dX9_command_95 rfl (lv_at hl 1 rfl) ?_
              refine zg_M_all C hs (hM 100 (by decide) (by decide)) z_k952 dX9_command_96 ?_
              refine lv_iload hx hb dX9_command_99 (lv_at hl 0 rfl) ?_
              refine lv_aload_n hx hb dX9_command_101 rfl (lv_at hl 1 rfl) ?_
              refine lv_iload_n hx hb dX9_command_102 rfl (lv_at hl 2 rfl) ?_
              refine lv_iconst (v := 0) hx hb dX9_command_103 (by decide) ?_
              obtain ⟨r18, σ18, h_18, hf⟩ := z_bds hf
              refine z_goI C hs (z_runV C hs hl.1 (cM_of l E hM h_18) zcV_RX9_146 (hM 100 (by decide) (by decide)) (z_c100 E _ _ _ _) rfl rfl rfl (by decide) (Nat.le_of_ble_eq_true rfl) dX9_command_104) (fun H locs hs => ?_)
              obtain ⟨g19, hf⟩ := z_gd hf
              refine z_ast C hs (hM 103 (by decide) (by decide)) (fun r h => z_c103 E r h _ _) g19 rfl dX9_command_107 (fun H locs hs => ?_)
              obtain ⟨σ20, -, hs, hf⟩ := z_top hs hf
              refine lv_aload_n hx hb dX9_command_108 rfl (lv_at hl 1 rfl) ?_
              refine zg_M_all C hs (hM 100 (by decide) (by decide)) z_k952 dX9_command_109 ?_
              refine lv_iload hx hb dX9_command_112 (lv_at hl 0 rfl) ?_
              refine lv_iconst (v := 1) hx hb dX9_command_114 (by decide) ?_
              refine lv_iadd hx hb dX9_command_115 ?_
              refine lv_iload_n hx hb dX9_command_116 rfl (lv_at hl 3 rfl) ?_
              obtain ⟨g21, hf⟩ := z_gd hf
              refine z_ast C hs (hM 103 (by decide) (by decide)) (fun r h => z_c103 E r h _ _) g21 rfl dX9_command_117 (fun H locs hs => ?_)
              obtain ⟨σ22, -, hs, hf⟩ := z_top hs hf
              refine lv_aload_n hx hb dX9_command_118 rfl (lv_at hl 1 rfl) ?_
              refine zg_M_all C hs (hM 100 (by decide) (by decide)) z_k952 dX9_command_119 ?_
              refine lv_iload hx hb dX9_command_122 (lv_at hl 0 rfl) ?_
              refine lv_iconst (v := 2) hx hb dX9_command_124 (by decide) ?_
              refine lv_iadd hx hb dX9_command_125 ?_
              refine lv_iload_n hx hb dX9_command_126 rfl (lv_at hl 4 rfl) ?_
              obtain ⟨g23, hf⟩ := z_gd hf
              refine z_ast C hs (hM 103 (by decide) (by decide)) (fun r h => z_c103 E r h _ _) g23 rfl dX9_command_127 (fun H locs hs => ?_)
              obtain ⟨σ24, -, hs, hf⟩ := z_top hs hf
              refine lv_aload_n hx hb dX9_command_128 rfl (lv_at hl 1 rfl) ?_
              refine zg_M_all C hs (hM 100 (by decide) (by decide)) z_k952 dX9_command_129 ?_
              refine lv_iload hx hb dX9_command_132 (lv_at hl 0 rfl) ?_
              refine lv_iconst (v := 3) hx hb dX9_command_134 (by decide) ?_
              refine lv_iadd hx hb dX9_command_135 ?_
              refine lv_iload hx hb dX9_command_136 (lv_at hl 5 rfl) ?_
              obtain ⟨g25, hf⟩ := z_gd hf
              refine z_ast C hs (hM 103 (by decide) (by decide)) (fun r h => z_c103 E r h _ _) g25 rfl dX9_command_138 (fun H locs hs => ?_)
              obtain ⟨σ26, -, hs, hf⟩ := z_top hs hf
              refine lv_aload_n hx hb dX9_command_139 rfl (lv_at hl 1 rfl) ?_
              refine zg_M_all C hs (hM 100 (by decide) (by decide)) z_k952 dX9_command_140 ?_
              refine lv_iload hx hb dX9_command_143 (lv_at hl 0 rfl) ?_
              refine lv_iconst (v := 4) hx hb dX9_command_145 (by decide) ?_
              refine lv_iadd hx hb dX9_command_146 ?_
              refine lv_iload hx hb dX9_command_147 (lv_at hl 6 rfl) ?_
              obtain ⟨g27, hf⟩ := z_gd hf
              refine z_ast C hs (hM 103 (by decide) (by decide)) (fun r h => z_c103 E r h _ _) g27 rfl dX9_command_149 (fun H locs hs => ?_)
              obtain ⟨σ28, -, hs, hf⟩ := z_top hs hf
              refine lv_aload_n hx hb dX9_command_150 rfl (lv_at hl 1 rfl) ?_
              refine zg_M_all C hs (hM 100 (by decide) (by decide)) z_k952 dX9_command_151 ?_
              refine lv_iload hx hb dX9_command_154 (lv_at hl 0 rfl) ?_
              refine lv_iconst (v := 5) hx hb dX9_command_156 (by decide) ?_
              refine lv_iadd hx hb dX9_command_157 ?_
              refine lv_iload hx hb dX9_command_158 (lv_at hl 7 rfl) ?_
              obtain ⟨g29, hf⟩ := z_gd hf
              refine z_ast C hs (hM 103 (by decide) (by decide)) (fun r h => z_c103 E r h _ _) g29 rfl dX9_command_160 (fun H locs hs => ?_)
              obtain ⟨σ30, -, hs, hf⟩ := z_top hs hf
              refine lv_aload_n hx hb dX9_command_161 rfl (lv_at hl 1 rfl) ?_
              refine lv_iload_n hx hb dX9_command_162 rfl (lv_at hl 2 rfl) ?_
              obtain ⟨r31, σ31, h_31, hf⟩ := z_bds hf
              refine z_goV C hs (z_runV C hs hl.1 (cM_settles l E hM h_31) zcV_RX9_182 (hM 100 (by decide) (by decide)) (z_c100 E _ _ _ _) rfl rfl rfl (by decide) (Nat.le_of_ble_eq_true rfl) dX9_command_163) (fun H locs hs => ?_)
              refine lv_aload_n hx hb dX9_command_166 rfl (lv_at hl 1 rfl) ?_
              refine lv_iload_n hx hb dX9_command_167 rfl (lv_at hl 2 rfl) ?_
              refine lv_iconst (v := 4) hx hb dX9_command_168 (by decide) ?_
              obtain ⟨r32, σ32, h_32, hf⟩ := z_bds hf
              refine z_goI C hs (z_runV C hs hl.1 (cM_of l E hM h_32) zcV_RX9_146 (hM 100 (by decide) (by decide)) (z_c100 E _ _ _ _) rfl rfl rfl (by decide) (Nat.le_of_ble_eq_true rfl) dX9_command_169) (fun H locs hs => ?_)
              exact z_reti C hr hs hf dX9_command_172
            · have hf := z_t hf c13
              refine lv_iconst (v := (-1)) hx hb dX9_command_66 (by decide) ?_
              exact z_reti C hr hs hf dX9_command_67
set_option maxHeartbeats 4000000 in
set_option maxRecDepth 20000 in
theorem cM_command (l : Launch) (E : zE) {x1 : Int32} {x2 : Int32} {x3 : Int32} {x4 : Int32} {x5 : Int32} {x6 : Int32} (hM : z_M E) {σ σo : zS} {ro : Int32} (hf : fM_command x1 x2 x3 x4 x5 x6 σ = some (ro, σo)) : z_T l E yX9_command cX9_command 8 (some .int) (z_rm 6) (z_QI E ro σo) [.ref (z_ad E (100, 0, 0)), .int x1, .int x2, .int x3, .int x4, .int x5, .int x6] σ :=
  z_enter (by decide) (Nat.le_of_ble_eq_true rfl) rfl (fun p e s m below meth c A ls C hr hs hl => wM_command C hr hM σ _ _ ls hs hl hf)
def fM_getsAsk_140 (x1 : Int32) (x2 : Int32) (x6 : Int32) (σ : zS) : Option (Int32 × zS) :=
  if x6 = 0 then
    (z_bd (fM_sends 1 x1 x2 0 0 σ) (fun r11 σ11 =>
    some (1, σ11)))
  else
    (z_bd (fM_sends 1 x1 x2 1 0 σ) (fun r12 σ12 =>
    some (1, σ12)))
def fM_getsAsk_126 (x1 : Int32) (x2 : Int32) (t0 : Int32) (σ : zS) : Option (Int32 × zS) :=
  if t0 = 0 then
    (fM_getsAsk_140 x1 x2 t0 σ)
  else
    (z_bd (fM_put x1 1 x2 σ) (fun _ σ13 =>
    fM_getsAsk_140 x1 x2 t0 σ13))
def fM_getsAsk_125 (x1 : Int32) (x2 : Int32) (σ : zS) : Option (Int32 × zS) :=
  fM_getsAsk_126 x1 x2 0 σ
def fM_getsAsk_86 (x1 : Int32) (x2 : Int32) (x4 : Int32) (t0 : Int32) (σ : zS) : Option (Int32 × zS) :=
  z_bd (fM_isVoter x1 σ) (fun r7 σ7 =>
  if r7 = 0 then
    (fM_getsAsk_125 x1 x2 σ7)
  else
    (z_bd (fM_of x1 0 σ7) (fun r14 σ14 =>
    if r14 = (σ14.1 (109, 0, 0) 3) then
      (if x4 = 0 then
        (fM_getsAsk_125 x1 x2 σ14)
      else
        (if t0 = 0 then
          (fM_getsAsk_126 x1 x2 1 σ14)
        else
          (fM_getsAsk_125 x1 x2 σ14)))
    else
      (fM_getsAsk_125 x1 x2 σ14))))
def fM_getsAsk_81 (x1 : Int32) (x2 : Int32) (x4 : Int32) (σ : zS) : Option (Int32 × zS) :=
  fM_getsAsk_86 x1 x2 x4 1 σ
def fM_getsAsk_85 (x1 : Int32) (x2 : Int32) (x4 : Int32) (σ : zS) : Option (Int32 × zS) :=
  fM_getsAsk_86 x1 x2 x4 0 σ
def fM_getsAsk_39 (x1 : Int32) (x2 : Int32) (x3 : Int32) (t0 : Int32) (σ : zS) : Option (Int32 × zS) :=
  z_bd (fM_termOf x1 x3 σ) (fun r5 σ5 =>
  if (σ5.1 (109, 0, 0) 5) < r5 then
    (fM_getsAsk_81 x1 x2 t0 σ5)
  else
    (z_bd (fM_termOf x1 x3 σ5) (fun r18 σ18 =>
    if r18 = (σ18.1 (109, 0, 0) 5) then
      (if x3 ≤ (σ18.1 (109, 0, 0) 4) then
        (fM_getsAsk_85 x1 x2 t0 σ18)
      else
        (fM_getsAsk_81 x1 x2 t0 σ18))
    else
      (fM_getsAsk_85 x1 x2 t0 σ18))))
def fM_getsAsk_34 (x1 : Int32) (x2 : Int32) (x3 : Int32) (σ : zS) : Option (Int32 × zS) :=
  fM_getsAsk_39 x1 x2 x3 1 σ
def fM_getsAsk (x1 : Int32) (σ : zS) : Option (Int32 × zS) :=
  z_let (σ.1 (109, 0, 0) 1) (fun y1 =>
  z_bd (fM_of x1 4 σ) (fun r2 σ2 =>
  z_bd (fM_of x1 1 σ2) (fun r3 σ3 =>
  if r3 = ((-1)) then
    (fM_getsAsk_34 x1 y1 r2 σ3)
  else
    (z_bd (fM_of x1 1 σ3) (fun r21 σ21 =>
    if r21 = y1 then
      (fM_getsAsk_34 x1 y1 r2 σ21)
    else
      (fM_getsAsk_39 x1 y1 r2 0 σ21))))))
set_option maxHeartbeats 4000000 in
set_option maxRecDepth 20000 in
theorem wM_getsAsk_140 (C : z_C E RX9 cX9_getsAsk 7 A p s m args meth c) (hr : meth.sig.returnType = (some .int)) (hM : z_M E) {ro : Int32} {σo : zS} (x1 : Int32) (x2 : Int32) (x6 : Int32) (σ : zS) (H : Heap) (locs : List Loc) (ls : Array Slot) (hs : z_H E A s σ H locs) (hl : lv_has ls 7 [(0, .ref (z_ad E (100, 0, 0))), (1, .int x1), (2, .int x2), (6, .int x6)]) (hf : fM_getsAsk_140 x1 x2 x6 σ = some (ro, σo)) : W p l e (z_rm 4) s m args below meth c H locs 0 0 (MQ below (z_QI E ro σo A) args s 0 0 A) (F0 m 140 ls []) := by
  have hx := C.1
  have hb := C.2.1
  unfold fM_getsAsk_140 at hf
  refine lv_aload_n hx hb dX9_getsAsk_140 rfl (lv_at hl 0 rfl) ?_
  refine lv_iconst (v := 1) hx hb dX9_getsAsk_141 (by decide) ?_
  refine lv_iload_n hx hb dX9_getsAsk_142 rfl (lv_at hl 1 rfl) ?_
  refine lv_iload_n hx hb dX9_getsAsk_143 rfl (lv_at hl 2 rfl) ?_
  refine lv_iload hx hb dX9_getsAsk_144 (lv_at hl 3 rfl) ?_
  refine lv_if_eq (tgt := 153) hx hb dX9_getsAsk_146 (by decide) (fun c10 => ?_) (fun c10 => ?_)
  · have hf := z_t hf c10
    refine lv_iconst (v := 0) hx hb dX9_getsAsk_153 (by decide) ?_
    refine lv_iconst (v := 0) hx hb dX9_getsAsk_154 (by decide) ?_
    obtain ⟨r11, σ11, h_11, hf⟩ := z_bds hf
    refine z_goI C hs (z_runV C hs hl.1 (cM_sends l E hM h_11) zcV_RX9_198 (hM 100 (by decide) (by decide)) (z_c100 E _ _ _ _) rfl rfl rfl (by decide) (Nat.le_of_ble_eq_true rfl) dX9_getsAsk_155) (fun H locs hs => ?_)
    refine lv_pop hx hb dX9_getsAsk_158 rfl ?_
    refine lv_iconst (v := 1) hx hb dX9_getsAsk_159 (by decide) ?_
    exact z_reti C hr hs hf dX9_getsAsk_160
  · have hf := z_f hf c10
    refine lv_iconst (v := 1) hx hb dX9_getsAsk_149 (by decide) ?_
    refine lv_goto (tgt := 154) hx hb dX9_getsAsk_150 (by decide) ?_
    refine lv_iconst (v := 0) hx hb dX9_getsAsk_154 (by decide) ?_
    obtain ⟨r12, σ12, h_12, hf⟩ := z_bds hf
    refine z_goI C hs (z_runV C hs hl.1 (cM_sends l E hM h_12) zcV_RX9_198 (hM 100 (by decide) (by decide)) (z_c100 E _ _ _ _) rfl rfl rfl (by decide) (Nat.le_of_ble_eq_true rfl) dX9_getsAsk_155) (fun H locs hs => ?_)
    refine lv_pop hx hb dX9_getsAsk_158 rfl ?_
    refine lv_iconst (v := 1) hx hb dX9_getsAsk_159 (by decide) ?_
    exact z_reti C hr hs hf dX9_getsAsk_160
set_option maxHeartbeats 4000000 in
set_option maxRecDepth 20000 in
theorem wM_getsAsk_126 (C : z_C E RX9 cX9_getsAsk 7 A p s m args meth c) (hr : meth.sig.returnType = (some .int)) (hM : z_M E) {ro : Int32} {σo : zS} (x1 : Int32) (x2 : Int32) (t0 : Int32) (σ : zS) (H : Heap) (locs : List Loc) (ls : Array Slot) (hs : z_H E A s σ H locs) (hl : lv_has ls 7 [(0, .ref (z_ad E (100, 0, 0))), (1, .int x1), (2, .int x2)]) (hf : fM_getsAsk_126 x1 x2 t0 σ = some (ro, σo)) : W p l e (z_rm 4) s m args below meth c H locs 0 0 (MQ below (z_QI E ro σo A) args s 0 0 A) (F0 m 126 ls [.int t0]) := by
  have hx := C.1
  have hb := C.2.1
  unfold fM_getsAsk_126 at hf
  refine lv_istore (lv' := [(6, .int t0), (0, .ref (z_ad E (100, 0, 0))), (1, .int x1), (2, .int x2)]) hx hb dX9_getsAsk_126 hl (by decide) rfl (fun ls hl => ?_)
  refine lv_iload hx hb dX9_getsAsk_128 (lv_at hl 0 rfl) ?_
  refine lv_if_eq (tgt := 140) hx hb dX9_getsAsk_130 (by decide) (fun c9 => ?_) (fun c9 => ?_)
  · have hf := z_t hf c9
    exact wM_getsAsk_140 C hr hM x1 x2 t0 σ _ _ _ hs (lv_sub hl [1, 2, 3, 0] rfl) hf
  · have hf := z_f hf c9
    refine lv_aload_n hx hb dX9_getsAsk_133 rfl (lv_at hl 1 rfl) ?_
    refine lv_iload_n hx hb dX9_getsAsk_134 rfl (lv_at hl 2 rfl) ?_
    refine lv_iconst (v := 1) hx hb dX9_getsAsk_135 (by decide) ?_
    refine lv_iload_n hx hb dX9_getsAsk_136 rfl (lv_at hl 3 rfl) ?_
    obtain ⟨r13, σ13, h_13, hf⟩ := z_bds hf
    refine z_goV C hs (z_runV C hs hl.1 (cM_put l E hM h_13) zcV_RX9_139 (hM 100 (by decide) (by decide)) (z_c100 E _ _ _ _) rfl rfl rfl (by decide) (Nat.le_of_ble_eq_true rfl) dX9_getsAsk_137) (fun H locs hs => ?_)
    exact wM_getsAsk_140 C hr hM x1 x2 t0 σ13 _ _ _ hs (lv_sub hl [1, 2, 3, 0] rfl) hf
set_option maxHeartbeats 4000000 in
set_option maxRecDepth 20000 in
theorem wM_getsAsk_125 (C : z_C E RX9 cX9_getsAsk 7 A p s m args meth c) (hr : meth.sig.returnType = (some .int)) (hM : z_M E) {ro : Int32} {σo : zS} (x1 : Int32) (x2 : Int32) (σ : zS) (H : Heap) (locs : List Loc) (ls : Array Slot) (hs : z_H E A s σ H locs) (hl : lv_has ls 7 [(0, .ref (z_ad E (100, 0, 0))), (1, .int x1), (2, .int x2)]) (hf : fM_getsAsk_125 x1 x2 σ = some (ro, σo)) : W p l e (z_rm 4) s m args below meth c H locs 0 0 (MQ below (z_QI E ro σo A) args s 0 0 A) (F0 m 125 ls []) := by
  have hx := C.1
  have hb := C.2.1
  unfold fM_getsAsk_125 at hf
  refine lv_iconst (v := 0) hx hb dX9_getsAsk_125 (by decide) ?_
  exact wM_getsAsk_126 C hr hM x1 x2 0 σ _ _ _ hs (lv_sub hl [0, 1, 2] rfl) hf
set_option maxHeartbeats 4000000 in
set_option maxRecDepth 20000 in
theorem wM_getsAsk_86 (C : z_C E RX9 cX9_getsAsk 7 A p s m args meth c) (hr : meth.sig.returnType = (some .int)) (hM : z_M E) {ro : Int32} {σo : zS} (x1 : Int32) (x2 : Int32) (x4 : Int32) (t0 : Int32) (σ : zS) (H : Heap) (locs : List Loc) (ls : Array Slot) (hs : z_H E A s σ H locs) (hl : lv_has ls 7 [(0, .ref (z_ad E (100, 0, 0))), (1, .int x1), (2, .int x2), (4, .int x4)]) (hf : fM_getsAsk_86 x1 x2 x4 t0 σ = some (ro, σo)) : W p l e (z_rm 4) s m args below meth c H locs 0 0 (MQ below (z_QI E ro σo A) args s 0 0 A) (F0 m 86 ls [.int t0]) := by
  have hx := C.1
  have hb := C.2.1
  unfold fM_getsAsk_86 at hf
  refine lv_istore (lv' := [(5, .int t0), (0, .ref (z_ad E (100, 0, 0))), (1, .int x1), (2, .int x2), (4, .int x4)]) hx hb dX9_getsAsk_86 hl (by decide) rfl (fun ls hl => ?_)
  refine lv_aload_n hx hb dX9_getsAsk_88 rfl (lv_at hl 1 rfl) ?_
  refine lv_iload_n hx hb dX9_getsAsk_89 rfl (lv_at hl 2 rfl) ?_
  obtain ⟨r7, σ7, h_7, hf⟩ := z_bds hf
  refine z_goI C hs (z_runV C hs hl.1 (cM_isVoter l E hM h_7) zcV_RX9_166 (hM 100 (by decide) (by decide)) (z_c100 E _ _ _ _) rfl rfl rfl (by decide) (Nat.le_of_ble_eq_true rfl) dX9_getsAsk_90) (fun H locs hs => ?_)
  refine lv_if_eq (tgt := 125) hx hb dX9_getsAsk_93 (by decide) (fun c8 => ?_) (fun c8 => ?_)
  · have hf := z_t hf c8
    exact wM_getsAsk_125 C hr hM x1 x2 σ7 _ _ _ hs (lv_sub hl [1, 2, 3] rfl) hf
  · have hf := z_f hf c8
    refine lv_aload_n hx hb dX9_getsAsk_96 rfl (lv_at hl 1 rfl) ?_
    refine lv_iload_n hx hb dX9_getsAsk_97 rfl (lv_at hl 2 rfl) ?_
    refine lv_iconst (v := 0) hx hb dX9_getsAsk_98 (by decide) ?_
    obtain ⟨r14, σ14, h_14, hf⟩ := z_bds hf
    refine z_goI C hs (z_runV C hs hl.1 (cM_of l E hM h_14) zcV_RX9_146 (hM 100 (by decide) (by decide)) (z_c100 E _ _ _ _) rfl rfl rfl (by decide) (Nat.le_of_ble_eq_true rfl) dX9_getsAsk_99) (fun H locs hs => ?_)
    refine lv_aload_n hx hb dX9_getsAsk_102 rfl (lv_at hl 1 rfl) ?_
    refine zg_M_letter C hs (hM 100 (by decide) (by decide)) z_k968 dX9_getsAsk_103 ?_
    refine lv_iconst (v := 3) hx hb dX9_getsAsk_106 (by decide) ?_
    refine z_ald C hs (hM 109 (by decide) (by decide)) (z_c109 E _ _ _ _) (by decide +kernel) (k := 3) (by decide +kernel) dX9_getsAsk_107 ?_
    refine lv_icmp_ne (tgt := 125) hx hb dX9_getsAsk_108 (by decide) (fun c15 => ?_) (fun c15 => ?_)
    · have hf := z_f hf c15
      exact wM_getsAsk_125 C hr hM x1 x2 σ14 _ _ _ hs (lv_sub hl [1, 2, 3] rfl) hf
    · have hf := z_t hf c15
      refine lv_iload hx hb dX9_getsAsk_111 (lv_at hl 4 rfl) ?_
      refine lv_if_eq (tgt := 125) hx hb dX9_getsAsk_113 (by decide) (fun c16 => ?_) (fun c16 => ?_)
      · have hf := z_t hf c16
        exact wM_getsAsk_125 C hr hM x1 x2 σ14 _ _ _ hs (lv_sub hl [1, 2, 3] rfl) hf
      · have hf := z_f hf c16
        refine lv_iload hx hb dX9_getsAsk_116 (lv_at hl 0 rfl) ?_
        refine lv_if_ne (tgt := 125) hx hb dX9_getsAsk_118 (by decide) (fun c17 => ?_) (fun c17 => ?_)
        · have hf := z_f hf c17
          exact wM_getsAsk_125 C hr hM x1 x2 σ14 _ _ _ hs (lv_sub hl [1, 2, 3] rfl) hf
        · have hf := z_t hf c17
          refine lv_iconst (v := 1) hx hb dX9_getsAsk_121 (by decide) ?_
          refine lv_goto (tgt := 126) hx hb dX9_getsAsk_122 (by decide) ?_
          exact wM_getsAsk_126 C hr hM x1 x2 1 σ14 _ _ _ hs (lv_sub hl [1, 2, 3] rfl) hf
set_option maxHeartbeats 4000000 in
set_option maxRecDepth 20000 in
theorem wM_getsAsk_81 (C : z_C E RX9 cX9_getsAsk 7 A p s m args meth c) (hr : meth.sig.returnType = (some .int)) (hM : z_M E) {ro : Int32} {σo : zS} (x1 : Int32) (x2 : Int32) (x4 : Int32) (σ : zS) (H : Heap) (locs : List Loc) (ls : Array Slot) (hs : z_H E A s σ H locs) (hl : lv_has ls 7 [(0, .ref (z_ad E (100, 0, 0))), (1, .int x1), (2, .int x2), (4, .int x4)]) (hf : fM_getsAsk_81 x1 x2 x4 σ = some (ro, σo)) : W p l e (z_rm 4) s m args below meth c H locs 0 0 (MQ below (z_QI E ro σo A) args s 0 0 A) (F0 m 81 ls []) := by
  have hx := C.1
  have hb := C.2.1
  unfold fM_getsAsk_81 at hf
  refine lv_iconst (v := 1) hx hb dX9_getsAsk_81 (by decide) ?_
  refine lv_goto (tgt := 86) hx hb dX9_getsAsk_82 (by decide) ?_
  exact wM_getsAsk_86 C hr hM x1 x2 x4 1 σ _ _ _ hs (lv_sub hl [0, 1, 2, 3] rfl) hf
set_option maxHeartbeats 4000000 in
set_option maxRecDepth 20000 in
theorem wM_getsAsk_85 (C : z_C E RX9 cX9_getsAsk 7 A p s m args meth c) (hr : meth.sig.returnType = (some .int)) (hM : z_M E) {ro : Int32} {σo : zS} (x1 : Int32) (x2 : Int32) (x4 : Int32) (σ : zS) (H : Heap) (locs : List Loc) (ls : Array Slot) (hs : z_H E A s σ H locs) (hl : lv_has ls 7 [(0, .ref (z_ad E (100, 0, 0))), (1, .int x1), (2, .int x2), (4, .int x4)]) (hf : fM_getsAsk_85 x1 x2 x4 σ = some (ro, σo)) : W p l e (z_rm 4) s m args below meth c H locs 0 0 (MQ below (z_QI E ro σo A) args s 0 0 A) (F0 m 85 ls []) := by
  have hx := C.1
  have hb := C.2.1
  unfold fM_getsAsk_85 at hf
  refine lv_iconst (v := 0) hx hb dX9_getsAsk_85 (by decide) ?_
  exact wM_getsAsk_86 C hr hM x1 x2 x4 0 σ _ _ _ hs (lv_sub hl [0, 1, 2, 3] rfl) hf
set_option maxHeartbeats 4000000 in
set_option maxRecDepth 20000 in
theorem wM_getsAsk_39 (C : z_C E RX9 cX9_getsAsk 7 A p s m args meth c) (hr : meth.sig.returnType = (some .int)) (hM : z_M E) {ro : Int32} {σo : zS} (x1 : Int32) (x2 : Int32) (x3 : Int32) (t0 : Int32) (σ : zS) (H : Heap) (locs : List Loc) (ls : Array Slot) (hs : z_H E A s σ H locs) (hl : lv_has ls 7 [(0, .ref (z_ad E (100, 0, 0))), (1, .int x1), (2, .int x2), (3, .int x3)]) (hf : fM_getsAsk_39 x1 x2 x3 t0 σ = some (ro, σo)) : W p l e (z_rm 4) s m args below meth c H locs 0 0 (MQ below (z_QI E ro σo A) args s 0 0 A) (F0 m 39 ls [.int t0]) := by
  have hx := C.1
  have hb := C.2.1
  unfold fM_getsAsk_39 at hf
  refine lv_istore (lv' := [(4, .int t0), (0, .ref (z_ad E (100, 0, 0))), (1, .int x1), (2, .int x2), (3, .int x3)]) hx hb dX9_getsAsk_39 hl (by decide) rfl (fun ls hl => ?_)
  refine lv_aload_n hx hb dX9_getsAsk_41 rfl (lv_at hl 1 rfl) ?_
  refine lv_iload_n hx hb dX9_getsAsk_42 rfl (lv_at hl 2 rfl) ?_
  refine lv_iload_n hx hb dX9_getsAsk_43 rfl (lv_at hl 4 rfl) ?_
  obtain ⟨r5, σ5, h_5, hf⟩ := z_bds hf
  refine z_goI C hs (z_runV C hs hl.1 (cM_termOf l E hM h_5) zcV_RX9_172 (hM 100 (by decide) (by decide)) (z_c100 E _ _ _ _) rfl rfl rfl (by decide) (Nat.le_of_ble_eq_true rfl) dX9_getsAsk_44) (fun H locs hs => ?_)
  refine lv_aload_n hx hb dX9_getsAsk_47 rfl (lv_at hl 1 rfl) ?_
  refine zg_M_letter C hs (hM 100 (by decide) (by decide)) z_k968 dX9_getsAsk_48 ?_
  refine lv_iconst (v := 5) hx hb dX9_getsAsk_51 (by decide) ?_
  refine z_ald C hs (hM 109 (by decide) (by decide)) (z_c109 E _ _ _ _) (by decide +kernel) (k := 5) (by decide +kernel) dX9_getsAsk_52 ?_
  refine lv_icmp_gt (tgt := 81) hx hb dX9_getsAsk_53 (by decide) (fun c6 => ?_) (fun c6 => ?_)
  · have hf := z_t hf c6
    exact wM_getsAsk_81 C hr hM x1 x2 t0 σ5 _ _ _ hs (lv_sub hl [1, 2, 3, 0] rfl) hf
  · have hf := z_f hf c6
    refine lv_aload_n hx hb dX9_getsAsk_56 rfl (lv_at hl 1 rfl) ?_
    refine lv_iload_n hx hb dX9_getsAsk_57 rfl (lv_at hl 2 rfl) ?_
    refine lv_iload_n hx hb dX9_getsAsk_58 rfl (lv_at hl 4 rfl) ?_
    obtain ⟨r18, σ18, h_18, hf⟩ := z_bds hf
    refine z_goI C hs (z_runV C hs hl.1 (cM_termOf l E hM h_18) zcV_RX9_172 (hM 100 (by decide) (by decide)) (z_c100 E _ _ _ _) rfl rfl rfl (by decide) (Nat.le_of_ble_eq_true rfl) dX9_getsAsk_59) (fun H locs hs => ?_)
    refine lv_aload_n hx hb dX9_getsAsk_62 rfl (lv_at hl 1 rfl) ?_
    refine zg_M_letter C hs (hM 100 (by decide) (by decide)) z_k968 dX9_getsAsk_63 ?_
    refine lv_iconst (v := 5) hx hb dX9_getsAsk_66 (by decide) ?_
    refine z_ald C hs (hM 109 (by decide) (by decide)) (z_c109 E _ _ _ _) (by decide +kernel) (k := 5) (by decide +kernel) dX9_getsAsk_67 ?_
    refine lv_icmp_ne (tgt := 85) hx hb dX9_getsAsk_68 (by decide) (fun c19 => ?_) (fun c19 => ?_)
    · have hf := z_f hf c19
      exact wM_getsAsk_85 C hr hM x1 x2 t0 σ18 _ _ _ hs (lv_sub hl [1, 2, 3, 0] rfl) hf
    · have hf := z_t hf c19
      refine lv_iload_n hx hb dX9_getsAsk_71 rfl (lv_at hl 4 rfl) ?_
      refine lv_aload_n hx hb dX9_getsAsk_72 rfl (lv_at hl 1 rfl) ?_
      refine zg_M_letter C hs (hM 100 (by decide) (by decide)) z_k968 dX9_getsAsk_73 ?_
      refine lv_iconst (v := 4) hx hb dX9_getsAsk_76 (by decide) ?_
      refine z_ald C hs (hM 109 (by decide) (by decide)) (z_c109 E _ _ _ _) (by decide +kernel) (k := 4) (by decide +kernel) dX9_getsAsk_77 ?_
      refine lv_icmp_le (tgt := 85) hx hb dX9_getsAsk_78 (by decide) (fun c20 => ?_) (fun c20 => ?_)
      · have hf := z_t hf c20
        exact wM_getsAsk_85 C hr hM x1 x2 t0 σ18 _ _ _ hs (lv_sub hl [1, 2, 3, 0] rfl) hf
      · have hf := z_f hf c20
        exact wM_getsAsk_81 C hr hM x1 x2 t0 σ18 _ _ _ hs (lv_sub hl [1, 2, 3, 0] rfl) hf
set_option maxHeartbeats 4000000 in
set_option maxRecDepth 20000 in
theorem wM_getsAsk_34 (C : z_C E RX9 cX9_getsAsk 7 A p s m args meth c) (hr : meth.sig.returnType = (some .int)) (hM : z_M E) {ro : Int32} {σo : zS} (x1 : Int32) (x2 : Int32) (x3 : Int32) (σ : zS) (H : Heap) (locs : List Loc) (ls : Array Slot) (hs : z_H E A s σ H locs) (hl : lv_has ls 7 [(0, .ref (z_ad E (100, 0, 0))), (1, .int x1), (2, .int x2), (3, .int x3)]) (hf : fM_getsAsk_34 x1 x2 x3 σ = some (ro, σo)) : W p l e (z_rm 4) s m args below meth c H locs 0 0 (MQ below (z_QI E ro σo A) args s 0 0 A) (F0 m 34 ls []) := by
  have hx := C.1
  have hb := C.2.1
  unfold fM_getsAsk_34 at hf
  refine lv_iconst (v := 1) hx hb dX9_getsAsk_34 (by decide) ?_
  refine lv_goto (tgt := 39) hx hb dX9_getsAsk_35 (by decide) ?_
  exact wM_getsAsk_39 C hr hM x1 x2 x3 1 σ _ _ _ hs (lv_sub hl [0, 1, 2, 3] rfl) hf
set_option maxHeartbeats 4000000 in
set_option maxRecDepth 20000 in
theorem wM_getsAsk {x1 : Int32} (C : z_C E RX9 cX9_getsAsk 7 A p s m args meth c) (hr : meth.sig.returnType = (some .int)) (hM : z_M E) {ro : Int32} {σo : zS} (σ : zS) (H : Heap) (locs : List Loc) (ls : Array Slot) (hs : z_H E A s σ H locs) (hl : lv_has ls 7 [(0, .ref (z_ad E (100, 0, 0))), (1, .int x1)]) (hf : fM_getsAsk x1 σ = some (ro, σo)) : W p l e (z_rm 4) s m args below meth c H locs 0 0 (MQ below (z_QI E ro σo A) args s 0 0 A) (F0 m 0 ls []) := by
  have hx := C.1
  have hb := C.2.1
  unfold fM_getsAsk at hf
  refine lv_aload_n hx hb dX9_getsAsk_0 rfl (lv_at hl 0 rfl) ?_
  refine zg_M_letter C hs (hM 100 (by decide) (by decide)) z_k968 dX9_getsAsk_1 ?_
  refine lv_iconst (v := 1) hx hb dX9_getsAsk_4 (by decide) ?_
  refine z_ald C hs (hM 109 (by decide) (by decide)) (z_c109 E _ _ _ _) (by decide +kernel) (k := 1) (by decide +kernel) dX9_getsAsk_5 ?_
  refine lv_topi (fun y1 e_y1 => ?_)
  have hf := z_lte e_y1 hf
  refine lv_istore_n (lv' := [(2, .int y1), (0, .ref (z_ad E (100, 0, 0))), (1, .int x1)]) hx hb dX9_getsAsk_6 rfl hl (by decide) rfl (fun ls hl => ?_)
  refine lv_aload_n hx hb dX9_getsAsk_7 rfl (lv_at hl 1 rfl) ?_
  refine lv_iload_n hx hb dX9_getsAsk_8 rfl (lv_at hl 2 rfl) ?_
  refine lv_iconst (v := 4) hx hb dX9_getsAsk_9 (by decide) ?_
  obtain ⟨r2, σ2, h_2, hf⟩ := z_bds hf
  refine z_goI C hs (z_runV C hs hl.1 (cM_of l E hM h_2) zcV_RX9_146 (hM 100 (by decide) (by decide)) (z_c100 E _ _ _ _) rfl rfl rfl (by decide) (Nat.le_of_ble_eq_true rfl) dX9_getsAsk_10) (fun H locs hs => ?_)
  refine lv_istore_n (lv' := [(3, .int r2), (2, .int y1), (0, .ref (z_ad E (100, 0, 0))), (1, .int x1)]) hx hb dX9_getsAsk_13 rfl hl (by decide) rfl (fun ls hl => ?_)
  refine lv_aload_n hx hb dX9_getsAsk_14 rfl (lv_at hl 2 rfl) ?_
  refine lv_iload_n hx hb dX9_getsAsk_15 rfl (lv_at hl 3 rfl) ?_
  refine lv_iconst (v := 1) hx hb dX9_getsAsk_16 (by decide) ?_
  obtain ⟨r3, σ3, h_3, hf⟩ := z_bds hf
  refine z_goI C hs (z_runV C hs hl.1 (cM_of l E hM h_3) zcV_RX9_146 (hM 100 (by decide) (by decide)) (z_c100 E _ _ _ _) rfl rfl rfl (by decide) (Nat.le_of_ble_eq_true rfl) dX9_getsAsk_17) (fun H locs hs => ?_)
  refine lv_iconst (v := (-1)) hx hb dX9_getsAsk_20 (by decide) ?_
  refine lv_icmp_eq (tgt := 34) hx hb dX9_getsAsk_21 (by decide) (fun c4 => ?_) (fun c4 => ?_)
  · have hf := z_t hf c4
    exact wM_getsAsk_34 C hr hM x1 y1 r2 σ3 _ _ _ hs (lv_sub hl [2, 3, 1, 0] rfl) hf
  · have hf := z_f hf c4
    refine lv_aload_n hx hb dX9_getsAsk_24 rfl (lv_at hl 2 rfl) ?_
    refine lv_iload_n hx hb dX9_getsAsk_25 rfl (lv_at hl 3 rfl) ?_
    refine lv_iconst (v := 1) hx hb dX9_getsAsk_26 (by decide) ?_
    obtain ⟨r21, σ21, h_21, hf⟩ := z_bds hf
    refine z_goI C hs (z_runV C hs hl.1 (cM_of l E hM h_21) zcV_RX9_146 (hM 100 (by decide) (by decide)) (z_c100 E _ _ _ _) rfl rfl rfl (by decide) (Nat.le_of_ble_eq_true rfl) dX9_getsAsk_27) (fun H locs hs => ?_)
    refine lv_iload_n hx hb dX9_getsAsk_30 rfl (lv_at hl 1 rfl) ?_
    refine lv_icmp_ne (tgt := 38) hx hb dX9_getsAsk_31 (by decide) (fun c22 => ?_) (fun c22 => ?_)
    · have hf := z_f hf c22
      refine lv_iconst (v := 0) hx hb dX9_getsAsk_38 (by decide) ?_
      exact wM_getsAsk_39 C hr hM x1 y1 r2 0 σ21 _ _ _ hs (lv_sub hl [2, 3, 1, 0] rfl) hf
    · have hf := z_t hf c22
      exact wM_getsAsk_34 C hr hM x1 y1 r2 σ21 _ _ _ hs (lv_sub hl [2, 3, 1, 0] rfl) hf
set_option maxHeartbeats 4000000 in
set_option maxRecDepth 20000 in
theorem cM_getsAsk (l : Launch) (E : zE) {x1 : Int32} (hM : z_M E) {σ σo : zS} {ro : Int32} (hf : fM_getsAsk x1 σ = some (ro, σo)) : z_T l E yX9_getsAsk cX9_getsAsk 7 (some .int) (z_rm 4) (z_QI E ro σo) [.ref (z_ad E (100, 0, 0)), .int x1] σ :=
  z_enter (by decide) (Nat.le_of_ble_eq_true rfl) rfl (fun p e s m below meth c A ls C hr hs hl => wM_getsAsk C hr hM σ _ _ ls hs hl hf)
def fM_getsBallot (x1 : Int32) (σ : zS) : Option (Int32 × zS) :=
  z_bd (fM_of x1 5 σ) (fun r1 σ1 =>
  if r1 = 1 then
    (z_bd (fM_of x1 0 σ1) (fun r3 σ3 =>
    if r3 = (σ3.1 (109, 0, 0) 3) then
      (if (σ3.1 (109, 0, 0) 4) = 0 then
        (some (0, σ3))
      else
        (z_bd (fM_of x1 7 σ3) (fun r6 σ6 =>
        z_bd (fM_put x1 7 (r6 ||| (1 <<< ((σ6.1 (109, 0, 0) 1) &&& 31))) σ6) (fun _ σ7 =>
        z_bd (fM_leads x1 σ7) (fun _ σ8 =>
        some (0, σ8))))))
    else
      (some (0, σ3))))
  else
    (some (0, σ1)))
set_option maxHeartbeats 4000000 in
set_option maxRecDepth 20000 in
theorem wM_getsBallot {x1 : Int32} (C : z_C E RX9 cX9_getsBallot 2 A p s m args meth c) (hr : meth.sig.returnType = (some .int)) (hM : z_M E) {ro : Int32} {σo : zS} (σ : zS) (H : Heap) (locs : List Loc) (ls : Array Slot) (hs : z_H E A s σ H locs) (hl : lv_has ls 2 [(0, .ref (z_ad E (100, 0, 0))), (1, .int x1)]) (hf : fM_getsBallot x1 σ = some (ro, σo)) : W p l e (z_rm 7) s m args below meth c H locs 0 0 (MQ below (z_QI E ro σo A) args s 0 0 A) (F0 m 0 ls []) := by
  have hx := C.1
  have hb := C.2.1
  unfold fM_getsBallot at hf
  refine lv_aload_n hx hb dX9_getsBallot_0 rfl (lv_at hl 0 rfl) ?_
  refine lv_iload_n hx hb dX9_getsBallot_1 rfl (lv_at hl 1 rfl) ?_
  refine lv_iconst (v := 5) hx hb dX9_getsBallot_2 (by decide) ?_
  obtain ⟨r1, σ1, h_1, hf⟩ := z_bds hf
  refine z_goI C hs (z_runV C hs hl.1 (cM_of l E hM h_1) zcV_RX9_146 (hM 100 (by decide) (by decide)) (z_c100 E _ _ _ _) rfl rfl rfl (by decide) (Nat.le_of_ble_eq_true rfl) dX9_getsBallot_3) (fun H locs hs => ?_)
  refine lv_iconst (v := 1) hx hb dX9_getsBallot_6 (by decide) ?_
  refine lv_icmp_ne (tgt := 34) hx hb dX9_getsBallot_7 (by decide) (fun c2 => ?_) (fun c2 => ?_)
  · have hf := z_f hf c2
    refine lv_iconst (v := 0) hx hb dX9_getsBallot_34 (by decide) ?_
    exact z_reti C hr hs hf dX9_getsBallot_35
  · have hf := z_t hf c2
    refine lv_aload_n hx hb dX9_getsBallot_10 rfl (lv_at hl 0 rfl) ?_
    refine lv_iload_n hx hb dX9_getsBallot_11 rfl (lv_at hl 1 rfl) ?_
    refine lv_iconst (v := 0) hx hb dX9_getsBallot_12 (by decide) ?_
    obtain ⟨r3, σ3, h_3, hf⟩ := z_bds hf
    refine z_goI C hs (z_runV C hs hl.1 (cM_of l E hM h_3) zcV_RX9_146 (hM 100 (by decide) (by decide)) (z_c100 E _ _ _ _) rfl rfl rfl (by decide) (Nat.le_of_ble_eq_true rfl) dX9_getsBallot_13) (fun H locs hs => ?_)
    refine lv_aload_n hx hb dX9_getsBallot_16 rfl (lv_at hl 0 rfl) ?_
    refine zg_M_letter C hs (hM 100 (by decide) (by decide)) z_k968 dX9_getsBallot_17 ?_
    refine lv_iconst (v := 3) hx hb dX9_getsBallot_20 (by decide) ?_
    refine z_ald C hs (hM 109 (by decide) (by decide)) (z_c109 E _ _ _ _) (by decide +kernel) (k := 3) (by decide +kernel) dX9_getsBallot_21 ?_
    refine lv_icmp_ne (tgt := 34) hx hb dX9_getsBallot_22 (by decide) (fun c4 => ?_) (fun c4 => ?_)
    · have hf := z_f hf c4
      refine lv_iconst (v := 0) hx hb dX9_getsBallot_34 (by decide) ?_
      exact z_reti C hr hs hf dX9_getsBallot_35
    · have hf := z_t hf c4
      refine lv_aload_n hx hb dX9_getsBallot_25 rfl (lv_at hl 0 rfl) ?_
      refine zg_M_letter C hs (hM 100 (by decide) (by decide)) z_k968 dX9_getsBallot_26 ?_
      refine lv_iconst (v := 4) hx hb dX9_getsBallot_29 (by decide) ?_
      refine z_ald C hs (hM 109 (by decide) (by decide)) (z_c109 E _ _ _ _) (by decide +kernel) (k := 4) (by decide +kernel) dX9_getsBallot_30 ?_
      refine lv_if_ne (tgt := 36) hx hb dX9_getsBallot_31 (by decide) (fun c5 => ?_) (fun c5 => ?_)
      · have hf := z_f hf c5
        refine lv_aload_n hx hb dX9_getsBallot_36 rfl (lv_at hl 0 rfl) ?_
        refine lv_iload_n hx hb dX9_getsBallot_37 rfl (lv_at hl 1 rfl) ?_
        refine lv_bipush (v := 7) hx hb dX9_getsBallot_38 (by decide) ?_
        refine lv_aload_n hx hb dX9_getsBallot_40 rfl (lv_at hl 0 rfl) ?_
        refine lv_iload_n hx hb dX9_getsBallot_41 rfl (lv_at hl 1 rfl) ?_
        refine lv_bipush (v := 7) hx hb dX9_getsBallot_42 (by decide) ?_
        obtain ⟨r6, σ6, h_6, hf⟩ := z_bds hf
        refine z_goI C hs (z_runV C hs hl.1 (cM_of l E hM h_6) zcV_RX9_146 (hM 100 (by decide) (by decide)) (z_c100 E _ _ _ _) rfl rfl rfl (by decide) (Nat.le_of_ble_eq_true rfl) dX9_getsBallot_44) (fun H locs hs => ?_)
        refine lv_iconst (v := 1) hx hb dX9_getsBallot_47 (by decide) ?_
        refine lv_aload_n hx hb dX9_getsBallot_48 rfl (lv_at hl 0 rfl) ?_
        refine zg_M_letter C hs (hM 100 (by decide) (by decide)) z_k968 dX9_getsBallot_49 ?_
        refine lv_iconst (v := 1) hx hb dX9_getsBallot_52 (by decide) ?_
        refine z_ald C hs (hM 109 (by decide) (by decide)) (z_c109 E _ _ _ _) (by decide +kernel) (k := 1) (by decide +kernel) dX9_getsBallot_53 ?_
        refine lv_ishl hx hb dX9_getsBallot_54 ?_
        refine lv_ior hx hb dX9_getsBallot_55 ?_
        obtain ⟨r7, σ7, h_7, hf⟩ := z_bds hf
        refine z_goV C hs (z_runV C hs hl.1 (cM_put l E hM h_7) zcV_RX9_139 (hM 100 (by decide) (by decide)) (z_c100 E _ _ _ _) rfl rfl rfl (by decide) (Nat.le_of_ble_eq_true rfl) dX9_getsBallot_56) (fun H locs hs => ?_)
        refine lv_aload_n hx hb dX9_getsBallot_59 rfl (lv_at hl 0 rfl) ?_
        refine lv_iload_n hx hb dX9_getsBallot_60 rfl (lv_at hl 1 rfl) ?_
        obtain ⟨r8, σ8, h_8, hf⟩ := z_bds hf
        refine z_goV C hs (z_runV C hs hl.1 (cM_leads l E hM h_8) zcV_RX9_202 (hM 100 (by decide) (by decide)) (z_c100 E _ _ _ _) rfl rfl rfl (by decide) (Nat.le_of_ble_eq_true rfl) dX9_getsBallot_61) (fun H locs hs => ?_)
        refine lv_iconst (v := 0) hx hb dX9_getsBallot_64 (by decide) ?_
        exact z_reti C hr hs hf dX9_getsBallot_65
      · have hf := z_t hf c5
        refine lv_iconst (v := 0) hx hb dX9_getsBallot_34 (by decide) ?_
        exact z_reti C hr hs hf dX9_getsBallot_35
set_option maxHeartbeats 4000000 in
set_option maxRecDepth 20000 in
theorem cM_getsBallot (l : Launch) (E : zE) {x1 : Int32} (hM : z_M E) {σ σo : zS} {ro : Int32} (hf : fM_getsBallot x1 σ = some (ro, σo)) : z_T l E yX9_getsBallot cX9_getsBallot 2 (some .int) (z_rm 7) (z_QI E ro σo) [.ref (z_ad E (100, 0, 0)), .int x1] σ :=
  z_enter (by decide) (Nat.le_of_ble_eq_true rfl) rfl (fun p e s m below meth c A ls C hr hs hl => wM_getsBallot C hr hM σ _ _ ls hs hl hf)
def fM_answersBack_18 (x3 : Int32) (t1 : Int32) (t2 : Int32) (t3 : Int32) (t4 : Int32) (σ : zS) : Option (Int32 × zS) :=
  z_bd (fM_sends t1 t2 t3 t4 x3 σ) (fun r2 σ2 =>
  z_bd (fM_putSlot r2 8 (σ2.1 (109, 0, 0) 8) σ2) (fun _ σ3 =>
  some (1, σ3)))
def fM_answersBack (x1 : Int32) (x2 : Int32) (x3 : Int32) (σ : zS) : Option (Int32 × zS) :=
  if x2 = 0 then
    (fM_answersBack_18 x3 3 x1 (σ.1 (109, 0, 0) 1) 0 σ)
  else
    (fM_answersBack_18 x3 3 x1 (σ.1 (109, 0, 0) 1) 1 σ)
set_option maxHeartbeats 4000000 in
set_option maxRecDepth 20000 in
theorem wM_answersBack_18 (C : z_C E RX9 cX9_answersBack 5 A p s m args meth c) (hr : meth.sig.returnType = (some .int)) (hM : z_M E) {ro : Int32} {σo : zS} (x3 : Int32) (t1 : Int32) (t2 : Int32) (t3 : Int32) (t4 : Int32) (σ : zS) (H : Heap) (locs : List Loc) (ls : Array Slot) (hs : z_H E A s σ H locs) (hl : lv_has ls 5 [(0, .ref (z_ad E (100, 0, 0))), (3, .int x3)]) (hf : fM_answersBack_18 x3 t1 t2 t3 t4 σ = some (ro, σo)) : W p l e (z_rm 4) s m args below meth c H locs 0 0 (MQ below (z_QI E ro σo A) args s 0 0 A) (F0 m 18 ls [.int t4, .int t3, .int t2, .int t1, .ref (z_ad E (100, 0, 0))]) := by
  have hx := C.1
  have hb := C.2.1
  unfold fM_answersBack_18 at hf
  refine lv_iload_n hx hb dX9_answersBack_18 rfl (lv_at hl 1 rfl) ?_
  obtain ⟨r2, σ2, h_2, hf⟩ := z_bds hf
  refine z_goI C hs (z_runV C hs hl.1 (cM_sends l E hM h_2) zcV_RX9_198 (hM 100 (by decide) (by decide)) (z_c100 E _ _ _ _) rfl rfl rfl (by decide) (Nat.le_of_ble_eq_true rfl) dX9_answersBack_19) (fun H locs hs => ?_)
  refine lv_istore (lv' := [(4, .int r2), (0, .ref (z_ad E (100, 0, 0))), (3, .int x3)]) hx hb dX9_answersBack_22 hl (by decide) rfl (fun ls hl => ?_)
  refine lv_aload_n hx hb dX9_answersBack_24 rfl (lv_at hl 1 rfl) ?_
  refine lv_iload hx hb dX9_answersBack_25 (lv_at hl 0 rfl) ?_
  refine lv_bipush (v := 8) hx hb dX9_answersBack_27 (by decide) ?_
  refine lv_aload_n hx hb dX9_answersBack_29 rfl (lv_at hl 1 rfl) ?_
  refine zg_M_letter C hs (hM 100 (by decide) (by decide)) z_k968 dX9_answersBack_30 ?_
  refine lv_bipush (v := 8) hx hb dX9_answersBack_33 (by decide) ?_
  refine z_ald C hs (hM 109 (by decide) (by decide)) (z_c109 E _ _ _ _) (by decide +kernel) (k := 8) (by decide +kernel) dX9_answersBack_35 ?_
  obtain ⟨r3, σ3, h_3, hf⟩ := z_bds hf
  refine z_goV C hs (z_runV C hs hl.1 (cM_putSlot l E hM h_3) zcV_RX9_192 (hM 100 (by decide) (by decide)) (z_c100 E _ _ _ _) rfl rfl rfl (by decide) (Nat.le_of_ble_eq_true rfl) dX9_answersBack_36) (fun H locs hs => ?_)
  refine lv_iconst (v := 1) hx hb dX9_answersBack_39 (by decide) ?_
  exact z_reti C hr hs hf dX9_answersBack_40
set_option maxHeartbeats 4000000 in
set_option maxRecDepth 20000 in
theorem wM_answersBack {x1 : Int32} {x2 : Int32} {x3 : Int32} (C : z_C E RX9 cX9_answersBack 5 A p s m args meth c) (hr : meth.sig.returnType = (some .int)) (hM : z_M E) {ro : Int32} {σo : zS} (σ : zS) (H : Heap) (locs : List Loc) (ls : Array Slot) (hs : z_H E A s σ H locs) (hl : lv_has ls 5 [(0, .ref (z_ad E (100, 0, 0))), (1, .int x1), (2, .int x2), (3, .int x3)]) (hf : fM_answersBack x1 x2 x3 σ = some (ro, σo)) : W p l e (z_rm 4) s m args below meth c H locs 0 0 (MQ below (z_QI E ro σo A) args s 0 0 A) (F0 m 0 ls []) := by
  have hx := C.1
  have hb := C.2.1
  unfold fM_answersBack at hf
  refine lv_aload_n hx hb dX9_answersBack_0 rfl (lv_at hl 0 rfl) ?_
  refine lv_iconst (v := 3) hx hb dX9_answersBack_1 (by decide) ?_
  refine lv_iload_n hx hb dX9_answersBack_2 rfl (lv_at hl 1 rfl) ?_
  refine lv_aload_n hx hb dX9_answersBack_3 rfl (lv_at hl 0 rfl) ?_
  refine zg_M_letter C hs (hM 100 (by decide) (by decide)) z_k968 dX9_answersBack_4 ?_
  refine lv_iconst (v := 1) hx hb dX9_answersBack_7 (by decide) ?_
  refine z_ald C hs (hM 109 (by decide) (by decide)) (z_c109 E _ _ _ _) (by decide +kernel) (k := 1) (by decide +kernel) dX9_answersBack_8 ?_
  refine lv_iload_n hx hb dX9_answersBack_9 rfl (lv_at hl 2 rfl) ?_
  refine lv_if_eq (tgt := 17) hx hb dX9_answersBack_10 (by decide) (fun c1 => ?_) (fun c1 => ?_)
  · have hf := z_t hf c1
    refine lv_iconst (v := 0) hx hb dX9_answersBack_17 (by decide) ?_
    exact wM_answersBack_18 C hr hM x3 3 x1 (σ.1 (109, 0, 0) 1) 0 σ _ _ _ hs (lv_sub hl [0, 3] rfl) hf
  · have hf := z_f hf c1
    refine lv_iconst (v := 1) hx hb dX9_answersBack_13 (by decide) ?_
    refine lv_goto (tgt := 18) hx hb dX9_answersBack_14 (by decide) ?_
    exact wM_answersBack_18 C hr hM x3 3 x1 (σ.1 (109, 0, 0) 1) 1 σ _ _ _ hs (lv_sub hl [0, 3] rfl) hf
set_option maxHeartbeats 4000000 in
set_option maxRecDepth 20000 in
theorem cM_answersBack (l : Launch) (E : zE) {x1 : Int32} {x2 : Int32} {x3 : Int32} (hM : z_M E) {σ σo : zS} {ro : Int32} (hf : fM_answersBack x1 x2 x3 σ = some (ro, σo)) : z_T l E yX9_answersBack cX9_answersBack 5 (some .int) (z_rm 4) (z_QI E ro σo) [.ref (z_ad E (100, 0, 0)), .int x1, .int x2, .int x3] σ :=
  z_enter (by decide) (Nat.le_of_ble_eq_true rfl) rfl (fun p e s m below meth c A ls C hr hs hl => wM_answersBack C hr hM σ _ _ ls hs hl hf)
def fM_takes_88 : Nat → Int32 → Int32 → Int32 → Int32 → zS → Option (Int32 × zS)
  | 0, _, _, _, _, _ => none
  | n + 1, x1, x2, x3, x4, σ =>
    if 6 ≤ x4 then
      (some (1, σ))
    else
      (z_bd (fM_entryAt x1 x2 σ) (fun r12 σ12 =>
      if z_in (x3 + x4) 64 = true then (
      if z_in (r12 + x4) 5000 = true then (
      z_let (z_up σ12 (103, 0, 0) ((r12 + x4).toNatClampNeg) (σ12.1 (109, 0, 0) (x3 + x4).toNatClampNeg)) (fun σ15 =>
      z_let (x4 + 1) (fun y16 =>
      fM_takes_88 n x1 x2 x3 y16 σ15))) else none) else none))
def fM_takes_58 (x1 : Int32) (x2 : Int32) (x3 : Int32) (σ : zS) : Option (Int32 × zS) :=
  z_bd (fM_of x1 4 σ) (fun r7 σ7 =>
  z_bd (fM_of x1 2 σ7) (fun r8 σ8 =>
  if (r7 - r8) < 40 then
    (z_bd (fM_put x1 4 x2 σ8) (fun _ σ10 =>
    fM_takes_88 z_fu x1 x2 x3 0 σ10))
  else
    (some (0, σ8))))
def fM_takes_39 (x1 : Int32) (x2 : Int32) (x3 : Int32) (σ : zS) : Option (Int32 × zS) :=
  z_bd (fM_of x1 4 σ) (fun r5 σ5 =>
  if r5 < x2 then
    (fM_takes_58 x1 x2 x3 σ5)
  else
    (z_bd (fM_put x1 4 (x2 - 1) σ5) (fun _ σ17 =>
    fM_takes_58 x1 x2 x3 σ17)))
def fM_takes (x1 : Int32) (x2 : Int32) (x3 : Int32) (σ : zS) : Option (Int32 × zS) :=
  z_bd (fM_of x1 2 σ) (fun r1 σ1 =>
  if r1 < x2 then
    (z_bd (fM_of x1 4 σ1) (fun r3 σ3 =>
    if r3 < x2 then
      (fM_takes_39 x1 x2 x3 σ3)
    else
      (z_bd (fM_termOf x1 x2 σ3) (fun r18 σ18 =>
      if z_in x3 64 = true then (
      if r18 = (σ18.1 (109, 0, 0) x3.toNatClampNeg) then
        (some (1, σ18))
      else
        (fM_takes_39 x1 x2 x3 σ18)) else none))))
  else
    (some (1, σ1)))
set_option maxHeartbeats 4000000 in
set_option maxRecDepth 20000 in
theorem wM_takes_88 (C : z_C E RX9 cX9_takes 5 A p s m args meth c) (hr : meth.sig.returnType = (some .boolean)) (hM : z_M E) {ro : Int32} {σo : zS} (n : Nat) : ∀ (x1 : Int32) (x2 : Int32) (x3 : Int32) (x4 : Int32) (σ : zS) (H : Heap) (locs : List Loc) (ls : Array Slot), z_H E A s σ H locs → lv_has ls 5 [(0, .ref (z_ad E (100, 0, 0))), (1, .int x1), (2, .int x2), (3, .int x3), (4, .int x4)] → fM_takes_88 n x1 x2 x3 x4 σ = some (ro, σo) → W p l e (z_rm 4) s m args below meth c H locs 0 0 (MQ below (z_QI E ro σo A) args s 0 0 A) (F0 m 88 ls []) := by
  induction n with
  | zero =>
    intro x1 x2 x3 x4 σ H locs ls hs hl hf
    have hf : none = some (ro, σo) := hf
    cases hf
  | succ n ih =>
    intro x1 x2 x3 x4 σ H locs ls hs hl hf
    have hx := C.1
    have hb := C.2.1
    rw [fM_takes_88.eq_2] at hf
    refine lv_iload hx hb dX9_takes_88 (lv_at hl 4 rfl) ?_
    refine lv_bipush (v := 6) hx hb dX9_takes_90 (by decide) ?_
    refine lv_icmp_ge (tgt := 124) hx hb dX9_takes_92 (by decide) (fun c11 => ?_) (fun c11 => ?_)
    · have hf := z_t hf c11
      refine lv_iconst (v := 1) hx hb dX9_takes_124 (by decide) ?_
      exact z_retz C hr hs (by decide +kernel) hf dX9_takes_125
    · have hf := z_f hf c11
      refine lv_aload_n hx hb dX9_takes_95 rfl (lv_at hl 0 rfl) ?_
      refine zg_M_all C hs (hM 100 (by decide) (by decide)) z_k952 dX9_takes_96 ?_
      refine lv_aload_n hx hb dX9_takes_99 rfl (lv_at hl 0 rfl) ?_
      refine lv_iload_n hx hb dX9_takes_100 rfl (lv_at hl 1 rfl) ?_
      refine lv_iload_n hx hb dX9_takes_101 rfl (lv_at hl 2 rfl) ?_
      obtain ⟨r12, σ12, h_12, hf⟩ := z_bds hf
      refine z_goI C hs (z_runV C hs hl.1 (cM_entryAt l E hM h_12) zcV_RX9_153 (hM 100 (by decide) (by decide)) (z_c100 E _ _ _ _) rfl rfl rfl (by decide) (Nat.le_of_ble_eq_true rfl) dX9_takes_102) (fun H locs hs => ?_)
      refine lv_iload hx hb dX9_takes_105 (lv_at hl 4 rfl) ?_
      refine lv_iadd hx hb dX9_takes_107 ?_
      refine lv_aload_n hx hb dX9_takes_108 rfl (lv_at hl 0 rfl) ?_
      refine zg_M_letter C hs (hM 100 (by decide) (by decide)) z_k968 dX9_takes_109 ?_
      refine lv_iload_n hx hb dX9_takes_112 rfl (lv_at hl 3 rfl) ?_
      refine lv_iload hx hb dX9_takes_113 (lv_at hl 4 rfl) ?_
      refine lv_iadd hx hb dX9_takes_115 ?_
      obtain ⟨g13, hf⟩ := z_gd hf
      refine z_ald C hs (hM 109 (by decide) (by decide)) (z_c109 E _ _ _ _) g13 rfl dX9_takes_116 ?_
      obtain ⟨g14, hf⟩ := z_gd hf
      refine z_ast C hs (hM 103 (by decide) (by decide)) (fun r h => z_c103 E r h _ _) g14 rfl dX9_takes_117 (fun H locs hs => ?_)
      obtain ⟨σ15, -, hs, hf⟩ := z_top hs hf
      obtain ⟨y16, e_y16⟩ : ∃ y : Int32, y = x4 + 1 := ⟨_, rfl⟩
      have hf := z_lte e_y16 hf
      refine lv_iinc (v := y16) (lv' := [(4, .int y16), (0, .ref (z_ad E (100, 0, 0))), (1, .int x1), (2, .int x2), (3, .int x3)]) hx hb dX9_takes_118 hl (k := 4) rfl (by rw [e_y16]; rfl) (by decide) rfl (fun ls hl => ?_)
      refine lv_goto (tgt := 88) hx hb dX9_takes_121 (by decide) ?_
      exact ih x1 x2 x3 y16 σ15 _ _ _ hs (lv_sub hl [1, 2, 3, 4, 0] rfl) hf
set_option maxHeartbeats 4000000 in
set_option maxRecDepth 20000 in
theorem wM_takes_58 (C : z_C E RX9 cX9_takes 5 A p s m args meth c) (hr : meth.sig.returnType = (some .boolean)) (hM : z_M E) {ro : Int32} {σo : zS} (x1 : Int32) (x2 : Int32) (x3 : Int32) (σ : zS) (H : Heap) (locs : List Loc) (ls : Array Slot) (hs : z_H E A s σ H locs) (hl : lv_has ls 5 [(0, .ref (z_ad E (100, 0, 0))), (1, .int x1), (2, .int x2), (3, .int x3)]) (hf : fM_takes_58 x1 x2 x3 σ = some (ro, σo)) : W p l e (z_rm 4) s m args below meth c H locs 0 0 (MQ below (z_QI E ro σo A) args s 0 0 A) (F0 m 58 ls []) := by
  have hx := C.1
  have hb := C.2.1
  unfold fM_takes_58 at hf
  refine lv_aload_n hx hb dX9_takes_58 rfl (lv_at hl 0 rfl) ?_
  refine lv_iload_n hx hb dX9_takes_59 rfl (lv_at hl 1 rfl) ?_
  refine lv_iconst (v := 4) hx hb dX9_takes_60 (by decide) ?_
  obtain ⟨r7, σ7, h_7, hf⟩ := z_bds hf
  refine z_goI C hs (z_runV C hs hl.1 (cM_of l E hM h_7) zcV_RX9_146 (hM 100 (by decide) (by decide)) (z_c100 E _ _ _ _) rfl rfl rfl (by decide) (Nat.le_of_ble_eq_true rfl) dX9_takes_61) (fun H locs hs => ?_)
  refine lv_aload_n hx hb dX9_takes_64 rfl (lv_at hl 0 rfl) ?_
  refine lv_iload_n hx hb dX9_takes_65 rfl (lv_at hl 1 rfl) ?_
  refine lv_iconst (v := 2) hx hb dX9_takes_66 (by decide) ?_
  obtain ⟨r8, σ8, h_8, hf⟩ := z_bds hf
  refine z_goI C hs (z_runV C hs hl.1 (cM_of l E hM h_8) zcV_RX9_146 (hM 100 (by decide) (by decide)) (z_c100 E _ _ _ _) rfl rfl rfl (by decide) (Nat.le_of_ble_eq_true rfl) dX9_takes_67) (fun H locs hs => ?_)
  refine lv_isub hx hb dX9_takes_70 ?_
  refine lv_bipush (v := 40) hx hb dX9_takes_71 (by decide) ?_
  refine lv_icmp_lt (tgt := 78) hx hb dX9_takes_73 (by decide) (fun c9 => ?_) (fun c9 => ?_)
  · have hf := z_t hf c9
    refine lv_aload_n hx hb dX9_takes_78 rfl (lv_at hl 0 rfl) ?_
    refine lv_iload_n hx hb dX9_takes_79 rfl (lv_at hl 1 rfl) ?_
    refine lv_iconst (v := 4) hx hb dX9_takes_80 (by decide) ?_
    refine lv_iload_n hx hb dX9_takes_81 rfl (lv_at hl 2 rfl) ?_
    obtain ⟨r10, σ10, h_10, hf⟩ := z_bds hf
    refine z_goV C hs (z_runV C hs hl.1 (cM_put l E hM h_10) zcV_RX9_139 (hM 100 (by decide) (by decide)) (z_c100 E _ _ _ _) rfl rfl rfl (by decide) (Nat.le_of_ble_eq_true rfl) dX9_takes_82) (fun H locs hs => ?_)
    refine lv_iconst (v := 0) hx hb dX9_takes_85 (by decide) ?_
    refine lv_istore (lv' := [(4, .int 0), (0, .ref (z_ad E (100, 0, 0))), (1, .int x1), (2, .int x2), (3, .int x3)]) hx hb dX9_takes_86 hl (by decide) rfl (fun ls hl => ?_)
    exact wM_takes_88 C hr hM z_fu x1 x2 x3 0 σ10 _ _ _ hs (lv_sub hl [1, 2, 3, 4, 0] rfl) hf
  · have hf := z_f hf c9
    refine lv_iconst (v := 0) hx hb dX9_takes_76 (by decide) ?_
    exact z_retz C hr hs (by decide +kernel) hf dX9_takes_77
set_option maxHeartbeats 4000000 in
set_option maxRecDepth 20000 in
theorem wM_takes_39 (C : z_C E RX9 cX9_takes 5 A p s m args meth c) (hr : meth.sig.returnType = (some .boolean)) (hM : z_M E) {ro : Int32} {σo : zS} (x1 : Int32) (x2 : Int32) (x3 : Int32) (σ : zS) (H : Heap) (locs : List Loc) (ls : Array Slot) (hs : z_H E A s σ H locs) (hl : lv_has ls 5 [(0, .ref (z_ad E (100, 0, 0))), (1, .int x1), (2, .int x2), (3, .int x3)]) (hf : fM_takes_39 x1 x2 x3 σ = some (ro, σo)) : W p l e (z_rm 4) s m args below meth c H locs 0 0 (MQ below (z_QI E ro σo A) args s 0 0 A) (F0 m 39 ls []) := by
  have hx := C.1
  have hb := C.2.1
  unfold fM_takes_39 at hf
  refine lv_iload_n hx hb dX9_takes_39 rfl (lv_at hl 2 rfl) ?_
  refine lv_aload_n hx hb dX9_takes_40 rfl (lv_at hl 0 rfl) ?_
  refine lv_iload_n hx hb dX9_takes_41 rfl (lv_at hl 1 rfl) ?_
  refine lv_iconst (v := 4) hx hb dX9_takes_42 (by decide) ?_
  obtain ⟨r5, σ5, h_5, hf⟩ := z_bds hf
  refine z_goI C hs (z_runV C hs hl.1 (cM_of l E hM h_5) zcV_RX9_146 (hM 100 (by decide) (by decide)) (z_c100 E _ _ _ _) rfl rfl rfl (by decide) (Nat.le_of_ble_eq_true rfl) dX9_takes_43) (fun H locs hs => ?_)
  refine lv_icmp_gt (tgt := 58) hx hb dX9_takes_46 (by decide) (fun c6 => ?_) (fun c6 => ?_)
  · have hf := z_t hf c6
    exact wM_takes_58 C hr hM x1 x2 x3 σ5 _ _ _ hs (lv_sub hl [0, 1, 2, 3] rfl) hf
  · have hf := z_f hf c6
    refine lv_aload_n hx hb dX9_takes_49 rfl (lv_at hl 0 rfl) ?_
    refine lv_iload_n hx hb dX9_takes_50 rfl (lv_at hl 1 rfl) ?_
    refine lv_iconst (v := 4) hx hb dX9_takes_51 (by decide) ?_
    refine lv_iload_n hx hb dX9_takes_52 rfl (lv_at hl 2 rfl) ?_
    refine lv_iconst (v := 1) hx hb dX9_takes_53 (by decide) ?_
    refine lv_isub hx hb dX9_takes_54 ?_
    obtain ⟨r17, σ17, h_17, hf⟩ := z_bds hf
    refine z_goV C hs (z_runV C hs hl.1 (cM_put l E hM h_17) zcV_RX9_139 (hM 100 (by decide) (by decide)) (z_c100 E _ _ _ _) rfl rfl rfl (by decide) (Nat.le_of_ble_eq_true rfl) dX9_takes_55) (fun H locs hs => ?_)
    exact wM_takes_58 C hr hM x1 x2 x3 σ17 _ _ _ hs (lv_sub hl [0, 1, 2, 3] rfl) hf
set_option maxHeartbeats 4000000 in
set_option maxRecDepth 20000 in
theorem wM_takes {x1 : Int32} {x2 : Int32} {x3 : Int32} (C : z_C E RX9 cX9_takes 5 A p s m args meth c) (hr : meth.sig.returnType = (some .boolean)) (hM : z_M E) {ro : Int32} {σo : zS} (σ : zS) (H : Heap) (locs : List Loc) (ls : Array Slot) (hs : z_H E A s σ H locs) (hl : lv_has ls 5 [(0, .ref (z_ad E (100, 0, 0))), (1, .int x1), (2, .int x2), (3, .int x3)]) (hf : fM_takes x1 x2 x3 σ = some (ro, σo)) : W p l e (z_rm 4) s m args below meth c H locs 0 0 (MQ below (z_QI E ro σo A) args s 0 0 A) (F0 m 0 ls []) := by
  have hx := C.1
  have hb := C.2.1
  unfold fM_takes at hf
  refine lv_iload_n hx hb dX9_takes_0 rfl (lv_at hl 2 rfl) ?_
  refine lv_aload_n hx hb dX9_takes_1 rfl (lv_at hl 0 rfl) ?_
  refine lv_iload_n hx hb dX9_takes_2 rfl (lv_at hl 1 rfl) ?_
  refine lv_iconst (v := 2) hx hb dX9_takes_3 (by decide) ?_
  obtain ⟨r1, σ1, h_1, hf⟩ := z_bds hf
  refine z_goI C hs (z_runV C hs hl.1 (cM_of l E hM h_1) zcV_RX9_146 (hM 100 (by decide) (by decide)) (z_c100 E _ _ _ _) rfl rfl rfl (by decide) (Nat.le_of_ble_eq_true rfl) dX9_takes_4) (fun H locs hs => ?_)
  refine lv_icmp_gt (tgt := 12) hx hb dX9_takes_7 (by decide) (fun c2 => ?_) (fun c2 => ?_)
  · have hf := z_t hf c2
    refine lv_iload_n hx hb dX9_takes_12 rfl (lv_at hl 2 rfl) ?_
    refine lv_aload_n hx hb dX9_takes_13 rfl (lv_at hl 0 rfl) ?_
    refine lv_iload_n hx hb dX9_takes_14 rfl (lv_at hl 1 rfl) ?_
    refine lv_iconst (v := 4) hx hb dX9_takes_15 (by decide) ?_
    obtain ⟨r3, σ3, h_3, hf⟩ := z_bds hf
    refine z_goI C hs (z_runV C hs hl.1 (cM_of l E hM h_3) zcV_RX9_146 (hM 100 (by decide) (by decide)) (z_c100 E _ _ _ _) rfl rfl rfl (by decide) (Nat.le_of_ble_eq_true rfl) dX9_takes_16) (fun H locs hs => ?_)
    refine lv_icmp_gt (tgt := 39) hx hb dX9_takes_19 (by decide) (fun c4 => ?_) (fun c4 => ?_)
    · have hf := z_t hf c4
      exact wM_takes_39 C hr hM x1 x2 x3 σ3 _ _ _ hs (lv_sub hl [0, 1, 2, 3] rfl) hf
    · have hf := z_f hf c4
      refine lv_aload_n hx hb dX9_takes_22 rfl (lv_at hl 0 rfl) ?_
      refine lv_iload_n hx hb dX9_takes_23 rfl (lv_at hl 1 rfl) ?_
      refine lv_iload_n hx hb dX9_takes_24 rfl (lv_at hl 2 rfl) ?_
      obtain ⟨r18, σ18, h_18, hf⟩ := z_bds hf
      refine z_goI C hs (z_runV C hs hl.1 (cM_termOf l E hM h_18) zcV_RX9_172 (hM 100 (by decide) (by decide)) (z_c100 E _ _ _ _) rfl rfl rfl (by decide) (Nat.le_of_ble_eq_true rfl) dX9_takes_25) (fun H locs hs => ?_)
      refine lv_aload_n hx hb dX9_takes_28 rfl (lv_at hl 0 rfl) ?_
      refine zg_M_letter C hs (hM 100 (by decide) (by decide)) z_k968 dX9_takes_29 ?_
      refine lv_iload_n hx hb dX9_takes_32 rfl (lv_at hl 3 rfl) ?_
      obtain ⟨g19, hf⟩ := z_gd hf
      refine z_ald C hs (hM 109 (by decide) (by decide)) (z_c109 E _ _ _ _) g19 rfl dX9_takes_33 ?_
      refine lv_icmp_ne (tgt := 39) hx hb dX9_takes_34 (by decide) (fun c20 => ?_) (fun c20 => ?_)
      · have hf := z_f hf c20
        exact wM_takes_39 C hr hM x1 x2 x3 σ18 _ _ _ hs (lv_sub hl [0, 1, 2, 3] rfl) hf
      · have hf := z_t hf c20
        refine lv_iconst (v := 1) hx hb dX9_takes_37 (by decide) ?_
        exact z_retz C hr hs (by decide +kernel) hf dX9_takes_38
  · have hf := z_f hf c2
    refine lv_iconst (v := 1) hx hb dX9_takes_10 (by decide) ?_
    exact z_retz C hr hs (by decide +kernel) hf dX9_takes_11
set_option maxHeartbeats 4000000 in
set_option maxRecDepth 20000 in
theorem cM_takes (l : Launch) (E : zE) {x1 : Int32} {x2 : Int32} {x3 : Int32} (hM : z_M E) {σ σo : zS} {ro : Int32} (hf : fM_takes x1 x2 x3 σ = some (ro, σo)) : z_T l E yX9_takes cX9_takes 5 (some .boolean) (z_rm 4) (z_QI E ro σo) [.ref (z_ad E (100, 0, 0)), .int x1, .int x2, .int x3] σ :=
  z_enter (by decide) (Nat.le_of_ble_eq_true rfl) rfl (fun p e s m below meth c A ls C hr hs hl => wM_takes C hr hM σ _ _ ls hs hl hf)
def fM_getsAppend_152 (x1 : Int32) (t0 : Int32) (σ : zS) : Option (Int32 × zS) :=
  if 0 ≤ t0 then
    (z_bd (fM_answersBack x1 0 t0 σ) (fun r17 σ17 =>
    some (r17, σ17)))
  else
    (z_bd (fM_answersBack x1 0 0 σ) (fun r18 σ18 =>
    some (r18, σ18)))
def fM_getsAppend_128 (x1 : Int32) (x2 : Int32) (σ : zS) : Option (Int32 × zS) :=
  z_bd (fM_of x1 4 σ) (fun r14 σ14 =>
  if (x2 - 1) ≤ r14 then
    (fM_getsAppend_152 x1 (x2 - 1) σ14)
  else
    (z_bd (fM_of x1 4 σ14) (fun r19 σ19 =>
    fM_getsAppend_152 x1 r19 σ19)))
def fM_getsAppend_110 (x1 : Int32) (x2 : Int32) (t0 : Int32) (σ : zS) : Option (Int32 × zS) :=
  z_bd (fM_of x1 4 σ) (fun r12 σ12 =>
  if r12 ≤ t0 then
    (fM_getsAppend_128 x1 x2 σ12)
  else
    (z_bd (fM_put x1 4 t0 σ12) (fun _ σ20 =>
    fM_getsAppend_128 x1 x2 σ20)))
def fM_getsAppend_84 (x1 : Int32) (x2 : Int32) (σ : zS) : Option (Int32 × zS) :=
  z_bd (fM_of x1 6 σ) (fun r9 σ9 =>
  if (x2 - 1) ≤ r9 then
    (z_bd (fM_of x1 6 σ9) (fun r11 σ11 =>
    fM_getsAppend_110 x1 x2 r11 σ11))
  else
    (fM_getsAppend_110 x1 x2 (x2 - 1) σ9))
def fM_getsAppend_250 (x1 : Int32) (x3 : Int32) (t0 : Int32) (σ : zS) : Option (Int32 × zS) :=
  z_bd (fM_doneTo x1 t0 σ) (fun _ σ25 =>
  z_bd (fM_answersBack x1 1 x3 σ25) (fun r26 σ26 =>
  some (r26, σ26)))
def fM_getsAppend_228 (x1 : Int32) (x3 : Int32) (σ : zS) : Option (Int32 × zS) :=
  if x3 ≤ (σ.1 (109, 0, 0) 7) then
    (fM_getsAppend_250 x1 x3 x3 σ)
  else
    (fM_getsAppend_250 x1 x3 (σ.1 (109, 0, 0) 7) σ)
def fM_getsAppend_177 : Nat → Int32 → Int32 → Int32 → Int32 → zS → Option (Int32 × zS)
  | 0, _, _, _, _, _ => none
  | n + 1, x1, x2, x3, x4, σ =>
    if (σ.1 (109, 0, 0) 6) ≤ x4 then
      (fM_getsAppend_228 x1 x3 σ)
    else
      (if x3 = (x2 + x4) then
        (z_bd (fM_takes x1 ((x2 + 1) + x4) (10 + (6 * x4)) σ) (fun r28 σ28 =>
        if r28 = 0 then
          (z_let (x4 + 1) (fun y30 =>
          fM_getsAppend_177 n x1 x2 x3 y30 σ28))
        else
          (z_let (x3 + 1) (fun y31 =>
          z_let (x4 + 1) (fun y32 =>
          fM_getsAppend_177 n x1 x2 y31 y32 σ28)))))
      else
        (fM_getsAppend_228 x1 x3 σ))
def fM_getsAppend (x1 : Int32) (σ : zS) : Option (Int32 × zS) :=
  z_bd (fM_of x1 0 σ) (fun r1 σ1 =>
  if r1 ≤ (σ.1 (109, 0, 0) 3) then
    (z_bd (fM_of x1 5 σ1) (fun r3 σ3 =>
    if r3 = 2 then
      (some (0, σ3))
    else
      (z_bd (fM_put x1 5 0 σ3) (fun _ σ5 =>
      z_let (σ5.1 (109, 0, 0) 4) (fun y6 =>
      z_bd (fM_of x1 4 σ5) (fun r7 σ7 =>
      if r7 < y6 then
        (fM_getsAppend_84 x1 y6 σ7)
      else
        (z_bd (fM_of x1 2 σ7) (fun r21 σ21 =>
        if y6 ≤ r21 then
          (fM_getsAppend_177 z_fu x1 y6 y6 0 σ21)
        else
          (z_bd (fM_termOf x1 y6 σ21) (fun r33 σ33 =>
          if r33 = (σ33.1 (109, 0, 0) 5) then
            (fM_getsAppend_177 z_fu x1 y6 y6 0 σ33)
          else
            (fM_getsAppend_84 x1 y6 σ33)))))))))))
  else
    (z_bd (fM_answersBack x1 0 0 σ1) (fun r35 σ35 =>
    some (r35, σ35))))
set_option maxHeartbeats 4000000 in
set_option maxRecDepth 20000 in
theorem wM_getsAppend_152 (C : z_C E RX9 cX9_getsAppend 5 A p s m args meth c) (hr : meth.sig.returnType = (some .int)) (hM : z_M E) {ro : Int32} {σo : zS} (x1 : Int32) (t0 : Int32) (σ : zS) (H : Heap) (locs : List Loc) (ls : Array Slot) (hs : z_H E A s σ H locs) (hl : lv_has ls 5 [(0, .ref (z_ad E (100, 0, 0))), (1, .int x1)]) (hf : fM_getsAppend_152 x1 t0 σ = some (ro, σo)) : W p l e (z_rm 5) s m args below meth c H locs 0 0 (MQ below (z_QI E ro σo A) args s 0 0 A) (F0 m 152 ls [.int t0]) := by
  have hx := C.1
  have hb := C.2.1
  unfold fM_getsAppend_152 at hf
  refine lv_istore (lv' := [(4, .int t0), (0, .ref (z_ad E (100, 0, 0))), (1, .int x1)]) hx hb dX9_getsAppend_152 hl (by decide) rfl (fun ls hl => ?_)
  refine lv_aload_n hx hb dX9_getsAppend_154 rfl (lv_at hl 1 rfl) ?_
  refine lv_iload_n hx hb dX9_getsAppend_155 rfl (lv_at hl 2 rfl) ?_
  refine lv_iconst (v := 0) hx hb dX9_getsAppend_156 (by decide) ?_
  refine lv_iload hx hb dX9_getsAppend_157 (lv_at hl 0 rfl) ?_
  refine lv_if_ge (tgt := 166) hx hb dX9_getsAppend_159 (by decide) (fun c16 => ?_) (fun c16 => ?_)
  · have hf := z_t hf c16
    refine lv_iload hx hb dX9_getsAppend_166 (lv_at hl 0 rfl) ?_
    obtain ⟨r17, σ17, h_17, hf⟩ := z_bds hf
    refine z_goI C hs (z_runV C hs hl.1 (cM_answersBack l E hM h_17) zcV_RX9_229 (hM 100 (by decide) (by decide)) (z_c100 E _ _ _ _) rfl rfl rfl (by decide) (Nat.le_of_ble_eq_true rfl) dX9_getsAppend_168) (fun H locs hs => ?_)
    exact z_reti C hr hs hf dX9_getsAppend_171
  · have hf := z_f hf c16
    refine lv_iconst (v := 0) hx hb dX9_getsAppend_162 (by decide) ?_
    refine lv_goto (tgt := 168) hx hb dX9_getsAppend_163 (by decide) ?_
    obtain ⟨r18, σ18, h_18, hf⟩ := z_bds hf
    refine z_goI C hs (z_runV C hs hl.1 (cM_answersBack l E hM h_18) zcV_RX9_229 (hM 100 (by decide) (by decide)) (z_c100 E _ _ _ _) rfl rfl rfl (by decide) (Nat.le_of_ble_eq_true rfl) dX9_getsAppend_168) (fun H locs hs => ?_)
    exact z_reti C hr hs hf dX9_getsAppend_171
set_option maxHeartbeats 4000000 in
set_option maxRecDepth 20000 in
theorem wM_getsAppend_128 (C : z_C E RX9 cX9_getsAppend 5 A p s m args meth c) (hr : meth.sig.returnType = (some .int)) (hM : z_M E) {ro : Int32} {σo : zS} (x1 : Int32) (x2 : Int32) (σ : zS) (H : Heap) (locs : List Loc) (ls : Array Slot) (hs : z_H E A s σ H locs) (hl : lv_has ls 5 [(0, .ref (z_ad E (100, 0, 0))), (1, .int x1), (2, .int x2)]) (hf : fM_getsAppend_128 x1 x2 σ = some (ro, σo)) : W p l e (z_rm 5) s m args below meth c H locs 0 0 (MQ below (z_QI E ro σo A) args s 0 0 A) (F0 m 128 ls []) := by
  have hx := C.1
  have hb := C.2.1
  unfold fM_getsAppend_128 at hf
  refine lv_aload_n hx hb dX9_getsAppend_128 rfl (lv_at hl 0 rfl) ?_
  refine lv_iload_n hx hb dX9_getsAppend_129 rfl (lv_at hl 1 rfl) ?_
  refine lv_iconst (v := 4) hx hb dX9_getsAppend_130 (by decide) ?_
  obtain ⟨r14, σ14, h_14, hf⟩ := z_bds hf
  refine z_goI C hs (z_runV C hs hl.1 (cM_of l E hM h_14) zcV_RX9_146 (hM 100 (by decide) (by decide)) (z_c100 E _ _ _ _) rfl rfl rfl (by decide) (Nat.le_of_ble_eq_true rfl) dX9_getsAppend_131) (fun H locs hs => ?_)
  refine lv_iload_n hx hb dX9_getsAppend_134 rfl (lv_at hl 2 rfl) ?_
  refine lv_iconst (v := 1) hx hb dX9_getsAppend_135 (by decide) ?_
  refine lv_isub hx hb dX9_getsAppend_136 ?_
  refine lv_icmp_ge (tgt := 149) hx hb dX9_getsAppend_137 (by decide) (fun c15 => ?_) (fun c15 => ?_)
  · have hf := z_t hf c15
    refine lv_iload_n hx hb dX9_getsAppend_149 rfl (lv_at hl 2 rfl) ?_
    refine lv_iconst (v := 1) hx hb dX9_getsAppend_150 (by decide) ?_
    refine lv_isub hx hb dX9_getsAppend_151 ?_
    exact wM_getsAppend_152 C hr hM x1 (x2 - 1) σ14 _ _ _ hs (lv_sub hl [0, 1] rfl) hf
  · have hf := z_f hf c15
    refine lv_aload_n hx hb dX9_getsAppend_140 rfl (lv_at hl 0 rfl) ?_
    refine lv_iload_n hx hb dX9_getsAppend_141 rfl (lv_at hl 1 rfl) ?_
    refine lv_iconst (v := 4) hx hb dX9_getsAppend_142 (by decide) ?_
    obtain ⟨r19, σ19, h_19, hf⟩ := z_bds hf
    refine z_goI C hs (z_runV C hs hl.1 (cM_of l E hM h_19) zcV_RX9_146 (hM 100 (by decide) (by decide)) (z_c100 E _ _ _ _) rfl rfl rfl (by decide) (Nat.le_of_ble_eq_true rfl) dX9_getsAppend_143) (fun H locs hs => ?_)
    refine lv_goto (tgt := 152) hx hb dX9_getsAppend_146 (by decide) ?_
    exact wM_getsAppend_152 C hr hM x1 r19 σ19 _ _ _ hs (lv_sub hl [0, 1] rfl) hf
set_option maxHeartbeats 4000000 in
set_option maxRecDepth 20000 in
theorem wM_getsAppend_110 (C : z_C E RX9 cX9_getsAppend 5 A p s m args meth c) (hr : meth.sig.returnType = (some .int)) (hM : z_M E) {ro : Int32} {σo : zS} (x1 : Int32) (x2 : Int32) (t0 : Int32) (σ : zS) (H : Heap) (locs : List Loc) (ls : Array Slot) (hs : z_H E A s σ H locs) (hl : lv_has ls 5 [(0, .ref (z_ad E (100, 0, 0))), (1, .int x1), (2, .int x2)]) (hf : fM_getsAppend_110 x1 x2 t0 σ = some (ro, σo)) : W p l e (z_rm 5) s m args below meth c H locs 0 0 (MQ below (z_QI E ro σo A) args s 0 0 A) (F0 m 110 ls [.int t0]) := by
  have hx := C.1
  have hb := C.2.1
  unfold fM_getsAppend_110 at hf
  refine lv_istore_n (lv' := [(3, .int t0), (0, .ref (z_ad E (100, 0, 0))), (1, .int x1), (2, .int x2)]) hx hb dX9_getsAppend_110 rfl hl (by decide) rfl (fun ls hl => ?_)
  refine lv_iload_n hx hb dX9_getsAppend_111 rfl (lv_at hl 0 rfl) ?_
  refine lv_aload_n hx hb dX9_getsAppend_112 rfl (lv_at hl 1 rfl) ?_
  refine lv_iload_n hx hb dX9_getsAppend_113 rfl (lv_at hl 2 rfl) ?_
  refine lv_iconst (v := 4) hx hb dX9_getsAppend_114 (by decide) ?_
  obtain ⟨r12, σ12, h_12, hf⟩ := z_bds hf
  refine z_goI C hs (z_runV C hs hl.1 (cM_of l E hM h_12) zcV_RX9_146 (hM 100 (by decide) (by decide)) (z_c100 E _ _ _ _) rfl rfl rfl (by decide) (Nat.le_of_ble_eq_true rfl) dX9_getsAppend_115) (fun H locs hs => ?_)
  refine lv_icmp_ge (tgt := 128) hx hb dX9_getsAppend_118 (by decide) (fun c13 => ?_) (fun c13 => ?_)
  · have hf := z_t hf c13
    exact wM_getsAppend_128 C hr hM x1 x2 σ12 _ _ _ hs (lv_sub hl [1, 2, 3] rfl) hf
  · have hf := z_f hf c13
    refine lv_aload_n hx hb dX9_getsAppend_121 rfl (lv_at hl 1 rfl) ?_
    refine lv_iload_n hx hb dX9_getsAppend_122 rfl (lv_at hl 2 rfl) ?_
    refine lv_iconst (v := 4) hx hb dX9_getsAppend_123 (by decide) ?_
    refine lv_iload_n hx hb dX9_getsAppend_124 rfl (lv_at hl 0 rfl) ?_
    obtain ⟨r20, σ20, h_20, hf⟩ := z_bds hf
    refine z_goV C hs (z_runV C hs hl.1 (cM_put l E hM h_20) zcV_RX9_139 (hM 100 (by decide) (by decide)) (z_c100 E _ _ _ _) rfl rfl rfl (by decide) (Nat.le_of_ble_eq_true rfl) dX9_getsAppend_125) (fun H locs hs => ?_)
    exact wM_getsAppend_128 C hr hM x1 x2 σ20 _ _ _ hs (lv_sub hl [1, 2, 3] rfl) hf
set_option maxHeartbeats 4000000 in
set_option maxRecDepth 20000 in
theorem wM_getsAppend_84 (C : z_C E RX9 cX9_getsAppend 5 A p s m args meth c) (hr : meth.sig.returnType = (some .int)) (hM : z_M E) {ro : Int32} {σo : zS} (x1 : Int32) (x2 : Int32) (σ : zS) (H : Heap) (locs : List Loc) (ls : Array Slot) (hs : z_H E A s σ H locs) (hl : lv_has ls 5 [(0, .ref (z_ad E (100, 0, 0))), (1, .int x1), (2, .int x2)]) (hf : fM_getsAppend_84 x1 x2 σ = some (ro, σo)) : W p l e (z_rm 5) s m args below meth c H locs 0 0 (MQ below (z_QI E ro σo A) args s 0 0 A) (F0 m 84 ls []) := by
  have hx := C.1
  have hb := C.2.1
  unfold fM_getsAppend_84 at hf
  refine lv_iload_n hx hb dX9_getsAppend_84 rfl (lv_at hl 2 rfl) ?_
  refine lv_iconst (v := 1) hx hb dX9_getsAppend_85 (by decide) ?_
  refine lv_isub hx hb dX9_getsAppend_86 ?_
  refine lv_aload_n hx hb dX9_getsAppend_87 rfl (lv_at hl 0 rfl) ?_
  refine lv_iload_n hx hb dX9_getsAppend_88 rfl (lv_at hl 1 rfl) ?_
  refine lv_bipush (v := 6) hx hb dX9_getsAppend_89 (by decide) ?_
  obtain ⟨r9, σ9, h_9, hf⟩ := z_bds hf
  refine z_goI C hs (z_runV C hs hl.1 (cM_of l E hM h_9) zcV_RX9_146 (hM 100 (by decide) (by decide)) (z_c100 E _ _ _ _) rfl rfl rfl (by decide) (Nat.le_of_ble_eq_true rfl) dX9_getsAppend_91) (fun H locs hs => ?_)
  refine lv_icmp_le (tgt := 103) hx hb dX9_getsAppend_94 (by decide) (fun c10 => ?_) (fun c10 => ?_)
  · have hf := z_t hf c10
    refine lv_aload_n hx hb dX9_getsAppend_103 rfl (lv_at hl 0 rfl) ?_
    refine lv_iload_n hx hb dX9_getsAppend_104 rfl (lv_at hl 1 rfl) ?_
    refine lv_bipush (v := 6) hx hb dX9_getsAppend_105 (by decide) ?_
    obtain ⟨r11, σ11, h_11, hf⟩ := z_bds hf
    refine z_goI C hs (z_runV C hs hl.1 (cM_of l E hM h_11) zcV_RX9_146 (hM 100 (by decide) (by decide)) (z_c100 E _ _ _ _) rfl rfl rfl (by decide) (Nat.le_of_ble_eq_true rfl) dX9_getsAppend_107) (fun H locs hs => ?_)
    exact wM_getsAppend_110 C hr hM x1 x2 r11 σ11 _ _ _ hs (lv_sub hl [0, 1, 2] rfl) hf
  · have hf := z_f hf c10
    refine lv_iload_n hx hb dX9_getsAppend_97 rfl (lv_at hl 2 rfl) ?_
    refine lv_iconst (v := 1) hx hb dX9_getsAppend_98 (by decide) ?_
    refine lv_isub hx hb dX9_getsAppend_99 ?_
    refine lv_goto (tgt := 110) hx hb dX9_getsAppend_100 (by decide) ?_
    exact wM_getsAppend_110 C hr hM x1 x2 (x2 - 1) σ9 _ _ _ hs (lv_sub hl [0, 1, 2] rfl) hf
set_option maxHeartbeats 4000000 in
set_option maxRecDepth 20000 in
theorem wM_getsAppend_250 (C : z_C E RX9 cX9_getsAppend 5 A p s m args meth c) (hr : meth.sig.returnType = (some .int)) (hM : z_M E) {ro : Int32} {σo : zS} (x1 : Int32) (x3 : Int32) (t0 : Int32) (σ : zS) (H : Heap) (locs : List Loc) (ls : Array Slot) (hs : z_H E A s σ H locs) (hl : lv_has ls 5 [(0, .ref (z_ad E (100, 0, 0))), (1, .int x1), (3, .int x3)]) (hf : fM_getsAppend_250 x1 x3 t0 σ = some (ro, σo)) : W p l e (z_rm 5) s m args below meth c H locs 0 0 (MQ below (z_QI E ro σo A) args s 0 0 A) (F0 m 250 ls [.int t0]) := by
  have hx := C.1
  have hb := C.2.1
  unfold fM_getsAppend_250 at hf
  refine lv_istore (lv' := [(4, .int t0), (0, .ref (z_ad E (100, 0, 0))), (1, .int x1), (3, .int x3)]) hx hb dX9_getsAppend_250 hl (by decide) rfl (fun ls hl => ?_)
  refine lv_aload_n hx hb dX9_getsAppend_252 rfl (lv_at hl 1 rfl) ?_
  refine lv_iload_n hx hb dX9_getsAppend_253 rfl (lv_at hl 2 rfl) ?_
  refine lv_iload hx hb dX9_getsAppend_254 (lv_at hl 0 rfl) ?_
  obtain ⟨r25, σ25, h_25, hf⟩ := z_bds hf
  refine z_goV C hs (z_runV C hs hl.1 (cM_doneTo l E hM h_25) zcV_RX9_179 (hM 100 (by decide) (by decide)) (z_c100 E _ _ _ _) rfl rfl rfl (by decide) (Nat.le_of_ble_eq_true rfl) dX9_getsAppend_256) (fun H locs hs => ?_)
  refine lv_aload_n hx hb dX9_getsAppend_259 rfl (lv_at hl 1 rfl) ?_
  refine lv_iload_n hx hb dX9_getsAppend_260 rfl (lv_at hl 2 rfl) ?_
  refine lv_iconst (v := 1) hx hb dX9_getsAppend_261 (by decide) ?_
  refine lv_iload_n hx hb dX9_getsAppend_262 rfl (lv_at hl 3 rfl) ?_
  obtain ⟨r26, σ26, h_26, hf⟩ := z_bds hf
  refine z_goI C hs (z_runV C hs hl.1 (cM_answersBack l E hM h_26) zcV_RX9_229 (hM 100 (by decide) (by decide)) (z_c100 E _ _ _ _) rfl rfl rfl (by decide) (Nat.le_of_ble_eq_true rfl) dX9_getsAppend_263) (fun H locs hs => ?_)
  exact z_reti C hr hs hf dX9_getsAppend_266
set_option maxHeartbeats 4000000 in
set_option maxRecDepth 20000 in
theorem wM_getsAppend_228 (C : z_C E RX9 cX9_getsAppend 5 A p s m args meth c) (hr : meth.sig.returnType = (some .int)) (hM : z_M E) {ro : Int32} {σo : zS} (x1 : Int32) (x3 : Int32) (σ : zS) (H : Heap) (locs : List Loc) (ls : Array Slot) (hs : z_H E A s σ H locs) (hl : lv_has ls 5 [(0, .ref (z_ad E (100, 0, 0))), (1, .int x1), (3, .int x3)]) (hf : fM_getsAppend_228 x1 x3 σ = some (ro, σo)) : W p l e (z_rm 5) s m args below meth c H locs 0 0 (MQ below (z_QI E ro σo A) args s 0 0 A) (F0 m 228 ls []) := by
  have hx := C.1
  have hb := C.2.1
  unfold fM_getsAppend_228 at hf
  refine lv_aload_n hx hb dX9_getsAppend_228 rfl (lv_at hl 0 rfl) ?_
  refine zg_M_letter C hs (hM 100 (by decide) (by decide)) z_k968 dX9_getsAppend_229 ?_
  refine lv_bipush (v := 7) hx hb dX9_getsAppend_232 (by decide) ?_
  refine z_ald C hs (hM 109 (by decide) (by decide)) (z_c109 E _ _ _ _) (by decide +kernel) (k := 7) (by decide +kernel) dX9_getsAppend_234 ?_
  refine lv_iload_n hx hb dX9_getsAppend_235 rfl (lv_at hl 2 rfl) ?_
  refine lv_icmp_ge (tgt := 249) hx hb dX9_getsAppend_236 (by decide) (fun c24 => ?_) (fun c24 => ?_)
  · have hf := z_t hf c24
    refine lv_iload_n hx hb dX9_getsAppend_249 rfl (lv_at hl 2 rfl) ?_
    exact wM_getsAppend_250 C hr hM x1 x3 x3 σ _ _ _ hs (lv_sub hl [0, 1, 2] rfl) hf
  · have hf := z_f hf c24
    refine lv_aload_n hx hb dX9_getsAppend_239 rfl (lv_at hl 0 rfl) ?_
    refine zg_M_letter C hs (hM 100 (by decide) (by decide)) z_k968 dX9_getsAppend_240 ?_
    refine lv_bipush (v := 7) hx hb dX9_getsAppend_243 (by decide) ?_
    refine z_ald C hs (hM 109 (by decide) (by decide)) (z_c109 E _ _ _ _) (by decide +kernel) (k := 7) (by decide +kernel) dX9_getsAppend_245 ?_
    refine lv_goto (tgt := 250) hx hb dX9_getsAppend_246 (by decide) ?_
    exact wM_getsAppend_250 C hr hM x1 x3 (σ.1 (109, 0, 0) 7) σ _ _ _ hs (lv_sub hl [0, 1, 2] rfl) hf
set_option maxHeartbeats 4000000 in
set_option maxRecDepth 20000 in
theorem wM_getsAppend_177 (C : z_C E RX9 cX9_getsAppend 5 A p s m args meth c) (hr : meth.sig.returnType = (some .int)) (hM : z_M E) {ro : Int32} {σo : zS} (n : Nat) : ∀ (x1 : Int32) (x2 : Int32) (x3 : Int32) (x4 : Int32) (σ : zS) (H : Heap) (locs : List Loc) (ls : Array Slot), z_H E A s σ H locs → lv_has ls 5 [(0, .ref (z_ad E (100, 0, 0))), (1, .int x1), (2, .int x2), (3, .int x3), (4, .int x4)] → fM_getsAppend_177 n x1 x2 x3 x4 σ = some (ro, σo) → W p l e (z_rm 5) s m args below meth c H locs 0 0 (MQ below (z_QI E ro σo A) args s 0 0 A) (F0 m 177 ls []) := by
  induction n with
  | zero =>
    intro x1 x2 x3 x4 σ H locs ls hs hl hf
    have hf : none = some (ro, σo) := hf
    cases hf
  | succ n ih =>
    intro x1 x2 x3 x4 σ H locs ls hs hl hf
    have hx := C.1
    have hb := C.2.1
    rw [fM_getsAppend_177.eq_2] at hf
    refine lv_iload hx hb dX9_getsAppend_177 (lv_at hl 4 rfl) ?_
    refine lv_aload_n hx hb dX9_getsAppend_179 rfl (lv_at hl 0 rfl) ?_
    refine zg_M_letter C hs (hM 100 (by decide) (by decide)) z_k968 dX9_getsAppend_180 ?_
    refine lv_bipush (v := 6) hx hb dX9_getsAppend_183 (by decide) ?_
    refine z_ald C hs (hM 109 (by decide) (by decide)) (z_c109 E _ _ _ _) (by decide +kernel) (k := 6) (by decide +kernel) dX9_getsAppend_185 ?_
    refine lv_icmp_ge (tgt := 228) hx hb dX9_getsAppend_186 (by decide) (fun c23 => ?_) (fun c23 => ?_)
    · have hf := z_t hf c23
      exact wM_getsAppend_228 C hr hM x1 x3 σ _ _ _ hs (lv_sub hl [0, 1, 3] rfl) hf
    · have hf := z_f hf c23
      refine lv_iload_n hx hb dX9_getsAppend_189 rfl (lv_at hl 3 rfl) ?_
      refine lv_iload_n hx hb dX9_getsAppend_190 rfl (lv_at hl 2 rfl) ?_
      refine lv_iload hx hb dX9_getsAppend_191 (lv_at hl 4 rfl) ?_
      refine lv_iadd hx hb dX9_getsAppend_193 ?_
      refine lv_icmp_ne (tgt := 228) hx hb dX9_getsAppend_194 (by decide) (fun c27 => ?_) (fun c27 => ?_)
      · have hf := z_f hf c27
        exact wM_getsAppend_228 C hr hM x1 x3 σ _ _ _ hs (lv_sub hl [0, 1, 3] rfl) hf
      · have hf := z_t hf c27
        refine lv_aload_n hx hb dX9_getsAppend_197 rfl (lv_at hl 0 rfl) ?_
        refine lv_iload_n hx hb dX9_getsAppend_198 rfl (lv_at hl 1 rfl) ?_
        refine lv_iload_n hx hb dX9_getsAppend_199 rfl (lv_at hl 2 rfl) ?_
        refine lv_iconst (v := 1) hx hb dX9_getsAppend_200 (by decide) ?_
        refine lv_iadd hx hb dX9_getsAppend_201 ?_
        refine lv_iload hx hb dX9_getsAppend_202 (lv_at hl 4 rfl) ?_
        refine lv_iadd hx hb dX9_getsAppend_204 ?_
        refine lv_bipush (v := 10) hx hb dX9_getsAppend_205 (by decide) ?_
        refine lv_bipush (v := 6) hx hb dX9_getsAppend_207 (by decide) ?_
        refine lv_iload hx hb dX9_getsAppend_209 (lv_at hl 4 rfl) ?_
        refine lv_imul hx hb dX9_getsAppend_211 ?_
        refine lv_iadd hx hb dX9_getsAppend_212 ?_
        obtain ⟨r28, σ28, h_28, hf⟩ := z_bds hf
        refine z_goI C hs (z_runV C hs hl.1 (cM_takes l E hM h_28) zcV_RX9_233 (hM 100 (by decide) (by decide)) (z_c100 E _ _ _ _) rfl rfl rfl (by decide) (Nat.le_of_ble_eq_true rfl) dX9_getsAppend_213) (fun H locs hs => ?_)
        refine lv_if_eq (tgt := 222) hx hb dX9_getsAppend_216 (by decide) (fun c29 => ?_) (fun c29 => ?_)
        · have hf := z_t hf c29
          obtain ⟨y30, e_y30⟩ : ∃ y : Int32, y = x4 + 1 := ⟨_, rfl⟩
          have hf := z_lte e_y30 hf
          refine lv_iinc (v := y30) (lv' := [(4, .int y30), (0, .ref (z_ad E (100, 0, 0))), (1, .int x1), (2, .int x2), (3, .int x3)]) hx hb dX9_getsAppend_222 hl (k := 4) rfl (by rw [e_y30]; rfl) (by decide) rfl (fun ls hl => ?_)
          refine lv_goto (tgt := 177) hx hb dX9_getsAppend_225 (by decide) ?_
          exact ih x1 x2 x3 y30 σ28 _ _ _ hs (lv_sub hl [1, 2, 3, 4, 0] rfl) hf
        · have hf := z_f hf c29
          obtain ⟨y31, e_y31⟩ : ∃ y : Int32, y = x3 + 1 := ⟨_, rfl⟩
          have hf := z_lte e_y31 hf
          refine lv_iinc (v := y31) (lv' := [(3, .int y31), (0, .ref (z_ad E (100, 0, 0))), (1, .int x1), (2, .int x2), (4, .int x4)]) hx hb dX9_getsAppend_219 hl (k := 3) rfl (by rw [e_y31]; rfl) (by decide) rfl (fun ls hl => ?_)
          obtain ⟨y32, e_y32⟩ : ∃ y : Int32, y = x4 + 1 := ⟨_, rfl⟩
          have hf := z_lte e_y32 hf
          refine lv_iinc (v := y32) (lv' := [(4, .int y32), (3, .int y31), (0, .ref (z_ad E (100, 0, 0))), (1, .int x1), (2, .int x2)]) hx hb dX9_getsAppend_222 hl (k := 4) rfl (by rw [e_y32]; rfl) (by decide) rfl (fun ls hl => ?_)
          refine lv_goto (tgt := 177) hx hb dX9_getsAppend_225 (by decide) ?_
          exact ih x1 x2 y31 y32 σ28 _ _ _ hs (lv_sub hl [2, 3, 4, 1, 0] rfl) hf
set_option maxHeartbeats 4000000 in
set_option maxRecDepth 20000 in
theorem wM_getsAppend {x1 : Int32} (C : z_C E RX9 cX9_getsAppend 5 A p s m args meth c) (hr : meth.sig.returnType = (some .int)) (hM : z_M E) {ro : Int32} {σo : zS} (σ : zS) (H : Heap) (locs : List Loc) (ls : Array Slot) (hs : z_H E A s σ H locs) (hl : lv_has ls 5 [(0, .ref (z_ad E (100, 0, 0))), (1, .int x1)]) (hf : fM_getsAppend x1 σ = some (ro, σo)) : W p l e (z_rm 5) s m args below meth c H locs 0 0 (MQ below (z_QI E ro σo A) args s 0 0 A) (F0 m 0 ls []) := by
  have hx := C.1
  have hb := C.2.1
  unfold fM_getsAppend at hf
  refine lv_aload_n hx hb dX9_getsAppend_0 rfl (lv_at hl 0 rfl) ?_
  refine zg_M_letter C hs (hM 100 (by decide) (by decide)) z_k968 dX9_getsAppend_1 ?_
  refine lv_iconst (v := 3) hx hb dX9_getsAppend_4 (by decide) ?_
  refine z_ald C hs (hM 109 (by decide) (by decide)) (z_c109 E _ _ _ _) (by decide +kernel) (k := 3) (by decide +kernel) dX9_getsAppend_5 ?_
  refine lv_aload_n hx hb dX9_getsAppend_6 rfl (lv_at hl 0 rfl) ?_
  refine lv_iload_n hx hb dX9_getsAppend_7 rfl (lv_at hl 1 rfl) ?_
  refine lv_iconst (v := 0) hx hb dX9_getsAppend_8 (by decide) ?_
  obtain ⟨r1, σ1, h_1, hf⟩ := z_bds hf
  refine z_goI C hs (z_runV C hs hl.1 (cM_of l E hM h_1) zcV_RX9_146 (hM 100 (by decide) (by decide)) (z_c100 E _ _ _ _) rfl rfl rfl (by decide) (Nat.le_of_ble_eq_true rfl) dX9_getsAppend_9) (fun H locs hs => ?_)
  refine lv_icmp_ge (tgt := 23) hx hb dX9_getsAppend_12 (by decide) (fun c2 => ?_) (fun c2 => ?_)
  · have hf := z_t hf c2
    refine lv_aload_n hx hb dX9_getsAppend_23 rfl (lv_at hl 0 rfl) ?_
    refine lv_iload_n hx hb dX9_getsAppend_24 rfl (lv_at hl 1 rfl) ?_
    refine lv_iconst (v := 5) hx hb dX9_getsAppend_25 (by decide) ?_
    obtain ⟨r3, σ3, h_3, hf⟩ := z_bds hf
    refine z_goI C hs (z_runV C hs hl.1 (cM_of l E hM h_3) zcV_RX9_146 (hM 100 (by decide) (by decide)) (z_c100 E _ _ _ _) rfl rfl rfl (by decide) (Nat.le_of_ble_eq_true rfl) dX9_getsAppend_26) (fun H locs hs => ?_)
    refine lv_iconst (v := 2) hx hb dX9_getsAppend_29 (by decide) ?_
    refine lv_icmp_ne (tgt := 35) hx hb dX9_getsAppend_30 (by decide) (fun c4 => ?_) (fun c4 => ?_)
    · have hf := z_f hf c4
      refine lv_aload_n hx hb dX9_getsAppend_35 rfl (lv_at hl 0 rfl) ?_
      refine lv_iload_n hx hb dX9_getsAppend_36 rfl (lv_at hl 1 rfl) ?_
      refine lv_iconst (v := 5) hx hb dX9_getsAppend_37 (by decide) ?_
      refine lv_iconst (v := 0) hx hb dX9_getsAppend_38 (by decide) ?_
      obtain ⟨r5, σ5, h_5, hf⟩ := z_bds hf
      refine z_goV C hs (z_runV C hs hl.1 (cM_put l E hM h_5) zcV_RX9_139 (hM 100 (by decide) (by decide)) (z_c100 E _ _ _ _) rfl rfl rfl (by decide) (Nat.le_of_ble_eq_true rfl) dX9_getsAppend_39) (fun H locs hs => ?_)
      refine lv_aload_n hx hb dX9_getsAppend_42 rfl (lv_at hl 0 rfl) ?_
      refine zg_M_letter C hs (hM 100 (by decide) (by decide)) z_k968 dX9_getsAppend_43 ?_
      refine lv_iconst (v := 4) hx hb dX9_getsAppend_46 (by decide) ?_
      refine z_ald C hs (hM 109 (by decide) (by decide)) (z_c109 E _ _ _ _) (by decide +kernel) (k := 4) (by decide +kernel) dX9_getsAppend_47 ?_
      refine lv_topi (fun y6 e_y6 => ?_)
      have hf := z_lte e_y6 hf
      refine lv_istore_n (lv' := [(2, .int y6), (0, .ref (z_ad E (100, 0, 0))), (1, .int x1)]) hx hb dX9_getsAppend_48 rfl hl (by decide) rfl (fun ls hl => ?_)
      refine lv_iload_n hx hb dX9_getsAppend_49 rfl (lv_at hl 0 rfl) ?_
      refine lv_aload_n hx hb dX9_getsAppend_50 rfl (lv_at hl 1 rfl) ?_
      refine lv_iload_n hx hb dX9_getsAppend_51 rfl (lv_at hl 2 rfl) ?_
      refine lv_iconst (v := 4) hx hb dX9_getsAppend_52 (by decide) ?_
      obtain ⟨r7, σ7, h_7, hf⟩ := z_bds hf
      refine z_goI C hs (z_runV C hs hl.1 (cM_of l E hM h_7) zcV_RX9_146 (hM 100 (by decide) (by decide)) (z_c100 E _ _ _ _) rfl rfl rfl (by decide) (Nat.le_of_ble_eq_true rfl) dX9_getsAppend_53) (fun H locs hs => ?_)
      refine lv_icmp_gt (tgt := 84) hx hb dX9_getsAppend_56 (by decide) (fun c8 => ?_) (fun c8 => ?_)
      · have hf := z_t hf c8
        exact wM_getsAppend_84 C hr hM x1 y6 σ7 _ _ _ hs (lv_sub hl [1, 2, 0] rfl) hf
      · have hf := z_f hf c8
        refine lv_iload_n hx hb dX9_getsAppend_59 rfl (lv_at hl 0 rfl) ?_
        refine lv_aload_n hx hb dX9_getsAppend_60 rfl (lv_at hl 1 rfl) ?_
        refine lv_iload_n hx hb dX9_getsAppend_61 rfl (lv_at hl 2 rfl) ?_
        refine lv_iconst (v := 2) hx hb dX9_getsAppend_62 (by decide) ?_
        obtain ⟨r21, σ21, h_21, hf⟩ := z_bds hf
        refine z_goI C hs (z_runV C hs hl.1 (cM_of l E hM h_21) zcV_RX9_146 (hM 100 (by decide) (by decide)) (z_c100 E _ _ _ _) rfl rfl rfl (by decide) (Nat.le_of_ble_eq_true rfl) dX9_getsAppend_63) (fun H locs hs => ?_)
        refine lv_icmp_le (tgt := 172) hx hb dX9_getsAppend_66 (by decide) (fun c22 => ?_) (fun c22 => ?_)
        · have hf := z_t hf c22
          refine lv_iload_n hx hb dX9_getsAppend_172 rfl (lv_at hl 0 rfl) ?_
          refine lv_istore_n (lv' := [(3, .int y6), (2, .int y6), (0, .ref (z_ad E (100, 0, 0))), (1, .int x1)]) hx hb dX9_getsAppend_173 rfl hl (by decide) rfl (fun ls hl => ?_)
          refine lv_iconst (v := 0) hx hb dX9_getsAppend_174 (by decide) ?_
          refine lv_istore (lv' := [(4, .int 0), (3, .int y6), (2, .int y6), (0, .ref (z_ad E (100, 0, 0))), (1, .int x1)]) hx hb dX9_getsAppend_175 hl (by decide) rfl (fun ls hl => ?_)
          exact wM_getsAppend_177 C hr hM z_fu x1 y6 y6 0 σ21 _ _ _ hs (lv_sub hl [3, 4, 2, 1, 0] rfl) hf
        · have hf := z_f hf c22
          refine lv_aload_n hx hb dX9_getsAppend_69 rfl (lv_at hl 1 rfl) ?_
          refine lv_iload_n hx hb dX9_getsAppend_70 rfl (lv_at hl 2 rfl) ?_
          refine lv_iload_n hx hb dX9_getsAppend_71 rfl (lv_at hl 0 rfl) ?_
          obtain ⟨r33, σ33, h_33, hf⟩ := z_bds hf
          refine z_goI C hs (z_runV C hs hl.1 (cM_termOf l E hM h_33) zcV_RX9_172 (hM 100 (by decide) (by decide)) (z_c100 E _ _ _ _) rfl rfl rfl (by decide) (Nat.le_of_ble_eq_true rfl) dX9_getsAppend_72) (fun H locs hs => ?_)
          refine lv_aload_n hx hb dX9_getsAppend_75 rfl (lv_at hl 1 rfl) ?_
          refine zg_M_letter C hs (hM 100 (by decide) (by decide)) z_k968 dX9_getsAppend_76 ?_
          refine lv_iconst (v := 5) hx hb dX9_getsAppend_79 (by decide) ?_
          refine z_ald C hs (hM 109 (by decide) (by decide)) (z_c109 E _ _ _ _) (by decide +kernel) (k := 5) (by decide +kernel) dX9_getsAppend_80 ?_
          refine lv_icmp_eq (tgt := 172) hx hb dX9_getsAppend_81 (by decide) (fun c34 => ?_) (fun c34 => ?_)
          · have hf := z_t hf c34
            refine lv_iload_n hx hb dX9_getsAppend_172 rfl (lv_at hl 0 rfl) ?_
            refine lv_istore_n (lv' := [(3, .int y6), (2, .int y6), (0, .ref (z_ad E (100, 0, 0))), (1, .int x1)]) hx hb dX9_getsAppend_173 rfl hl (by decide) rfl (fun ls hl => ?_)
            refine lv_iconst (v := 0) hx hb dX9_getsAppend_174 (by decide) ?_
            refine lv_istore (lv' := [(4, .int 0), (3, .int y6), (2, .int y6), (0, .ref (z_ad E (100, 0, 0))), (1, .int x1)]) hx hb dX9_getsAppend_175 hl (by decide) rfl (fun ls hl => ?_)
            exact wM_getsAppend_177 C hr hM z_fu x1 y6 y6 0 σ33 _ _ _ hs (lv_sub hl [3, 4, 2, 1, 0] rfl) hf
          · have hf := z_f hf c34
            exact wM_getsAppend_84 C hr hM x1 y6 σ33 _ _ _ hs (lv_sub hl [1, 2, 0] rfl) hf
    · have hf := z_t hf c4
      refine lv_iconst (v := 0) hx hb dX9_getsAppend_33 (by decide) ?_
      exact z_reti C hr hs hf dX9_getsAppend_34
  · have hf := z_f hf c2
    refine lv_aload_n hx hb dX9_getsAppend_15 rfl (lv_at hl 0 rfl) ?_
    refine lv_iload_n hx hb dX9_getsAppend_16 rfl (lv_at hl 1 rfl) ?_
    refine lv_iconst (v := 0) hx hb dX9_getsAppend_17 (by decide) ?_
    refine lv_iconst (v := 0) hx hb dX9_getsAppend_18 (by decide) ?_
    obtain ⟨r35, σ35, h_35, hf⟩ := z_bds hf
    refine z_goI C hs (z_runV C hs hl.1 (cM_answersBack l E hM h_35) zcV_RX9_229 (hM 100 (by decide) (by decide)) (z_c100 E _ _ _ _) rfl rfl rfl (by decide) (Nat.le_of_ble_eq_true rfl) dX9_getsAppend_19) (fun H locs hs => ?_)
    exact z_reti C hr hs hf dX9_getsAppend_22
set_option maxHeartbeats 4000000 in
set_option maxRecDepth 20000 in
theorem cM_getsAppend (l : Launch) (E : zE) {x1 : Int32} (hM : z_M E) {σ σo : zS} {ro : Int32} (hf : fM_getsAppend x1 σ = some (ro, σo)) : z_T l E yX9_getsAppend cX9_getsAppend 5 (some .int) (z_rm 5) (z_QI E ro σo) [.ref (z_ad E (100, 0, 0)), .int x1] σ :=
  z_enter (by decide) (Nat.le_of_ble_eq_true rfl) rfl (fun p e s m below meth c A ls C hr hs hl => wM_getsAppend C hr hM σ _ _ ls hs hl hf)
def fM_getsAnswer_188 (x1 : Int32) (t1 : Int32) (t2 : Int32) (t3 : Int32) (σ : zS) : Option (Int32 × zS) :=
  z_bd (fM_put t1 t2 t3 σ) (fun _ σ13 =>
  z_bd (fM_settles x1 σ13) (fun _ σ14 =>
  some (0, σ14)))
def fM_getsAnswer_171 (x1 : Int32) (x2 : Int32) (t0 : Int32) (σ : zS) : Option (Int32 × zS) :=
  if 1 ≤ t0 then
    (fM_getsAnswer_188 x1 x1 (50 + x2) t0 σ)
  else
    (fM_getsAnswer_188 x1 x1 (50 + x2) 1 σ)
def fM_getsAnswer_112 (x1 : Int32) (x2 : Int32) (σ : zS) : Option (Int32 × zS) :=
  z_bd (fM_of x1 (57 + x2) σ) (fun r17 σ17 =>
  z_bd (fM_put x1 (50 + x2) (r17 + 1) σ17) (fun _ σ18 =>
  z_bd (fM_settles x1 σ18) (fun _ σ19 =>
  some (0, σ19))))
def fM_getsAnswer_69 (x1 : Int32) (x2 : Int32) (σ : zS) : Option (Int32 × zS) :=
  if (σ.1 (109, 0, 0) 4) = 1 then
    (z_bd (fM_of x1 (57 + x2) σ) (fun r15 σ15 =>
    if (σ.1 (109, 0, 0) 5) ≤ r15 then
      (fM_getsAnswer_112 x1 x2 σ15)
    else
      (z_bd (fM_put x1 (57 + x2) (σ15.1 (109, 0, 0) 5) σ15) (fun _ σ20 =>
      fM_getsAnswer_112 x1 x2 σ20))))
  else
    (z_bd (fM_of x1 (50 + x2) σ) (fun r9 σ9 =>
    z_let (r9 - 1) (fun y10 =>
    if y10 ≤ ((σ9.1 (109, 0, 0) 5) + 1) then
      (fM_getsAnswer_171 x1 x2 y10 σ9)
    else
      (fM_getsAnswer_171 x1 x2 ((σ9.1 (109, 0, 0) 5) + 1) σ9))))
def fM_getsAnswer (x1 : Int32) (σ : zS) : Option (Int32 × zS) :=
  z_bd (fM_of x1 5 σ) (fun r1 σ1 =>
  if r1 = 2 then
    (z_bd (fM_of x1 0 σ1) (fun r3 σ3 =>
    if r3 = (σ3.1 (109, 0, 0) 3) then
      (z_let (σ3.1 (109, 0, 0) 1) (fun y5 =>
      z_bd (fM_of x1 (64 + y5) σ3) (fun r6 σ6 =>
      if (σ3.1 (109, 0, 0) 8) ≤ r6 then
        (fM_getsAnswer_69 x1 y5 σ6)
      else
        (z_bd (fM_put x1 (64 + y5) (σ6.1 (109, 0, 0) 8) σ6) (fun _ σ21 =>
        fM_getsAnswer_69 x1 y5 σ21)))))
    else
      (some (0, σ3))))
  else
    (some (0, σ1)))
set_option maxHeartbeats 4000000 in
set_option maxRecDepth 20000 in
theorem wM_getsAnswer_188 (C : z_C E RX9 cX9_getsAnswer 4 A p s m args meth c) (hr : meth.sig.returnType = (some .int)) (hM : z_M E) {ro : Int32} {σo : zS} (x1 : Int32) (t1 : Int32) (t2 : Int32) (t3 : Int32) (σ : zS) (H : Heap) (locs : List Loc) (ls : Array Slot) (hs : z_H E A s σ H locs) (hl : lv_has ls 4 [(0, .ref (z_ad E (100, 0, 0))), (1, .int x1)]) (hf : fM_getsAnswer_188 x1 t1 t2 t3 σ = some (ro, σo)) : W p l e (z_rm 6) s m args below meth c H locs 0 0 (MQ below (z_QI E ro σo A) args s 0 0 A) (F0 m 188 ls [.int t3, .int t2, .int t1, .ref (z_ad E (100, 0, 0))]) := by
  have hx := C.1
  have hb := C.2.1
  unfold fM_getsAnswer_188 at hf
  obtain ⟨r13, σ13, h_13, hf⟩ := z_bds hf
  refine z_goV C hs (z_runV C hs hl.1 (cM_put l E hM h_13) zcV_RX9_139 (hM 100 (by decide) (by decide)) (z_c100 E _ _ _ _) rfl rfl rfl (by decide) (Nat.le_of_ble_eq_true rfl) dX9_getsAnswer_188) (fun H locs hs => ?_)
  refine lv_aload_n hx hb dX9_getsAnswer_191 rfl (lv_at hl 0 rfl) ?_
  refine lv_iload_n hx hb dX9_getsAnswer_192 rfl (lv_at hl 1 rfl) ?_
  obtain ⟨r14, σ14, h_14, hf⟩ := z_bds hf
  refine z_goV C hs (z_runV C hs hl.1 (cM_settles l E hM h_14) zcV_RX9_182 (hM 100 (by decide) (by decide)) (z_c100 E _ _ _ _) rfl rfl rfl (by decide) (Nat.le_of_ble_eq_true rfl) dX9_getsAnswer_193) (fun H locs hs => ?_)
  refine lv_iconst (v := 0) hx hb dX9_getsAnswer_196 (by decide) ?_
  exact z_reti C hr hs hf dX9_getsAnswer_197
set_option maxHeartbeats 4000000 in
set_option maxRecDepth 20000 in
theorem wM_getsAnswer_171 (C : z_C E RX9 cX9_getsAnswer 4 A p s m args meth c) (hr : meth.sig.returnType = (some .int)) (hM : z_M E) {ro : Int32} {σo : zS} (x1 : Int32) (x2 : Int32) (t0 : Int32) (σ : zS) (H : Heap) (locs : List Loc) (ls : Array Slot) (hs : z_H E A s σ H locs) (hl : lv_has ls 4 [(0, .ref (z_ad E (100, 0, 0))), (1, .int x1), (2, .int x2)]) (hf : fM_getsAnswer_171 x1 x2 t0 σ = some (ro, σo)) : W p l e (z_rm 6) s m args below meth c H locs 0 0 (MQ below (z_QI E ro σo A) args s 0 0 A) (F0 m 171 ls [.int t0]) := by
  have hx := C.1
  have hb := C.2.1
  unfold fM_getsAnswer_171 at hf
  refine lv_istore_n (lv' := [(3, .int t0), (0, .ref (z_ad E (100, 0, 0))), (1, .int x1), (2, .int x2)]) hx hb dX9_getsAnswer_171 rfl hl (by decide) rfl (fun ls hl => ?_)
  refine lv_aload_n hx hb dX9_getsAnswer_172 rfl (lv_at hl 1 rfl) ?_
  refine lv_iload_n hx hb dX9_getsAnswer_173 rfl (lv_at hl 2 rfl) ?_
  refine lv_bipush (v := 50) hx hb dX9_getsAnswer_174 (by decide) ?_
  refine lv_iload_n hx hb dX9_getsAnswer_176 rfl (lv_at hl 3 rfl) ?_
  refine lv_iadd hx hb dX9_getsAnswer_177 ?_
  refine lv_iload_n hx hb dX9_getsAnswer_178 rfl (lv_at hl 0 rfl) ?_
  refine lv_iconst (v := 1) hx hb dX9_getsAnswer_179 (by decide) ?_
  refine lv_icmp_ge (tgt := 187) hx hb dX9_getsAnswer_180 (by decide) (fun c12 => ?_) (fun c12 => ?_)
  · have hf := z_t hf c12
    refine lv_iload_n hx hb dX9_getsAnswer_187 rfl (lv_at hl 0 rfl) ?_
    exact wM_getsAnswer_188 C hr hM x1 x1 (50 + x2) t0 σ _ _ _ hs (lv_sub hl [1, 2] rfl) hf
  · have hf := z_f hf c12
    refine lv_iconst (v := 1) hx hb dX9_getsAnswer_183 (by decide) ?_
    refine lv_goto (tgt := 188) hx hb dX9_getsAnswer_184 (by decide) ?_
    exact wM_getsAnswer_188 C hr hM x1 x1 (50 + x2) 1 σ _ _ _ hs (lv_sub hl [1, 2] rfl) hf
set_option maxHeartbeats 4000000 in
set_option maxRecDepth 20000 in
theorem wM_getsAnswer_112 (C : z_C E RX9 cX9_getsAnswer 4 A p s m args meth c) (hr : meth.sig.returnType = (some .int)) (hM : z_M E) {ro : Int32} {σo : zS} (x1 : Int32) (x2 : Int32) (σ : zS) (H : Heap) (locs : List Loc) (ls : Array Slot) (hs : z_H E A s σ H locs) (hl : lv_has ls 4 [(0, .ref (z_ad E (100, 0, 0))), (1, .int x1), (2, .int x2)]) (hf : fM_getsAnswer_112 x1 x2 σ = some (ro, σo)) : W p l e (z_rm 6) s m args below meth c H locs 0 0 (MQ below (z_QI E ro σo A) args s 0 0 A) (F0 m 112 ls []) := by
  have hx := C.1
  have hb := C.2.1
  unfold fM_getsAnswer_112 at hf
  refine lv_aload_n hx hb dX9_getsAnswer_112 rfl (lv_at hl 0 rfl) ?_
  refine lv_iload_n hx hb dX9_getsAnswer_113 rfl (lv_at hl 1 rfl) ?_
  refine lv_bipush (v := 50) hx hb dX9_getsAnswer_114 (by decide) ?_
  refine lv_iload_n hx hb dX9_getsAnswer_116 rfl (lv_at hl 2 rfl) ?_
  refine lv_iadd hx hb dX9_getsAnswer_117 ?_
  refine lv_aload_n hx hb dX9_getsAnswer_118 rfl (lv_at hl 0 rfl) ?_
  refine lv_iload_n hx hb dX9_getsAnswer_119 rfl (lv_at hl 1 rfl) ?_
  refine lv_bipush (v := 57) hx hb dX9_getsAnswer_120 (by decide) ?_
  refine lv_iload_n hx hb dX9_getsAnswer_122 rfl (lv_at hl 2 rfl) ?_
  refine lv_iadd hx hb dX9_getsAnswer_123 ?_
  obtain ⟨r17, σ17, h_17, hf⟩ := z_bds hf
  refine z_goI C hs (z_runV C hs hl.1 (cM_of l E hM h_17) zcV_RX9_146 (hM 100 (by decide) (by decide)) (z_c100 E _ _ _ _) rfl rfl rfl (by decide) (Nat.le_of_ble_eq_true rfl) dX9_getsAnswer_124) (fun H locs hs => ?_)
  refine lv_iconst (v := 1) hx hb dX9_getsAnswer_127 (by decide) ?_
  refine lv_iadd hx hb dX9_getsAnswer_128 ?_
  obtain ⟨r18, σ18, h_18, hf⟩ := z_bds hf
  refine z_goV C hs (z_runV C hs hl.1 (cM_put l E hM h_18) zcV_RX9_139 (hM 100 (by decide) (by decide)) (z_c100 E _ _ _ _) rfl rfl rfl (by decide) (Nat.le_of_ble_eq_true rfl) dX9_getsAnswer_129) (fun H locs hs => ?_)
  refine lv_goto (tgt := 191) hx hb dX9_getsAnswer_132 (by decide) ?_
  refine lv_aload_n hx hb dX9_getsAnswer_191 rfl (lv_at hl 0 rfl) ?_
  refine lv_iload_n hx hb dX9_getsAnswer_192 rfl (lv_at hl 1 rfl) ?_
  obtain ⟨r19, σ19, h_19, hf⟩ := z_bds hf
  refine z_goV C hs (z_runV C hs hl.1 (cM_settles l E hM h_19) zcV_RX9_182 (hM 100 (by decide) (by decide)) (z_c100 E _ _ _ _) rfl rfl rfl (by decide) (Nat.le_of_ble_eq_true rfl) dX9_getsAnswer_193) (fun H locs hs => ?_)
  refine lv_iconst (v := 0) hx hb dX9_getsAnswer_196 (by decide) ?_
  exact z_reti C hr hs hf dX9_getsAnswer_197
set_option maxHeartbeats 4000000 in
set_option maxRecDepth 20000 in
theorem wM_getsAnswer_69 (C : z_C E RX9 cX9_getsAnswer 4 A p s m args meth c) (hr : meth.sig.returnType = (some .int)) (hM : z_M E) {ro : Int32} {σo : zS} (x1 : Int32) (x2 : Int32) (σ : zS) (H : Heap) (locs : List Loc) (ls : Array Slot) (hs : z_H E A s σ H locs) (hl : lv_has ls 4 [(0, .ref (z_ad E (100, 0, 0))), (1, .int x1), (2, .int x2)]) (hf : fM_getsAnswer_69 x1 x2 σ = some (ro, σo)) : W p l e (z_rm 6) s m args below meth c H locs 0 0 (MQ below (z_QI E ro σo A) args s 0 0 A) (F0 m 69 ls []) := by
  have hx := C.1
  have hb := C.2.1
  unfold fM_getsAnswer_69 at hf
  refine lv_aload_n hx hb dX9_getsAnswer_69 rfl (lv_at hl 0 rfl) ?_
  refine zg_M_letter C hs (hM 100 (by decide) (by decide)) z_k968 dX9_getsAnswer_70 ?_
  refine lv_iconst (v := 4) hx hb dX9_getsAnswer_73 (by decide) ?_
  refine z_ald C hs (hM 109 (by decide) (by decide)) (z_c109 E _ _ _ _) (by decide +kernel) (k := 4) (by decide +kernel) dX9_getsAnswer_74 ?_
  refine lv_iconst (v := 1) hx hb dX9_getsAnswer_75 (by decide) ?_
  refine lv_icmp_ne (tgt := 135) hx hb dX9_getsAnswer_76 (by decide) (fun c8 => ?_) (fun c8 => ?_)
  · have hf := z_f hf c8
    refine lv_aload_n hx hb dX9_getsAnswer_135 rfl (lv_at hl 0 rfl) ?_
    refine lv_iload_n hx hb dX9_getsAnswer_136 rfl (lv_at hl 1 rfl) ?_
    refine lv_bipush (v := 50) hx hb dX9_getsAnswer_137 (by decide) ?_
    refine lv_iload_n hx hb dX9_getsAnswer_139 rfl (lv_at hl 2 rfl) ?_
    refine lv_iadd hx hb dX9_getsAnswer_140 ?_
    obtain ⟨r9, σ9, h_9, hf⟩ := z_bds hf
    refine z_goI C hs (z_runV C hs hl.1 (cM_of l E hM h_9) zcV_RX9_146 (hM 100 (by decide) (by decide)) (z_c100 E _ _ _ _) rfl rfl rfl (by decide) (Nat.le_of_ble_eq_true rfl) dX9_getsAnswer_141) (fun H locs hs => ?_)
    refine lv_iconst (v := 1) hx hb dX9_getsAnswer_144 (by decide) ?_
    refine lv_isub hx hb dX9_getsAnswer_145 ?_
    refine lv_topi (fun y10 e_y10 => ?_)
    have hf := z_lte e_y10 hf
    refine lv_istore_n (lv' := [(3, .int y10), (0, .ref (z_ad E (100, 0, 0))), (1, .int x1), (2, .int x2)]) hx hb dX9_getsAnswer_146 rfl hl (by decide) rfl (fun ls hl => ?_)
    refine lv_aload_n hx hb dX9_getsAnswer_147 rfl (lv_at hl 1 rfl) ?_
    refine zg_M_letter C hs (hM 100 (by decide) (by decide)) z_k968 dX9_getsAnswer_148 ?_
    refine lv_iconst (v := 5) hx hb dX9_getsAnswer_151 (by decide) ?_
    refine z_ald C hs (hM 109 (by decide) (by decide)) (z_c109 E _ _ _ _) (by decide +kernel) (k := 5) (by decide +kernel) dX9_getsAnswer_152 ?_
    refine lv_iconst (v := 1) hx hb dX9_getsAnswer_153 (by decide) ?_
    refine lv_iadd hx hb dX9_getsAnswer_154 ?_
    refine lv_iload_n hx hb dX9_getsAnswer_155 rfl (lv_at hl 0 rfl) ?_
    refine lv_icmp_ge (tgt := 170) hx hb dX9_getsAnswer_156 (by decide) (fun c11 => ?_) (fun c11 => ?_)
    · have hf := z_t hf c11
      refine lv_iload_n hx hb dX9_getsAnswer_170 rfl (lv_at hl 0 rfl) ?_
      exact wM_getsAnswer_171 C hr hM x1 x2 y10 σ9 _ _ _ hs (lv_sub hl [1, 2, 3] rfl) hf
    · have hf := z_f hf c11
      refine lv_aload_n hx hb dX9_getsAnswer_159 rfl (lv_at hl 1 rfl) ?_
      refine zg_M_letter C hs (hM 100 (by decide) (by decide)) z_k968 dX9_getsAnswer_160 ?_
      refine lv_iconst (v := 5) hx hb dX9_getsAnswer_163 (by decide) ?_
      refine z_ald C hs (hM 109 (by decide) (by decide)) (z_c109 E _ _ _ _) (by decide +kernel) (k := 5) (by decide +kernel) dX9_getsAnswer_164 ?_
      refine lv_iconst (v := 1) hx hb dX9_getsAnswer_165 (by decide) ?_
      refine lv_iadd hx hb dX9_getsAnswer_166 ?_
      refine lv_goto (tgt := 171) hx hb dX9_getsAnswer_167 (by decide) ?_
      exact wM_getsAnswer_171 C hr hM x1 x2 ((σ9.1 (109, 0, 0) 5) + 1) σ9 _ _ _ hs (lv_sub hl [1, 2, 3] rfl) hf
  · have hf := z_t hf c8
    refine lv_aload_n hx hb dX9_getsAnswer_79 rfl (lv_at hl 0 rfl) ?_
    refine zg_M_letter C hs (hM 100 (by decide) (by decide)) z_k968 dX9_getsAnswer_80 ?_
    refine lv_iconst (v := 5) hx hb dX9_getsAnswer_83 (by decide) ?_
    refine z_ald C hs (hM 109 (by decide) (by decide)) (z_c109 E _ _ _ _) (by decide +kernel) (k := 5) (by decide +kernel) dX9_getsAnswer_84 ?_
    refine lv_aload_n hx hb dX9_getsAnswer_85 rfl (lv_at hl 0 rfl) ?_
    refine lv_iload_n hx hb dX9_getsAnswer_86 rfl (lv_at hl 1 rfl) ?_
    refine lv_bipush (v := 57) hx hb dX9_getsAnswer_87 (by decide) ?_
    refine lv_iload_n hx hb dX9_getsAnswer_89 rfl (lv_at hl 2 rfl) ?_
    refine lv_iadd hx hb dX9_getsAnswer_90 ?_
    obtain ⟨r15, σ15, h_15, hf⟩ := z_bds hf
    refine z_goI C hs (z_runV C hs hl.1 (cM_of l E hM h_15) zcV_RX9_146 (hM 100 (by decide) (by decide)) (z_c100 E _ _ _ _) rfl rfl rfl (by decide) (Nat.le_of_ble_eq_true rfl) dX9_getsAnswer_91) (fun H locs hs => ?_)
    refine lv_icmp_le (tgt := 112) hx hb dX9_getsAnswer_94 (by decide) (fun c16 => ?_) (fun c16 => ?_)
    · have hf := z_t hf c16
      exact wM_getsAnswer_112 C hr hM x1 x2 σ15 _ _ _ hs (lv_sub hl [0, 1, 2] rfl) hf
    · have hf := z_f hf c16
      refine lv_aload_n hx hb dX9_getsAnswer_97 rfl (lv_at hl 0 rfl) ?_
      refine lv_iload_n hx hb dX9_getsAnswer_98 rfl (lv_at hl 1 rfl) ?_
      refine lv_bipush (v := 57) hx hb dX9_getsAnswer_99 (by decide) ?_
      refine lv_iload_n hx hb dX9_getsAnswer_101 rfl (lv_at hl 2 rfl) ?_
      refine lv_iadd hx hb dX9_getsAnswer_102 ?_
      refine lv_aload_n hx hb dX9_getsAnswer_103 rfl (lv_at hl 0 rfl) ?_
      refine zg_M_letter C hs (hM 100 (by decide) (by decide)) z_k968 dX9_getsAnswer_104 ?_
      refine lv_iconst (v := 5) hx hb dX9_getsAnswer_107 (by decide) ?_
      refine z_ald C hs (hM 109 (by decide) (by decide)) (z_c109 E _ _ _ _) (by decide +kernel) (k := 5) (by decide +kernel) dX9_getsAnswer_108 ?_
      obtain ⟨r20, σ20, h_20, hf⟩ := z_bds hf
      refine z_goV C hs (z_runV C hs hl.1 (cM_put l E hM h_20) zcV_RX9_139 (hM 100 (by decide) (by decide)) (z_c100 E _ _ _ _) rfl rfl rfl (by decide) (Nat.le_of_ble_eq_true rfl) dX9_getsAnswer_109) (fun H locs hs => ?_)
      exact wM_getsAnswer_112 C hr hM x1 x2 σ20 _ _ _ hs (lv_sub hl [0, 1, 2] rfl) hf
set_option maxHeartbeats 4000000 in
set_option maxRecDepth 20000 in
theorem wM_getsAnswer {x1 : Int32} (C : z_C E RX9 cX9_getsAnswer 4 A p s m args meth c) (hr : meth.sig.returnType = (some .int)) (hM : z_M E) {ro : Int32} {σo : zS} (σ : zS) (H : Heap) (locs : List Loc) (ls : Array Slot) (hs : z_H E A s σ H locs) (hl : lv_has ls 4 [(0, .ref (z_ad E (100, 0, 0))), (1, .int x1)]) (hf : fM_getsAnswer x1 σ = some (ro, σo)) : W p l e (z_rm 6) s m args below meth c H locs 0 0 (MQ below (z_QI E ro σo A) args s 0 0 A) (F0 m 0 ls []) := by
  have hx := C.1
  have hb := C.2.1
  unfold fM_getsAnswer at hf
  refine lv_aload_n hx hb dX9_getsAnswer_0 rfl (lv_at hl 0 rfl) ?_
  refine lv_iload_n hx hb dX9_getsAnswer_1 rfl (lv_at hl 1 rfl) ?_
  refine lv_iconst (v := 5) hx hb dX9_getsAnswer_2 (by decide) ?_
  obtain ⟨r1, σ1, h_1, hf⟩ := z_bds hf
  refine z_goI C hs (z_runV C hs hl.1 (cM_of l E hM h_1) zcV_RX9_146 (hM 100 (by decide) (by decide)) (z_c100 E _ _ _ _) rfl rfl rfl (by decide) (Nat.le_of_ble_eq_true rfl) dX9_getsAnswer_3) (fun H locs hs => ?_)
  refine lv_iconst (v := 2) hx hb dX9_getsAnswer_6 (by decide) ?_
  refine lv_icmp_ne (tgt := 25) hx hb dX9_getsAnswer_7 (by decide) (fun c2 => ?_) (fun c2 => ?_)
  · have hf := z_f hf c2
    refine lv_iconst (v := 0) hx hb dX9_getsAnswer_25 (by decide) ?_
    exact z_reti C hr hs hf dX9_getsAnswer_26
  · have hf := z_t hf c2
    refine lv_aload_n hx hb dX9_getsAnswer_10 rfl (lv_at hl 0 rfl) ?_
    refine lv_iload_n hx hb dX9_getsAnswer_11 rfl (lv_at hl 1 rfl) ?_
    refine lv_iconst (v := 0) hx hb dX9_getsAnswer_12 (by decide) ?_
    obtain ⟨r3, σ3, h_3, hf⟩ := z_bds hf
    refine z_goI C hs (z_runV C hs hl.1 (cM_of l E hM h_3) zcV_RX9_146 (hM 100 (by decide) (by decide)) (z_c100 E _ _ _ _) rfl rfl rfl (by decide) (Nat.le_of_ble_eq_true rfl) dX9_getsAnswer_13) (fun H locs hs => ?_)
    refine lv_aload_n hx hb dX9_getsAnswer_16 rfl (lv_at hl 0 rfl) ?_
    refine zg_M_letter C hs (hM 100 (by decide) (by decide)) z_k968 dX9_getsAnswer_17 ?_
    refine lv_iconst (v := 3) hx hb dX9_getsAnswer_20 (by decide) ?_
    refine z_ald C hs (hM 109 (by decide) (by decide)) (z_c109 E _ _ _ _) (by decide +kernel) (k := 3) (by decide +kernel) dX9_getsAnswer_21 ?_
    refine lv_icmp_eq (tgt := 27) hx hb dX9_getsAnswer_22 (by decide) (fun c4 => ?_) (fun c4 => ?_)
    · have hf := z_t hf c4
      refine lv_aload_n hx hb dX9_getsAnswer_27 rfl (lv_at hl 0 rfl) ?_
      refine zg_M_letter C hs (hM 100 (by decide) (by decide)) z_k968 dX9_getsAnswer_28 ?_
      refine lv_iconst (v := 1) hx hb dX9_getsAnswer_31 (by decide) ?_
      refine z_ald C hs (hM 109 (by decide) (by decide)) (z_c109 E _ _ _ _) (by decide +kernel) (k := 1) (by decide +kernel) dX9_getsAnswer_32 ?_
      refine lv_topi (fun y5 e_y5 => ?_)
      have hf := z_lte e_y5 hf
      refine lv_istore_n (lv' := [(2, .int y5), (0, .ref (z_ad E (100, 0, 0))), (1, .int x1)]) hx hb dX9_getsAnswer_33 rfl hl (by decide) rfl (fun ls hl => ?_)
      refine lv_aload_n hx hb dX9_getsAnswer_34 rfl (lv_at hl 1 rfl) ?_
      refine zg_M_letter C hs (hM 100 (by decide) (by decide)) z_k968 dX9_getsAnswer_35 ?_
      refine lv_bipush (v := 8) hx hb dX9_getsAnswer_38 (by decide) ?_
      refine z_ald C hs (hM 109 (by decide) (by decide)) (z_c109 E _ _ _ _) (by decide +kernel) (k := 8) (by decide +kernel) dX9_getsAnswer_40 ?_
      refine lv_aload_n hx hb dX9_getsAnswer_41 rfl (lv_at hl 1 rfl) ?_
      refine lv_iload_n hx hb dX9_getsAnswer_42 rfl (lv_at hl 2 rfl) ?_
      refine lv_bipush (v := 64) hx hb dX9_getsAnswer_43 (by decide) ?_
      refine lv_iload_n hx hb dX9_getsAnswer_45 rfl (lv_at hl 0 rfl) ?_
      refine lv_iadd hx hb dX9_getsAnswer_46 ?_
      obtain ⟨r6, σ6, h_6, hf⟩ := z_bds hf
      refine z_goI C hs (z_runV C hs hl.1 (cM_of l E hM h_6) zcV_RX9_146 (hM 100 (by decide) (by decide)) (z_c100 E _ _ _ _) rfl rfl rfl (by decide) (Nat.le_of_ble_eq_true rfl) dX9_getsAnswer_47) (fun H locs hs => ?_)
      refine lv_icmp_le (tgt := 69) hx hb dX9_getsAnswer_50 (by decide) (fun c7 => ?_) (fun c7 => ?_)
      · have hf := z_t hf c7
        exact wM_getsAnswer_69 C hr hM x1 y5 σ6 _ _ _ hs (lv_sub hl [1, 2, 0] rfl) hf
      · have hf := z_f hf c7
        refine lv_aload_n hx hb dX9_getsAnswer_53 rfl (lv_at hl 1 rfl) ?_
        refine lv_iload_n hx hb dX9_getsAnswer_54 rfl (lv_at hl 2 rfl) ?_
        refine lv_bipush (v := 64) hx hb dX9_getsAnswer_55 (by decide) ?_
        refine lv_iload_n hx hb dX9_getsAnswer_57 rfl (lv_at hl 0 rfl) ?_
        refine lv_iadd hx hb dX9_getsAnswer_58 ?_
        refine lv_aload_n hx hb dX9_getsAnswer_59 rfl (lv_at hl 1 rfl) ?_
        refine zg_M_letter C hs (hM 100 (by decide) (by decide)) z_k968 dX9_getsAnswer_60 ?_
        refine lv_bipush (v := 8) hx hb dX9_getsAnswer_63 (by decide) ?_
        refine z_ald C hs (hM 109 (by decide) (by decide)) (z_c109 E _ _ _ _) (by decide +kernel) (k := 8) (by decide +kernel) dX9_getsAnswer_65 ?_
        obtain ⟨r21, σ21, h_21, hf⟩ := z_bds hf
        refine z_goV C hs (z_runV C hs hl.1 (cM_put l E hM h_21) zcV_RX9_139 (hM 100 (by decide) (by decide)) (z_c100 E _ _ _ _) rfl rfl rfl (by decide) (Nat.le_of_ble_eq_true rfl) dX9_getsAnswer_66) (fun H locs hs => ?_)
        exact wM_getsAnswer_69 C hr hM x1 y5 σ21 _ _ _ hs (lv_sub hl [1, 2, 0] rfl) hf
    · have hf := z_f hf c4
      refine lv_iconst (v := 0) hx hb dX9_getsAnswer_25 (by decide) ?_
      exact z_reti C hr hs hf dX9_getsAnswer_26
set_option maxHeartbeats 4000000 in
set_option maxRecDepth 20000 in
theorem cM_getsAnswer (l : Launch) (E : zE) {x1 : Int32} (hM : z_M E) {σ σo : zS} {ro : Int32} (hf : fM_getsAnswer x1 σ = some (ro, σo)) : z_T l E yX9_getsAnswer cX9_getsAnswer 4 (some .int) (z_rm 6) (z_QI E ro σo) [.ref (z_ad E (100, 0, 0)), .int x1] σ :=
  z_enter (by decide) (Nat.le_of_ble_eq_true rfl) rfl (fun p e s m below meth c A ls C hr hs hl => wM_getsAnswer C hr hM σ _ _ ls hs hl hf)
def fM_getsFolding_242 (x1 : Int32) (x2 : Int32) (σ : zS) : Option (Int32 × zS) :=
  z_bd (fM_answersBack x1 1 x2 σ) (fun r9 σ9 =>
  some (r9, σ9))
def fM_getsFolding_189 : Nat → Int32 → Int32 → Int32 → zS → Option (Int32 × zS)
  | 0, _, _, _, _ => none
  | n + 1, x1, x2, x5, σ =>
    if 20 ≤ x5 then
      (fM_getsFolding_242 x1 x2 σ)
    else
      (if z_in (10 + x5) 64 = true then (
      z_bd (fM_put x1 (10 + x5) (σ.1 (109, 0, 0) (10 + x5).toNatClampNeg) σ) (fun _ σ20 =>
      if z_in (10 + x5) 64 = true then (
      z_bd (fM_put x1 (30 + x5) (σ20.1 (109, 0, 0) (10 + x5).toNatClampNeg) σ20) (fun _ σ22 =>
      z_let (x5 + 1) (fun y23 =>
      fM_getsFolding_189 n x1 x2 y23 σ22))) else none)) else none)
def fM_getsFolding_149 (x1 : Int32) (x2 : Int32) (x4 : Int32) (σ : zS) : Option (Int32 × zS) :=
  z_bd (fM_put x1 2 x2 σ) (fun _ σ14 =>
  z_bd (fM_put x1 3 (σ14.1 (109, 0, 0) 5) σ14) (fun _ σ15 =>
  z_bd (fM_put x1 4 (x2 + x4) σ15) (fun _ σ16 =>
  z_bd (fM_put x1 6 x2 σ16) (fun _ σ17 =>
  fM_getsFolding_189 z_fu x1 x2 0 σ17))))
def fM_getsFolding_117 (x1 : Int32) (x2 : Int32) (x3 : Int32) (t0 : Int32) (σ : zS) : Option (Int32 × zS) :=
  if x3 = 0 then
    (fM_getsFolding_149 x1 x2 t0 σ)
  else
    (z_bd (fM_entryAt x1 x2 σ) (fun r24 σ24 =>
    z_bd (fM_copy (r24 + 6) ((320 * x1) + 80) (6 * t0) σ24) (fun _ σ25 =>
    fM_getsFolding_149 x1 x2 t0 σ25)))
def fM_getsFolding_100 (x1 : Int32) (x2 : Int32) (t0 : Int32) (σ : zS) : Option (Int32 × zS) :=
  if t0 = 0 then
    (fM_getsFolding_117 x1 x2 t0 0 σ)
  else
    (z_bd (fM_of x1 4 σ) (fun r26 σ26 =>
    fM_getsFolding_117 x1 x2 t0 (r26 - x2) σ26))
def fM_getsFolding_99 (x1 : Int32) (x2 : Int32) (σ : zS) : Option (Int32 × zS) :=
  fM_getsFolding_100 x1 x2 0 σ
def fM_getsFolding (x1 : Int32) (σ : zS) : Option (Int32 × zS) :=
  z_bd (fM_of x1 0 σ) (fun r1 σ1 =>
  if r1 ≤ (σ.1 (109, 0, 0) 3) then
    (z_bd (fM_of x1 5 σ1) (fun r3 σ3 =>
    if r3 = 2 then
      (some (0, σ3))
    else
      (z_bd (fM_put x1 5 0 σ3) (fun _ σ5 =>
      z_let (σ5.1 (109, 0, 0) 4) (fun y6 =>
      z_bd (fM_of x1 6 σ5) (fun r7 σ7 =>
      if y6 ≤ r7 then
        (fM_getsFolding_242 x1 y6 σ7)
      else
        (z_bd (fM_of x1 4 σ7) (fun r10 σ10 =>
        if r10 < y6 then
          (fM_getsFolding_99 x1 y6 σ10)
        else
          (z_bd (fM_of x1 2 σ10) (fun r27 σ27 =>
          if y6 ≤ r27 then
            (fM_getsFolding_99 x1 y6 σ27)
          else
            (z_bd (fM_termOf x1 y6 σ27) (fun r29 σ29 =>
            if r29 = (σ29.1 (109, 0, 0) 5) then
              (fM_getsFolding_100 x1 y6 1 σ29)
            else
              (fM_getsFolding_99 x1 y6 σ29)))))))))))))
  else
    (z_bd (fM_answersBack x1 0 0 σ1) (fun r31 σ31 =>
    some (r31, σ31))))
set_option maxHeartbeats 4000000 in
set_option maxRecDepth 20000 in
theorem wM_getsFolding_242 (C : z_C E RX9 cX9_getsFolding 6 A p s m args meth c) (hr : meth.sig.returnType = (some .int)) (hM : z_M E) {ro : Int32} {σo : zS} (x1 : Int32) (x2 : Int32) (σ : zS) (H : Heap) (locs : List Loc) (ls : Array Slot) (hs : z_H E A s σ H locs) (hl : lv_has ls 6 [(0, .ref (z_ad E (100, 0, 0))), (1, .int x1), (2, .int x2)]) (hf : fM_getsFolding_242 x1 x2 σ = some (ro, σo)) : W p l e (z_rm 5) s m args below meth c H locs 0 0 (MQ below (z_QI E ro σo A) args s 0 0 A) (F0 m 242 ls []) := by
  have hx := C.1
  have hb := C.2.1
  unfold fM_getsFolding_242 at hf
  refine lv_aload_n hx hb dX9_getsFolding_242 rfl (lv_at hl 0 rfl) ?_
  refine lv_iload_n hx hb dX9_getsFolding_243 rfl (lv_at hl 1 rfl) ?_
  refine lv_iconst (v := 1) hx hb dX9_getsFolding_244 (by decide) ?_
  refine lv_iload_n hx hb dX9_getsFolding_245 rfl (lv_at hl 2 rfl) ?_
  obtain ⟨r9, σ9, h_9, hf⟩ := z_bds hf
  refine z_goI C hs (z_runV C hs hl.1 (cM_answersBack l E hM h_9) zcV_RX9_229 (hM 100 (by decide) (by decide)) (z_c100 E _ _ _ _) rfl rfl rfl (by decide) (Nat.le_of_ble_eq_true rfl) dX9_getsFolding_246) (fun H locs hs => ?_)
  exact z_reti C hr hs hf dX9_getsFolding_249
set_option maxHeartbeats 4000000 in
set_option maxRecDepth 20000 in
theorem wM_getsFolding_189 (C : z_C E RX9 cX9_getsFolding 6 A p s m args meth c) (hr : meth.sig.returnType = (some .int)) (hM : z_M E) {ro : Int32} {σo : zS} (n : Nat) : ∀ (x1 : Int32) (x2 : Int32) (x5 : Int32) (σ : zS) (H : Heap) (locs : List Loc) (ls : Array Slot), z_H E A s σ H locs → lv_has ls 6 [(0, .ref (z_ad E (100, 0, 0))), (1, .int x1), (2, .int x2), (5, .int x5)] → fM_getsFolding_189 n x1 x2 x5 σ = some (ro, σo) → W p l e (z_rm 5) s m args below meth c H locs 0 0 (MQ below (z_QI E ro σo A) args s 0 0 A) (F0 m 189 ls []) := by
  induction n with
  | zero =>
    intro x1 x2 x5 σ H locs ls hs hl hf
    have hf : none = some (ro, σo) := hf
    cases hf
  | succ n ih =>
    intro x1 x2 x5 σ H locs ls hs hl hf
    have hx := C.1
    have hb := C.2.1
    rw [fM_getsFolding_189.eq_2] at hf
    refine lv_iload hx hb dX9_getsFolding_189 (lv_at hl 3 rfl) ?_
    refine lv_bipush (v := 20) hx hb dX9_getsFolding_191 (by decide) ?_
    refine lv_icmp_ge (tgt := 242) hx hb dX9_getsFolding_193 (by decide) (fun c18 => ?_) (fun c18 => ?_)
    · have hf := z_t hf c18
      exact wM_getsFolding_242 C hr hM x1 x2 σ _ _ _ hs (lv_sub hl [0, 1, 2] rfl) hf
    · have hf := z_f hf c18
      refine lv_aload_n hx hb dX9_getsFolding_196 rfl (lv_at hl 0 rfl) ?_
      refine lv_iload_n hx hb dX9_getsFolding_197 rfl (lv_at hl 1 rfl) ?_
      refine lv_bipush (v := 10) hx hb dX9_getsFolding_198 (by decide) ?_
      refine lv_iload hx hb dX9_getsFolding_200 (lv_at hl 3 rfl) ?_
      refine lv_iadd hx hb dX9_getsFolding_202 ?_
      refine lv_aload_n hx hb dX9_getsFolding_203 rfl (lv_at hl 0 rfl) ?_
      refine zg_M_letter C hs (hM 100 (by decide) (by decide)) z_k968 dX9_getsFolding_204 ?_
      refine lv_bipush (v := 10) hx hb dX9_getsFolding_207 (by decide) ?_
      refine lv_iload hx hb dX9_getsFolding_209 (lv_at hl 3 rfl) ?_
      refine lv_iadd hx hb dX9_getsFolding_211 ?_
      obtain ⟨g19, hf⟩ := z_gd hf
      refine z_ald C hs (hM 109 (by decide) (by decide)) (z_c109 E _ _ _ _) g19 rfl dX9_getsFolding_212 ?_
      obtain ⟨r20, σ20, h_20, hf⟩ := z_bds hf
      refine z_goV C hs (z_runV C hs hl.1 (cM_put l E hM h_20) zcV_RX9_139 (hM 100 (by decide) (by decide)) (z_c100 E _ _ _ _) rfl rfl rfl (by decide) (Nat.le_of_ble_eq_true rfl) dX9_getsFolding_213) (fun H locs hs => ?_)
      refine lv_aload_n hx hb dX9_getsFolding_216 rfl (lv_at hl 0 rfl) ?_
      refine lv_iload_n hx hb dX9_getsFolding_217 rfl (lv_at hl 1 rfl) ?_
      refine lv_bipush (v := 30) hx hb dX9_getsFolding_218 (by decide) ?_
      refine lv_iload hx hb dX9_getsFolding_220 (lv_at hl 3 rfl) ?_
      refine lv_iadd hx hb dX9_getsFolding_222 ?_
      refine lv_aload_n hx hb dX9_getsFolding_223 rfl (lv_at hl 0 rfl) ?_
      refine zg_M_letter C hs (hM 100 (by decide) (by decide)) z_k968 dX9_getsFolding_224 ?_
      refine lv_bipush (v := 10) hx hb dX9_getsFolding_227 (by decide) ?_
      refine lv_iload hx hb dX9_getsFolding_229 (lv_at hl 3 rfl) ?_
      refine lv_iadd hx hb dX9_getsFolding_231 ?_
      obtain ⟨g21, hf⟩ := z_gd hf
      refine z_ald C hs (hM 109 (by decide) (by decide)) (z_c109 E _ _ _ _) g21 rfl dX9_getsFolding_232 ?_
      obtain ⟨r22, σ22, h_22, hf⟩ := z_bds hf
      refine z_goV C hs (z_runV C hs hl.1 (cM_put l E hM h_22) zcV_RX9_139 (hM 100 (by decide) (by decide)) (z_c100 E _ _ _ _) rfl rfl rfl (by decide) (Nat.le_of_ble_eq_true rfl) dX9_getsFolding_233) (fun H locs hs => ?_)
      obtain ⟨y23, e_y23⟩ : ∃ y : Int32, y = x5 + 1 := ⟨_, rfl⟩
      have hf := z_lte e_y23 hf
      refine lv_iinc (v := y23) (lv' := [(5, .int y23), (0, .ref (z_ad E (100, 0, 0))), (1, .int x1), (2, .int x2)]) hx hb dX9_getsFolding_236 hl (k := 3) rfl (by rw [e_y23]; rfl) (by decide) rfl (fun ls hl => ?_)
      refine lv_goto (tgt := 189) hx hb dX9_getsFolding_239 (by decide) ?_
      exact ih x1 x2 y23 σ22 _ _ _ hs (lv_sub hl [1, 2, 3, 0] rfl) hf
set_option maxHeartbeats 4000000 in
set_option maxRecDepth 20000 in
theorem wM_getsFolding_149 (C : z_C E RX9 cX9_getsFolding 6 A p s m args meth c) (hr : meth.sig.returnType = (some .int)) (hM : z_M E) {ro : Int32} {σo : zS} (x1 : Int32) (x2 : Int32) (x4 : Int32) (σ : zS) (H : Heap) (locs : List Loc) (ls : Array Slot) (hs : z_H E A s σ H locs) (hl : lv_has ls 6 [(0, .ref (z_ad E (100, 0, 0))), (1, .int x1), (2, .int x2), (4, .int x4)]) (hf : fM_getsFolding_149 x1 x2 x4 σ = some (ro, σo)) : W p l e (z_rm 5) s m args below meth c H locs 0 0 (MQ below (z_QI E ro σo A) args s 0 0 A) (F0 m 149 ls []) := by
  have hx := C.1
  have hb := C.2.1
  unfold fM_getsFolding_149 at hf
  refine lv_aload_n hx hb dX9_getsFolding_149 rfl (lv_at hl 0 rfl) ?_
  refine lv_iload_n hx hb dX9_getsFolding_150 rfl (lv_at hl 1 rfl) ?_
  refine lv_iconst (v := 2) hx hb dX9_getsFolding_151 (by decide) ?_
  refine lv_iload_n hx hb dX9_getsFolding_152 rfl (lv_at hl 2 rfl) ?_
  obtain ⟨r14, σ14, h_14, hf⟩ := z_bds hf
  refine z_goV C hs (z_runV C hs hl.1 (cM_put l E hM h_14) zcV_RX9_139 (hM 100 (by decide) (by decide)) (z_c100 E _ _ _ _) rfl rfl rfl (by decide) (Nat.le_of_ble_eq_true rfl) dX9_getsFolding_153) (fun H locs hs => ?_)
  refine lv_aload_n hx hb dX9_getsFolding_156 rfl (lv_at hl 0 rfl) ?_
  refine lv_iload_n hx hb dX9_getsFolding_157 rfl (lv_at hl 1 rfl) ?_
  refine lv_iconst (v := 3) hx hb dX9_getsFolding_158 (by decide) ?_
  refine lv_aload_n hx hb dX9_getsFolding_159 rfl (lv_at hl 0 rfl) ?_
  refine zg_M_letter C hs (hM 100 (by decide) (by decide)) z_k968 dX9_getsFolding_160 ?_
  refine lv_iconst (v := 5) hx hb dX9_getsFolding_163 (by decide) ?_
  refine z_ald C hs (hM 109 (by decide) (by decide)) (z_c109 E _ _ _ _) (by decide +kernel) (k := 5) (by decide +kernel) dX9_getsFolding_164 ?_
  obtain ⟨r15, σ15, h_15, hf⟩ := z_bds hf
  refine z_goV C hs (z_runV C hs hl.1 (cM_put l E hM h_15) zcV_RX9_139 (hM 100 (by decide) (by decide)) (z_c100 E _ _ _ _) rfl rfl rfl (by decide) (Nat.le_of_ble_eq_true rfl) dX9_getsFolding_165) (fun H locs hs => ?_)
  refine lv_aload_n hx hb dX9_getsFolding_168 rfl (lv_at hl 0 rfl) ?_
  refine lv_iload_n hx hb dX9_getsFolding_169 rfl (lv_at hl 1 rfl) ?_
  refine lv_iconst (v := 4) hx hb dX9_getsFolding_170 (by decide) ?_
  refine lv_iload_n hx hb dX9_getsFolding_171 rfl (lv_at hl 2 rfl) ?_
  refine lv_iload hx hb dX9_getsFolding_172 (lv_at hl 3 rfl) ?_
  refine lv_iadd hx hb dX9_getsFolding_174 ?_
  obtain ⟨r16, σ16, h_16, hf⟩ := z_bds hf
  refine z_goV C hs (z_runV C hs hl.1 (cM_put l E hM h_16) zcV_RX9_139 (hM 100 (by decide) (by decide)) (z_c100 E _ _ _ _) rfl rfl rfl (by decide) (Nat.le_of_ble_eq_true rfl) dX9_getsFolding_175) (fun H locs hs => ?_)
  refine lv_aload_n hx hb dX9_getsFolding_178 rfl (lv_at hl 0 rfl) ?_
  refine lv_iload_n hx hb dX9_getsFolding_179 rfl (lv_at hl 1 rfl) ?_
  refine lv_bipush (v := 6) hx hb dX9_getsFolding_180 (by decide) ?_
  refine lv_iload_n hx hb dX9_getsFolding_182 rfl (lv_at hl 2 rfl) ?_
  obtain ⟨r17, σ17, h_17, hf⟩ := z_bds hf
  refine z_goV C hs (z_runV C hs hl.1 (cM_put l E hM h_17) zcV_RX9_139 (hM 100 (by decide) (by decide)) (z_c100 E _ _ _ _) rfl rfl rfl (by decide) (Nat.le_of_ble_eq_true rfl) dX9_getsFolding_183) (fun H locs hs => ?_)
  refine lv_iconst (v := 0) hx hb dX9_getsFolding_186 (by decide) ?_
  refine lv_istore (lv' := [(5, .int 0), (0, .ref (z_ad E (100, 0, 0))), (1, .int x1), (2, .int x2), (4, .int x4)]) hx hb dX9_getsFolding_187 hl (by decide) rfl (fun ls hl => ?_)
  exact wM_getsFolding_189 C hr hM z_fu x1 x2 0 σ17 _ _ _ hs (lv_sub hl [1, 2, 3, 0] rfl) hf
set_option maxHeartbeats 4000000 in
set_option maxRecDepth 20000 in
theorem wM_getsFolding_117 (C : z_C E RX9 cX9_getsFolding 6 A p s m args meth c) (hr : meth.sig.returnType = (some .int)) (hM : z_M E) {ro : Int32} {σo : zS} (x1 : Int32) (x2 : Int32) (x3 : Int32) (t0 : Int32) (σ : zS) (H : Heap) (locs : List Loc) (ls : Array Slot) (hs : z_H E A s σ H locs) (hl : lv_has ls 6 [(0, .ref (z_ad E (100, 0, 0))), (1, .int x1), (2, .int x2), (3, .int x3)]) (hf : fM_getsFolding_117 x1 x2 x3 t0 σ = some (ro, σo)) : W p l e (z_rm 5) s m args below meth c H locs 0 0 (MQ below (z_QI E ro σo A) args s 0 0 A) (F0 m 117 ls [.int t0]) := by
  have hx := C.1
  have hb := C.2.1
  unfold fM_getsFolding_117 at hf
  refine lv_istore (lv' := [(4, .int t0), (0, .ref (z_ad E (100, 0, 0))), (1, .int x1), (2, .int x2), (3, .int x3)]) hx hb dX9_getsFolding_117 hl (by decide) rfl (fun ls hl => ?_)
  refine lv_iload_n hx hb dX9_getsFolding_119 rfl (lv_at hl 4 rfl) ?_
  refine lv_if_eq (tgt := 149) hx hb dX9_getsFolding_120 (by decide) (fun c13 => ?_) (fun c13 => ?_)
  · have hf := z_t hf c13
    exact wM_getsFolding_149 C hr hM x1 x2 t0 σ _ _ _ hs (lv_sub hl [1, 2, 3, 0] rfl) hf
  · have hf := z_f hf c13
    refine lv_aload_n hx hb dX9_getsFolding_123 rfl (lv_at hl 1 rfl) ?_
    refine lv_aload_n hx hb dX9_getsFolding_124 rfl (lv_at hl 1 rfl) ?_
    refine lv_iload_n hx hb dX9_getsFolding_125 rfl (lv_at hl 2 rfl) ?_
    refine lv_iload_n hx hb dX9_getsFolding_126 rfl (lv_at hl 3 rfl) ?_
    obtain ⟨r24, σ24, h_24, hf⟩ := z_bds hf
    refine z_goI C hs (z_runV C hs hl.1 (cM_entryAt l E hM h_24) zcV_RX9_153 (hM 100 (by decide) (by decide)) (z_c100 E _ _ _ _) rfl rfl rfl (by decide) (Nat.le_of_ble_eq_true rfl) dX9_getsFolding_127) (fun H locs hs => ?_)
    refine lv_bipush (v := 6) hx hb dX9_getsFolding_130 (by decide) ?_
    refine lv_iadd hx hb dX9_getsFolding_132 ?_
    refine lv_sipush (v := 320) hx hb dX9_getsFolding_133 (by decide) ?_
    refine lv_iload_n hx hb dX9_getsFolding_136 rfl (lv_at hl 2 rfl) ?_
    refine lv_imul hx hb dX9_getsFolding_137 ?_
    refine lv_bipush (v := 80) hx hb dX9_getsFolding_138 (by decide) ?_
    refine lv_iadd hx hb dX9_getsFolding_140 ?_
    refine lv_bipush (v := 6) hx hb dX9_getsFolding_141 (by decide) ?_
    refine lv_iload hx hb dX9_getsFolding_143 (lv_at hl 0 rfl) ?_
    refine lv_imul hx hb dX9_getsFolding_145 ?_
    obtain ⟨r25, σ25, h_25, hf⟩ := z_bds hf
    refine z_goV C hs (z_runV C hs hl.1 (cM_copy l E hM h_25) zcV_RX9_208 (hM 100 (by decide) (by decide)) (z_c100 E _ _ _ _) rfl rfl rfl (by decide) (Nat.le_of_ble_eq_true rfl) dX9_getsFolding_146) (fun H locs hs => ?_)
    exact wM_getsFolding_149 C hr hM x1 x2 t0 σ25 _ _ _ hs (lv_sub hl [1, 2, 3, 0] rfl) hf
set_option maxHeartbeats 4000000 in
set_option maxRecDepth 20000 in
theorem wM_getsFolding_100 (C : z_C E RX9 cX9_getsFolding 6 A p s m args meth c) (hr : meth.sig.returnType = (some .int)) (hM : z_M E) {ro : Int32} {σo : zS} (x1 : Int32) (x2 : Int32) (t0 : Int32) (σ : zS) (H : Heap) (locs : List Loc) (ls : Array Slot) (hs : z_H E A s σ H locs) (hl : lv_has ls 6 [(0, .ref (z_ad E (100, 0, 0))), (1, .int x1), (2, .int x2)]) (hf : fM_getsFolding_100 x1 x2 t0 σ = some (ro, σo)) : W p l e (z_rm 5) s m args below meth c H locs 0 0 (MQ below (z_QI E ro σo A) args s 0 0 A) (F0 m 100 ls [.int t0]) := by
  have hx := C.1
  have hb := C.2.1
  unfold fM_getsFolding_100 at hf
  refine lv_istore_n (lv' := [(3, .int t0), (0, .ref (z_ad E (100, 0, 0))), (1, .int x1), (2, .int x2)]) hx hb dX9_getsFolding_100 rfl hl (by decide) rfl (fun ls hl => ?_)
  refine lv_iload_n hx hb dX9_getsFolding_101 rfl (lv_at hl 0 rfl) ?_
  refine lv_if_eq (tgt := 116) hx hb dX9_getsFolding_102 (by decide) (fun c12 => ?_) (fun c12 => ?_)
  · have hf := z_t hf c12
    refine lv_iconst (v := 0) hx hb dX9_getsFolding_116 (by decide) ?_
    exact wM_getsFolding_117 C hr hM x1 x2 t0 0 σ _ _ _ hs (lv_sub hl [1, 2, 3, 0] rfl) hf
  · have hf := z_f hf c12
    refine lv_aload_n hx hb dX9_getsFolding_105 rfl (lv_at hl 1 rfl) ?_
    refine lv_iload_n hx hb dX9_getsFolding_106 rfl (lv_at hl 2 rfl) ?_
    refine lv_iconst (v := 4) hx hb dX9_getsFolding_107 (by decide) ?_
    obtain ⟨r26, σ26, h_26, hf⟩ := z_bds hf
    refine z_goI C hs (z_runV C hs hl.1 (cM_of l E hM h_26) zcV_RX9_146 (hM 100 (by decide) (by decide)) (z_c100 E _ _ _ _) rfl rfl rfl (by decide) (Nat.le_of_ble_eq_true rfl) dX9_getsFolding_108) (fun H locs hs => ?_)
    refine lv_iload_n hx hb dX9_getsFolding_111 rfl (lv_at hl 3 rfl) ?_
    refine lv_isub hx hb dX9_getsFolding_112 ?_
    refine lv_goto (tgt := 117) hx hb dX9_getsFolding_113 (by decide) ?_
    exact wM_getsFolding_117 C hr hM x1 x2 t0 (r26 - x2) σ26 _ _ _ hs (lv_sub hl [1, 2, 3, 0] rfl) hf
set_option maxHeartbeats 4000000 in
set_option maxRecDepth 20000 in
theorem wM_getsFolding_99 (C : z_C E RX9 cX9_getsFolding 6 A p s m args meth c) (hr : meth.sig.returnType = (some .int)) (hM : z_M E) {ro : Int32} {σo : zS} (x1 : Int32) (x2 : Int32) (σ : zS) (H : Heap) (locs : List Loc) (ls : Array Slot) (hs : z_H E A s σ H locs) (hl : lv_has ls 6 [(0, .ref (z_ad E (100, 0, 0))), (1, .int x1), (2, .int x2)]) (hf : fM_getsFolding_99 x1 x2 σ = some (ro, σo)) : W p l e (z_rm 5) s m args below meth c H locs 0 0 (MQ below (z_QI E ro σo A) args s 0 0 A) (F0 m 99 ls []) := by
  have hx := C.1
  have hb := C.2.1
  unfold fM_getsFolding_99 at hf
  refine lv_iconst (v := 0) hx hb dX9_getsFolding_99 (by decide) ?_
  exact wM_getsFolding_100 C hr hM x1 x2 0 σ _ _ _ hs (lv_sub hl [0, 1, 2] rfl) hf
set_option maxHeartbeats 4000000 in
set_option maxRecDepth 20000 in
theorem wM_getsFolding {x1 : Int32} (C : z_C E RX9 cX9_getsFolding 6 A p s m args meth c) (hr : meth.sig.returnType = (some .int)) (hM : z_M E) {ro : Int32} {σo : zS} (σ : zS) (H : Heap) (locs : List Loc) (ls : Array Slot) (hs : z_H E A s σ H locs) (hl : lv_has ls 6 [(0, .ref (z_ad E (100, 0, 0))), (1, .int x1)]) (hf : fM_getsFolding x1 σ = some (ro, σo)) : W p l e (z_rm 5) s m args below meth c H locs 0 0 (MQ below (z_QI E ro σo A) args s 0 0 A) (F0 m 0 ls []) := by
  have hx := C.1
  have hb := C.2.1
  unfold fM_getsFolding at hf
  refine lv_aload_n hx hb dX9_getsFolding_0 rfl (lv_at hl 0 rfl) ?_
  refine zg_M_letter C hs (hM 100 (by decide) (by decide)) z_k968 dX9_getsFolding_1 ?_
  refine lv_iconst (v := 3) hx hb dX9_getsFolding_4 (by decide) ?_
  refine z_ald C hs (hM 109 (by decide) (by decide)) (z_c109 E _ _ _ _) (by decide +kernel) (k := 3) (by decide +kernel) dX9_getsFolding_5 ?_
  refine lv_aload_n hx hb dX9_getsFolding_6 rfl (lv_at hl 0 rfl) ?_
  refine lv_iload_n hx hb dX9_getsFolding_7 rfl (lv_at hl 1 rfl) ?_
  refine lv_iconst (v := 0) hx hb dX9_getsFolding_8 (by decide) ?_
  obtain ⟨r1, σ1, h_1, hf⟩ := z_bds hf
  refine z_goI C hs (z_runV C hs hl.1 (cM_of l E hM h_1) zcV_RX9_146 (hM 100 (by decide) (by decide)) (z_c100 E _ _ _ _) rfl rfl rfl (by decide) (Nat.le_of_ble_eq_true rfl) dX9_getsFolding_9) (fun H locs hs => ?_)
  refine lv_icmp_ge (tgt := 23) hx hb dX9_getsFolding_12 (by decide) (fun c2 => ?_) (fun c2 => ?_)
  · have hf := z_t hf c2
    refine lv_aload_n hx hb dX9_getsFolding_23 rfl (lv_at hl 0 rfl) ?_
    refine lv_iload_n hx hb dX9_getsFolding_24 rfl (lv_at hl 1 rfl) ?_
    refine lv_iconst (v := 5) hx hb dX9_getsFolding_25 (by decide) ?_
    obtain ⟨r3, σ3, h_3, hf⟩ := z_bds hf
    refine z_goI C hs (z_runV C hs hl.1 (cM_of l E hM h_3) zcV_RX9_146 (hM 100 (by decide) (by decide)) (z_c100 E _ _ _ _) rfl rfl rfl (by decide) (Nat.le_of_ble_eq_true rfl) dX9_getsFolding_26) (fun H locs hs => ?_)
    refine lv_iconst (v := 2) hx hb dX9_getsFolding_29 (by decide) ?_
    refine lv_icmp_ne (tgt := 35) hx hb dX9_getsFolding_30 (by decide) (fun c4 => ?_) (fun c4 => ?_)
    · have hf := z_f hf c4
      refine lv_aload_n hx hb dX9_getsFolding_35 rfl (lv_at hl 0 rfl) ?_
      refine lv_iload_n hx hb dX9_getsFolding_36 rfl (lv_at hl 1 rfl) ?_
      refine lv_iconst (v := 5) hx hb dX9_getsFolding_37 (by decide) ?_
      refine lv_iconst (v := 0) hx hb dX9_getsFolding_38 (by decide) ?_
      obtain ⟨r5, σ5, h_5, hf⟩ := z_bds hf
      refine z_goV C hs (z_runV C hs hl.1 (cM_put l E hM h_5) zcV_RX9_139 (hM 100 (by decide) (by decide)) (z_c100 E _ _ _ _) rfl rfl rfl (by decide) (Nat.le_of_ble_eq_true rfl) dX9_getsFolding_39) (fun H locs hs => ?_)
      refine lv_aload_n hx hb dX9_getsFolding_42 rfl (lv_at hl 0 rfl) ?_
      refine zg_M_letter C hs (hM 100 (by decide) (by decide)) z_k968 dX9_getsFolding_43 ?_
      refine lv_iconst (v := 4) hx hb dX9_getsFolding_46 (by decide) ?_
      refine z_ald C hs (hM 109 (by decide) (by decide)) (z_c109 E _ _ _ _) (by decide +kernel) (k := 4) (by decide +kernel) dX9_getsFolding_47 ?_
      refine lv_topi (fun y6 e_y6 => ?_)
      have hf := z_lte e_y6 hf
      refine lv_istore_n (lv' := [(2, .int y6), (0, .ref (z_ad E (100, 0, 0))), (1, .int x1)]) hx hb dX9_getsFolding_48 rfl hl (by decide) rfl (fun ls hl => ?_)
      refine lv_iload_n hx hb dX9_getsFolding_49 rfl (lv_at hl 0 rfl) ?_
      refine lv_aload_n hx hb dX9_getsFolding_50 rfl (lv_at hl 1 rfl) ?_
      refine lv_iload_n hx hb dX9_getsFolding_51 rfl (lv_at hl 2 rfl) ?_
      refine lv_bipush (v := 6) hx hb dX9_getsFolding_52 (by decide) ?_
      obtain ⟨r7, σ7, h_7, hf⟩ := z_bds hf
      refine z_goI C hs (z_runV C hs hl.1 (cM_of l E hM h_7) zcV_RX9_146 (hM 100 (by decide) (by decide)) (z_c100 E _ _ _ _) rfl rfl rfl (by decide) (Nat.le_of_ble_eq_true rfl) dX9_getsFolding_54) (fun H locs hs => ?_)
      refine lv_icmp_le (tgt := 242) hx hb dX9_getsFolding_57 (by decide) (fun c8 => ?_) (fun c8 => ?_)
      · have hf := z_t hf c8
        exact wM_getsFolding_242 C hr hM x1 y6 σ7 _ _ _ hs (lv_sub hl [1, 2, 0] rfl) hf
      · have hf := z_f hf c8
        refine lv_iload_n hx hb dX9_getsFolding_60 rfl (lv_at hl 0 rfl) ?_
        refine lv_aload_n hx hb dX9_getsFolding_61 rfl (lv_at hl 1 rfl) ?_
        refine lv_iload_n hx hb dX9_getsFolding_62 rfl (lv_at hl 2 rfl) ?_
        refine lv_iconst (v := 4) hx hb dX9_getsFolding_63 (by decide) ?_
        obtain ⟨r10, σ10, h_10, hf⟩ := z_bds hf
        refine z_goI C hs (z_runV C hs hl.1 (cM_of l E hM h_10) zcV_RX9_146 (hM 100 (by decide) (by decide)) (z_c100 E _ _ _ _) rfl rfl rfl (by decide) (Nat.le_of_ble_eq_true rfl) dX9_getsFolding_64) (fun H locs hs => ?_)
        refine lv_icmp_gt (tgt := 99) hx hb dX9_getsFolding_67 (by decide) (fun c11 => ?_) (fun c11 => ?_)
        · have hf := z_t hf c11
          exact wM_getsFolding_99 C hr hM x1 y6 σ10 _ _ _ hs (lv_sub hl [1, 2, 0] rfl) hf
        · have hf := z_f hf c11
          refine lv_iload_n hx hb dX9_getsFolding_70 rfl (lv_at hl 0 rfl) ?_
          refine lv_aload_n hx hb dX9_getsFolding_71 rfl (lv_at hl 1 rfl) ?_
          refine lv_iload_n hx hb dX9_getsFolding_72 rfl (lv_at hl 2 rfl) ?_
          refine lv_iconst (v := 2) hx hb dX9_getsFolding_73 (by decide) ?_
          obtain ⟨r27, σ27, h_27, hf⟩ := z_bds hf
          refine z_goI C hs (z_runV C hs hl.1 (cM_of l E hM h_27) zcV_RX9_146 (hM 100 (by decide) (by decide)) (z_c100 E _ _ _ _) rfl rfl rfl (by decide) (Nat.le_of_ble_eq_true rfl) dX9_getsFolding_74) (fun H locs hs => ?_)
          refine lv_icmp_le (tgt := 99) hx hb dX9_getsFolding_77 (by decide) (fun c28 => ?_) (fun c28 => ?_)
          · have hf := z_t hf c28
            exact wM_getsFolding_99 C hr hM x1 y6 σ27 _ _ _ hs (lv_sub hl [1, 2, 0] rfl) hf
          · have hf := z_f hf c28
            refine lv_aload_n hx hb dX9_getsFolding_80 rfl (lv_at hl 1 rfl) ?_
            refine lv_iload_n hx hb dX9_getsFolding_81 rfl (lv_at hl 2 rfl) ?_
            refine lv_iload_n hx hb dX9_getsFolding_82 rfl (lv_at hl 0 rfl) ?_
            obtain ⟨r29, σ29, h_29, hf⟩ := z_bds hf
            refine z_goI C hs (z_runV C hs hl.1 (cM_termOf l E hM h_29) zcV_RX9_172 (hM 100 (by decide) (by decide)) (z_c100 E _ _ _ _) rfl rfl rfl (by decide) (Nat.le_of_ble_eq_true rfl) dX9_getsFolding_83) (fun H locs hs => ?_)
            refine lv_aload_n hx hb dX9_getsFolding_86 rfl (lv_at hl 1 rfl) ?_
            refine zg_M_letter C hs (hM 100 (by decide) (by decide)) z_k968 dX9_getsFolding_87 ?_
            refine lv_iconst (v := 5) hx hb dX9_getsFolding_90 (by decide) ?_
            refine z_ald C hs (hM 109 (by decide) (by decide)) (z_c109 E _ _ _ _) (by decide +kernel) (k := 5) (by decide +kernel) dX9_getsFolding_91 ?_
            refine lv_icmp_ne (tgt := 99) hx hb dX9_getsFolding_92 (by decide) (fun c30 => ?_) (fun c30 => ?_)
            · have hf := z_f hf c30
              exact wM_getsFolding_99 C hr hM x1 y6 σ29 _ _ _ hs (lv_sub hl [1, 2, 0] rfl) hf
            · have hf := z_t hf c30
              refine lv_iconst (v := 1) hx hb dX9_getsFolding_95 (by decide) ?_
              refine lv_goto (tgt := 100) hx hb dX9_getsFolding_96 (by decide) ?_
              exact wM_getsFolding_100 C hr hM x1 y6 1 σ29 _ _ _ hs (lv_sub hl [1, 2, 0] rfl) hf
    · have hf := z_t hf c4
      refine lv_iconst (v := 0) hx hb dX9_getsFolding_33 (by decide) ?_
      exact z_reti C hr hs hf dX9_getsFolding_34
  · have hf := z_f hf c2
    refine lv_aload_n hx hb dX9_getsFolding_15 rfl (lv_at hl 0 rfl) ?_
    refine lv_iload_n hx hb dX9_getsFolding_16 rfl (lv_at hl 1 rfl) ?_
    refine lv_iconst (v := 0) hx hb dX9_getsFolding_17 (by decide) ?_
    refine lv_iconst (v := 0) hx hb dX9_getsFolding_18 (by decide) ?_
    obtain ⟨r31, σ31, h_31, hf⟩ := z_bds hf
    refine z_goI C hs (z_runV C hs hl.1 (cM_answersBack l E hM h_31) zcV_RX9_229 (hM 100 (by decide) (by decide)) (z_c100 E _ _ _ _) rfl rfl rfl (by decide) (Nat.le_of_ble_eq_true rfl) dX9_getsFolding_19) (fun H locs hs => ?_)
    exact z_reti C hr hs hf dX9_getsFolding_22
set_option maxHeartbeats 4000000 in
set_option maxRecDepth 20000 in
theorem cM_getsFolding (l : Launch) (E : zE) {x1 : Int32} (hM : z_M E) {σ σo : zS} {ro : Int32} (hf : fM_getsFolding x1 σ = some (ro, σo)) : z_T l E yX9_getsFolding cX9_getsFolding 6 (some .int) (z_rm 5) (z_QI E ro σo) [.ref (z_ad E (100, 0, 0)), .int x1] σ :=
  z_enter (by decide) (Nat.le_of_ble_eq_true rfl) rfl (fun p e s m below meth c A ls C hr hs hl => wM_getsFolding C hr hM σ _ _ ls hs hl hf)
def fM_deliver_104 (x2 : Int32) (σ : zS) : Option (Int32 × zS) :=
  if (σ.1 (109, 0, 0) 0) = 0 then
    (z_bd (fM_getsAsk x2 σ) (fun r11 σ11 =>
    some (r11, σ11)))
  else
    (if (σ.1 (109, 0, 0) 0) = 1 then
      (z_bd (fM_getsBallot x2 σ) (fun r13 σ13 =>
      some (r13, σ13)))
    else
      (if (σ.1 (109, 0, 0) 0) = 2 then
        (z_bd (fM_getsAppend x2 σ) (fun r15 σ15 =>
        some (r15, σ15)))
      else
        (if (σ.1 (109, 0, 0) 0) = 3 then
          (z_bd (fM_getsAnswer x2 σ) (fun r17 σ17 =>
          some (r17, σ17)))
        else
          (z_bd (fM_getsFolding x2 σ) (fun r18 σ18 =>
          some (r18, σ18))))))
def fM_deliver_12 : Nat → Int32 → Int32 → zS → Option (Int32 × zS)
  | 0, _, _, _ => none
  | n + 1, x1, x2, σ =>
    if 64 ≤ x2 then
      (z_bd (fM_putSlot x1 0 ((-1)) σ) (fun _ σ4 =>
      z_let (σ4.1 (109, 0, 0) 2) (fun y5 =>
      z_bd (fM_of y5 9 σ4) (fun r6 σ6 =>
      if r6 = 1 then
        (some (0, σ6))
      else
        (z_bd (fM_of y5 0 σ6) (fun r8 σ8 =>
        if (σ6.1 (109, 0, 0) 3) ≤ r8 then
          (fM_deliver_104 y5 σ8)
        else
          (z_bd (fM_put y5 0 (σ8.1 (109, 0, 0) 3) σ8) (fun _ σ19 =>
          z_bd (fM_put y5 1 ((-1)) σ19) (fun _ σ20 =>
          z_bd (fM_put y5 5 0 σ20) (fun _ σ21 =>
          fM_deliver_104 y5 σ21))))))))))
    else
      (z_bd (fM_slotOf x1 x2 σ) (fun r22 σ22 =>
      if z_in x2 64 = true then (
      z_let (z_up σ22 (109, 0, 0) (x2.toNatClampNeg) r22) (fun σ24 =>
      z_let (x2 + 1) (fun y25 =>
      fM_deliver_12 n x1 y25 σ24))) else none))
def fM_deliver (x1 : Int32) (σ : zS) : Option (Int32 × zS) :=
  z_bd (fM_hasLetter x1 σ) (fun r1 σ1 =>
  if r1 = 0 then
    (some ((-1), σ1))
  else
    (fM_deliver_12 z_fu x1 0 σ1))
set_option maxHeartbeats 4000000 in
set_option maxRecDepth 20000 in
theorem wM_deliver_104 (C : z_C E RX9 cX9_deliver 3 A p s m args meth c) (hr : meth.sig.returnType = (some .int)) (hM : z_M E) {ro : Int32} {σo : zS} (x2 : Int32) (σ : zS) (H : Heap) (locs : List Loc) (ls : Array Slot) (hs : z_H E A s σ H locs) (hl : lv_has ls 3 [(0, .ref (z_ad E (100, 0, 0))), (2, .int x2)]) (hf : fM_deliver_104 x2 σ = some (ro, σo)) : W p l e (z_rm 8) s m args below meth c H locs 0 0 (MQ below (z_QI E ro σo A) args s 0 0 A) (F0 m 104 ls []) := by
  have hx := C.1
  have hb := C.2.1
  unfold fM_deliver_104 at hf
  refine lv_aload_n hx hb dX9_deliver_104 rfl (lv_at hl 0 rfl) ?_
  refine zg_M_letter C hs (hM 100 (by decide) (by decide)) z_k968 dX9_deliver_105 ?_
  refine lv_iconst (v := 0) hx hb dX9_deliver_108 (by decide) ?_
  refine z_ald C hs (hM 109 (by decide) (by decide)) (z_c109 E _ _ _ _) (by decide +kernel) (k := 0) (by decide +kernel) dX9_deliver_109 ?_
  by_cases c10 : (σ.1 (109, 0, 0) 0) = 0
  · have hf := z_t hf c10
    refine lv_tableIn (off := 30) (tgt := 140) hx hb dX9_deliver_110 (by rw [c10]; decide) (by rw [c10]; decide) (by rw [c10]; decide) (by decide) ?_
    refine lv_aload_n hx hb dX9_deliver_140 rfl (lv_at hl 0 rfl) ?_
    refine lv_iload_n hx hb dX9_deliver_141 rfl (lv_at hl 1 rfl) ?_
    obtain ⟨r11, σ11, h_11, hf⟩ := z_bds hf
    refine z_goI C hs (z_runV C hs hl.1 (cM_getsAsk l E hM h_11) zcV_RX9_214 (hM 100 (by decide) (by decide)) (z_c100 E _ _ _ _) rfl rfl rfl (by decide) (Nat.le_of_ble_eq_true rfl) dX9_deliver_142) (fun H locs hs => ?_)
    exact z_reti C hr hs hf dX9_deliver_145
  · have hf := z_f hf c10
    by_cases c12 : (σ.1 (109, 0, 0) 0) = 1
    · have hf := z_t hf c12
      refine lv_tableIn (off := 36) (tgt := 146) hx hb dX9_deliver_110 (by rw [c12]; decide) (by rw [c12]; decide) (by rw [c12]; decide) (by decide) ?_
      refine lv_aload_n hx hb dX9_deliver_146 rfl (lv_at hl 0 rfl) ?_
      refine lv_iload_n hx hb dX9_deliver_147 rfl (lv_at hl 1 rfl) ?_
      obtain ⟨r13, σ13, h_13, hf⟩ := z_bds hf
      refine z_goI C hs (z_runV C hs hl.1 (cM_getsBallot l E hM h_13) zcV_RX9_217 (hM 100 (by decide) (by decide)) (z_c100 E _ _ _ _) rfl rfl rfl (by decide) (Nat.le_of_ble_eq_true rfl) dX9_deliver_148) (fun H locs hs => ?_)
      exact z_reti C hr hs hf dX9_deliver_151
    · have hf := z_f hf c12
      by_cases c14 : (σ.1 (109, 0, 0) 0) = 2
      · have hf := z_t hf c14
        refine lv_tableIn (off := 42) (tgt := 152) hx hb dX9_deliver_110 (by rw [c14]; decide) (by rw [c14]; decide) (by rw [c14]; decide) (by decide) ?_
        refine lv_aload_n hx hb dX9_deliver_152 rfl (lv_at hl 0 rfl) ?_
        refine lv_iload_n hx hb dX9_deliver_153 rfl (lv_at hl 1 rfl) ?_
        obtain ⟨r15, σ15, h_15, hf⟩ := z_bds hf
        refine z_goI C hs (z_runV C hs hl.1 (cM_getsAppend l E hM h_15) zcV_RX9_220 (hM 100 (by decide) (by decide)) (z_c100 E _ _ _ _) rfl rfl rfl (by decide) (Nat.le_of_ble_eq_true rfl) dX9_deliver_154) (fun H locs hs => ?_)
        exact z_reti C hr hs hf dX9_deliver_157
      · have hf := z_f hf c14
        by_cases c16 : (σ.1 (109, 0, 0) 0) = 3
        · have hf := z_t hf c16
          refine lv_tableIn (off := 48) (tgt := 158) hx hb dX9_deliver_110 (by rw [c16]; decide) (by rw [c16]; decide) (by rw [c16]; decide) (by decide) ?_
          refine lv_aload_n hx hb dX9_deliver_158 rfl (lv_at hl 0 rfl) ?_
          refine lv_iload_n hx hb dX9_deliver_159 rfl (lv_at hl 1 rfl) ?_
          obtain ⟨r17, σ17, h_17, hf⟩ := z_bds hf
          refine z_goI C hs (z_runV C hs hl.1 (cM_getsAnswer l E hM h_17) zcV_RX9_223 (hM 100 (by decide) (by decide)) (z_c100 E _ _ _ _) rfl rfl rfl (by decide) (Nat.le_of_ble_eq_true rfl) dX9_deliver_160) (fun H locs hs => ?_)
          exact z_reti C hr hs hf dX9_deliver_163
        · have hf := z_f hf c16
          have hq : ((σ.1 (109, 0, 0) 0)).toInt < 0 ∨ 3 < ((σ.1 (109, 0, 0) 0)).toInt := by
            have q0 := z_ne (k := 0) (n := 0) (by decide +kernel) c10
            have q1 := z_ne (k := 1) (n := 1) (by decide +kernel) c12
            have q2 := z_ne (k := 2) (n := 2) (by decide +kernel) c14
            have q3 := z_ne (k := 3) (n := 3) (by decide +kernel) c16
            omega
          refine lv_tableOut (tgt := 164) hx hb dX9_deliver_110 hq (by decide) ?_
          refine lv_aload_n hx hb dX9_deliver_164 rfl (lv_at hl 0 rfl) ?_
          refine lv_iload_n hx hb dX9_deliver_165 rfl (lv_at hl 1 rfl) ?_
          obtain ⟨r18, σ18, h_18, hf⟩ := z_bds hf
          refine z_goI C hs (z_runV C hs hl.1 (cM_getsFolding l E hM h_18) zcV_RX9_226 (hM 100 (by decide) (by decide)) (z_c100 E _ _ _ _) rfl rfl rfl (by decide) (Nat.le_of_ble_eq_true rfl) dX9_deliver_166) (fun H locs hs => ?_)
          exact z_reti C hr hs hf dX9_deliver_169
set_option maxHeartbeats 4000000 in
set_option maxRecDepth 20000 in
theorem wM_deliver_12 (C : z_C E RX9 cX9_deliver 3 A p s m args meth c) (hr : meth.sig.returnType = (some .int)) (hM : z_M E) {ro : Int32} {σo : zS} (n : Nat) : ∀ (x1 : Int32) (x2 : Int32) (σ : zS) (H : Heap) (locs : List Loc) (ls : Array Slot), z_H E A s σ H locs → lv_has ls 3 [(0, .ref (z_ad E (100, 0, 0))), (1, .int x1), (2, .int x2)] → fM_deliver_12 n x1 x2 σ = some (ro, σo) → W p l e (z_rm 8) s m args below meth c H locs 0 0 (MQ below (z_QI E ro σo A) args s 0 0 A) (F0 m 12 ls []) := by
  induction n with
  | zero =>
    intro x1 x2 σ H locs ls hs hl hf
    have hf : none = some (ro, σo) := hf
    cases hf
  | succ n ih =>
    intro x1 x2 σ H locs ls hs hl hf
    have hx := C.1
    have hb := C.2.1
    rw [fM_deliver_12.eq_2] at hf
    refine lv_iload_n hx hb dX9_deliver_12 rfl (lv_at hl 2 rfl) ?_
    refine lv_bipush (v := 64) hx hb dX9_deliver_13 (by decide) ?_
    refine lv_icmp_ge (tgt := 36) hx hb dX9_deliver_15 (by decide) (fun c3 => ?_) (fun c3 => ?_)
    · have hf := z_t hf c3
      refine lv_aload_n hx hb dX9_deliver_36 rfl (lv_at hl 0 rfl) ?_
      refine lv_iload_n hx hb dX9_deliver_37 rfl (lv_at hl 1 rfl) ?_
      refine lv_iconst (v := 0) hx hb dX9_deliver_38 (by decide) ?_
      refine lv_iconst (v := (-1)) hx hb dX9_deliver_39 (by decide) ?_
      obtain ⟨r4, σ4, h_4, hf⟩ := z_bds hf
      refine z_goV C hs (z_runV C hs hl.1 (cM_putSlot l E hM h_4) zcV_RX9_192 (hM 100 (by decide) (by decide)) (z_c100 E _ _ _ _) rfl rfl rfl (by decide) (Nat.le_of_ble_eq_true rfl) dX9_deliver_40) (fun H locs hs => ?_)
      refine lv_aload_n hx hb dX9_deliver_43 rfl (lv_at hl 0 rfl) ?_
      refine zg_M_letter C hs (hM 100 (by decide) (by decide)) z_k968 dX9_deliver_44 ?_
      refine lv_iconst (v := 2) hx hb dX9_deliver_47 (by decide) ?_
      refine z_ald C hs (hM 109 (by decide) (by decide)) (z_c109 E _ _ _ _) (by decide +kernel) (k := 2) (by decide +kernel) dX9_deliver_48 ?_
      refine lv_topi (fun y5 e_y5 => ?_)
      have hf := z_lte e_y5 hf
      refine lv_istore_n (lv' := [(2, .int y5), (0, .ref (z_ad E (100, 0, 0))), (1, .int x1)]) hx hb dX9_deliver_49 rfl hl (by decide) rfl (fun ls hl => ?_)
      refine lv_aload_n hx hb dX9_deliver_50 rfl (lv_at hl 1 rfl) ?_
      refine lv_iload_n hx hb dX9_deliver_51 rfl (lv_at hl 0 rfl) ?_
      refine lv_bipush (v := 9) hx hb dX9_deliver_52 (by decide) ?_
      obtain ⟨r6, σ6, h_6, hf⟩ := z_bds hf
      refine z_goI C hs (z_runV C hs hl.1 (cM_of l E hM h_6) zcV_RX9_146 (hM 100 (by decide) (by decide)) (z_c100 E _ _ _ _) rfl rfl rfl (by decide) (Nat.le_of_ble_eq_true rfl) dX9_deliver_54) (fun H locs hs => ?_)
      refine lv_iconst (v := 1) hx hb dX9_deliver_57 (by decide) ?_
      refine lv_icmp_ne (tgt := 63) hx hb dX9_deliver_58 (by decide) (fun c7 => ?_) (fun c7 => ?_)
      · have hf := z_f hf c7
        refine lv_aload_n hx hb dX9_deliver_63 rfl (lv_at hl 1 rfl) ?_
        refine zg_M_letter C hs (hM 100 (by decide) (by decide)) z_k968 dX9_deliver_64 ?_
        refine lv_iconst (v := 3) hx hb dX9_deliver_67 (by decide) ?_
        refine z_ald C hs (hM 109 (by decide) (by decide)) (z_c109 E _ _ _ _) (by decide +kernel) (k := 3) (by decide +kernel) dX9_deliver_68 ?_
        refine lv_aload_n hx hb dX9_deliver_69 rfl (lv_at hl 1 rfl) ?_
        refine lv_iload_n hx hb dX9_deliver_70 rfl (lv_at hl 0 rfl) ?_
        refine lv_iconst (v := 0) hx hb dX9_deliver_71 (by decide) ?_
        obtain ⟨r8, σ8, h_8, hf⟩ := z_bds hf
        refine z_goI C hs (z_runV C hs hl.1 (cM_of l E hM h_8) zcV_RX9_146 (hM 100 (by decide) (by decide)) (z_c100 E _ _ _ _) rfl rfl rfl (by decide) (Nat.le_of_ble_eq_true rfl) dX9_deliver_72) (fun H locs hs => ?_)
        refine lv_icmp_le (tgt := 104) hx hb dX9_deliver_75 (by decide) (fun c9 => ?_) (fun c9 => ?_)
        · have hf := z_t hf c9
          exact wM_deliver_104 C hr hM y5 σ8 _ _ _ hs (lv_sub hl [1, 0] rfl) hf
        · have hf := z_f hf c9
          refine lv_aload_n hx hb dX9_deliver_78 rfl (lv_at hl 1 rfl) ?_
          refine lv_iload_n hx hb dX9_deliver_79 rfl (lv_at hl 0 rfl) ?_
          refine lv_iconst (v := 0) hx hb dX9_deliver_80 (by decide) ?_
          refine lv_aload_n hx hb dX9_deliver_81 rfl (lv_at hl 1 rfl) ?_
          refine zg_M_letter C hs (hM 100 (by decide) (by decide)) z_k968 dX9_deliver_82 ?_
          refine lv_iconst (v := 3) hx hb dX9_deliver_85 (by decide) ?_
          refine z_ald C hs (hM 109 (by decide) (by decide)) (z_c109 E _ _ _ _) (by decide +kernel) (k := 3) (by decide +kernel) dX9_deliver_86 ?_
          obtain ⟨r19, σ19, h_19, hf⟩ := z_bds hf
          refine z_goV C hs (z_runV C hs hl.1 (cM_put l E hM h_19) zcV_RX9_139 (hM 100 (by decide) (by decide)) (z_c100 E _ _ _ _) rfl rfl rfl (by decide) (Nat.le_of_ble_eq_true rfl) dX9_deliver_87) (fun H locs hs => ?_)
          refine lv_aload_n hx hb dX9_deliver_90 rfl (lv_at hl 1 rfl) ?_
          refine lv_iload_n hx hb dX9_deliver_91 rfl (lv_at hl 0 rfl) ?_
          refine lv_iconst (v := 1) hx hb dX9_deliver_92 (by decide) ?_
          refine lv_iconst (v := (-1)) hx hb dX9_deliver_93 (by decide) ?_
          obtain ⟨r20, σ20, h_20, hf⟩ := z_bds hf
          refine z_goV C hs (z_runV C hs hl.1 (cM_put l E hM h_20) zcV_RX9_139 (hM 100 (by decide) (by decide)) (z_c100 E _ _ _ _) rfl rfl rfl (by decide) (Nat.le_of_ble_eq_true rfl) dX9_deliver_94) (fun H locs hs => ?_)
          refine lv_aload_n hx hb dX9_deliver_97 rfl (lv_at hl 1 rfl) ?_
          refine lv_iload_n hx hb dX9_deliver_98 rfl (lv_at hl 0 rfl) ?_
          refine lv_iconst (v := 5) hx hb dX9_deliver_99 (by decide) ?_
          refine lv_iconst (v := 0) hx hb dX9_deliver_100 (by decide) ?_
          obtain ⟨r21, σ21, h_21, hf⟩ := z_bds hf
          refine z_goV C hs (z_runV C hs hl.1 (cM_put l E hM h_21) zcV_RX9_139 (hM 100 (by decide) (by decide)) (z_c100 E _ _ _ _) rfl rfl rfl (by decide) (Nat.le_of_ble_eq_true rfl) dX9_deliver_101) (fun H locs hs => ?_)
          exact wM_deliver_104 C hr hM y5 σ21 _ _ _ hs (lv_sub hl [1, 0] rfl) hf
      · have hf := z_t hf c7
        refine lv_iconst (v := 0) hx hb dX9_deliver_61 (by decide) ?_
        exact z_reti C hr hs hf dX9_deliver_62
    · have hf := z_f hf c3
      refine lv_aload_n hx hb dX9_deliver_18 rfl (lv_at hl 0 rfl) ?_
      refine zg_M_letter C hs (hM 100 (by decide) (by decide)) z_k968 dX9_deliver_19 ?_
      refine lv_iload_n hx hb dX9_deliver_22 rfl (lv_at hl 2 rfl) ?_
      refine lv_aload_n hx hb dX9_deliver_23 rfl (lv_at hl 0 rfl) ?_
      refine lv_iload_n hx hb dX9_deliver_24 rfl (lv_at hl 1 rfl) ?_
      refine lv_iload_n hx hb dX9_deliver_25 rfl (lv_at hl 2 rfl) ?_
      obtain ⟨r22, σ22, h_22, hf⟩ := z_bds hf
      refine z_goI C hs (z_runV C hs hl.1 (cM_slotOf l E hM h_22) zcV_RX9_186 (hM 100 (by decide) (by decide)) (z_c100 E _ _ _ _) rfl rfl rfl (by decide) (Nat.le_of_ble_eq_true rfl) dX9_deliver_26) (fun H locs hs => ?_)
      obtain ⟨g23, hf⟩ := z_gd hf
      refine z_ast C hs (hM 109 (by decide) (by decide)) (fun r h => z_c109 E r h _ _) g23 rfl dX9_deliver_29 (fun H locs hs => ?_)
      obtain ⟨σ24, -, hs, hf⟩ := z_top hs hf
      obtain ⟨y25, e_y25⟩ : ∃ y : Int32, y = x2 + 1 := ⟨_, rfl⟩
      have hf := z_lte e_y25 hf
      refine lv_iinc (v := y25) (lv' := [(2, .int y25), (0, .ref (z_ad E (100, 0, 0))), (1, .int x1)]) hx hb dX9_deliver_30 hl (k := 2) rfl (by rw [e_y25]; rfl) (by decide) rfl (fun ls hl => ?_)
      refine lv_goto (tgt := 12) hx hb dX9_deliver_33 (by decide) ?_
      exact ih x1 y25 σ24 _ _ _ hs (lv_sub hl [1, 2, 0] rfl) hf
set_option maxHeartbeats 4000000 in
set_option maxRecDepth 20000 in
theorem wM_deliver {x1 : Int32} (C : z_C E RX9 cX9_deliver 3 A p s m args meth c) (hr : meth.sig.returnType = (some .int)) (hM : z_M E) {ro : Int32} {σo : zS} (σ : zS) (H : Heap) (locs : List Loc) (ls : Array Slot) (hs : z_H E A s σ H locs) (hl : lv_has ls 3 [(0, .ref (z_ad E (100, 0, 0))), (1, .int x1)]) (hf : fM_deliver x1 σ = some (ro, σo)) : W p l e (z_rm 8) s m args below meth c H locs 0 0 (MQ below (z_QI E ro σo A) args s 0 0 A) (F0 m 0 ls []) := by
  have hx := C.1
  have hb := C.2.1
  unfold fM_deliver at hf
  refine lv_aload_n hx hb dX9_deliver_0 rfl (lv_at hl 0 rfl) ?_
  refine lv_iload_n hx hb dX9_deliver_1 rfl (lv_at hl 1 rfl) ?_
  obtain ⟨r1, σ1, h_1, hf⟩ := z_bds hf
  refine z_goI C hs (z_runV C hs hl.1 (cM_hasLetter l E hM h_1) zcV_RX9_211 (hM 100 (by decide) (by decide)) (z_c100 E _ _ _ _) rfl rfl rfl (by decide) (Nat.le_of_ble_eq_true rfl) dX9_deliver_2) (fun H locs hs => ?_)
  refine lv_if_ne (tgt := 10) hx hb dX9_deliver_5 (by decide) (fun c2 => ?_) (fun c2 => ?_)
  · have hf := z_f hf c2
    refine lv_iconst (v := 0) hx hb dX9_deliver_10 (by decide) ?_
    refine lv_istore_n (lv' := [(2, .int 0), (0, .ref (z_ad E (100, 0, 0))), (1, .int x1)]) hx hb dX9_deliver_11 rfl hl (by decide) rfl (fun ls hl => ?_)
    exact wM_deliver_12 C hr hM z_fu x1 0 σ1 _ _ _ hs (lv_sub hl [1, 2, 0] rfl) hf
  · have hf := z_t hf c2
    refine lv_iconst (v := (-1)) hx hb dX9_deliver_8 (by decide) ?_
    exact z_reti C hr hs hf dX9_deliver_9
set_option maxHeartbeats 4000000 in
set_option maxRecDepth 20000 in
theorem cM_deliver (l : Launch) (E : zE) {x1 : Int32} (hM : z_M E) {σ σo : zS} {ro : Int32} (hf : fM_deliver x1 σ = some (ro, σo)) : z_T l E yX9_deliver cX9_deliver 3 (some .int) (z_rm 8) (z_QI E ro σo) [.ref (z_ad E (100, 0, 0)), .int x1] σ :=
  z_enter (by decide) (Nat.le_of_ble_eq_true rfl) rfl (fun p e s m below meth c A ls C hr hs hl => wM_deliver C hr hM σ _ _ ls hs hl hf)
def fM_drop (x1 : Int32) (σ : zS) : Option (Int32 × zS) :=
  z_bd (fM_hasLetter x1 σ) (fun r1 σ1 =>
  if r1 = 0 then
    (some ((-1), σ1))
  else
    (z_bd (fM_slotOf x1 0 σ1) (fun r3 σ3 =>
    z_bd (fM_putSlot x1 0 ((-1)) σ3) (fun _ σ4 =>
    some (r3, σ4)))))
set_option maxHeartbeats 4000000 in
set_option maxRecDepth 20000 in
theorem wM_drop {x1 : Int32} (C : z_C E RX9 cX9_drop 3 A p s m args meth c) (hr : meth.sig.returnType = (some .int)) (hM : z_M E) {ro : Int32} {σo : zS} (σ : zS) (H : Heap) (locs : List Loc) (ls : Array Slot) (hs : z_H E A s σ H locs) (hl : lv_has ls 3 [(0, .ref (z_ad E (100, 0, 0))), (1, .int x1)]) (hf : fM_drop x1 σ = some (ro, σo)) : W p l e (z_rm 3) s m args below meth c H locs 0 0 (MQ below (z_QI E ro σo A) args s 0 0 A) (F0 m 0 ls []) := by
  have hx := C.1
  have hb := C.2.1
  unfold fM_drop at hf
  refine lv_aload_n hx hb dX9_drop_0 rfl (lv_at hl 0 rfl) ?_
  refine lv_iload_n hx hb dX9_drop_1 rfl (lv_at hl 1 rfl) ?_
  obtain ⟨r1, σ1, h_1, hf⟩ := z_bds hf
  refine z_goI C hs (z_runV C hs hl.1 (cM_hasLetter l E hM h_1) zcV_RX9_211 (hM 100 (by decide) (by decide)) (z_c100 E _ _ _ _) rfl rfl rfl (by decide) (Nat.le_of_ble_eq_true rfl) dX9_drop_2) (fun H locs hs => ?_)
  refine lv_if_ne (tgt := 10) hx hb dX9_drop_5 (by decide) (fun c2 => ?_) (fun c2 => ?_)
  · have hf := z_f hf c2
    refine lv_aload_n hx hb dX9_drop_10 rfl (lv_at hl 0 rfl) ?_
    refine lv_iload_n hx hb dX9_drop_11 rfl (lv_at hl 1 rfl) ?_
    refine lv_iconst (v := 0) hx hb dX9_drop_12 (by decide) ?_
    obtain ⟨r3, σ3, h_3, hf⟩ := z_bds hf
    refine z_goI C hs (z_runV C hs hl.1 (cM_slotOf l E hM h_3) zcV_RX9_186 (hM 100 (by decide) (by decide)) (z_c100 E _ _ _ _) rfl rfl rfl (by decide) (Nat.le_of_ble_eq_true rfl) dX9_drop_13) (fun H locs hs => ?_)
    refine lv_istore_n (lv' := [(2, .int r3), (0, .ref (z_ad E (100, 0, 0))), (1, .int x1)]) hx hb dX9_drop_16 rfl hl (by decide) rfl (fun ls hl => ?_)
    refine lv_aload_n hx hb dX9_drop_17 rfl (lv_at hl 1 rfl) ?_
    refine lv_iload_n hx hb dX9_drop_18 rfl (lv_at hl 2 rfl) ?_
    refine lv_iconst (v := 0) hx hb dX9_drop_19 (by decide) ?_
    refine lv_iconst (v := (-1)) hx hb dX9_drop_20 (by decide) ?_
    obtain ⟨r4, σ4, h_4, hf⟩ := z_bds hf
    refine z_goV C hs (z_runV C hs hl.1 (cM_putSlot l E hM h_4) zcV_RX9_192 (hM 100 (by decide) (by decide)) (z_c100 E _ _ _ _) rfl rfl rfl (by decide) (Nat.le_of_ble_eq_true rfl) dX9_drop_21) (fun H locs hs => ?_)
    refine lv_iload_n hx hb dX9_drop_24 rfl (lv_at hl 0 rfl) ?_
    exact z_reti C hr hs hf dX9_drop_25
  · have hf := z_t hf c2
    refine lv_iconst (v := (-1)) hx hb dX9_drop_8 (by decide) ?_
    exact z_reti C hr hs hf dX9_drop_9
set_option maxHeartbeats 4000000 in
set_option maxRecDepth 20000 in
theorem cM_drop (l : Launch) (E : zE) {x1 : Int32} (hM : z_M E) {σ σo : zS} {ro : Int32} (hf : fM_drop x1 σ = some (ro, σo)) : z_T l E yX9_drop cX9_drop 3 (some .int) (z_rm 3) (z_QI E ro σo) [.ref (z_ad E (100, 0, 0)), .int x1] σ :=
  z_enter (by decide) (Nat.le_of_ble_eq_true rfl) rfl (fun p e s m below meth c A ls C hr hs hl => wM_drop C hr hM σ _ _ ls hs hl hf)
def fM_twice (x1 : Int32) (σ : zS) : Option (Int32 × zS) :=
  z_bd (fM_hasLetter x1 σ) (fun r1 σ1 =>
  if r1 = 0 then
    (some ((-1), σ1))
  else
    (z_bd (fM_empty σ1) (fun r3 σ3 =>
    if 0 ≤ r3 then
      (z_bd (fM_empty σ3) (fun r5 σ5 =>
      z_bd (fM_copy (2240 + (64 * x1)) (2240 + (64 * r5)) 64 σ5) (fun _ σ6 =>
      some (r5, σ6))))
    else
      (some ((-1), σ3)))))
set_option maxHeartbeats 4000000 in
set_option maxRecDepth 20000 in
theorem wM_twice {x1 : Int32} (C : z_C E RX9 cX9_twice 3 A p s m args meth c) (hr : meth.sig.returnType = (some .int)) (hM : z_M E) {ro : Int32} {σo : zS} (σ : zS) (H : Heap) (locs : List Loc) (ls : Array Slot) (hs : z_H E A s σ H locs) (hl : lv_has ls 3 [(0, .ref (z_ad E (100, 0, 0))), (1, .int x1)]) (hf : fM_twice x1 σ = some (ro, σo)) : W p l e (z_rm 3) s m args below meth c H locs 0 0 (MQ below (z_QI E ro σo A) args s 0 0 A) (F0 m 0 ls []) := by
  have hx := C.1
  have hb := C.2.1
  unfold fM_twice at hf
  refine lv_aload_n hx hb dX9_twice_0 rfl (lv_at hl 0 rfl) ?_
  refine lv_iload_n hx hb dX9_twice_1 rfl (lv_at hl 1 rfl) ?_
  obtain ⟨r1, σ1, h_1, hf⟩ := z_bds hf
  refine z_goI C hs (z_runV C hs hl.1 (cM_hasLetter l E hM h_1) zcV_RX9_211 (hM 100 (by decide) (by decide)) (z_c100 E _ _ _ _) rfl rfl rfl (by decide) (Nat.le_of_ble_eq_true rfl) dX9_twice_2) (fun H locs hs => ?_)
  refine lv_if_eq (tgt := 15) hx hb dX9_twice_5 (by decide) (fun c2 => ?_) (fun c2 => ?_)
  · have hf := z_t hf c2
    refine lv_iconst (v := (-1)) hx hb dX9_twice_15 (by decide) ?_
    exact z_reti C hr hs hf dX9_twice_16
  · have hf := z_f hf c2
    refine lv_aload_n hx hb dX9_twice_8 rfl (lv_at hl 0 rfl) ?_
    obtain ⟨r3, σ3, h_3, hf⟩ := z_bds hf
    refine z_goI C hs (z_runV C hs hl.1 (cM_empty l E hM h_3) zcV_RX9_189 (hM 100 (by decide) (by decide)) (z_c100 E _ _ _ _) rfl rfl rfl (by decide) (Nat.le_of_ble_eq_true rfl) dX9_twice_9) (fun H locs hs => ?_)
    refine lv_if_ge (tgt := 17) hx hb dX9_twice_12 (by decide) (fun c4 => ?_) (fun c4 => ?_)
    · have hf := z_t hf c4
      refine lv_aload_n hx hb dX9_twice_17 rfl (lv_at hl 0 rfl) ?_
      obtain ⟨r5, σ5, h_5, hf⟩ := z_bds hf
      refine z_goI C hs (z_runV C hs hl.1 (cM_empty l E hM h_5) zcV_RX9_189 (hM 100 (by decide) (by decide)) (z_c100 E _ _ _ _) rfl rfl rfl (by decide) (Nat.le_of_ble_eq_true rfl) dX9_twice_18) (fun H locs hs => ?_)
      refine lv_istore_n (lv' := [(2, .int r5), (0, .ref (z_ad E (100, 0, 0))), (1, .int x1)]) hx hb dX9_twice_21 rfl hl (by decide) rfl (fun ls hl => ?_)
      refine lv_aload_n hx hb dX9_twice_22 rfl (lv_at hl 1 rfl) ?_
      refine lv_sipush (v := 2240) hx hb dX9_twice_23 (by decide) ?_
      refine lv_bipush (v := 64) hx hb dX9_twice_26 (by decide) ?_
      refine lv_iload_n hx hb dX9_twice_28 rfl (lv_at hl 2 rfl) ?_
      refine lv_imul hx hb dX9_twice_29 ?_
      refine lv_iadd hx hb dX9_twice_30 ?_
      refine lv_sipush (v := 2240) hx hb dX9_twice_31 (by decide) ?_
      refine lv_bipush (v := 64) hx hb dX9_twice_34 (by decide) ?_
      refine lv_iload_n hx hb dX9_twice_36 rfl (lv_at hl 0 rfl) ?_
      refine lv_imul hx hb dX9_twice_37 ?_
      refine lv_iadd hx hb dX9_twice_38 ?_
      refine lv_bipush (v := 64) hx hb dX9_twice_39 (by decide) ?_
      obtain ⟨r6, σ6, h_6, hf⟩ := z_bds hf
      refine z_goV C hs (z_runV C hs hl.1 (cM_copy l E hM h_6) zcV_RX9_208 (hM 100 (by decide) (by decide)) (z_c100 E _ _ _ _) rfl rfl rfl (by decide) (Nat.le_of_ble_eq_true rfl) dX9_twice_41) (fun H locs hs => ?_)
      refine lv_iload_n hx hb dX9_twice_44 rfl (lv_at hl 0 rfl) ?_
      exact z_reti C hr hs hf dX9_twice_45
    · have hf := z_f hf c4
      refine lv_iconst (v := (-1)) hx hb dX9_twice_15 (by decide) ?_
      exact z_reti C hr hs hf dX9_twice_16
set_option maxHeartbeats 4000000 in
set_option maxRecDepth 20000 in
theorem cM_twice (l : Launch) (E : zE) {x1 : Int32} (hM : z_M E) {σ σo : zS} {ro : Int32} (hf : fM_twice x1 σ = some (ro, σo)) : z_T l E yX9_twice cX9_twice 3 (some .int) (z_rm 3) (z_QI E ro σo) [.ref (z_ad E (100, 0, 0)), .int x1] σ :=
  z_enter (by decide) (Nat.le_of_ble_eq_true rfl) rfl (fun p e s m below meth c A ls C hr hs hl => wM_twice C hr hM σ _ _ ls hs hl hf)
def fM_fall (x1 : Int32) (σ : zS) : Option (Int32 × zS) :=
  z_bd (fM_isUp x1 σ) (fun r1 σ1 =>
  if r1 = 0 then
    (some (0, σ1))
  else
    (z_bd (fM_put x1 9 1 σ1) (fun _ σ3 =>
    z_bd (fM_put x1 5 0 σ3) (fun _ σ4 =>
    z_bd (fM_of x1 2 σ4) (fun r5 σ5 =>
    z_bd (fM_put x1 6 r5 σ5) (fun _ σ6 =>
    z_bd (fM_copy ((320 * x1) + 10) ((320 * x1) + 30) 20 σ6) (fun _ σ7 =>
    some (1, σ7))))))))
set_option maxHeartbeats 4000000 in
set_option maxRecDepth 20000 in
theorem wM_fall {x1 : Int32} (C : z_C E RX9 cX9_fall 2 A p s m args meth c) (hr : meth.sig.returnType = (some .boolean)) (hM : z_M E) {ro : Int32} {σo : zS} (σ : zS) (H : Heap) (locs : List Loc) (ls : Array Slot) (hs : z_H E A s σ H locs) (hl : lv_has ls 2 [(0, .ref (z_ad E (100, 0, 0))), (1, .int x1)]) (hf : fM_fall x1 σ = some (ro, σo)) : W p l e (z_rm 4) s m args below meth c H locs 0 0 (MQ below (z_QI E ro σo A) args s 0 0 A) (F0 m 0 ls []) := by
  have hx := C.1
  have hb := C.2.1
  unfold fM_fall at hf
  refine lv_aload_n hx hb dX9_fall_0 rfl (lv_at hl 0 rfl) ?_
  refine lv_iload_n hx hb dX9_fall_1 rfl (lv_at hl 1 rfl) ?_
  obtain ⟨r1, σ1, h_1, hf⟩ := z_bds hf
  refine z_goI C hs (z_runV C hs hl.1 (cM_isUp l E hM h_1) zcV_RX9_150 (hM 100 (by decide) (by decide)) (z_c100 E _ _ _ _) rfl rfl rfl (by decide) (Nat.le_of_ble_eq_true rfl) dX9_fall_2) (fun H locs hs => ?_)
  refine lv_if_ne (tgt := 10) hx hb dX9_fall_5 (by decide) (fun c2 => ?_) (fun c2 => ?_)
  · have hf := z_f hf c2
    refine lv_aload_n hx hb dX9_fall_10 rfl (lv_at hl 0 rfl) ?_
    refine lv_iload_n hx hb dX9_fall_11 rfl (lv_at hl 1 rfl) ?_
    refine lv_bipush (v := 9) hx hb dX9_fall_12 (by decide) ?_
    refine lv_iconst (v := 1) hx hb dX9_fall_14 (by decide) ?_
    obtain ⟨r3, σ3, h_3, hf⟩ := z_bds hf
    refine z_goV C hs (z_runV C hs hl.1 (cM_put l E hM h_3) zcV_RX9_139 (hM 100 (by decide) (by decide)) (z_c100 E _ _ _ _) rfl rfl rfl (by decide) (Nat.le_of_ble_eq_true rfl) dX9_fall_15) (fun H locs hs => ?_)
    refine lv_aload_n hx hb dX9_fall_18 rfl (lv_at hl 0 rfl) ?_
    refine lv_iload_n hx hb dX9_fall_19 rfl (lv_at hl 1 rfl) ?_
    refine lv_iconst (v := 5) hx hb dX9_fall_20 (by decide) ?_
    refine lv_iconst (v := 0) hx hb dX9_fall_21 (by decide) ?_
    obtain ⟨r4, σ4, h_4, hf⟩ := z_bds hf
    refine z_goV C hs (z_runV C hs hl.1 (cM_put l E hM h_4) zcV_RX9_139 (hM 100 (by decide) (by decide)) (z_c100 E _ _ _ _) rfl rfl rfl (by decide) (Nat.le_of_ble_eq_true rfl) dX9_fall_22) (fun H locs hs => ?_)
    refine lv_aload_n hx hb dX9_fall_25 rfl (lv_at hl 0 rfl) ?_
    refine lv_iload_n hx hb dX9_fall_26 rfl (lv_at hl 1 rfl) ?_
    refine lv_bipush (v := 6) hx hb dX9_fall_27 (by decide) ?_
    refine lv_aload_n hx hb dX9_fall_29 rfl (lv_at hl 0 rfl) ?_
    refine lv_iload_n hx hb dX9_fall_30 rfl (lv_at hl 1 rfl) ?_
    refine lv_iconst (v := 2) hx hb dX9_fall_31 (by decide) ?_
    obtain ⟨r5, σ5, h_5, hf⟩ := z_bds hf
    refine z_goI C hs (z_runV C hs hl.1 (cM_of l E hM h_5) zcV_RX9_146 (hM 100 (by decide) (by decide)) (z_c100 E _ _ _ _) rfl rfl rfl (by decide) (Nat.le_of_ble_eq_true rfl) dX9_fall_32) (fun H locs hs => ?_)
    obtain ⟨r6, σ6, h_6, hf⟩ := z_bds hf
    refine z_goV C hs (z_runV C hs hl.1 (cM_put l E hM h_6) zcV_RX9_139 (hM 100 (by decide) (by decide)) (z_c100 E _ _ _ _) rfl rfl rfl (by decide) (Nat.le_of_ble_eq_true rfl) dX9_fall_35) (fun H locs hs => ?_)
    refine lv_aload_n hx hb dX9_fall_38 rfl (lv_at hl 0 rfl) ?_
    refine lv_sipush (v := 320) hx hb dX9_fall_39 (by decide) ?_
    refine lv_iload_n hx hb dX9_fall_42 rfl (lv_at hl 1 rfl) ?_
    refine lv_imul hx hb dX9_fall_43 ?_
    refine lv_bipush (v := 10) hx hb dX9_fall_44 (by decide) ?_
    refine lv_iadd hx hb dX9_fall_46 ?_
    refine lv_sipush (v := 320) hx hb dX9_fall_47 (by decide) ?_
    refine lv_iload_n hx hb dX9_fall_50 rfl (lv_at hl 1 rfl) ?_
    refine lv_imul hx hb dX9_fall_51 ?_
    refine lv_bipush (v := 30) hx hb dX9_fall_52 (by decide) ?_
    refine lv_iadd hx hb dX9_fall_54 ?_
    refine lv_bipush (v := 20) hx hb dX9_fall_55 (by decide) ?_
    obtain ⟨r7, σ7, h_7, hf⟩ := z_bds hf
    refine z_goV C hs (z_runV C hs hl.1 (cM_copy l E hM h_7) zcV_RX9_208 (hM 100 (by decide) (by decide)) (z_c100 E _ _ _ _) rfl rfl rfl (by decide) (Nat.le_of_ble_eq_true rfl) dX9_fall_57) (fun H locs hs => ?_)
    refine lv_iconst (v := 1) hx hb dX9_fall_60 (by decide) ?_
    exact z_retz C hr hs (by decide +kernel) hf dX9_fall_61
  · have hf := z_t hf c2
    refine lv_iconst (v := 0) hx hb dX9_fall_8 (by decide) ?_
    exact z_retz C hr hs (by decide +kernel) hf dX9_fall_9
set_option maxHeartbeats 4000000 in
set_option maxRecDepth 20000 in
theorem cM_fall (l : Launch) (E : zE) {x1 : Int32} (hM : z_M E) {σ σo : zS} {ro : Int32} (hf : fM_fall x1 σ = some (ro, σo)) : z_T l E yX9_fall cX9_fall 2 (some .boolean) (z_rm 4) (z_QI E ro σo) [.ref (z_ad E (100, 0, 0)), .int x1] σ :=
  z_enter (by decide) (Nat.le_of_ble_eq_true rfl) rfl (fun p e s m below meth c A ls C hr hs hl => wM_fall C hr hM σ _ _ ls hs hl hf)
def fM_rise (x1 : Int32) (σ : zS) : Option (Int32 × zS) :=
  z_bd (fM_isKeeper x1 σ) (fun r1 σ1 =>
  if r1 = 0 then
    (some (0, σ1))
  else
    (z_bd (fM_isUp x1 σ1) (fun r3 σ3 =>
    if r3 = 0 then
      (z_bd (fM_put x1 9 0 σ3) (fun _ σ5 =>
      some (1, σ5)))
    else
      (some (0, σ3)))))
set_option maxHeartbeats 4000000 in
set_option maxRecDepth 20000 in
theorem wM_rise {x1 : Int32} (C : z_C E RX9 cX9_rise 2 A p s m args meth c) (hr : meth.sig.returnType = (some .boolean)) (hM : z_M E) {ro : Int32} {σo : zS} (σ : zS) (H : Heap) (locs : List Loc) (ls : Array Slot) (hs : z_H E A s σ H locs) (hl : lv_has ls 2 [(0, .ref (z_ad E (100, 0, 0))), (1, .int x1)]) (hf : fM_rise x1 σ = some (ro, σo)) : W p l e (z_rm 4) s m args below meth c H locs 0 0 (MQ below (z_QI E ro σo A) args s 0 0 A) (F0 m 0 ls []) := by
  have hx := C.1
  have hb := C.2.1
  unfold fM_rise at hf
  refine lv_aload_n hx hb dX9_rise_0 rfl (lv_at hl 0 rfl) ?_
  refine lv_iload_n hx hb dX9_rise_1 rfl (lv_at hl 1 rfl) ?_
  obtain ⟨r1, σ1, h_1, hf⟩ := z_bds hf
  refine z_goI C hs (z_runV C hs hl.1 (cM_isKeeper l E hM h_1) zcV_RX9_143 (hM 100 (by decide) (by decide)) (z_c100 E _ _ _ _) rfl rfl rfl (by decide) (Nat.le_of_ble_eq_true rfl) dX9_rise_2) (fun H locs hs => ?_)
  refine lv_if_eq (tgt := 16) hx hb dX9_rise_5 (by decide) (fun c2 => ?_) (fun c2 => ?_)
  · have hf := z_t hf c2
    refine lv_iconst (v := 0) hx hb dX9_rise_16 (by decide) ?_
    exact z_retz C hr hs (by decide +kernel) hf dX9_rise_17
  · have hf := z_f hf c2
    refine lv_aload_n hx hb dX9_rise_8 rfl (lv_at hl 0 rfl) ?_
    refine lv_iload_n hx hb dX9_rise_9 rfl (lv_at hl 1 rfl) ?_
    obtain ⟨r3, σ3, h_3, hf⟩ := z_bds hf
    refine z_goI C hs (z_runV C hs hl.1 (cM_isUp l E hM h_3) zcV_RX9_150 (hM 100 (by decide) (by decide)) (z_c100 E _ _ _ _) rfl rfl rfl (by decide) (Nat.le_of_ble_eq_true rfl) dX9_rise_10) (fun H locs hs => ?_)
    refine lv_if_eq (tgt := 18) hx hb dX9_rise_13 (by decide) (fun c4 => ?_) (fun c4 => ?_)
    · have hf := z_t hf c4
      refine lv_aload_n hx hb dX9_rise_18 rfl (lv_at hl 0 rfl) ?_
      refine lv_iload_n hx hb dX9_rise_19 rfl (lv_at hl 1 rfl) ?_
      refine lv_bipush (v := 9) hx hb dX9_rise_20 (by decide) ?_
      refine lv_iconst (v := 0) hx hb dX9_rise_22 (by decide) ?_
      obtain ⟨r5, σ5, h_5, hf⟩ := z_bds hf
      refine z_goV C hs (z_runV C hs hl.1 (cM_put l E hM h_5) zcV_RX9_139 (hM 100 (by decide) (by decide)) (z_c100 E _ _ _ _) rfl rfl rfl (by decide) (Nat.le_of_ble_eq_true rfl) dX9_rise_23) (fun H locs hs => ?_)
      refine lv_iconst (v := 1) hx hb dX9_rise_26 (by decide) ?_
      exact z_retz C hr hs (by decide +kernel) hf dX9_rise_27
    · have hf := z_f hf c4
      refine lv_iconst (v := 0) hx hb dX9_rise_16 (by decide) ?_
      exact z_retz C hr hs (by decide +kernel) hf dX9_rise_17
set_option maxHeartbeats 4000000 in
set_option maxRecDepth 20000 in
theorem cM_rise (l : Launch) (E : zE) {x1 : Int32} (hM : z_M E) {σ σo : zS} {ro : Int32} (hf : fM_rise x1 σ = some (ro, σo)) : z_T l E yX9_rise cX9_rise 2 (some .boolean) (z_rm 4) (z_QI E ro σo) [.ref (z_ad E (100, 0, 0)), .int x1] σ :=
  z_enter (by decide) (Nat.le_of_ble_eq_true rfl) rfl (fun p e s m below meth c A ls C hr hs hl => wM_rise C hr hM σ _ _ ls hs hl hf)
def fM_fold_48 : Nat → Int32 → Int32 → Int32 → Int32 → zS → Option (Int32 × zS)
  | 0, _, _, _, _, _ => none
  | n + 1, x1, x2, x3, x4, σ =>
    if x2 < x4 then
      (z_bd (fM_of x1 4 σ) (fun r11 σ11 =>
      z_let (r11 - x2) (fun y12 =>
      z_bd (fM_entryAt x1 x2 σ11) (fun r13 σ13 =>
      z_bd (fM_copy (r13 + 6) ((320 * x1) + 80) (6 * y12) σ13) (fun _ σ14 =>
      z_bd (fM_put x1 2 x2 σ14) (fun _ σ15 =>
      z_bd (fM_put x1 3 x3 σ15) (fun _ σ16 =>
      z_bd (fM_settles x1 σ16) (fun _ σ17 =>
      some (y12, σ17)))))))))
    else
      (z_bd (fM_entryAt x1 x4 σ) (fun r18 σ18 =>
      z_bd (fM_works ((320 * x1) + 10) r18 σ18) (fun _ σ19 =>
      z_let (x4 + 1) (fun y20 =>
      fM_fold_48 n x1 x2 x3 y20 σ19))))
def fM_fold (x1 : Int32) (x2 : Int32) (σ : zS) : Option (Int32 × zS) :=
  z_bd (fM_isUp x1 σ) (fun r1 σ1 =>
  if r1 = 0 then
    (some ((-1), σ1))
  else
    (z_bd (fM_of x1 2 σ1) (fun r3 σ3 =>
    if x2 ≤ r3 then
      (some ((-1), σ3))
    else
      (z_bd (fM_of x1 6 σ3) (fun r5 σ5 =>
      if x2 ≤ r5 then
        (z_bd (fM_termOf x1 x2 σ5) (fun r7 σ7 =>
        z_bd (fM_of x1 2 σ7) (fun r8 σ8 =>
        z_let (r8 + 1) (fun y9 =>
        fM_fold_48 z_fu x1 x2 r7 y9 σ8))))
      else
        (some ((-1), σ5)))))))
set_option maxHeartbeats 4000000 in
set_option maxRecDepth 20000 in
theorem wM_fold_48 (C : z_C E RX9 cX9_fold 5 A p s m args meth c) (hr : meth.sig.returnType = (some .int)) (hM : z_M E) {ro : Int32} {σo : zS} (n : Nat) : ∀ (x1 : Int32) (x2 : Int32) (x3 : Int32) (x4 : Int32) (σ : zS) (H : Heap) (locs : List Loc) (ls : Array Slot), z_H E A s σ H locs → lv_has ls 5 [(0, .ref (z_ad E (100, 0, 0))), (1, .int x1), (2, .int x2), (3, .int x3), (4, .int x4)] → fM_fold_48 n x1 x2 x3 x4 σ = some (ro, σo) → W p l e (z_rm 6) s m args below meth c H locs 0 0 (MQ below (z_QI E ro σo A) args s 0 0 A) (F0 m 48 ls []) := by
  induction n with
  | zero =>
    intro x1 x2 x3 x4 σ H locs ls hs hl hf
    have hf : none = some (ro, σo) := hf
    cases hf
  | succ n ih =>
    intro x1 x2 x3 x4 σ H locs ls hs hl hf
    have hx := C.1
    have hb := C.2.1
    rw [fM_fold_48.eq_2] at hf
    refine lv_iload hx hb dX9_fold_48 (lv_at hl 4 rfl) ?_
    refine lv_iload_n hx hb dX9_fold_50 rfl (lv_at hl 2 rfl) ?_
    refine lv_icmp_gt (tgt := 79) hx hb dX9_fold_51 (by decide) (fun c10 => ?_) (fun c10 => ?_)
    · have hf := z_t hf c10
      refine lv_aload_n hx hb dX9_fold_79 rfl (lv_at hl 0 rfl) ?_
      refine lv_iload_n hx hb dX9_fold_80 rfl (lv_at hl 1 rfl) ?_
      refine lv_iconst (v := 4) hx hb dX9_fold_81 (by decide) ?_
      obtain ⟨r11, σ11, h_11, hf⟩ := z_bds hf
      refine z_goI C hs (z_runV C hs hl.1 (cM_of l E hM h_11) zcV_RX9_146 (hM 100 (by decide) (by decide)) (z_c100 E _ _ _ _) rfl rfl rfl (by decide) (Nat.le_of_ble_eq_true rfl) dX9_fold_82) (fun H locs hs => ?_)
      refine lv_iload_n hx hb dX9_fold_85 rfl (lv_at hl 2 rfl) ?_
      refine lv_isub hx hb dX9_fold_86 ?_
      refine lv_topi (fun y12 e_y12 => ?_)
      have hf := z_lte e_y12 hf
      refine lv_istore (lv' := [(4, .int y12), (0, .ref (z_ad E (100, 0, 0))), (1, .int x1), (2, .int x2), (3, .int x3)]) hx hb dX9_fold_87 hl (by decide) rfl (fun ls hl => ?_)
      refine lv_aload_n hx hb dX9_fold_89 rfl (lv_at hl 1 rfl) ?_
      refine lv_aload_n hx hb dX9_fold_90 rfl (lv_at hl 1 rfl) ?_
      refine lv_iload_n hx hb dX9_fold_91 rfl (lv_at hl 2 rfl) ?_
      refine lv_iload_n hx hb dX9_fold_92 rfl (lv_at hl 3 rfl) ?_
      obtain ⟨r13, σ13, h_13, hf⟩ := z_bds hf
      refine z_goI C hs (z_runV C hs hl.1 (cM_entryAt l E hM h_13) zcV_RX9_153 (hM 100 (by decide) (by decide)) (z_c100 E _ _ _ _) rfl rfl rfl (by decide) (Nat.le_of_ble_eq_true rfl) dX9_fold_93) (fun H locs hs => ?_)
      refine lv_bipush (v := 6) hx hb dX9_fold_96 (by decide) ?_
      refine lv_iadd hx hb dX9_fold_98 ?_
      refine lv_sipush (v := 320) hx hb dX9_fold_99 (by decide) ?_
      refine lv_iload_n hx hb dX9_fold_102 rfl (lv_at hl 2 rfl) ?_
      refine lv_imul hx hb dX9_fold_103 ?_
      refine lv_bipush (v := 80) hx hb dX9_fold_104 (by decide) ?_
      refine lv_iadd hx hb dX9_fold_106 ?_
      refine lv_bipush (v := 6) hx hb dX9_fold_107 (by decide) ?_
      refine lv_iload hx hb dX9_fold_109 (lv_at hl 0 rfl) ?_
      refine lv_imul hx hb dX9_fold_111 ?_
      obtain ⟨r14, σ14, h_14, hf⟩ := z_bds hf
      refine z_goV C hs (z_runV C hs hl.1 (cM_copy l E hM h_14) zcV_RX9_208 (hM 100 (by decide) (by decide)) (z_c100 E _ _ _ _) rfl rfl rfl (by decide) (Nat.le_of_ble_eq_true rfl) dX9_fold_112) (fun H locs hs => ?_)
      refine lv_aload_n hx hb dX9_fold_115 rfl (lv_at hl 1 rfl) ?_
      refine lv_iload_n hx hb dX9_fold_116 rfl (lv_at hl 2 rfl) ?_
      refine lv_iconst (v := 2) hx hb dX9_fold_117 (by decide) ?_
      refine lv_iload_n hx hb dX9_fold_118 rfl (lv_at hl 3 rfl) ?_
      obtain ⟨r15, σ15, h_15, hf⟩ := z_bds hf
      refine z_goV C hs (z_runV C hs hl.1 (cM_put l E hM h_15) zcV_RX9_139 (hM 100 (by decide) (by decide)) (z_c100 E _ _ _ _) rfl rfl rfl (by decide) (Nat.le_of_ble_eq_true rfl) dX9_fold_119) (fun H locs hs => ?_)
      refine lv_aload_n hx hb dX9_fold_122 rfl (lv_at hl 1 rfl) ?_
      refine lv_iload_n hx hb dX9_fold_123 rfl (lv_at hl 2 rfl) ?_
      refine lv_iconst (v := 3) hx hb dX9_fold_124 (by decide) ?_
      refine lv_iload_n hx hb dX9_fold_125 rfl (lv_at hl 4 rfl) ?_
      obtain ⟨r16, σ16, h_16, hf⟩ := z_bds hf
      refine z_goV C hs (z_runV C hs hl.1 (cM_put l E hM h_16) zcV_RX9_139 (hM 100 (by decide) (by decide)) (z_c100 E _ _ _ _) rfl rfl rfl (by decide) (Nat.le_of_ble_eq_true rfl) dX9_fold_126) (fun H locs hs => ?_)
      refine lv_aload_n hx hb dX9_fold_129 rfl (lv_at hl 1 rfl) ?_
      refine lv_iload_n hx hb dX9_fold_130 rfl (lv_at hl 2 rfl) ?_
      obtain ⟨r17, σ17, h_17, hf⟩ := z_bds hf
      refine z_goV C hs (z_runV C hs hl.1 (cM_settles l E hM h_17) zcV_RX9_182 (hM 100 (by decide) (by decide)) (z_c100 E _ _ _ _) rfl rfl rfl (by decide) (Nat.le_of_ble_eq_true rfl) dX9_fold_131) (fun H locs hs => ?_)
      refine lv_iload hx hb dX9_fold_134 (lv_at hl 0 rfl) ?_
      exact z_reti C hr hs hf dX9_fold_136
    · have hf := z_f hf c10
      refine lv_aload_n hx hb dX9_fold_54 rfl (lv_at hl 0 rfl) ?_
      refine lv_sipush (v := 320) hx hb dX9_fold_55 (by decide) ?_
      refine lv_iload_n hx hb dX9_fold_58 rfl (lv_at hl 1 rfl) ?_
      refine lv_imul hx hb dX9_fold_59 ?_
      refine lv_bipush (v := 10) hx hb dX9_fold_60 (by decide) ?_
      refine lv_iadd hx hb dX9_fold_62 ?_
      refine lv_aload_n hx hb dX9_fold_63 rfl (lv_at hl 0 rfl) ?_
      refine lv_iload_n hx hb dX9_fold_64 rfl (lv_at hl 1 rfl) ?_
      refine lv_iload hx hb dX9_fold_65 (lv_at hl 4 rfl) ?_
      obtain ⟨r18, σ18, h_18, hf⟩ := z_bds hf
      refine z_goI C hs (z_runV C hs hl.1 (cM_entryAt l E hM h_18) zcV_RX9_153 (hM 100 (by decide) (by decide)) (z_c100 E _ _ _ _) rfl rfl rfl (by decide) (Nat.le_of_ble_eq_true rfl) dX9_fold_67) (fun H locs hs => ?_)
      obtain ⟨r19, σ19, h_19, hf⟩ := z_bds hf
      refine z_goV C hs (z_runV C hs hl.1 (cM_works l E hM h_19) zcV_RX9_163 (hM 100 (by decide) (by decide)) (z_c100 E _ _ _ _) rfl rfl rfl (by decide) (Nat.le_of_ble_eq_true rfl) dX9_fold_70) (fun H locs hs => ?_)
      obtain ⟨y20, e_y20⟩ : ∃ y : Int32, y = x4 + 1 := ⟨_, rfl⟩
      have hf := z_lte e_y20 hf
      refine lv_iinc (v := y20) (lv' := [(4, .int y20), (0, .ref (z_ad E (100, 0, 0))), (1, .int x1), (2, .int x2), (3, .int x3)]) hx hb dX9_fold_73 hl (k := 4) rfl (by rw [e_y20]; rfl) (by decide) rfl (fun ls hl => ?_)
      refine lv_goto (tgt := 48) hx hb dX9_fold_76 (by decide) ?_
      exact ih x1 x2 x3 y20 σ19 _ _ _ hs (lv_sub hl [1, 2, 3, 4, 0] rfl) hf
set_option maxHeartbeats 4000000 in
set_option maxRecDepth 20000 in
theorem wM_fold {x1 : Int32} {x2 : Int32} (C : z_C E RX9 cX9_fold 5 A p s m args meth c) (hr : meth.sig.returnType = (some .int)) (hM : z_M E) {ro : Int32} {σo : zS} (σ : zS) (H : Heap) (locs : List Loc) (ls : Array Slot) (hs : z_H E A s σ H locs) (hl : lv_has ls 5 [(0, .ref (z_ad E (100, 0, 0))), (1, .int x1), (2, .int x2)]) (hf : fM_fold x1 x2 σ = some (ro, σo)) : W p l e (z_rm 6) s m args below meth c H locs 0 0 (MQ below (z_QI E ro σo A) args s 0 0 A) (F0 m 0 ls []) := by
  have hx := C.1
  have hb := C.2.1
  unfold fM_fold at hf
  refine lv_aload_n hx hb dX9_fold_0 rfl (lv_at hl 0 rfl) ?_
  refine lv_iload_n hx hb dX9_fold_1 rfl (lv_at hl 1 rfl) ?_
  obtain ⟨r1, σ1, h_1, hf⟩ := z_bds hf
  refine z_goI C hs (z_runV C hs hl.1 (cM_isUp l E hM h_1) zcV_RX9_150 (hM 100 (by decide) (by decide)) (z_c100 E _ _ _ _) rfl rfl rfl (by decide) (Nat.le_of_ble_eq_true rfl) dX9_fold_2) (fun H locs hs => ?_)
  refine lv_if_eq (tgt := 29) hx hb dX9_fold_5 (by decide) (fun c2 => ?_) (fun c2 => ?_)
  · have hf := z_t hf c2
    refine lv_iconst (v := (-1)) hx hb dX9_fold_29 (by decide) ?_
    exact z_reti C hr hs hf dX9_fold_30
  · have hf := z_f hf c2
    refine lv_iload_n hx hb dX9_fold_8 rfl (lv_at hl 2 rfl) ?_
    refine lv_aload_n hx hb dX9_fold_9 rfl (lv_at hl 0 rfl) ?_
    refine lv_iload_n hx hb dX9_fold_10 rfl (lv_at hl 1 rfl) ?_
    refine lv_iconst (v := 2) hx hb dX9_fold_11 (by decide) ?_
    obtain ⟨r3, σ3, h_3, hf⟩ := z_bds hf
    refine z_goI C hs (z_runV C hs hl.1 (cM_of l E hM h_3) zcV_RX9_146 (hM 100 (by decide) (by decide)) (z_c100 E _ _ _ _) rfl rfl rfl (by decide) (Nat.le_of_ble_eq_true rfl) dX9_fold_12) (fun H locs hs => ?_)
    refine lv_icmp_le (tgt := 29) hx hb dX9_fold_15 (by decide) (fun c4 => ?_) (fun c4 => ?_)
    · have hf := z_t hf c4
      refine lv_iconst (v := (-1)) hx hb dX9_fold_29 (by decide) ?_
      exact z_reti C hr hs hf dX9_fold_30
    · have hf := z_f hf c4
      refine lv_iload_n hx hb dX9_fold_18 rfl (lv_at hl 2 rfl) ?_
      refine lv_aload_n hx hb dX9_fold_19 rfl (lv_at hl 0 rfl) ?_
      refine lv_iload_n hx hb dX9_fold_20 rfl (lv_at hl 1 rfl) ?_
      refine lv_bipush (v := 6) hx hb dX9_fold_21 (by decide) ?_
      obtain ⟨r5, σ5, h_5, hf⟩ := z_bds hf
      refine z_goI C hs (z_runV C hs hl.1 (cM_of l E hM h_5) zcV_RX9_146 (hM 100 (by decide) (by decide)) (z_c100 E _ _ _ _) rfl rfl rfl (by decide) (Nat.le_of_ble_eq_true rfl) dX9_fold_23) (fun H locs hs => ?_)
      refine lv_icmp_le (tgt := 31) hx hb dX9_fold_26 (by decide) (fun c6 => ?_) (fun c6 => ?_)
      · have hf := z_t hf c6
        refine lv_aload_n hx hb dX9_fold_31 rfl (lv_at hl 0 rfl) ?_
        refine lv_iload_n hx hb dX9_fold_32 rfl (lv_at hl 1 rfl) ?_
        refine lv_iload_n hx hb dX9_fold_33 rfl (lv_at hl 2 rfl) ?_
        obtain ⟨r7, σ7, h_7, hf⟩ := z_bds hf
        refine z_goI C hs (z_runV C hs hl.1 (cM_termOf l E hM h_7) zcV_RX9_172 (hM 100 (by decide) (by decide)) (z_c100 E _ _ _ _) rfl rfl rfl (by decide) (Nat.le_of_ble_eq_true rfl) dX9_fold_34) (fun H locs hs => ?_)
        refine lv_istore_n (lv' := [(3, .int r7), (0, .ref (z_ad E (100, 0, 0))), (1, .int x1), (2, .int x2)]) hx hb dX9_fold_37 rfl hl (by decide) rfl (fun ls hl => ?_)
        refine lv_aload_n hx hb dX9_fold_38 rfl (lv_at hl 1 rfl) ?_
        refine lv_iload_n hx hb dX9_fold_39 rfl (lv_at hl 2 rfl) ?_
        refine lv_iconst (v := 2) hx hb dX9_fold_40 (by decide) ?_
        obtain ⟨r8, σ8, h_8, hf⟩ := z_bds hf
        refine z_goI C hs (z_runV C hs hl.1 (cM_of l E hM h_8) zcV_RX9_146 (hM 100 (by decide) (by decide)) (z_c100 E _ _ _ _) rfl rfl rfl (by decide) (Nat.le_of_ble_eq_true rfl) dX9_fold_41) (fun H locs hs => ?_)
        refine lv_iconst (v := 1) hx hb dX9_fold_44 (by decide) ?_
        refine lv_iadd hx hb dX9_fold_45 ?_
        refine lv_topi (fun y9 e_y9 => ?_)
        have hf := z_lte e_y9 hf
        refine lv_istore (lv' := [(4, .int y9), (3, .int r7), (0, .ref (z_ad E (100, 0, 0))), (1, .int x1), (2, .int x2)]) hx hb dX9_fold_46 hl (by decide) rfl (fun ls hl => ?_)
        exact wM_fold_48 C hr hM z_fu x1 x2 r7 y9 σ8 _ _ _ hs (lv_sub hl [2, 3, 4, 1, 0] rfl) hf
      · have hf := z_f hf c6
        refine lv_iconst (v := (-1)) hx hb dX9_fold_29 (by decide) ?_
        exact z_reti C hr hs hf dX9_fold_30
set_option maxHeartbeats 4000000 in
set_option maxRecDepth 20000 in
theorem cM_fold (l : Launch) (E : zE) {x1 : Int32} {x2 : Int32} (hM : z_M E) {σ σo : zS} {ro : Int32} (hf : fM_fold x1 x2 σ = some (ro, σo)) : z_T l E yX9_fold cX9_fold 5 (some .int) (z_rm 6) (z_QI E ro σo) [.ref (z_ad E (100, 0, 0)), .int x1, .int x2] σ :=
  z_enter (by decide) (Nat.le_of_ble_eq_true rfl) rfl (fun p e s m below meth c A ls C hr hs hl => wM_fold C hr hM σ _ _ ls hs hl hf)
def fM_read (x1 : Int32) (x2 : Int32) (σ : zS) : Option (Int32 × zS) :=
  z_let (σ.1 (103, 0, 0) 4960) (fun y1 =>
  z_bd (fM_doesLead x1 σ) (fun r2 σ2 =>
  if r2 = 0 then
    (some ((-1), σ2))
  else
    (z_bd (fM_isIn x2 0 7 σ2) (fun r4 σ4 =>
    if r4 = 0 then
      (some ((-1), σ4))
    else
      (if y1 = 40 then
        (some ((-1), σ4))
      else
        (z_bd (fM_of x1 6 σ4) (fun r7 σ7 =>
        z_bd (fM_termOf x1 r7 σ7) (fun r8 σ8 =>
        z_bd (fM_of x1 0 σ8) (fun r9 σ9 =>
        if r8 = r9 then
          (if z_in (4800 + (4 * y1)) 5000 = true then (
          z_let (z_up σ9 (103, 0, 0) ((4800 + (4 * y1)).toNatClampNeg) x1) (fun σ12 =>
          if z_in ((4800 + (4 * y1)) + 1) 5000 = true then (
          z_let (z_up σ12 (103, 0, 0) (((4800 + (4 * y1)) + 1).toNatClampNeg) x2) (fun σ14 =>
          z_bd (fM_of x1 0 σ14) (fun r15 σ15 =>
          if z_in ((4800 + (4 * y1)) + 2) 5000 = true then (
          z_let (z_up σ15 (103, 0, 0) (((4800 + (4 * y1)) + 2).toNatClampNeg) r15) (fun σ17 =>
          z_bd (fM_of x1 8 σ17) (fun r18 σ18 =>
          if z_in ((4800 + (4 * y1)) + 3) 5000 = true then (
          z_let (z_up σ18 (103, 0, 0) (((4800 + (4 * y1)) + 3).toNatClampNeg) r18) (fun σ20 =>
          z_let (z_up σ20 (103, 0, 0) 4960 ((σ20.1 (103, 0, 0) 4960) + 1)) (fun σ21 =>
          some (y1, σ21)))) else none))) else none))) else none)) else none)
        else
          (some ((-1), σ9)))))))))))
set_option maxHeartbeats 4000000 in
set_option maxRecDepth 20000 in
theorem wM_read {x1 : Int32} {x2 : Int32} (C : z_C E RX9 cX9_read 4 A p s m args meth c) (hr : meth.sig.returnType = (some .int)) (hM : z_M E) {ro : Int32} {σo : zS} (σ : zS) (H : Heap) (locs : List Loc) (ls : Array Slot) (hs : z_H E A s σ H locs) (hl : lv_has ls 4 [(0, .ref (z_ad E (100, 0, 0))), (1, .int x1), (2, .int x2)]) (hf : fM_read x1 x2 σ = some (ro, σo)) : W p l e (z_rm 5) s m args below meth c H locs 0 0 (MQ below (z_QI E ro σo A) args s 0 0 A) (F0 m 0 ls []) := by
  have hx := C.1
  have hb := C.2.1
  unfold fM_read at hf
  refine lv_aload_n hx hb dX9_read_0 rfl (lv_at hl 0 rfl) ?_
  refine zg_M_all C hs (hM 100 (by decide) (by decide)) z_k952 dX9_read_1 ?_
  refine lv_sipush (v := 4960) hx hb dX9_read_4 (by decide) ?_
  refine z_ald C hs (hM 103 (by decide) (by decide)) (z_c103 E _ _ _ _) (by decide +kernel) (k := 4960) (by decide +kernel) dX9_read_7 ?_
  refine lv_topi (fun y1 e_y1 => ?_)
  have hf := z_lte e_y1 hf
  refine lv_istore_n (lv' := [(3, .int y1), (0, .ref (z_ad E (100, 0, 0))), (1, .int x1), (2, .int x2)]) hx hb dX9_read_8 rfl hl (by decide) rfl (fun ls hl => ?_)
  refine lv_aload_n hx hb dX9_read_9 rfl (lv_at hl 1 rfl) ?_
  refine lv_iload_n hx hb dX9_read_10 rfl (lv_at hl 2 rfl) ?_
  obtain ⟨r2, σ2, h_2, hf⟩ := z_bds hf
  refine z_goI C hs (z_runV C hs hl.1 (cM_doesLead l E hM h_2) zcV_RX9_205 (hM 100 (by decide) (by decide)) (z_c100 E _ _ _ _) rfl rfl rfl (by decide) (Nat.le_of_ble_eq_true rfl) dX9_read_11) (fun H locs hs => ?_)
  refine lv_if_eq (tgt := 54) hx hb dX9_read_14 (by decide) (fun c3 => ?_) (fun c3 => ?_)
  · have hf := z_t hf c3
    refine lv_iconst (v := (-1)) hx hb dX9_read_54 (by decide) ?_
    exact z_reti C hr hs hf dX9_read_55
  · have hf := z_f hf c3
    refine lv_iload_n hx hb dX9_read_17 rfl (lv_at hl 3 rfl) ?_
    refine lv_iconst (v := 0) hx hb dX9_read_18 (by decide) ?_
    refine lv_bipush (v := 7) hx hb dX9_read_19 (by decide) ?_
    obtain ⟨r4, σ4, h_4, hf⟩ := z_bds hf
    refine z_goI C hs (z_runS C hs hl.1 (cM_isIn l E h_4) zcS_RX9_132 rfl rfl rfl (by decide) (Nat.le_of_ble_eq_true rfl) dX9_read_21) (fun H locs hs => ?_)
    refine lv_if_eq (tgt := 54) hx hb dX9_read_24 (by decide) (fun c5 => ?_) (fun c5 => ?_)
    · have hf := z_t hf c5
      refine lv_iconst (v := (-1)) hx hb dX9_read_54 (by decide) ?_
      exact z_reti C hr hs hf dX9_read_55
    · have hf := z_f hf c5
      refine lv_iload_n hx hb dX9_read_27 rfl (lv_at hl 0 rfl) ?_
      refine lv_bipush (v := 40) hx hb dX9_read_28 (by decide) ?_
      refine lv_icmp_eq (tgt := 54) hx hb dX9_read_30 (by decide) (fun c6 => ?_) (fun c6 => ?_)
      · have hf := z_t hf c6
        refine lv_iconst (v := (-1)) hx hb dX9_read_54 (by decide) ?_
        exact z_reti C hr hs hf dX9_read_55
      · have hf := z_f hf c6
        refine lv_aload_n hx hb dX9_read_33 rfl (lv_at hl 1 rfl) ?_
        refine lv_iload_n hx hb dX9_read_34 rfl (lv_at hl 2 rfl) ?_
        refine lv_aload_n hx hb dX9_read_35 rfl (lv_at hl 1 rfl) ?_
        refine lv_iload_n hx hb dX9_read_36 rfl (lv_at hl 2 rfl) ?_
        refine lv_bipush (v := 6) hx hb dX9_read_37 (by decide) ?_
        obtain ⟨r7, σ7, h_7, hf⟩ := z_bds hf
        refine z_goI C hs (z_runV C hs hl.1 (cM_of l E hM h_7) zcV_RX9_146 (hM 100 (by decide) (by decide)) (z_c100 E _ _ _ _) rfl rfl rfl (by decide) (Nat.le_of_ble_eq_true rfl) dX9_read_39) (fun H locs hs => ?_)
        obtain ⟨r8, σ8, h_8, hf⟩ := z_bds hf
        refine z_goI C hs (z_runV C hs hl.1 (cM_termOf l E hM h_8) zcV_RX9_172 (hM 100 (by decide) (by decide)) (z_c100 E _ _ _ _) rfl rfl rfl (by decide) (Nat.le_of_ble_eq_true rfl) dX9_read_42) (fun H locs hs => ?_)
        refine lv_aload_n hx hb dX9_read_45 rfl (lv_at hl 1 rfl) ?_
        refine lv_iload_n hx hb dX9_read_46 rfl (lv_at hl 2 rfl) ?_
        refine lv_iconst (v := 0) hx hb dX9_read_47 (by decide) ?_
        obtain ⟨r9, σ9, h_9, hf⟩ := z_bds hf
        refine z_goI C hs (z_runV C hs hl.1 (cM_of l E hM h_9) zcV_RX9_146 (hM 100 (by decide) (by decide)) (z_c100 E _ _ _ _) rfl rfl rfl (by decide) (Nat.le_of_ble_eq_true rfl) dX9_read_48) (fun H locs hs => ?_)
        refine lv_icmp_eq (tgt := 56) hx hb dX9_read_51 (by decide) (fun c10 => ?_) (fun c10 => ?_)
        · have hf := z_t hf c10
          refine lv_aload_n hx hb dX9_read_56 rfl (lv_at hl 1 rfl) ?_
          refine zg_M_all C hs (hM 100 (by decide) (by decide)) z_k952 dX9_read_57 ?_
          refine lv_sipush (v := 4800) hx hb dX9_read_60 (by decide) ?_
          refine lv_iconst (v := 4) hx hb dX9_read_63 (by decide) ?_
          refine lv_iload_n hx hb dX9_read_64 rfl (lv_at hl 0 rfl) ?_
          refine lv_imul hx hb dX9_read_65 ?_
          refine lv_iadd hx hb dX9_read_66 ?_
          refine lv_iload_n hx hb dX9_read_67 rfl (lv_at hl 2 rfl) ?_
          obtain ⟨g11, hf⟩ := z_gd hf
          refine z_ast C hs (hM 103 (by decide) (by decide)) (fun r h => z_c103 E r h _ _) g11 rfl dX9_read_68 (fun H locs hs => ?_)
          obtain ⟨σ12, -, hs, hf⟩ := z_top hs hf
          refine lv_aload_n hx hb dX9_read_69 rfl (lv_at hl 1 rfl) ?_
          refine zg_M_all C hs (hM 100 (by decide) (by decide)) z_k952 dX9_read_70 ?_
          refine lv_sipush (v := 4800) hx hb dX9_read_73 (by decide) ?_
          refine lv_iconst (v := 4) hx hb dX9_read_76 (by decide) ?_
          refine lv_iload_n hx hb dX9_read_77 rfl (lv_at hl 0 rfl) ?_
          refine lv_imul hx hb dX9_read_78 ?_
          refine lv_iadd hx hb dX9_read_79 ?_
          refine lv_iconst (v := 1) hx hb dX9_read_80 (by decide) ?_
          refine lv_iadd hx hb dX9_read_81 ?_
          refine lv_iload_n hx hb dX9_read_82 rfl (lv_at hl 3 rfl) ?_
          obtain ⟨g13, hf⟩ := z_gd hf
          refine z_ast C hs (hM 103 (by decide) (by decide)) (fun r h => z_c103 E r h _ _) g13 rfl dX9_read_83 (fun H locs hs => ?_)
          obtain ⟨σ14, -, hs, hf⟩ := z_top hs hf
          refine lv_aload_n hx hb dX9_read_84 rfl (lv_at hl 1 rfl) ?_
          refine zg_M_all C hs (hM 100 (by decide) (by decide)) z_k952 dX9_read_85 ?_
          refine lv_sipush (v := 4800) hx hb dX9_read_88 (by decide) ?_
          refine lv_iconst (v := 4) hx hb dX9_read_91 (by decide) ?_
          refine lv_iload_n hx hb dX9_read_92 rfl (lv_at hl 0 rfl) ?_
          refine lv_imul hx hb dX9_read_93 ?_
          refine lv_iadd hx hb dX9_read_94 ?_
          refine lv_iconst (v := 2) hx hb dX9_read_95 (by decide) ?_
          refine lv_iadd hx hb dX9_read_96 ?_
          refine lv_aload_n hx hb dX9_read_97 rfl (lv_at hl 1 rfl) ?_
          refine lv_iload_n hx hb dX9_read_98 rfl (lv_at hl 2 rfl) ?_
          refine lv_iconst (v := 0) hx hb dX9_read_99 (by decide) ?_
          obtain ⟨r15, σ15, h_15, hf⟩ := z_bds hf
          refine z_goI C hs (z_runV C hs hl.1 (cM_of l E hM h_15) zcV_RX9_146 (hM 100 (by decide) (by decide)) (z_c100 E _ _ _ _) rfl rfl rfl (by decide) (Nat.le_of_ble_eq_true rfl) dX9_read_100) (fun H locs hs => ?_)
          obtain ⟨g16, hf⟩ := z_gd hf
          refine z_ast C hs (hM 103 (by decide) (by decide)) (fun r h => z_c103 E r h _ _) g16 rfl dX9_read_103 (fun H locs hs => ?_)
          obtain ⟨σ17, -, hs, hf⟩ := z_top hs hf
          refine lv_aload_n hx hb dX9_read_104 rfl (lv_at hl 1 rfl) ?_
          refine zg_M_all C hs (hM 100 (by decide) (by decide)) z_k952 dX9_read_105 ?_
          refine lv_sipush (v := 4800) hx hb dX9_read_108 (by decide) ?_
          refine lv_iconst (v := 4) hx hb dX9_read_111 (by decide) ?_
          refine lv_iload_n hx hb dX9_read_112 rfl (lv_at hl 0 rfl) ?_
          refine lv_imul hx hb dX9_read_113 ?_
          refine lv_iadd hx hb dX9_read_114 ?_
          refine lv_iconst (v := 3) hx hb dX9_read_115 (by decide) ?_
          refine lv_iadd hx hb dX9_read_116 ?_
          refine lv_aload_n hx hb dX9_read_117 rfl (lv_at hl 1 rfl) ?_
          refine lv_iload_n hx hb dX9_read_118 rfl (lv_at hl 2 rfl) ?_
          refine lv_bipush (v := 8) hx hb dX9_read_119 (by decide) ?_
          obtain ⟨r18, σ18, h_18, hf⟩ := z_bds hf
          refine z_goI C hs (z_runV C hs hl.1 (cM_of l E hM h_18) zcV_RX9_146 (hM 100 (by decide) (by decide)) (z_c100 E _ _ _ _) rfl rfl rfl (by decide) (Nat.le_of_ble_eq_true rfl) dX9_read_121) (fun H locs hs => ?_)
          obtain ⟨g19, hf⟩ := z_gd hf
          refine z_ast C hs (hM 103 (by decide) (by decide)) (fun r h => z_c103 E r h _ _) g19 rfl dX9_read_124 (fun H locs hs => ?_)
          obtain ⟨σ20, -, hs, hf⟩ := z_top hs hf
          refine lv_aload_n hx hb dX9_read_125 rfl (lv_at hl 1 rfl) ?_
          refine zg_M_all C hs (hM 100 (by decide) (by decide)) z_k952 dX9_read_126 ?_
          refine lv_sipush (v := 4960) hx hb dX9_read_129 (by decide) ?_
          refine lv_dup2_11 hx hb dX9_read_132 rfl rfl ?_
          refine z_ald C hs (hM 103 (by decide) (by decide)) (z_c103 E _ _ _ _) (by decide +kernel) (k := 4960) (by decide +kernel) dX9_read_133 ?_
          refine lv_iconst (v := 1) hx hb dX9_read_134 (by decide) ?_
          refine lv_iadd hx hb dX9_read_135 ?_
          refine z_ast C hs (hM 103 (by decide) (by decide)) (fun r h => z_c103 E r h _ _) (by decide +kernel) (k := 4960) (by decide +kernel) dX9_read_136 (fun H locs hs => ?_)
          obtain ⟨σ21, -, hs, hf⟩ := z_top hs hf
          refine lv_iload_n hx hb dX9_read_137 rfl (lv_at hl 0 rfl) ?_
          exact z_reti C hr hs hf dX9_read_138
        · have hf := z_f hf c10
          refine lv_iconst (v := (-1)) hx hb dX9_read_54 (by decide) ?_
          exact z_reti C hr hs hf dX9_read_55
set_option maxHeartbeats 4000000 in
set_option maxRecDepth 20000 in
theorem cM_read (l : Launch) (E : zE) {x1 : Int32} {x2 : Int32} (hM : z_M E) {σ σo : zS} {ro : Int32} (hf : fM_read x1 x2 σ = some (ro, σo)) : z_T l E yX9_read cX9_read 4 (some .int) (z_rm 5) (z_QI E ro σo) [.ref (z_ad E (100, 0, 0)), .int x1, .int x2] σ :=
  z_enter (by decide) (Nat.le_of_ble_eq_true rfl) rfl (fun p e s m below meth c A ls C hr hs hl => wM_read C hr hM σ _ _ ls hs hl hf)
def fM_good_73 : Nat → Int32 → Int32 → Int32 → Int32 → zS → Option (Int32 × zS)
  | 0, _, _, _, _, _ => none
  | n + 1, x1, x2, x3, x4, σ =>
    z_bd (fM_many σ) (fun r10 σ10 =>
    if r10 ≤ x4 then
      (z_bd (fM_most σ10) (fun r12 σ12 =>
      if x3 < r12 then
        (some ((-1000000), σ12))
      else
        (if z_in ((4800 + (4 * x1)) + 1) 5000 = true then (
        z_bd (fM_of x2 (30 + (σ12.1 (103, 0, 0) ((4800 + (4 * x1)) + 1).toNatClampNeg)) σ12) (fun r15 σ15 =>
        some (r15, σ15))) else none)))
    else
      (z_bd (fM_isVoter x4 σ10) (fun r16 σ16 =>
      if r16 = 0 then
        (z_let (x3 + 0) (fun y18 =>
        z_let (x4 + 1) (fun y19 =>
        fM_good_73 n x1 x2 y18 y19 σ16)))
      else
        (if x4 = x2 then
          (z_let (x3 + 1) (fun y21 =>
          z_let (x4 + 1) (fun y22 =>
          fM_good_73 n x1 x2 y21 y22 σ16)))
        else
          (z_bd (fM_of x2 (64 + x4) σ16) (fun r23 σ23 =>
          if z_in ((4800 + (4 * x1)) + 3) 5000 = true then (
          if r23 ≤ (σ23.1 (103, 0, 0) ((4800 + (4 * x1)) + 3).toNatClampNeg) then
            (z_let (x3 + 0) (fun y26 =>
            z_let (x4 + 1) (fun y27 =>
            fM_good_73 n x1 x2 y26 y27 σ23)))
          else
            (z_let (x3 + 1) (fun y28 =>
            z_let (x4 + 1) (fun y29 =>
            fM_good_73 n x1 x2 y28 y29 σ23)))) else none))))))
def fM_good (x1 : Int32) (σ : zS) : Option (Int32 × zS) :=
  z_bd (fM_isIn x1 0 ((σ.1 (103, 0, 0) 4960) - 1) σ) (fun r1 σ1 =>
  if r1 = 0 then
    (some ((-1000000), σ1))
  else
    (if z_in (4800 + (4 * x1)) 5000 = true then (
    z_let (σ1.1 (103, 0, 0) (4800 + (4 * x1)).toNatClampNeg) (fun y4 =>
    z_bd (fM_doesLead y4 σ1) (fun r5 σ5 =>
    if r5 = 0 then
      (some ((-1000000), σ5))
    else
      (z_bd (fM_of y4 0 σ5) (fun r7 σ7 =>
      if z_in ((4800 + (4 * x1)) + 2) 5000 = true then (
      if r7 = (σ7.1 (103, 0, 0) ((4800 + (4 * x1)) + 2).toNatClampNeg) then
        (fM_good_73 z_fu x1 y4 0 0 σ7)
      else
        (some ((-1000000), σ7))) else none))))) else none))
set_option maxHeartbeats 4000000 in
set_option maxRecDepth 20000 in
theorem wM_good_73 (C : z_C E RX9 cX9_good 5 A p s m args meth c) (hr : meth.sig.returnType = (some .int)) (hM : z_M E) {ro : Int32} {σo : zS} (n : Nat) : ∀ (x1 : Int32) (x2 : Int32) (x3 : Int32) (x4 : Int32) (σ : zS) (H : Heap) (locs : List Loc) (ls : Array Slot), z_H E A s σ H locs → lv_has ls 5 [(0, .ref (z_ad E (100, 0, 0))), (1, .int x1), (2, .int x2), (3, .int x3), (4, .int x4)] → fM_good_73 n x1 x2 x3 x4 σ = some (ro, σo) → W p l e (z_rm 5) s m args below meth c H locs 0 0 (MQ below (z_QI E ro σo A) args s 0 0 A) (F0 m 73 ls []) := by
  induction n with
  | zero =>
    intro x1 x2 x3 x4 σ H locs ls hs hl hf
    have hf : none = some (ro, σo) := hf
    cases hf
  | succ n ih =>
    intro x1 x2 x3 x4 σ H locs ls hs hl hf
    have hx := C.1
    have hb := C.2.1
    rw [fM_good_73.eq_2] at hf
    refine lv_iload hx hb dX9_good_73 (lv_at hl 4 rfl) ?_
    refine lv_aload_n hx hb dX9_good_75 rfl (lv_at hl 0 rfl) ?_
    obtain ⟨r10, σ10, h_10, hf⟩ := z_bds hf
    refine z_goI C hs (z_runV C hs hl.1 (cM_many l E hM h_10) zcV_RX9_128 (hM 100 (by decide) (by decide)) (z_c100 E _ _ _ _) rfl rfl rfl (by decide) (Nat.le_of_ble_eq_true rfl) dX9_good_76) (fun H locs hs => ?_)
    refine lv_icmp_ge (tgt := 138) hx hb dX9_good_79 (by decide) (fun c11 => ?_) (fun c11 => ?_)
    · have hf := z_t hf c11
      refine lv_iload_n hx hb dX9_good_138 rfl (lv_at hl 3 rfl) ?_
      refine lv_aload_n hx hb dX9_good_139 rfl (lv_at hl 0 rfl) ?_
      obtain ⟨r12, σ12, h_12, hf⟩ := z_bds hf
      refine z_goI C hs (z_runV C hs hl.1 (cM_most l E hM h_12) zcV_RX9_169 (hM 100 (by decide) (by decide)) (z_c100 E _ _ _ _) rfl rfl rfl (by decide) (Nat.le_of_ble_eq_true rfl) dX9_good_140) (fun H locs hs => ?_)
      refine lv_icmp_lt (tgt := 171) hx hb dX9_good_143 (by decide) (fun c13 => ?_) (fun c13 => ?_)
      · have hf := z_t hf c13
        refine lv_ldc (v := (-1000000)) hx hb C.2.2.2.1 (C.2.2.2.2.1 _ z_k1242) dX9_good_171 ?_
        exact z_reti C hr hs hf dX9_good_173
      · have hf := z_f hf c13
        refine lv_aload_n hx hb dX9_good_146 rfl (lv_at hl 0 rfl) ?_
        refine lv_iload_n hx hb dX9_good_147 rfl (lv_at hl 2 rfl) ?_
        refine lv_bipush (v := 30) hx hb dX9_good_148 (by decide) ?_
        refine lv_aload_n hx hb dX9_good_150 rfl (lv_at hl 0 rfl) ?_
        refine zg_M_all C hs (hM 100 (by decide) (by decide)) z_k952 dX9_good_151 ?_
        refine lv_sipush (v := 4800) hx hb dX9_good_154 (by decide) ?_
        refine lv_iconst (v := 4) hx hb dX9_good_157 (by decide) ?_
        refine lv_iload_n hx hb dX9_good_158 rfl (lv_at hl 1 rfl) ?_
        refine lv_imul hx hb dX9_good_159 ?_
        refine lv_iadd hx hb dX9_good_160 ?_
        refine lv_iconst (v := 1) hx hb dX9_good_161 (by decide) ?_
        refine lv_iadd hx hb dX9_good_162 ?_
        obtain ⟨g14, hf⟩ := z_gd hf
        refine z_ald C hs (hM 103 (by decide) (by decide)) (z_c103 E _ _ _ _) g14 rfl dX9_good_163 ?_
        refine lv_iadd hx hb dX9_good_164 ?_
        obtain ⟨r15, σ15, h_15, hf⟩ := z_bds hf
        refine z_goI C hs (z_runV C hs hl.1 (cM_of l E hM h_15) zcV_RX9_146 (hM 100 (by decide) (by decide)) (z_c100 E _ _ _ _) rfl rfl rfl (by decide) (Nat.le_of_ble_eq_true rfl) dX9_good_165) (fun H locs hs => ?_)
        refine lv_goto (tgt := 173) hx hb dX9_good_168 (by decide) ?_
        exact z_reti C hr hs hf dX9_good_173
    · have hf := z_f hf c11
      refine lv_iload_n hx hb dX9_good_82 rfl (lv_at hl 3 rfl) ?_
      refine lv_aload_n hx hb dX9_good_83 rfl (lv_at hl 0 rfl) ?_
      refine lv_iload hx hb dX9_good_84 (lv_at hl 4 rfl) ?_
      obtain ⟨r16, σ16, h_16, hf⟩ := z_bds hf
      refine z_goI C hs (z_runV C hs hl.1 (cM_isVoter l E hM h_16) zcV_RX9_166 (hM 100 (by decide) (by decide)) (z_c100 E _ _ _ _) rfl rfl rfl (by decide) (Nat.le_of_ble_eq_true rfl) dX9_good_86) (fun H locs hs => ?_)
      refine lv_if_eq (tgt := 129) hx hb dX9_good_89 (by decide) (fun c17 => ?_) (fun c17 => ?_)
      · have hf := z_t hf c17
        refine lv_iconst (v := 0) hx hb dX9_good_129 (by decide) ?_
        refine lv_iadd hx hb dX9_good_130 ?_
        refine lv_topi (fun y18 e_y18 => ?_)
        have hf := z_lte e_y18 hf
        refine lv_istore_n (lv' := [(3, .int y18), (0, .ref (z_ad E (100, 0, 0))), (1, .int x1), (2, .int x2), (4, .int x4)]) hx hb dX9_good_131 rfl hl (by decide) rfl (fun ls hl => ?_)
        obtain ⟨y19, e_y19⟩ : ∃ y : Int32, y = x4 + 1 := ⟨_, rfl⟩
        have hf := z_lte e_y19 hf
        refine lv_iinc (v := y19) (lv' := [(4, .int y19), (3, .int y18), (0, .ref (z_ad E (100, 0, 0))), (1, .int x1), (2, .int x2)]) hx hb dX9_good_132 hl (k := 4) rfl (by rw [e_y19]; rfl) (by decide) rfl (fun ls hl => ?_)
        refine lv_goto (tgt := 73) hx hb dX9_good_135 (by decide) ?_
        exact ih x1 x2 y18 y19 σ16 _ _ _ hs (lv_sub hl [2, 3, 4, 1, 0] rfl) hf
      · have hf := z_f hf c17
        refine lv_iload hx hb dX9_good_92 (lv_at hl 4 rfl) ?_
        refine lv_iload_n hx hb dX9_good_94 rfl (lv_at hl 2 rfl) ?_
        refine lv_icmp_eq (tgt := 125) hx hb dX9_good_95 (by decide) (fun c20 => ?_) (fun c20 => ?_)
        · have hf := z_t hf c20
          refine lv_iconst (v := 1) hx hb dX9_good_125 (by decide) ?_
          refine lv_goto (tgt := 130) hx hb dX9_good_126 (by decide) ?_
          refine lv_iadd hx hb dX9_good_130 ?_
          refine lv_topi (fun y21 e_y21 => ?_)
          have hf := z_lte e_y21 hf
          refine lv_istore_n (lv' := [(3, .int y21), (0, .ref (z_ad E (100, 0, 0))), (1, .int x1), (2, .int x2), (4, .int x4)]) hx hb dX9_good_131 rfl hl (by decide) rfl (fun ls hl => ?_)
          obtain ⟨y22, e_y22⟩ : ∃ y : Int32, y = x4 + 1 := ⟨_, rfl⟩
          have hf := z_lte e_y22 hf
          refine lv_iinc (v := y22) (lv' := [(4, .int y22), (3, .int y21), (0, .ref (z_ad E (100, 0, 0))), (1, .int x1), (2, .int x2)]) hx hb dX9_good_132 hl (k := 4) rfl (by rw [e_y22]; rfl) (by decide) rfl (fun ls hl => ?_)
          refine lv_goto (tgt := 73) hx hb dX9_good_135 (by decide) ?_
          exact ih x1 x2 y21 y22 σ16 _ _ _ hs (lv_sub hl [2, 3, 4, 1, 0] rfl) hf
        · have hf := z_f hf c20
          refine lv_aload_n hx hb dX9_good_98 rfl (lv_at hl 0 rfl) ?_
          refine lv_iload_n hx hb dX9_good_99 rfl (lv_at hl 2 rfl) ?_
          refine lv_bipush (v := 64) hx hb dX9_good_100 (by decide) ?_
          refine lv_iload hx hb dX9_good_102 (lv_at hl 4 rfl) ?_
          refine lv_iadd hx hb dX9_good_104 ?_
          obtain ⟨r23, σ23, h_23, hf⟩ := z_bds hf
          refine z_goI C hs (z_runV C hs hl.1 (cM_of l E hM h_23) zcV_RX9_146 (hM 100 (by decide) (by decide)) (z_c100 E _ _ _ _) rfl rfl rfl (by decide) (Nat.le_of_ble_eq_true rfl) dX9_good_105) (fun H locs hs => ?_)
          refine lv_aload_n hx hb dX9_good_108 rfl (lv_at hl 0 rfl) ?_
          refine zg_M_all C hs (hM 100 (by decide) (by decide)) z_k952 dX9_good_109 ?_
          refine lv_sipush (v := 4800) hx hb dX9_good_112 (by decide) ?_
          refine lv_iconst (v := 4) hx hb dX9_good_115 (by decide) ?_
          refine lv_iload_n hx hb dX9_good_116 rfl (lv_at hl 1 rfl) ?_
          refine lv_imul hx hb dX9_good_117 ?_
          refine lv_iadd hx hb dX9_good_118 ?_
          refine lv_iconst (v := 3) hx hb dX9_good_119 (by decide) ?_
          refine lv_iadd hx hb dX9_good_120 ?_
          obtain ⟨g24, hf⟩ := z_gd hf
          refine z_ald C hs (hM 103 (by decide) (by decide)) (z_c103 E _ _ _ _) g24 rfl dX9_good_121 ?_
          refine lv_icmp_le (tgt := 129) hx hb dX9_good_122 (by decide) (fun c25 => ?_) (fun c25 => ?_)
          · have hf := z_t hf c25
            refine lv_iconst (v := 0) hx hb dX9_good_129 (by decide) ?_
            refine lv_iadd hx hb dX9_good_130 ?_
            refine lv_topi (fun y26 e_y26 => ?_)
            have hf := z_lte e_y26 hf
            refine lv_istore_n (lv' := [(3, .int y26), (0, .ref (z_ad E (100, 0, 0))), (1, .int x1), (2, .int x2), (4, .int x4)]) hx hb dX9_good_131 rfl hl (by decide) rfl (fun ls hl => ?_)
            obtain ⟨y27, e_y27⟩ : ∃ y : Int32, y = x4 + 1 := ⟨_, rfl⟩
            have hf := z_lte e_y27 hf
            refine lv_iinc (v := y27) (lv' := [(4, .int y27), (3, .int y26), (0, .ref (z_ad E (100, 0, 0))), (1, .int x1), (2, .int x2)]) hx hb dX9_good_132 hl (k := 4) rfl (by rw [e_y27]; rfl) (by decide) rfl (fun ls hl => ?_)
            refine lv_goto (tgt := 73) hx hb dX9_good_135 (by decide) ?_
            exact ih x1 x2 y26 y27 σ23 _ _ _ hs (lv_sub hl [2, 3, 4, 1, 0] rfl) hf
          · have hf := z_f hf c25
            refine lv_iconst (v := 1) hx hb dX9_good_125 (by decide) ?_
            refine lv_goto (tgt := 130) hx hb dX9_good_126 (by decide) ?_
            refine lv_iadd hx hb dX9_good_130 ?_
            refine lv_topi (fun y28 e_y28 => ?_)
            have hf := z_lte e_y28 hf
            refine lv_istore_n (lv' := [(3, .int y28), (0, .ref (z_ad E (100, 0, 0))), (1, .int x1), (2, .int x2), (4, .int x4)]) hx hb dX9_good_131 rfl hl (by decide) rfl (fun ls hl => ?_)
            obtain ⟨y29, e_y29⟩ : ∃ y : Int32, y = x4 + 1 := ⟨_, rfl⟩
            have hf := z_lte e_y29 hf
            refine lv_iinc (v := y29) (lv' := [(4, .int y29), (3, .int y28), (0, .ref (z_ad E (100, 0, 0))), (1, .int x1), (2, .int x2)]) hx hb dX9_good_132 hl (k := 4) rfl (by rw [e_y29]; rfl) (by decide) rfl (fun ls hl => ?_)
            refine lv_goto (tgt := 73) hx hb dX9_good_135 (by decide) ?_
            exact ih x1 x2 y28 y29 σ23 _ _ _ hs (lv_sub hl [2, 3, 4, 1, 0] rfl) hf
set_option maxHeartbeats 4000000 in
set_option maxRecDepth 20000 in
theorem wM_good {x1 : Int32} (C : z_C E RX9 cX9_good 5 A p s m args meth c) (hr : meth.sig.returnType = (some .int)) (hM : z_M E) {ro : Int32} {σo : zS} (σ : zS) (H : Heap) (locs : List Loc) (ls : Array Slot) (hs : z_H E A s σ H locs) (hl : lv_has ls 5 [(0, .ref (z_ad E (100, 0, 0))), (1, .int x1)]) (hf : fM_good x1 σ = some (ro, σo)) : W p l e (z_rm 5) s m args below meth c H locs 0 0 (MQ below (z_QI E ro σo A) args s 0 0 A) (F0 m 0 ls []) := by
  have hx := C.1
  have hb := C.2.1
  unfold fM_good at hf
  refine lv_iload_n hx hb dX9_good_0 rfl (lv_at hl 1 rfl) ?_
  refine lv_iconst (v := 0) hx hb dX9_good_1 (by decide) ?_
  refine lv_aload_n hx hb dX9_good_2 rfl (lv_at hl 0 rfl) ?_
  refine zg_M_all C hs (hM 100 (by decide) (by decide)) z_k952 dX9_good_3 ?_
  refine lv_sipush (v := 4960) hx hb dX9_good_6 (by decide) ?_
  refine z_ald C hs (hM 103 (by decide) (by decide)) (z_c103 E _ _ _ _) (by decide +kernel) (k := 4960) (by decide +kernel) dX9_good_9 ?_
  refine lv_iconst (v := 1) hx hb dX9_good_10 (by decide) ?_
  refine lv_isub hx hb dX9_good_11 ?_
  obtain ⟨r1, σ1, h_1, hf⟩ := z_bds hf
  refine z_goI C hs (z_runS C hs hl.1 (cM_isIn l E h_1) zcS_RX9_132 rfl rfl rfl (by decide) (Nat.le_of_ble_eq_true rfl) dX9_good_12) (fun H locs hs => ?_)
  refine lv_if_ne (tgt := 21) hx hb dX9_good_15 (by decide) (fun c2 => ?_) (fun c2 => ?_)
  · have hf := z_f hf c2
    refine lv_aload_n hx hb dX9_good_21 rfl (lv_at hl 0 rfl) ?_
    refine zg_M_all C hs (hM 100 (by decide) (by decide)) z_k952 dX9_good_22 ?_
    refine lv_sipush (v := 4800) hx hb dX9_good_25 (by decide) ?_
    refine lv_iconst (v := 4) hx hb dX9_good_28 (by decide) ?_
    refine lv_iload_n hx hb dX9_good_29 rfl (lv_at hl 1 rfl) ?_
    refine lv_imul hx hb dX9_good_30 ?_
    refine lv_iadd hx hb dX9_good_31 ?_
    obtain ⟨g3, hf⟩ := z_gd hf
    refine z_ald C hs (hM 103 (by decide) (by decide)) (z_c103 E _ _ _ _) g3 rfl dX9_good_32 ?_
    refine lv_topi (fun y4 e_y4 => ?_)
    have hf := z_lte e_y4 hf
    refine lv_istore_n (lv' := [(2, .int y4), (0, .ref (z_ad E (100, 0, 0))), (1, .int x1)]) hx hb dX9_good_33 rfl hl (by decide) rfl (fun ls hl => ?_)
    refine lv_aload_n hx hb dX9_good_34 rfl (lv_at hl 1 rfl) ?_
    refine lv_iload_n hx hb dX9_good_35 rfl (lv_at hl 0 rfl) ?_
    obtain ⟨r5, σ5, h_5, hf⟩ := z_bds hf
    refine z_goI C hs (z_runV C hs hl.1 (cM_doesLead l E hM h_5) zcV_RX9_205 (hM 100 (by decide) (by decide)) (z_c100 E _ _ _ _) rfl rfl rfl (by decide) (Nat.le_of_ble_eq_true rfl) dX9_good_36) (fun H locs hs => ?_)
    refine lv_if_eq (tgt := 65) hx hb dX9_good_39 (by decide) (fun c6 => ?_) (fun c6 => ?_)
    · have hf := z_t hf c6
      refine lv_ldc (v := (-1000000)) hx hb C.2.2.2.1 (C.2.2.2.2.1 _ z_k1242) dX9_good_65 ?_
      exact z_reti C hr hs hf dX9_good_67
    · have hf := z_f hf c6
      refine lv_aload_n hx hb dX9_good_42 rfl (lv_at hl 1 rfl) ?_
      refine lv_iload_n hx hb dX9_good_43 rfl (lv_at hl 0 rfl) ?_
      refine lv_iconst (v := 0) hx hb dX9_good_44 (by decide) ?_
      obtain ⟨r7, σ7, h_7, hf⟩ := z_bds hf
      refine z_goI C hs (z_runV C hs hl.1 (cM_of l E hM h_7) zcV_RX9_146 (hM 100 (by decide) (by decide)) (z_c100 E _ _ _ _) rfl rfl rfl (by decide) (Nat.le_of_ble_eq_true rfl) dX9_good_45) (fun H locs hs => ?_)
      refine lv_aload_n hx hb dX9_good_48 rfl (lv_at hl 1 rfl) ?_
      refine zg_M_all C hs (hM 100 (by decide) (by decide)) z_k952 dX9_good_49 ?_
      refine lv_sipush (v := 4800) hx hb dX9_good_52 (by decide) ?_
      refine lv_iconst (v := 4) hx hb dX9_good_55 (by decide) ?_
      refine lv_iload_n hx hb dX9_good_56 rfl (lv_at hl 2 rfl) ?_
      refine lv_imul hx hb dX9_good_57 ?_
      refine lv_iadd hx hb dX9_good_58 ?_
      refine lv_iconst (v := 2) hx hb dX9_good_59 (by decide) ?_
      refine lv_iadd hx hb dX9_good_60 ?_
      obtain ⟨g8, hf⟩ := z_gd hf
      refine z_ald C hs (hM 103 (by decide) (by decide)) (z_c103 E _ _ _ _) g8 rfl dX9_good_61 ?_
      refine lv_icmp_eq (tgt := 68) hx hb dX9_good_62 (by decide) (fun c9 => ?_) (fun c9 => ?_)
      · have hf := z_t hf c9
        refine lv_iconst (v := 0) hx hb dX9_good_68 (by decide) ?_
        refine lv_istore_n (lv' := [(3, .int 0), (2, .int y4), (0, .ref (z_ad E (100, 0, 0))), (1, .int x1)]) hx hb dX9_good_69 rfl hl (by decide) rfl (fun ls hl => ?_)
        refine lv_iconst (v := 0) hx hb dX9_good_70 (by decide) ?_
        refine lv_istore (lv' := [(4, .int 0), (3, .int 0), (2, .int y4), (0, .ref (z_ad E (100, 0, 0))), (1, .int x1)]) hx hb dX9_good_71 hl (by decide) rfl (fun ls hl => ?_)
        exact wM_good_73 C hr hM z_fu x1 y4 0 0 σ7 _ _ _ hs (lv_sub hl [3, 4, 2, 1, 0] rfl) hf
      · have hf := z_f hf c9
        refine lv_ldc (v := (-1000000)) hx hb C.2.2.2.1 (C.2.2.2.2.1 _ z_k1242) dX9_good_65 ?_
        exact z_reti C hr hs hf dX9_good_67
  · have hf := z_t hf c2
    refine lv_ldc (v := (-1000000)) hx hb C.2.2.2.1 (C.2.2.2.2.1 _ z_k1242) dX9_good_18 ?_
    exact z_reti C hr hs hf dX9_good_20
set_option maxHeartbeats 4000000 in
set_option maxRecDepth 20000 in
theorem cM_good (l : Launch) (E : zE) {x1 : Int32} (hM : z_M E) {σ σo : zS} {ro : Int32} (hf : fM_good x1 σ = some (ro, σo)) : z_T l E yX9_good cX9_good 5 (some .int) (z_rm 5) (z_QI E ro σo) [.ref (z_ad E (100, 0, 0)), .int x1] σ :=
  z_enter (by decide) (Nat.le_of_ble_eq_true rfl) rfl (fun p e s m below meth c A ls C hr hs hl => wM_good C hr hM σ _ _ ls hs hl hf)
def fM_keeper (x1 : Int32) (x2 : Int32) (σ : zS) : Option (Int32 × zS) :=
  z_bd (fM_isKeeper x1 σ) (fun r1 σ1 =>
  if r1 = 0 then
    (some ((-2), σ1))
  else
    (if x2 = 0 then
      (z_bd (fM_of x1 0 σ1) (fun r4 σ4 =>
      some (r4, σ4)))
    else
      (if x2 = 1 then
        (z_bd (fM_of x1 1 σ1) (fun r6 σ6 =>
        some (r6, σ6)))
      else
        (if x2 = 2 then
          (z_bd (fM_of x1 5 σ1) (fun r8 σ8 =>
          some (r8, σ8)))
        else
          (if x2 = 3 then
            (z_bd (fM_of x1 2 σ1) (fun r10 σ10 =>
            some (r10, σ10)))
          else
            (if x2 = 4 then
              (z_bd (fM_of x1 4 σ1) (fun r12 σ12 =>
              some (r12, σ12)))
            else
              (if x2 = 5 then
                (z_bd (fM_of x1 6 σ1) (fun r14 σ14 =>
                some (r14, σ14)))
              else
                (if x2 = 6 then
                  (z_bd (fM_of x1 9 σ1) (fun r16 σ16 =>
                  some (r16, σ16)))
                else
                  (if x2 = 7 then
                    (z_bd (fM_of x1 5 σ1) (fun r18 σ18 =>
                    if r18 = 0 then
                      (some (0, σ18))
                    else
                      (z_bd (fM_of x1 7 σ18) (fun r20 σ20 =>
                      some (r20, σ20)))))
                  else
                    (if x2 = 8 then
                      (z_bd (fM_of x1 5 σ1) (fun r22 σ22 =>
                      if r22 = 2 then
                        (z_bd (fM_of x1 8 σ22) (fun r24 σ24 =>
                        some (r24, σ24)))
                      else
                        (some (0, σ22))))
                    else
                      (if x2 = 9 then
                        (z_bd (fM_isVoter x1 σ1) (fun r26 σ26 =>
                        if r26 = 0 then
                          (some (0, σ26))
                        else
                          (some (1, σ26))))
                      else
                        (some ((-2), σ1)))))))))))))
set_option maxHeartbeats 4000000 in
set_option maxRecDepth 20000 in
theorem wM_keeper {x1 : Int32} {x2 : Int32} (C : z_C E RX9 cX9_keeper 3 A p s m args meth c) (hr : meth.sig.returnType = (some .int)) (hM : z_M E) {ro : Int32} {σo : zS} (σ : zS) (H : Heap) (locs : List Loc) (ls : Array Slot) (hs : z_H E A s σ H locs) (hl : lv_has ls 3 [(0, .ref (z_ad E (100, 0, 0))), (1, .int x1), (2, .int x2)]) (hf : fM_keeper x1 x2 σ = some (ro, σo)) : W p l e (z_rm 3) s m args below meth c H locs 0 0 (MQ below (z_QI E ro σo A) args s 0 0 A) (F0 m 0 ls []) := by
  have hx := C.1
  have hb := C.2.1
  unfold fM_keeper at hf
  refine lv_aload_n hx hb dX9_keeper_0 rfl (lv_at hl 0 rfl) ?_
  refine lv_iload_n hx hb dX9_keeper_1 rfl (lv_at hl 1 rfl) ?_
  obtain ⟨r1, σ1, h_1, hf⟩ := z_bds hf
  refine z_goI C hs (z_runV C hs hl.1 (cM_isKeeper l E hM h_1) zcV_RX9_143 (hM 100 (by decide) (by decide)) (z_c100 E _ _ _ _) rfl rfl rfl (by decide) (Nat.le_of_ble_eq_true rfl) dX9_keeper_2) (fun H locs hs => ?_)
  refine lv_if_ne (tgt := 11) hx hb dX9_keeper_5 (by decide) (fun c2 => ?_) (fun c2 => ?_)
  · have hf := z_f hf c2
    refine lv_iload_n hx hb dX9_keeper_11 rfl (lv_at hl 2 rfl) ?_
    by_cases c3 : x2 = 0
    · have hf := z_t hf c3
      refine lv_tableIn (off := 56) (tgt := 68) hx hb dX9_keeper_12 (by rw [c3]; decide) (by rw [c3]; decide) (by rw [c3]; decide) (by decide) ?_
      refine lv_aload_n hx hb dX9_keeper_68 rfl (lv_at hl 0 rfl) ?_
      refine lv_iload_n hx hb dX9_keeper_69 rfl (lv_at hl 1 rfl) ?_
      refine lv_iconst (v := 0) hx hb dX9_keeper_70 (by decide) ?_
      obtain ⟨r4, σ4, h_4, hf⟩ := z_bds hf
      refine z_goI C hs (z_runV C hs hl.1 (cM_of l E hM h_4) zcV_RX9_146 (hM 100 (by decide) (by decide)) (z_c100 E _ _ _ _) rfl rfl rfl (by decide) (Nat.le_of_ble_eq_true rfl) dX9_keeper_71) (fun H locs hs => ?_)
      exact z_reti C hr hs hf dX9_keeper_74
    · have hf := z_f hf c3
      by_cases c5 : x2 = 1
      · have hf := z_t hf c5
        refine lv_tableIn (off := 63) (tgt := 75) hx hb dX9_keeper_12 (by rw [c5]; decide) (by rw [c5]; decide) (by rw [c5]; decide) (by decide) ?_
        refine lv_aload_n hx hb dX9_keeper_75 rfl (lv_at hl 0 rfl) ?_
        refine lv_iload_n hx hb dX9_keeper_76 rfl (lv_at hl 1 rfl) ?_
        refine lv_iconst (v := 1) hx hb dX9_keeper_77 (by decide) ?_
        obtain ⟨r6, σ6, h_6, hf⟩ := z_bds hf
        refine z_goI C hs (z_runV C hs hl.1 (cM_of l E hM h_6) zcV_RX9_146 (hM 100 (by decide) (by decide)) (z_c100 E _ _ _ _) rfl rfl rfl (by decide) (Nat.le_of_ble_eq_true rfl) dX9_keeper_78) (fun H locs hs => ?_)
        exact z_reti C hr hs hf dX9_keeper_81
      · have hf := z_f hf c5
        by_cases c7 : x2 = 2
        · have hf := z_t hf c7
          refine lv_tableIn (off := 70) (tgt := 82) hx hb dX9_keeper_12 (by rw [c7]; decide) (by rw [c7]; decide) (by rw [c7]; decide) (by decide) ?_
          refine lv_aload_n hx hb dX9_keeper_82 rfl (lv_at hl 0 rfl) ?_
          refine lv_iload_n hx hb dX9_keeper_83 rfl (lv_at hl 1 rfl) ?_
          refine lv_iconst (v := 5) hx hb dX9_keeper_84 (by decide) ?_
          obtain ⟨r8, σ8, h_8, hf⟩ := z_bds hf
          refine z_goI C hs (z_runV C hs hl.1 (cM_of l E hM h_8) zcV_RX9_146 (hM 100 (by decide) (by decide)) (z_c100 E _ _ _ _) rfl rfl rfl (by decide) (Nat.le_of_ble_eq_true rfl) dX9_keeper_85) (fun H locs hs => ?_)
          exact z_reti C hr hs hf dX9_keeper_88
        · have hf := z_f hf c7
          by_cases c9 : x2 = 3
          · have hf := z_t hf c9
            refine lv_tableIn (off := 77) (tgt := 89) hx hb dX9_keeper_12 (by rw [c9]; decide) (by rw [c9]; decide) (by rw [c9]; decide) (by decide) ?_
            refine lv_aload_n hx hb dX9_keeper_89 rfl (lv_at hl 0 rfl) ?_
            refine lv_iload_n hx hb dX9_keeper_90 rfl (lv_at hl 1 rfl) ?_
            refine lv_iconst (v := 2) hx hb dX9_keeper_91 (by decide) ?_
            obtain ⟨r10, σ10, h_10, hf⟩ := z_bds hf
            refine z_goI C hs (z_runV C hs hl.1 (cM_of l E hM h_10) zcV_RX9_146 (hM 100 (by decide) (by decide)) (z_c100 E _ _ _ _) rfl rfl rfl (by decide) (Nat.le_of_ble_eq_true rfl) dX9_keeper_92) (fun H locs hs => ?_)
            exact z_reti C hr hs hf dX9_keeper_95
          · have hf := z_f hf c9
            by_cases c11 : x2 = 4
            · have hf := z_t hf c11
              refine lv_tableIn (off := 84) (tgt := 96) hx hb dX9_keeper_12 (by rw [c11]; decide) (by rw [c11]; decide) (by rw [c11]; decide) (by decide) ?_
              refine lv_aload_n hx hb dX9_keeper_96 rfl (lv_at hl 0 rfl) ?_
              refine lv_iload_n hx hb dX9_keeper_97 rfl (lv_at hl 1 rfl) ?_
              refine lv_iconst (v := 4) hx hb dX9_keeper_98 (by decide) ?_
              obtain ⟨r12, σ12, h_12, hf⟩ := z_bds hf
              refine z_goI C hs (z_runV C hs hl.1 (cM_of l E hM h_12) zcV_RX9_146 (hM 100 (by decide) (by decide)) (z_c100 E _ _ _ _) rfl rfl rfl (by decide) (Nat.le_of_ble_eq_true rfl) dX9_keeper_99) (fun H locs hs => ?_)
              exact z_reti C hr hs hf dX9_keeper_102
            · have hf := z_f hf c11
              by_cases c13 : x2 = 5
              · have hf := z_t hf c13
                refine lv_tableIn (off := 91) (tgt := 103) hx hb dX9_keeper_12 (by rw [c13]; decide) (by rw [c13]; decide) (by rw [c13]; decide) (by decide) ?_
                refine lv_aload_n hx hb dX9_keeper_103 rfl (lv_at hl 0 rfl) ?_
                refine lv_iload_n hx hb dX9_keeper_104 rfl (lv_at hl 1 rfl) ?_
                refine lv_bipush (v := 6) hx hb dX9_keeper_105 (by decide) ?_
                obtain ⟨r14, σ14, h_14, hf⟩ := z_bds hf
                refine z_goI C hs (z_runV C hs hl.1 (cM_of l E hM h_14) zcV_RX9_146 (hM 100 (by decide) (by decide)) (z_c100 E _ _ _ _) rfl rfl rfl (by decide) (Nat.le_of_ble_eq_true rfl) dX9_keeper_107) (fun H locs hs => ?_)
                exact z_reti C hr hs hf dX9_keeper_110
              · have hf := z_f hf c13
                by_cases c15 : x2 = 6
                · have hf := z_t hf c15
                  refine lv_tableIn (off := 99) (tgt := 111) hx hb dX9_keeper_12 (by rw [c15]; decide) (by rw [c15]; decide) (by rw [c15]; decide) (by decide) ?_
                  refine lv_aload_n hx hb dX9_keeper_111 rfl (lv_at hl 0 rfl) ?_
                  refine lv_iload_n hx hb dX9_keeper_112 rfl (lv_at hl 1 rfl) ?_
                  refine lv_bipush (v := 9) hx hb dX9_keeper_113 (by decide) ?_
                  obtain ⟨r16, σ16, h_16, hf⟩ := z_bds hf
                  refine z_goI C hs (z_runV C hs hl.1 (cM_of l E hM h_16) zcV_RX9_146 (hM 100 (by decide) (by decide)) (z_c100 E _ _ _ _) rfl rfl rfl (by decide) (Nat.le_of_ble_eq_true rfl) dX9_keeper_115) (fun H locs hs => ?_)
                  exact z_reti C hr hs hf dX9_keeper_118
                · have hf := z_f hf c15
                  by_cases c17 : x2 = 7
                  · have hf := z_t hf c17
                    refine lv_tableIn (off := 107) (tgt := 119) hx hb dX9_keeper_12 (by rw [c17]; decide) (by rw [c17]; decide) (by rw [c17]; decide) (by decide) ?_
                    refine lv_aload_n hx hb dX9_keeper_119 rfl (lv_at hl 0 rfl) ?_
                    refine lv_iload_n hx hb dX9_keeper_120 rfl (lv_at hl 1 rfl) ?_
                    refine lv_iconst (v := 5) hx hb dX9_keeper_121 (by decide) ?_
                    obtain ⟨r18, σ18, h_18, hf⟩ := z_bds hf
                    refine z_goI C hs (z_runV C hs hl.1 (cM_of l E hM h_18) zcV_RX9_146 (hM 100 (by decide) (by decide)) (z_c100 E _ _ _ _) rfl rfl rfl (by decide) (Nat.le_of_ble_eq_true rfl) dX9_keeper_122) (fun H locs hs => ?_)
                    refine lv_if_ne (tgt := 132) hx hb dX9_keeper_125 (by decide) (fun c19 => ?_) (fun c19 => ?_)
                    · have hf := z_f hf c19
                      refine lv_aload_n hx hb dX9_keeper_132 rfl (lv_at hl 0 rfl) ?_
                      refine lv_iload_n hx hb dX9_keeper_133 rfl (lv_at hl 1 rfl) ?_
                      refine lv_bipush (v := 7) hx hb dX9_keeper_134 (by decide) ?_
                      obtain ⟨r20, σ20, h_20, hf⟩ := z_bds hf
                      refine z_goI C hs (z_runV C hs hl.1 (cM_of l E hM h_20) zcV_RX9_146 (hM 100 (by decide) (by decide)) (z_c100 E _ _ _ _) rfl rfl rfl (by decide) (Nat.le_of_ble_eq_true rfl) dX9_keeper_136) (fun H locs hs => ?_)
                      exact z_reti C hr hs hf dX9_keeper_139
                    · have hf := z_t hf c19
                      refine lv_iconst (v := 0) hx hb dX9_keeper_128 (by decide) ?_
                      refine lv_goto (tgt := 139) hx hb dX9_keeper_129 (by decide) ?_
                      exact z_reti C hr hs hf dX9_keeper_139
                  · have hf := z_f hf c17
                    by_cases c21 : x2 = 8
                    · have hf := z_t hf c21
                      refine lv_tableIn (off := 128) (tgt := 140) hx hb dX9_keeper_12 (by rw [c21]; decide) (by rw [c21]; decide) (by rw [c21]; decide) (by decide) ?_
                      refine lv_aload_n hx hb dX9_keeper_140 rfl (lv_at hl 0 rfl) ?_
                      refine lv_iload_n hx hb dX9_keeper_141 rfl (lv_at hl 1 rfl) ?_
                      refine lv_iconst (v := 5) hx hb dX9_keeper_142 (by decide) ?_
                      obtain ⟨r22, σ22, h_22, hf⟩ := z_bds hf
                      refine z_goI C hs (z_runV C hs hl.1 (cM_of l E hM h_22) zcV_RX9_146 (hM 100 (by decide) (by decide)) (z_c100 E _ _ _ _) rfl rfl rfl (by decide) (Nat.le_of_ble_eq_true rfl) dX9_keeper_143) (fun H locs hs => ?_)
                      refine lv_iconst (v := 2) hx hb dX9_keeper_146 (by decide) ?_
                      refine lv_icmp_ne (tgt := 160) hx hb dX9_keeper_147 (by decide) (fun c23 => ?_) (fun c23 => ?_)
                      · have hf := z_f hf c23
                        refine lv_iconst (v := 0) hx hb dX9_keeper_160 (by decide) ?_
                        exact z_reti C hr hs hf dX9_keeper_161
                      · have hf := z_t hf c23
                        refine lv_aload_n hx hb dX9_keeper_150 rfl (lv_at hl 0 rfl) ?_
                        refine lv_iload_n hx hb dX9_keeper_151 rfl (lv_at hl 1 rfl) ?_
                        refine lv_bipush (v := 8) hx hb dX9_keeper_152 (by decide) ?_
                        obtain ⟨r24, σ24, h_24, hf⟩ := z_bds hf
                        refine z_goI C hs (z_runV C hs hl.1 (cM_of l E hM h_24) zcV_RX9_146 (hM 100 (by decide) (by decide)) (z_c100 E _ _ _ _) rfl rfl rfl (by decide) (Nat.le_of_ble_eq_true rfl) dX9_keeper_154) (fun H locs hs => ?_)
                        refine lv_goto (tgt := 161) hx hb dX9_keeper_157 (by decide) ?_
                        exact z_reti C hr hs hf dX9_keeper_161
                    · have hf := z_f hf c21
                      by_cases c25 : x2 = 9
                      · have hf := z_t hf c25
                        refine lv_tableIn (off := 150) (tgt := 162) hx hb dX9_keeper_12 (by rw [c25]; decide) (by rw [c25]; decide) (by rw [c25]; decide) (by decide) ?_
                        refine lv_aload_n hx hb dX9_keeper_162 rfl (lv_at hl 0 rfl) ?_
                        refine lv_iload_n hx hb dX9_keeper_163 rfl (lv_at hl 1 rfl) ?_
                        obtain ⟨r26, σ26, h_26, hf⟩ := z_bds hf
                        refine z_goI C hs (z_runV C hs hl.1 (cM_isVoter l E hM h_26) zcV_RX9_166 (hM 100 (by decide) (by decide)) (z_c100 E _ _ _ _) rfl rfl rfl (by decide) (Nat.le_of_ble_eq_true rfl) dX9_keeper_164) (fun H locs hs => ?_)
                        refine lv_if_eq (tgt := 174) hx hb dX9_keeper_167 (by decide) (fun c27 => ?_) (fun c27 => ?_)
                        · have hf := z_t hf c27
                          refine lv_iconst (v := 0) hx hb dX9_keeper_174 (by decide) ?_
                          exact z_reti C hr hs hf dX9_keeper_175
                        · have hf := z_f hf c27
                          refine lv_iconst (v := 1) hx hb dX9_keeper_170 (by decide) ?_
                          refine lv_goto (tgt := 175) hx hb dX9_keeper_171 (by decide) ?_
                          exact z_reti C hr hs hf dX9_keeper_175
                      · have hf := z_f hf c25
                        have hq : (x2).toInt < 0 ∨ 9 < (x2).toInt := by
                          have q0 := z_ne (k := 0) (n := 0) (by decide +kernel) c3
                          have q1 := z_ne (k := 1) (n := 1) (by decide +kernel) c5
                          have q2 := z_ne (k := 2) (n := 2) (by decide +kernel) c7
                          have q3 := z_ne (k := 3) (n := 3) (by decide +kernel) c9
                          have q4 := z_ne (k := 4) (n := 4) (by decide +kernel) c11
                          have q5 := z_ne (k := 5) (n := 5) (by decide +kernel) c13
                          have q6 := z_ne (k := 6) (n := 6) (by decide +kernel) c15
                          have q7 := z_ne (k := 7) (n := 7) (by decide +kernel) c17
                          have q8 := z_ne (k := 8) (n := 8) (by decide +kernel) c21
                          have q9 := z_ne (k := 9) (n := 9) (by decide +kernel) c25
                          omega
                        refine lv_tableOut (tgt := 176) hx hb dX9_keeper_12 hq (by decide) ?_
                        refine lv_bipush (v := (-2)) hx hb dX9_keeper_176 (by decide) ?_
                        exact z_reti C hr hs hf dX9_keeper_178
  · have hf := z_t hf c2
    refine lv_bipush (v := (-2)) hx hb dX9_keeper_8 (by decide) ?_
    exact z_reti C hr hs hf dX9_keeper_10
set_option maxHeartbeats 4000000 in
set_option maxRecDepth 20000 in
theorem cM_keeper (l : Launch) (E : zE) {x1 : Int32} {x2 : Int32} (hM : z_M E) {σ σo : zS} {ro : Int32} (hf : fM_keeper x1 x2 σ = some (ro, σo)) : z_T l E yX9_keeper cX9_keeper 3 (some .int) (z_rm 3) (z_QI E ro σo) [.ref (z_ad E (100, 0, 0)), .int x1, .int x2] σ :=
  z_enter (by decide) (Nat.le_of_ble_eq_true rfl) rfl (fun p e s m below meth c A ls C hr hs hl => wM_keeper C hr hM σ _ _ ls hs hl hf)
def fM_entry (x1 : Int32) (x2 : Int32) (x3 : Int32) (σ : zS) : Option (Int32 × zS) :=
  z_bd (fM_isKeeper x1 σ) (fun r1 σ1 =>
  if r1 = 0 then
    (some ((-1000000), σ1))
  else
    (z_bd (fM_of x1 2 σ1) (fun r3 σ3 =>
    if x2 ≤ r3 then
      (some ((-1000000), σ3))
    else
      (z_bd (fM_of x1 4 σ3) (fun r5 σ5 =>
      if r5 < x2 then
        (some ((-1000000), σ5))
      else
        (z_bd (fM_isIn x3 0 5 σ5) (fun r7 σ7 =>
        if r7 = 0 then
          (some ((-1000000), σ7))
        else
          (z_bd (fM_entryAt x1 x2 σ7) (fun r9 σ9 =>
          if z_in (r9 + x3) 5000 = true then (
          some (σ9.1 (103, 0, 0) (r9 + x3).toNatClampNeg, σ9)) else none)))))))))
set_option maxHeartbeats 4000000 in
set_option maxRecDepth 20000 in
theorem wM_entry {x1 : Int32} {x2 : Int32} {x3 : Int32} (C : z_C E RX9 cX9_entry 4 A p s m args meth c) (hr : meth.sig.returnType = (some .int)) (hM : z_M E) {ro : Int32} {σo : zS} (σ : zS) (H : Heap) (locs : List Loc) (ls : Array Slot) (hs : z_H E A s σ H locs) (hl : lv_has ls 4 [(0, .ref (z_ad E (100, 0, 0))), (1, .int x1), (2, .int x2), (3, .int x3)]) (hf : fM_entry x1 x2 x3 σ = some (ro, σo)) : W p l e (z_rm 3) s m args below meth c H locs 0 0 (MQ below (z_QI E ro σo A) args s 0 0 A) (F0 m 0 ls []) := by
  have hx := C.1
  have hb := C.2.1
  unfold fM_entry at hf
  refine lv_aload_n hx hb dX9_entry_0 rfl (lv_at hl 0 rfl) ?_
  refine lv_iload_n hx hb dX9_entry_1 rfl (lv_at hl 1 rfl) ?_
  obtain ⟨r1, σ1, h_1, hf⟩ := z_bds hf
  refine z_goI C hs (z_runV C hs hl.1 (cM_isKeeper l E hM h_1) zcV_RX9_143 (hM 100 (by decide) (by decide)) (z_c100 E _ _ _ _) rfl rfl rfl (by decide) (Nat.le_of_ble_eq_true rfl) dX9_entry_2) (fun H locs hs => ?_)
  refine lv_if_eq (tgt := 53) hx hb dX9_entry_5 (by decide) (fun c2 => ?_) (fun c2 => ?_)
  · have hf := z_t hf c2
    refine lv_ldc (v := (-1000000)) hx hb C.2.2.2.1 (C.2.2.2.2.1 _ z_k1242) dX9_entry_53 ?_
    exact z_reti C hr hs hf dX9_entry_55
  · have hf := z_f hf c2
    refine lv_iload_n hx hb dX9_entry_8 rfl (lv_at hl 2 rfl) ?_
    refine lv_aload_n hx hb dX9_entry_9 rfl (lv_at hl 0 rfl) ?_
    refine lv_iload_n hx hb dX9_entry_10 rfl (lv_at hl 1 rfl) ?_
    refine lv_iconst (v := 2) hx hb dX9_entry_11 (by decide) ?_
    obtain ⟨r3, σ3, h_3, hf⟩ := z_bds hf
    refine z_goI C hs (z_runV C hs hl.1 (cM_of l E hM h_3) zcV_RX9_146 (hM 100 (by decide) (by decide)) (z_c100 E _ _ _ _) rfl rfl rfl (by decide) (Nat.le_of_ble_eq_true rfl) dX9_entry_12) (fun H locs hs => ?_)
    refine lv_icmp_le (tgt := 53) hx hb dX9_entry_15 (by decide) (fun c4 => ?_) (fun c4 => ?_)
    · have hf := z_t hf c4
      refine lv_ldc (v := (-1000000)) hx hb C.2.2.2.1 (C.2.2.2.2.1 _ z_k1242) dX9_entry_53 ?_
      exact z_reti C hr hs hf dX9_entry_55
    · have hf := z_f hf c4
      refine lv_iload_n hx hb dX9_entry_18 rfl (lv_at hl 2 rfl) ?_
      refine lv_aload_n hx hb dX9_entry_19 rfl (lv_at hl 0 rfl) ?_
      refine lv_iload_n hx hb dX9_entry_20 rfl (lv_at hl 1 rfl) ?_
      refine lv_iconst (v := 4) hx hb dX9_entry_21 (by decide) ?_
      obtain ⟨r5, σ5, h_5, hf⟩ := z_bds hf
      refine z_goI C hs (z_runV C hs hl.1 (cM_of l E hM h_5) zcV_RX9_146 (hM 100 (by decide) (by decide)) (z_c100 E _ _ _ _) rfl rfl rfl (by decide) (Nat.le_of_ble_eq_true rfl) dX9_entry_22) (fun H locs hs => ?_)
      refine lv_icmp_gt (tgt := 53) hx hb dX9_entry_25 (by decide) (fun c6 => ?_) (fun c6 => ?_)
      · have hf := z_t hf c6
        refine lv_ldc (v := (-1000000)) hx hb C.2.2.2.1 (C.2.2.2.2.1 _ z_k1242) dX9_entry_53 ?_
        exact z_reti C hr hs hf dX9_entry_55
      · have hf := z_f hf c6
        refine lv_iload_n hx hb dX9_entry_28 rfl (lv_at hl 3 rfl) ?_
        refine lv_iconst (v := 0) hx hb dX9_entry_29 (by decide) ?_
        refine lv_iconst (v := 5) hx hb dX9_entry_30 (by decide) ?_
        obtain ⟨r7, σ7, h_7, hf⟩ := z_bds hf
        refine z_goI C hs (z_runS C hs hl.1 (cM_isIn l E h_7) zcS_RX9_132 rfl rfl rfl (by decide) (Nat.le_of_ble_eq_true rfl) dX9_entry_31) (fun H locs hs => ?_)
        refine lv_if_eq (tgt := 53) hx hb dX9_entry_34 (by decide) (fun c8 => ?_) (fun c8 => ?_)
        · have hf := z_t hf c8
          refine lv_ldc (v := (-1000000)) hx hb C.2.2.2.1 (C.2.2.2.2.1 _ z_k1242) dX9_entry_53 ?_
          exact z_reti C hr hs hf dX9_entry_55
        · have hf := z_f hf c8
          refine lv_aload_n hx hb dX9_entry_37 rfl (lv_at hl 0 rfl) ?_
          refine zg_M_all C hs (hM 100 (by decide) (by decide)) z_k952 dX9_entry_38 ?_
          refine lv_aload_n hx hb dX9_entry_41 rfl (lv_at hl 0 rfl) ?_
          refine lv_iload_n hx hb dX9_entry_42 rfl (lv_at hl 1 rfl) ?_
          refine lv_iload_n hx hb dX9_entry_43 rfl (lv_at hl 2 rfl) ?_
          obtain ⟨r9, σ9, h_9, hf⟩ := z_bds hf
          refine z_goI C hs (z_runV C hs hl.1 (cM_entryAt l E hM h_9) zcV_RX9_153 (hM 100 (by decide) (by decide)) (z_c100 E _ _ _ _) rfl rfl rfl (by decide) (Nat.le_of_ble_eq_true rfl) dX9_entry_44) (fun H locs hs => ?_)
          refine lv_iload_n hx hb dX9_entry_47 rfl (lv_at hl 3 rfl) ?_
          refine lv_iadd hx hb dX9_entry_48 ?_
          obtain ⟨g10, hf⟩ := z_gd hf
          refine z_ald C hs (hM 103 (by decide) (by decide)) (z_c103 E _ _ _ _) g10 rfl dX9_entry_49 ?_
          refine lv_goto (tgt := 55) hx hb dX9_entry_50 (by decide) ?_
          exact z_reti C hr hs hf dX9_entry_55
set_option maxHeartbeats 4000000 in
set_option maxRecDepth 20000 in
theorem cM_entry (l : Launch) (E : zE) {x1 : Int32} {x2 : Int32} {x3 : Int32} (hM : z_M E) {σ σo : zS} {ro : Int32} (hf : fM_entry x1 x2 x3 σ = some (ro, σo)) : z_T l E yX9_entry cX9_entry 4 (some .int) (z_rm 3) (z_QI E ro σo) [.ref (z_ad E (100, 0, 0)), .int x1, .int x2, .int x3] σ :=
  z_enter (by decide) (Nat.le_of_ble_eq_true rfl) rfl (fun p e s m below meth c A ls C hr hs hl => wM_entry C hr hM σ _ _ ls hs hl hf)
def fM_state (x1 : Int32) (x2 : Int32) (σ : zS) : Option (Int32 × zS) :=
  z_bd (fM_isKeeper x1 σ) (fun r1 σ1 =>
  if r1 = 0 then
    (some ((-1000000), σ1))
  else
    (z_bd (fM_isIn x2 0 7 σ1) (fun r3 σ3 =>
    if r3 = 0 then
      (some ((-1000000), σ3))
    else
      (z_bd (fM_of x1 (30 + x2) σ3) (fun r5 σ5 =>
      some (r5, σ5))))))
set_option maxHeartbeats 4000000 in
set_option maxRecDepth 20000 in
theorem wM_state {x1 : Int32} {x2 : Int32} (C : z_C E RX9 cX9_state 3 A p s m args meth c) (hr : meth.sig.returnType = (some .int)) (hM : z_M E) {ro : Int32} {σo : zS} (σ : zS) (H : Heap) (locs : List Loc) (ls : Array Slot) (hs : z_H E A s σ H locs) (hl : lv_has ls 3 [(0, .ref (z_ad E (100, 0, 0))), (1, .int x1), (2, .int x2)]) (hf : fM_state x1 x2 σ = some (ro, σo)) : W p l e (z_rm 3) s m args below meth c H locs 0 0 (MQ below (z_QI E ro σo A) args s 0 0 A) (F0 m 0 ls []) := by
  have hx := C.1
  have hb := C.2.1
  unfold fM_state at hf
  refine lv_aload_n hx hb dX9_state_0 rfl (lv_at hl 0 rfl) ?_
  refine lv_iload_n hx hb dX9_state_1 rfl (lv_at hl 1 rfl) ?_
  obtain ⟨r1, σ1, h_1, hf⟩ := z_bds hf
  refine z_goI C hs (z_runV C hs hl.1 (cM_isKeeper l E hM h_1) zcV_RX9_143 (hM 100 (by decide) (by decide)) (z_c100 E _ _ _ _) rfl rfl rfl (by decide) (Nat.le_of_ble_eq_true rfl) dX9_state_2) (fun H locs hs => ?_)
  refine lv_if_eq (tgt := 30) hx hb dX9_state_5 (by decide) (fun c2 => ?_) (fun c2 => ?_)
  · have hf := z_t hf c2
    refine lv_ldc (v := (-1000000)) hx hb C.2.2.2.1 (C.2.2.2.2.1 _ z_k1242) dX9_state_30 ?_
    exact z_reti C hr hs hf dX9_state_32
  · have hf := z_f hf c2
    refine lv_iload_n hx hb dX9_state_8 rfl (lv_at hl 2 rfl) ?_
    refine lv_iconst (v := 0) hx hb dX9_state_9 (by decide) ?_
    refine lv_bipush (v := 7) hx hb dX9_state_10 (by decide) ?_
    obtain ⟨r3, σ3, h_3, hf⟩ := z_bds hf
    refine z_goI C hs (z_runS C hs hl.1 (cM_isIn l E h_3) zcS_RX9_132 rfl rfl rfl (by decide) (Nat.le_of_ble_eq_true rfl) dX9_state_12) (fun H locs hs => ?_)
    refine lv_if_eq (tgt := 30) hx hb dX9_state_15 (by decide) (fun c4 => ?_) (fun c4 => ?_)
    · have hf := z_t hf c4
      refine lv_ldc (v := (-1000000)) hx hb C.2.2.2.1 (C.2.2.2.2.1 _ z_k1242) dX9_state_30 ?_
      exact z_reti C hr hs hf dX9_state_32
    · have hf := z_f hf c4
      refine lv_aload_n hx hb dX9_state_18 rfl (lv_at hl 0 rfl) ?_
      refine lv_iload_n hx hb dX9_state_19 rfl (lv_at hl 1 rfl) ?_
      refine lv_bipush (v := 30) hx hb dX9_state_20 (by decide) ?_
      refine lv_iload_n hx hb dX9_state_22 rfl (lv_at hl 2 rfl) ?_
      refine lv_iadd hx hb dX9_state_23 ?_
      obtain ⟨r5, σ5, h_5, hf⟩ := z_bds hf
      refine z_goI C hs (z_runV C hs hl.1 (cM_of l E hM h_5) zcV_RX9_146 (hM 100 (by decide) (by decide)) (z_c100 E _ _ _ _) rfl rfl rfl (by decide) (Nat.le_of_ble_eq_true rfl) dX9_state_24) (fun H locs hs => ?_)
      refine lv_goto (tgt := 32) hx hb dX9_state_27 (by decide) ?_
      exact z_reti C hr hs hf dX9_state_32
set_option maxHeartbeats 4000000 in
set_option maxRecDepth 20000 in
theorem cM_state (l : Launch) (E : zE) {x1 : Int32} {x2 : Int32} (hM : z_M E) {σ σo : zS} {ro : Int32} (hf : fM_state x1 x2 σ = some (ro, σo)) : z_T l E yX9_state cX9_state 3 (some .int) (z_rm 3) (z_QI E ro σo) [.ref (z_ad E (100, 0, 0)), .int x1, .int x2] σ :=
  z_enter (by decide) (Nat.le_of_ble_eq_true rfl) rfl (fun p e s m below meth c A ls C hr hs hl => wM_state C hr hM σ _ _ ls hs hl hf)
def fM_client (x1 : Int32) (x2 : Int32) (x3 : Int32) (σ : zS) : Option (Int32 × zS) :=
  z_bd (fM_isKeeper x1 σ) (fun r1 σ1 =>
  if r1 = 0 then
    (some ((-1000000), σ1))
  else
    (z_bd (fM_isIn x2 0 5 σ1) (fun r3 σ3 =>
    if r3 = 0 then
      (some ((-1000000), σ3))
    else
      (z_bd (fM_isIn x3 0 1 σ3) (fun r5 σ5 =>
      if r5 = 0 then
        (some ((-1000000), σ5))
      else
        (z_bd (fM_of x1 ((38 + (2 * x2)) + x3) σ5) (fun r7 σ7 =>
        some (r7, σ7))))))))
set_option maxHeartbeats 4000000 in
set_option maxRecDepth 20000 in
theorem wM_client {x1 : Int32} {x2 : Int32} {x3 : Int32} (C : z_C E RX9 cX9_client 4 A p s m args meth c) (hr : meth.sig.returnType = (some .int)) (hM : z_M E) {ro : Int32} {σo : zS} (σ : zS) (H : Heap) (locs : List Loc) (ls : Array Slot) (hs : z_H E A s σ H locs) (hl : lv_has ls 4 [(0, .ref (z_ad E (100, 0, 0))), (1, .int x1), (2, .int x2), (3, .int x3)]) (hf : fM_client x1 x2 x3 σ = some (ro, σo)) : W p l e (z_rm 3) s m args below meth c H locs 0 0 (MQ below (z_QI E ro σo A) args s 0 0 A) (F0 m 0 ls []) := by
  have hx := C.1
  have hb := C.2.1
  unfold fM_client at hf
  refine lv_aload_n hx hb dX9_client_0 rfl (lv_at hl 0 rfl) ?_
  refine lv_iload_n hx hb dX9_client_1 rfl (lv_at hl 1 rfl) ?_
  obtain ⟨r1, σ1, h_1, hf⟩ := z_bds hf
  refine z_goI C hs (z_runV C hs hl.1 (cM_isKeeper l E hM h_1) zcV_RX9_143 (hM 100 (by decide) (by decide)) (z_c100 E _ _ _ _) rfl rfl rfl (by decide) (Nat.le_of_ble_eq_true rfl) dX9_client_2) (fun H locs hs => ?_)
  refine lv_if_eq (tgt := 42) hx hb dX9_client_5 (by decide) (fun c2 => ?_) (fun c2 => ?_)
  · have hf := z_t hf c2
    refine lv_ldc (v := (-1000000)) hx hb C.2.2.2.1 (C.2.2.2.2.1 _ z_k1242) dX9_client_42 ?_
    exact z_reti C hr hs hf dX9_client_44
  · have hf := z_f hf c2
    refine lv_iload_n hx hb dX9_client_8 rfl (lv_at hl 2 rfl) ?_
    refine lv_iconst (v := 0) hx hb dX9_client_9 (by decide) ?_
    refine lv_iconst (v := 5) hx hb dX9_client_10 (by decide) ?_
    obtain ⟨r3, σ3, h_3, hf⟩ := z_bds hf
    refine z_goI C hs (z_runS C hs hl.1 (cM_isIn l E h_3) zcS_RX9_132 rfl rfl rfl (by decide) (Nat.le_of_ble_eq_true rfl) dX9_client_11) (fun H locs hs => ?_)
    refine lv_if_eq (tgt := 42) hx hb dX9_client_14 (by decide) (fun c4 => ?_) (fun c4 => ?_)
    · have hf := z_t hf c4
      refine lv_ldc (v := (-1000000)) hx hb C.2.2.2.1 (C.2.2.2.2.1 _ z_k1242) dX9_client_42 ?_
      exact z_reti C hr hs hf dX9_client_44
    · have hf := z_f hf c4
      refine lv_iload_n hx hb dX9_client_17 rfl (lv_at hl 3 rfl) ?_
      refine lv_iconst (v := 0) hx hb dX9_client_18 (by decide) ?_
      refine lv_iconst (v := 1) hx hb dX9_client_19 (by decide) ?_
      obtain ⟨r5, σ5, h_5, hf⟩ := z_bds hf
      refine z_goI C hs (z_runS C hs hl.1 (cM_isIn l E h_5) zcS_RX9_132 rfl rfl rfl (by decide) (Nat.le_of_ble_eq_true rfl) dX9_client_20) (fun H locs hs => ?_)
      refine lv_if_eq (tgt := 42) hx hb dX9_client_23 (by decide) (fun c6 => ?_) (fun c6 => ?_)
      · have hf := z_t hf c6
        refine lv_ldc (v := (-1000000)) hx hb C.2.2.2.1 (C.2.2.2.2.1 _ z_k1242) dX9_client_42 ?_
        exact z_reti C hr hs hf dX9_client_44
      · have hf := z_f hf c6
        refine lv_aload_n hx hb dX9_client_26 rfl (lv_at hl 0 rfl) ?_
        refine lv_iload_n hx hb dX9_client_27 rfl (lv_at hl 1 rfl) ?_
        refine lv_bipush (v := 38) hx hb dX9_client_28 (by decide) ?_
        refine lv_iconst (v := 2) hx hb dX9_client_30 (by decide) ?_
        refine lv_iload_n hx hb dX9_client_31 rfl (lv_at hl 2 rfl) ?_
        refine lv_imul hx hb dX9_client_32 ?_
        refine lv_iadd hx hb dX9_client_33 ?_
        refine lv_iload_n hx hb dX9_client_34 rfl (lv_at hl 3 rfl) ?_
        refine lv_iadd hx hb dX9_client_35 ?_
        obtain ⟨r7, σ7, h_7, hf⟩ := z_bds hf
        refine z_goI C hs (z_runV C hs hl.1 (cM_of l E hM h_7) zcV_RX9_146 (hM 100 (by decide) (by decide)) (z_c100 E _ _ _ _) rfl rfl rfl (by decide) (Nat.le_of_ble_eq_true rfl) dX9_client_36) (fun H locs hs => ?_)
        refine lv_goto (tgt := 44) hx hb dX9_client_39 (by decide) ?_
        exact z_reti C hr hs hf dX9_client_44
set_option maxHeartbeats 4000000 in
set_option maxRecDepth 20000 in
theorem cM_client (l : Launch) (E : zE) {x1 : Int32} {x2 : Int32} {x3 : Int32} (hM : z_M E) {σ σo : zS} {ro : Int32} (hf : fM_client x1 x2 x3 σ = some (ro, σo)) : z_T l E yX9_client cX9_client 4 (some .int) (z_rm 3) (z_QI E ro σo) [.ref (z_ad E (100, 0, 0)), .int x1, .int x2, .int x3] σ :=
  z_enter (by decide) (Nat.le_of_ble_eq_true rfl) rfl (fun p e s m below meth c A ls C hr hs hl => wM_client C hr hM σ _ _ ls hs hl hf)
def fM_peer (x1 : Int32) (x2 : Int32) (x3 : Int32) (σ : zS) : Option (Int32 × zS) :=
  z_bd (fM_isKeeper x1 σ) (fun r1 σ1 =>
  if r1 = 0 then
    (some ((-1), σ1))
  else
    (z_bd (fM_isKeeper x2 σ1) (fun r3 σ3 =>
    if r3 = 0 then
      (some ((-1), σ3))
    else
      (if x1 = x2 then
        (some ((-1), σ3))
      else
        (z_bd (fM_of x1 5 σ3) (fun r6 σ6 =>
        if r6 = 2 then
          (if x3 = 0 then
            (z_bd (fM_of x1 (50 + x2) σ6) (fun r13 σ13 =>
            some (r13, σ13)))
          else
            (if x3 = 1 then
              (z_bd (fM_of x1 (57 + x2) σ6) (fun r12 σ12 =>
              some (r12, σ12)))
            else
              (if x3 = 2 then
                (z_bd (fM_of x1 (64 + x2) σ6) (fun r11 σ11 =>
                some (r11, σ11)))
              else
                (some ((-1), σ6)))))
        else
          (some ((-1), σ6))))))))
set_option maxHeartbeats 4000000 in
set_option maxRecDepth 20000 in
theorem wM_peer {x1 : Int32} {x2 : Int32} {x3 : Int32} (C : z_C E RX9 cX9_peer 4 A p s m args meth c) (hr : meth.sig.returnType = (some .int)) (hM : z_M E) {ro : Int32} {σo : zS} (σ : zS) (H : Heap) (locs : List Loc) (ls : Array Slot) (hs : z_H E A s σ H locs) (hl : lv_has ls 4 [(0, .ref (z_ad E (100, 0, 0))), (1, .int x1), (2, .int x2), (3, .int x3)]) (hf : fM_peer x1 x2 x3 σ = some (ro, σo)) : W p l e (z_rm 3) s m args below meth c H locs 0 0 (MQ below (z_QI E ro σo A) args s 0 0 A) (F0 m 0 ls []) := by
  have hx := C.1
  have hb := C.2.1
  unfold fM_peer at hf
  refine lv_aload_n hx hb dX9_peer_0 rfl (lv_at hl 0 rfl) ?_
  refine lv_iload_n hx hb dX9_peer_1 rfl (lv_at hl 1 rfl) ?_
  obtain ⟨r1, σ1, h_1, hf⟩ := z_bds hf
  refine z_goI C hs (z_runV C hs hl.1 (cM_isKeeper l E hM h_1) zcV_RX9_143 (hM 100 (by decide) (by decide)) (z_c100 E _ _ _ _) rfl rfl rfl (by decide) (Nat.le_of_ble_eq_true rfl) dX9_peer_2) (fun H locs hs => ?_)
  refine lv_if_eq (tgt := 31) hx hb dX9_peer_5 (by decide) (fun c2 => ?_) (fun c2 => ?_)
  · have hf := z_t hf c2
    refine lv_iconst (v := (-1)) hx hb dX9_peer_31 (by decide) ?_
    exact z_reti C hr hs hf dX9_peer_32
  · have hf := z_f hf c2
    refine lv_aload_n hx hb dX9_peer_8 rfl (lv_at hl 0 rfl) ?_
    refine lv_iload_n hx hb dX9_peer_9 rfl (lv_at hl 2 rfl) ?_
    obtain ⟨r3, σ3, h_3, hf⟩ := z_bds hf
    refine z_goI C hs (z_runV C hs hl.1 (cM_isKeeper l E hM h_3) zcV_RX9_143 (hM 100 (by decide) (by decide)) (z_c100 E _ _ _ _) rfl rfl rfl (by decide) (Nat.le_of_ble_eq_true rfl) dX9_peer_10) (fun H locs hs => ?_)
    refine lv_if_eq (tgt := 31) hx hb dX9_peer_13 (by decide) (fun c4 => ?_) (fun c4 => ?_)
    · have hf := z_t hf c4
      refine lv_iconst (v := (-1)) hx hb dX9_peer_31 (by decide) ?_
      exact z_reti C hr hs hf dX9_peer_32
    · have hf := z_f hf c4
      refine lv_iload_n hx hb dX9_peer_16 rfl (lv_at hl 1 rfl) ?_
      refine lv_iload_n hx hb dX9_peer_17 rfl (lv_at hl 2 rfl) ?_
      refine lv_icmp_eq (tgt := 31) hx hb dX9_peer_18 (by decide) (fun c5 => ?_) (fun c5 => ?_)
      · have hf := z_t hf c5
        refine lv_iconst (v := (-1)) hx hb dX9_peer_31 (by decide) ?_
        exact z_reti C hr hs hf dX9_peer_32
      · have hf := z_f hf c5
        refine lv_aload_n hx hb dX9_peer_21 rfl (lv_at hl 0 rfl) ?_
        refine lv_iload_n hx hb dX9_peer_22 rfl (lv_at hl 1 rfl) ?_
        refine lv_iconst (v := 5) hx hb dX9_peer_23 (by decide) ?_
        obtain ⟨r6, σ6, h_6, hf⟩ := z_bds hf
        refine z_goI C hs (z_runV C hs hl.1 (cM_of l E hM h_6) zcV_RX9_146 (hM 100 (by decide) (by decide)) (z_c100 E _ _ _ _) rfl rfl rfl (by decide) (Nat.le_of_ble_eq_true rfl) dX9_peer_24) (fun H locs hs => ?_)
        refine lv_iconst (v := 2) hx hb dX9_peer_27 (by decide) ?_
        refine lv_icmp_eq (tgt := 33) hx hb dX9_peer_28 (by decide) (fun c7 => ?_) (fun c7 => ?_)
        · have hf := z_t hf c7
          refine lv_iload_n hx hb dX9_peer_33 rfl (lv_at hl 3 rfl) ?_
          refine lv_if_ne (tgt := 49) hx hb dX9_peer_34 (by decide) (fun c8 => ?_) (fun c8 => ?_)
          · have hf := z_f hf c8
            refine lv_iload_n hx hb dX9_peer_49 rfl (lv_at hl 3 rfl) ?_
            refine lv_iconst (v := 1) hx hb dX9_peer_50 (by decide) ?_
            refine lv_icmp_ne (tgt := 66) hx hb dX9_peer_51 (by decide) (fun c9 => ?_) (fun c9 => ?_)
            · have hf := z_f hf c9
              refine lv_iload_n hx hb dX9_peer_66 rfl (lv_at hl 3 rfl) ?_
              refine lv_iconst (v := 2) hx hb dX9_peer_67 (by decide) ?_
              refine lv_icmp_ne (tgt := 83) hx hb dX9_peer_68 (by decide) (fun c10 => ?_) (fun c10 => ?_)
              · have hf := z_f hf c10
                refine lv_iconst (v := (-1)) hx hb dX9_peer_83 (by decide) ?_
                exact z_reti C hr hs hf dX9_peer_84
              · have hf := z_t hf c10
                refine lv_aload_n hx hb dX9_peer_71 rfl (lv_at hl 0 rfl) ?_
                refine lv_iload_n hx hb dX9_peer_72 rfl (lv_at hl 1 rfl) ?_
                refine lv_bipush (v := 64) hx hb dX9_peer_73 (by decide) ?_
                refine lv_iload_n hx hb dX9_peer_75 rfl (lv_at hl 2 rfl) ?_
                refine lv_iadd hx hb dX9_peer_76 ?_
                obtain ⟨r11, σ11, h_11, hf⟩ := z_bds hf
                refine z_goI C hs (z_runV C hs hl.1 (cM_of l E hM h_11) zcV_RX9_146 (hM 100 (by decide) (by decide)) (z_c100 E _ _ _ _) rfl rfl rfl (by decide) (Nat.le_of_ble_eq_true rfl) dX9_peer_77) (fun H locs hs => ?_)
                refine lv_goto (tgt := 84) hx hb dX9_peer_80 (by decide) ?_
                exact z_reti C hr hs hf dX9_peer_84
            · have hf := z_t hf c9
              refine lv_aload_n hx hb dX9_peer_54 rfl (lv_at hl 0 rfl) ?_
              refine lv_iload_n hx hb dX9_peer_55 rfl (lv_at hl 1 rfl) ?_
              refine lv_bipush (v := 57) hx hb dX9_peer_56 (by decide) ?_
              refine lv_iload_n hx hb dX9_peer_58 rfl (lv_at hl 2 rfl) ?_
              refine lv_iadd hx hb dX9_peer_59 ?_
              obtain ⟨r12, σ12, h_12, hf⟩ := z_bds hf
              refine z_goI C hs (z_runV C hs hl.1 (cM_of l E hM h_12) zcV_RX9_146 (hM 100 (by decide) (by decide)) (z_c100 E _ _ _ _) rfl rfl rfl (by decide) (Nat.le_of_ble_eq_true rfl) dX9_peer_60) (fun H locs hs => ?_)
              refine lv_goto (tgt := 84) hx hb dX9_peer_63 (by decide) ?_
              exact z_reti C hr hs hf dX9_peer_84
          · have hf := z_t hf c8
            refine lv_aload_n hx hb dX9_peer_37 rfl (lv_at hl 0 rfl) ?_
            refine lv_iload_n hx hb dX9_peer_38 rfl (lv_at hl 1 rfl) ?_
            refine lv_bipush (v := 50) hx hb dX9_peer_39 (by decide) ?_
            refine lv_iload_n hx hb dX9_peer_41 rfl (lv_at hl 2 rfl) ?_
            refine lv_iadd hx hb dX9_peer_42 ?_
            obtain ⟨r13, σ13, h_13, hf⟩ := z_bds hf
            refine z_goI C hs (z_runV C hs hl.1 (cM_of l E hM h_13) zcV_RX9_146 (hM 100 (by decide) (by decide)) (z_c100 E _ _ _ _) rfl rfl rfl (by decide) (Nat.le_of_ble_eq_true rfl) dX9_peer_43) (fun H locs hs => ?_)
            refine lv_goto (tgt := 84) hx hb dX9_peer_46 (by decide) ?_
            exact z_reti C hr hs hf dX9_peer_84
        · have hf := z_f hf c7
          refine lv_iconst (v := (-1)) hx hb dX9_peer_31 (by decide) ?_
          exact z_reti C hr hs hf dX9_peer_32
set_option maxHeartbeats 4000000 in
set_option maxRecDepth 20000 in
theorem cM_peer (l : Launch) (E : zE) {x1 : Int32} {x2 : Int32} {x3 : Int32} (hM : z_M E) {σ σo : zS} {ro : Int32} (hf : fM_peer x1 x2 x3 σ = some (ro, σo)) : z_T l E yX9_peer cX9_peer 4 (some .int) (z_rm 3) (z_QI E ro σo) [.ref (z_ad E (100, 0, 0)), .int x1, .int x2, .int x3] σ :=
  z_enter (by decide) (Nat.le_of_ble_eq_true rfl) rfl (fun p e s m below meth c A ls C hr hs hl => wM_peer C hr hM σ _ _ ls hs hl hf)
def fM_slot (x1 : Int32) (x2 : Int32) (σ : zS) : Option (Int32 × zS) :=
  z_bd (fM_hasLetter x1 σ) (fun r1 σ1 =>
  if r1 = 0 then
    (some ((-1), σ1))
  else
    (z_bd (fM_isIn x2 0 8 σ1) (fun r3 σ3 =>
    if r3 = 0 then
      (some ((-1), σ3))
    else
      (z_bd (fM_slotOf x1 x2 σ3) (fun r5 σ5 =>
      some (r5, σ5))))))
set_option maxHeartbeats 4000000 in
set_option maxRecDepth 20000 in
theorem wM_slot {x1 : Int32} {x2 : Int32} (C : z_C E RX9 cX9_slot 3 A p s m args meth c) (hr : meth.sig.returnType = (some .int)) (hM : z_M E) {ro : Int32} {σo : zS} (σ : zS) (H : Heap) (locs : List Loc) (ls : Array Slot) (hs : z_H E A s σ H locs) (hl : lv_has ls 3 [(0, .ref (z_ad E (100, 0, 0))), (1, .int x1), (2, .int x2)]) (hf : fM_slot x1 x2 σ = some (ro, σo)) : W p l e (z_rm 3) s m args below meth c H locs 0 0 (MQ below (z_QI E ro σo A) args s 0 0 A) (F0 m 0 ls []) := by
  have hx := C.1
  have hb := C.2.1
  unfold fM_slot at hf
  refine lv_aload_n hx hb dX9_slot_0 rfl (lv_at hl 0 rfl) ?_
  refine lv_iload_n hx hb dX9_slot_1 rfl (lv_at hl 1 rfl) ?_
  obtain ⟨r1, σ1, h_1, hf⟩ := z_bds hf
  refine z_goI C hs (z_runV C hs hl.1 (cM_hasLetter l E hM h_1) zcV_RX9_211 (hM 100 (by decide) (by decide)) (z_c100 E _ _ _ _) rfl rfl rfl (by decide) (Nat.le_of_ble_eq_true rfl) dX9_slot_2) (fun H locs hs => ?_)
  refine lv_if_eq (tgt := 27) hx hb dX9_slot_5 (by decide) (fun c2 => ?_) (fun c2 => ?_)
  · have hf := z_t hf c2
    refine lv_iconst (v := (-1)) hx hb dX9_slot_27 (by decide) ?_
    exact z_reti C hr hs hf dX9_slot_28
  · have hf := z_f hf c2
    refine lv_iload_n hx hb dX9_slot_8 rfl (lv_at hl 2 rfl) ?_
    refine lv_iconst (v := 0) hx hb dX9_slot_9 (by decide) ?_
    refine lv_bipush (v := 8) hx hb dX9_slot_10 (by decide) ?_
    obtain ⟨r3, σ3, h_3, hf⟩ := z_bds hf
    refine z_goI C hs (z_runS C hs hl.1 (cM_isIn l E h_3) zcS_RX9_132 rfl rfl rfl (by decide) (Nat.le_of_ble_eq_true rfl) dX9_slot_12) (fun H locs hs => ?_)
    refine lv_if_eq (tgt := 27) hx hb dX9_slot_15 (by decide) (fun c4 => ?_) (fun c4 => ?_)
    · have hf := z_t hf c4
      refine lv_iconst (v := (-1)) hx hb dX9_slot_27 (by decide) ?_
      exact z_reti C hr hs hf dX9_slot_28
    · have hf := z_f hf c4
      refine lv_aload_n hx hb dX9_slot_18 rfl (lv_at hl 0 rfl) ?_
      refine lv_iload_n hx hb dX9_slot_19 rfl (lv_at hl 1 rfl) ?_
      refine lv_iload_n hx hb dX9_slot_20 rfl (lv_at hl 2 rfl) ?_
      obtain ⟨r5, σ5, h_5, hf⟩ := z_bds hf
      refine z_goI C hs (z_runV C hs hl.1 (cM_slotOf l E hM h_5) zcV_RX9_186 (hM 100 (by decide) (by decide)) (z_c100 E _ _ _ _) rfl rfl rfl (by decide) (Nat.le_of_ble_eq_true rfl) dX9_slot_21) (fun H locs hs => ?_)
      refine lv_goto (tgt := 28) hx hb dX9_slot_24 (by decide) ?_
      exact z_reti C hr hs hf dX9_slot_28
set_option maxHeartbeats 4000000 in
set_option maxRecDepth 20000 in
theorem cM_slot (l : Launch) (E : zE) {x1 : Int32} {x2 : Int32} (hM : z_M E) {σ σo : zS} {ro : Int32} (hf : fM_slot x1 x2 σ = some (ro, σo)) : z_T l E yX9_slot cX9_slot 3 (some .int) (z_rm 3) (z_QI E ro σo) [.ref (z_ad E (100, 0, 0)), .int x1, .int x2] σ :=
  z_enter (by decide) (Nat.le_of_ble_eq_true rfl) rfl (fun p e s m below meth c A ls C hr hs hl => wM_slot C hr hM σ _ _ ls hs hl hf)
def fM_note (x1 : Int32) (x2 : Int32) (x3 : Int32) (x4 : Int32) (x5 : Int32) (σ : zS) : Option (Int32 × zS) :=
  z_bd (fM_isIn x1 0 9999 σ) (fun r1 σ1 =>
  if r1 = 0 then
    (some ((-1), σ1))
  else
    (z_bd (fM_isIn x2 x1 9999 σ1) (fun r3 σ3 =>
    if r3 = 0 then
      (some ((-1), σ3))
    else
      (z_bd (fM_isIn x3 0 3 σ3) (fun r5 σ5 =>
      if r5 = 0 then
        (some ((-1), σ5))
      else
        (if (σ5.1 (100, 0, 0) 26) = 9 then
          (some ((-1), σ5))
        else
          (if z_in (σ5.1 (100, 0, 0) 26) 9 = true then (
          z_let (z_up σ5 (110, 0, 0) ((σ5.1 (100, 0, 0) 26).toNatClampNeg) x1) (fun σ9 =>
          if z_in (σ9.1 (100, 0, 0) 26) 9 = true then (
          z_let (z_up σ9 (111, 0, 0) ((σ9.1 (100, 0, 0) 26).toNatClampNeg) x2) (fun σ11 =>
          if z_in (σ11.1 (100, 0, 0) 26) 9 = true then (
          z_let (z_up σ11 (112, 0, 0) ((σ11.1 (100, 0, 0) 26).toNatClampNeg) x3) (fun σ13 =>
          if z_in (σ13.1 (100, 0, 0) 26) 9 = true then (
          z_let (z_up σ13 (113, 0, 0) ((σ13.1 (100, 0, 0) 26).toNatClampNeg) x4) (fun σ15 =>
          if z_in (σ15.1 (100, 0, 0) 26) 9 = true then (
          z_let (z_up σ15 (114, 0, 0) ((σ15.1 (100, 0, 0) 26).toNatClampNeg) x5) (fun σ17 =>
          z_let (z_up σ17 (100, 0, 0) 26 ((σ17.1 (100, 0, 0) 26) + 1)) (fun σ18 =>
          some ((σ18.1 (100, 0, 0) 26) - 1, σ18)))) else none)) else none)) else none)) else none)) else none)))))))
set_option maxHeartbeats 4000000 in
set_option maxRecDepth 20000 in
theorem wM_note {x1 : Int32} {x2 : Int32} {x3 : Int32} {x4 : Int32} {x5 : Int32} (C : z_C E RX9 cX9_note 6 A p s m args meth c) (hr : meth.sig.returnType = (some .int)) (hM : z_M E) {ro : Int32} {σo : zS} (σ : zS) (H : Heap) (locs : List Loc) (ls : Array Slot) (hs : z_H E A s σ H locs) (hl : lv_has ls 6 [(0, .ref (z_ad E (100, 0, 0))), (1, .int x1), (2, .int x2), (3, .int x3), (4, .int x4), (5, .int x5)]) (hf : fM_note x1 x2 x3 x4 x5 σ = some (ro, σo)) : W p l e (z_rm 2) s m args below meth c H locs 0 0 (MQ below (z_QI E ro σo A) args s 0 0 A) (F0 m 0 ls []) := by
  have hx := C.1
  have hb := C.2.1
  unfold fM_note at hf
  refine lv_iload_n hx hb dX9_note_0 rfl (lv_at hl 1 rfl) ?_
  refine lv_iconst (v := 0) hx hb dX9_note_1 (by decide) ?_
  refine lv_sipush (v := 9999) hx hb dX9_note_2 (by decide) ?_
  obtain ⟨r1, σ1, h_1, hf⟩ := z_bds hf
  refine z_goI C hs (z_runS C hs hl.1 (cM_isIn l E h_1) zcS_RX9_132 rfl rfl rfl (by decide) (Nat.le_of_ble_eq_true rfl) dX9_note_5) (fun H locs hs => ?_)
  refine lv_if_eq (tgt := 40) hx hb dX9_note_8 (by decide) (fun c2 => ?_) (fun c2 => ?_)
  · have hf := z_t hf c2
    refine lv_iconst (v := (-1)) hx hb dX9_note_40 (by decide) ?_
    exact z_reti C hr hs hf dX9_note_41
  · have hf := z_f hf c2
    refine lv_iload_n hx hb dX9_note_11 rfl (lv_at hl 2 rfl) ?_
    refine lv_iload_n hx hb dX9_note_12 rfl (lv_at hl 1 rfl) ?_
    refine lv_sipush (v := 9999) hx hb dX9_note_13 (by decide) ?_
    obtain ⟨r3, σ3, h_3, hf⟩ := z_bds hf
    refine z_goI C hs (z_runS C hs hl.1 (cM_isIn l E h_3) zcS_RX9_132 rfl rfl rfl (by decide) (Nat.le_of_ble_eq_true rfl) dX9_note_16) (fun H locs hs => ?_)
    refine lv_if_eq (tgt := 40) hx hb dX9_note_19 (by decide) (fun c4 => ?_) (fun c4 => ?_)
    · have hf := z_t hf c4
      refine lv_iconst (v := (-1)) hx hb dX9_note_40 (by decide) ?_
      exact z_reti C hr hs hf dX9_note_41
    · have hf := z_f hf c4
      refine lv_iload_n hx hb dX9_note_22 rfl (lv_at hl 3 rfl) ?_
      refine lv_iconst (v := 0) hx hb dX9_note_23 (by decide) ?_
      refine lv_iconst (v := 3) hx hb dX9_note_24 (by decide) ?_
      obtain ⟨r5, σ5, h_5, hf⟩ := z_bds hf
      refine z_goI C hs (z_runS C hs hl.1 (cM_isIn l E h_5) zcS_RX9_132 rfl rfl rfl (by decide) (Nat.le_of_ble_eq_true rfl) dX9_note_25) (fun H locs hs => ?_)
      refine lv_if_eq (tgt := 40) hx hb dX9_note_28 (by decide) (fun c6 => ?_) (fun c6 => ?_)
      · have hf := z_t hf c6
        refine lv_iconst (v := (-1)) hx hb dX9_note_40 (by decide) ?_
        exact z_reti C hr hs hf dX9_note_41
      · have hf := z_f hf c6
        refine lv_aload_n hx hb dX9_note_31 rfl (lv_at hl 0 rfl) ?_
        refine zg_M_noted C hs (hM 100 (by decide) (by decide)) z_k976 dX9_note_32 ?_
        refine lv_bipush (v := 9) hx hb dX9_note_35 (by decide) ?_
        refine lv_icmp_ne (tgt := 42) hx hb dX9_note_37 (by decide) (fun c7 => ?_) (fun c7 => ?_)
        · have hf := z_f hf c7
          refine lv_aload_n hx hb dX9_note_42 rfl (lv_at hl 0 rfl) ?_
          refine zg_M_nBegun C hs (hM 100 (by decide) (by decide)) z_k969 dX9_note_43 ?_
          refine lv_aload_n hx hb dX9_note_46 rfl (lv_at hl 0 rfl) ?_
          refine zg_M_noted C hs (hM 100 (by decide) (by decide)) z_k976 dX9_note_47 ?_
          refine lv_iload_n hx hb dX9_note_50 rfl (lv_at hl 1 rfl) ?_
          obtain ⟨g8, hf⟩ := z_gd hf
          refine z_ast C hs (hM 110 (by decide) (by decide)) (fun r h => z_c110 E r h _ _) g8 rfl dX9_note_51 (fun H locs hs => ?_)
          obtain ⟨σ9, -, hs, hf⟩ := z_top hs hf
          refine lv_aload_n hx hb dX9_note_52 rfl (lv_at hl 0 rfl) ?_
          refine zg_M_nEnded C hs (hM 100 (by decide) (by decide)) z_k970 dX9_note_53 ?_
          refine lv_aload_n hx hb dX9_note_56 rfl (lv_at hl 0 rfl) ?_
          refine zg_M_noted C hs (hM 100 (by decide) (by decide)) z_k976 dX9_note_57 ?_
          refine lv_iload_n hx hb dX9_note_60 rfl (lv_at hl 2 rfl) ?_
          obtain ⟨g10, hf⟩ := z_gd hf
          refine z_ast C hs (hM 111 (by decide) (by decide)) (fun r h => z_c111 E r h _ _) g10 rfl dX9_note_61 (fun H locs hs => ?_)
          obtain ⟨σ11, -, hs, hf⟩ := z_top hs hf
          refine lv_aload_n hx hb dX9_note_62 rfl (lv_at hl 0 rfl) ?_
          refine zg_M_nWhat C hs (hM 100 (by decide) (by decide)) z_k971 dX9_note_63 ?_
          refine lv_aload_n hx hb dX9_note_66 rfl (lv_at hl 0 rfl) ?_
          refine zg_M_noted C hs (hM 100 (by decide) (by decide)) z_k976 dX9_note_67 ?_
          refine lv_iload_n hx hb dX9_note_70 rfl (lv_at hl 3 rfl) ?_
          obtain ⟨g12, hf⟩ := z_gd hf
          refine z_ast C hs (hM 112 (by decide) (by decide)) (fun r h => z_c112 E r h _ _) g12 rfl dX9_note_71 (fun H locs hs => ?_)
          obtain ⟨σ13, -, hs, hf⟩ := z_top hs hf
          refine lv_aload_n hx hb dX9_note_72 rfl (lv_at hl 0 rfl) ?_
          refine zg_M_nValue C hs (hM 100 (by decide) (by decide)) z_k972 dX9_note_73 ?_
          refine lv_aload_n hx hb dX9_note_76 rfl (lv_at hl 0 rfl) ?_
          refine zg_M_noted C hs (hM 100 (by decide) (by decide)) z_k976 dX9_note_77 ?_
          refine lv_iload hx hb dX9_note_80 (lv_at hl 4 rfl) ?_
          obtain ⟨g14, hf⟩ := z_gd hf
          refine z_ast C hs (hM 113 (by decide) (by decide)) (fun r h => z_c113 E r h _ _) g14 rfl dX9_note_82 (fun H locs hs => ?_)
          obtain ⟨σ15, -, hs, hf⟩ := z_top hs hf
          refine lv_aload_n hx hb dX9_note_83 rfl (lv_at hl 0 rfl) ?_
          refine zg_M_nAnswer C hs (hM 100 (by decide) (by decide)) z_k973 dX9_note_84 ?_
          refine lv_aload_n hx hb dX9_note_87 rfl (lv_at hl 0 rfl) ?_
          refine zg_M_noted C hs (hM 100 (by decide) (by decide)) z_k976 dX9_note_88 ?_
          refine lv_iload hx hb dX9_note_91 (lv_at hl 5 rfl) ?_
          obtain ⟨g16, hf⟩ := z_gd hf
          refine z_ast C hs (hM 114 (by decide) (by decide)) (fun r h => z_c114 E r h _ _) g16 rfl dX9_note_93 (fun H locs hs => ?_)
          obtain ⟨σ17, -, hs, hf⟩ := z_top hs hf
          refine lv_aload_n hx hb dX9_note_94 rfl (lv_at hl 0 rfl) ?_
          refine lv_dup hx hb dX9_note_95 rfl ?_
          refine zg_M_noted C hs (hM 100 (by decide) (by decide)) z_k976 dX9_note_96 ?_
          refine lv_iconst (v := 1) hx hb dX9_note_99 (by decide) ?_
          refine lv_iadd hx hb dX9_note_100 ?_
          refine zp_M_noted C hs (hM 100 (by decide) (by decide)) z_k976 dX9_note_101 (fun H locs hs => ?_)
          obtain ⟨σ18, -, hs, hf⟩ := z_top hs hf
          refine lv_aload_n hx hb dX9_note_104 rfl (lv_at hl 0 rfl) ?_
          refine zg_M_noted C hs (hM 100 (by decide) (by decide)) z_k976 dX9_note_105 ?_
          refine lv_iconst (v := 1) hx hb dX9_note_108 (by decide) ?_
          refine lv_isub hx hb dX9_note_109 ?_
          exact z_reti C hr hs hf dX9_note_110
        · have hf := z_t hf c7
          refine lv_iconst (v := (-1)) hx hb dX9_note_40 (by decide) ?_
          exact z_reti C hr hs hf dX9_note_41
set_option maxHeartbeats 4000000 in
set_option maxRecDepth 20000 in
theorem cM_note (l : Launch) (E : zE) {x1 : Int32} {x2 : Int32} {x3 : Int32} {x4 : Int32} {x5 : Int32} (hM : z_M E) {σ σo : zS} {ro : Int32} (hf : fM_note x1 x2 x3 x4 x5 σ = some (ro, σo)) : z_T l E yX9_note cX9_note 6 (some .int) (z_rm 2) (z_QI E ro σo) [.ref (z_ad E (100, 0, 0)), .int x1, .int x2, .int x3, .int x4, .int x5] σ :=
  z_enter (by decide) (Nat.le_of_ble_eq_true rfl) rfl (fun p e s m below meth c A ls C hr hs hl => wM_note C hr hM σ _ _ ls hs hl hf)
def fM_hush (σ : zS) : Option (Int32 × zS) :=
  z_let (σ.1 (100, 0, 0) 26) (fun y1 =>
  z_let (z_up σ (100, 0, 0) 26 0) (fun σ2 =>
  some (y1, σ2)))
set_option maxHeartbeats 4000000 in
set_option maxRecDepth 20000 in
theorem wM_hush (C : z_C E RX9 cX9_hush 2 A p s m args meth c) (hr : meth.sig.returnType = (some .int)) (hM : z_M E) {ro : Int32} {σo : zS} (σ : zS) (H : Heap) (locs : List Loc) (ls : Array Slot) (hs : z_H E A s σ H locs) (hl : lv_has ls 2 [(0, .ref (z_ad E (100, 0, 0)))]) (hf : fM_hush σ = some (ro, σo)) : W p l e (z_rm 1) s m args below meth c H locs 0 0 (MQ below (z_QI E ro σo A) args s 0 0 A) (F0 m 0 ls []) := by
  have hx := C.1
  have hb := C.2.1
  unfold fM_hush at hf
  refine lv_aload_n hx hb dX9_hush_0 rfl (lv_at hl 0 rfl) ?_
  refine zg_M_noted C hs (hM 100 (by decide) (by decide)) z_k976 dX9_hush_1 ?_
  refine lv_topi (fun y1 e_y1 => ?_)
  have hf := z_lte e_y1 hf
  refine lv_istore_n (lv' := [(1, .int y1), (0, .ref (z_ad E (100, 0, 0)))]) hx hb dX9_hush_4 rfl hl (by decide) rfl (fun ls hl => ?_)
  refine lv_aload_n hx hb dX9_hush_5 rfl (lv_at hl 1 rfl) ?_
  refine lv_iconst (v := 0) hx hb dX9_hush_6 (by decide) ?_
  refine zp_M_noted C hs (hM 100 (by decide) (by decide)) z_k976 dX9_hush_7 (fun H locs hs => ?_)
  obtain ⟨σ2, -, hs, hf⟩ := z_top hs hf
  refine lv_iload_n hx hb dX9_hush_10 rfl (lv_at hl 0 rfl) ?_
  exact z_reti C hr hs hf dX9_hush_11
set_option maxHeartbeats 4000000 in
set_option maxRecDepth 20000 in
theorem cM_hush (l : Launch) (E : zE) (hM : z_M E) {σ σo : zS} {ro : Int32} (hf : fM_hush σ = some (ro, σo)) : z_T l E yX9_hush cX9_hush 2 (some .int) (z_rm 1) (z_QI E ro σo) [.ref (z_ad E (100, 0, 0))] σ :=
  z_enter (by decide) (Nat.le_of_ble_eq_true rfl) rfl (fun p e s m below meth c A ls C hr hs hl => wM_hush C hr hM σ _ _ ls hs hl hf)
def fM_canCome_39 : Nat → Int32 → Int32 → Int32 → zS → Option (Int32 × zS)
  | 0, _, _, _, _ => none
  | n + 1, x1, x2, x4, σ =>
    if (σ.1 (100, 0, 0) 26) ≤ x4 then
      (some (1, σ))
    else
      (if x4 = x1 then
        (z_let (x4 + 1) (fun y9 =>
        fM_canCome_39 n x1 x2 y9 σ))
      else
        (if ((x2 >>> (x4 &&& 31)) &&& 1) = 0 then
          (if z_in x4 9 = true then (
          if z_in x1 9 = true then (
          if (σ.1 (110, 0, 0) x1.toNatClampNeg) ≤ (σ.1 (111, 0, 0) x4.toNatClampNeg) then
            (z_let (x4 + 1) (fun y15 =>
            fM_canCome_39 n x1 x2 y15 σ))
          else
            (some (0, σ))) else none) else none)
        else
          (z_let (x4 + 1) (fun y11 =>
          fM_canCome_39 n x1 x2 y11 σ))))
def fM_canCome (x1 : Int32) (x2 : Int32) (x3 : Int32) (σ : zS) : Option (Int32 × zS) :=
  if ((x2 >>> (x1 &&& 31)) &&& 1) = 1 then
    (some (0, σ))
  else
    (if z_in x1 9 = true then (
    if z_in x1 9 = true then (
    z_bd (fM_answers (σ.1 (112, 0, 0) x1.toNatClampNeg) x3 (σ.1 (113, 0, 0) x1.toNatClampNeg) σ) (fun r4 σ4 =>
    if z_in x1 9 = true then (
    if r4 = (σ4.1 (114, 0, 0) x1.toNatClampNeg) then
      (fM_canCome_39 z_fu x1 x2 0 σ4)
    else
      (some (0, σ4))) else none)) else none) else none)
set_option maxHeartbeats 4000000 in
set_option maxRecDepth 20000 in
theorem wM_canCome_39 (C : z_C E RX9 cX9_canCome 5 A p s m args meth c) (hr : meth.sig.returnType = (some .boolean)) (hM : z_M E) {ro : Int32} {σo : zS} (n : Nat) : ∀ (x1 : Int32) (x2 : Int32) (x4 : Int32) (σ : zS) (H : Heap) (locs : List Loc) (ls : Array Slot), z_H E A s σ H locs → lv_has ls 5 [(0, .ref (z_ad E (100, 0, 0))), (1, .int x1), (2, .int x2), (4, .int x4)] → fM_canCome_39 n x1 x2 x4 σ = some (ro, σo) → W p l e (z_rm 3) s m args below meth c H locs 0 0 (MQ below (z_QI E ro σo A) args s 0 0 A) (F0 m 39 ls []) := by
  induction n with
  | zero =>
    intro x1 x2 x4 σ H locs ls hs hl hf
    have hf : none = some (ro, σo) := hf
    cases hf
  | succ n ih =>
    intro x1 x2 x4 σ H locs ls hs hl hf
    have hx := C.1
    have hb := C.2.1
    rw [fM_canCome_39.eq_2] at hf
    refine lv_iload hx hb dX9_canCome_39 (lv_at hl 3 rfl) ?_
    refine lv_aload_n hx hb dX9_canCome_41 rfl (lv_at hl 0 rfl) ?_
    refine zg_M_noted C hs (hM 100 (by decide) (by decide)) z_k976 dX9_canCome_42 ?_
    refine lv_icmp_ge (tgt := 87) hx hb dX9_canCome_45 (by decide) (fun c7 => ?_) (fun c7 => ?_)
    · have hf := z_t hf c7
      refine lv_iconst (v := 1) hx hb dX9_canCome_87 (by decide) ?_
      exact z_retz C hr hs (by decide +kernel) hf dX9_canCome_88
    · have hf := z_f hf c7
      refine lv_iload hx hb dX9_canCome_48 (lv_at hl 3 rfl) ?_
      refine lv_iload_n hx hb dX9_canCome_50 rfl (lv_at hl 1 rfl) ?_
      refine lv_icmp_eq (tgt := 81) hx hb dX9_canCome_51 (by decide) (fun c8 => ?_) (fun c8 => ?_)
      · have hf := z_t hf c8
        obtain ⟨y9, e_y9⟩ : ∃ y : Int32, y = x4 + 1 := ⟨_, rfl⟩
        have hf := z_lte e_y9 hf
        refine lv_iinc (v := y9) (lv' := [(4, .int y9), (0, .ref (z_ad E (100, 0, 0))), (1, .int x1), (2, .int x2)]) hx hb dX9_canCome_81 hl (k := 3) rfl (by rw [e_y9]; rfl) (by decide) rfl (fun ls hl => ?_)
        refine lv_goto (tgt := 39) hx hb dX9_canCome_84 (by decide) ?_
        exact ih x1 x2 y9 σ _ _ _ hs (lv_sub hl [1, 2, 3, 0] rfl) hf
      · have hf := z_f hf c8
        refine lv_iload_n hx hb dX9_canCome_54 rfl (lv_at hl 2 rfl) ?_
        refine lv_iload hx hb dX9_canCome_55 (lv_at hl 3 rfl) ?_
        refine lv_ishr hx hb dX9_canCome_57 ?_
        refine lv_iconst (v := 1) hx hb dX9_canCome_58 (by decide) ?_
        refine lv_iand hx hb dX9_canCome_59 ?_
        refine lv_if_ne (tgt := 81) hx hb dX9_canCome_60 (by decide) (fun c10 => ?_) (fun c10 => ?_)
        · have hf := z_f hf c10
          obtain ⟨y11, e_y11⟩ : ∃ y : Int32, y = x4 + 1 := ⟨_, rfl⟩
          have hf := z_lte e_y11 hf
          refine lv_iinc (v := y11) (lv' := [(4, .int y11), (0, .ref (z_ad E (100, 0, 0))), (1, .int x1), (2, .int x2)]) hx hb dX9_canCome_81 hl (k := 3) rfl (by rw [e_y11]; rfl) (by decide) rfl (fun ls hl => ?_)
          refine lv_goto (tgt := 39) hx hb dX9_canCome_84 (by decide) ?_
          exact ih x1 x2 y11 σ _ _ _ hs (lv_sub hl [1, 2, 3, 0] rfl) hf
        · have hf := z_t hf c10
          refine lv_aload_n hx hb dX9_canCome_63 rfl (lv_at hl 0 rfl) ?_
          refine zg_M_nEnded C hs (hM 100 (by decide) (by decide)) z_k970 dX9_canCome_64 ?_
          refine lv_iload hx hb dX9_canCome_67 (lv_at hl 3 rfl) ?_
          obtain ⟨g12, hf⟩ := z_gd hf
          refine z_ald C hs (hM 111 (by decide) (by decide)) (z_c111 E _ _ _ _) g12 rfl dX9_canCome_69 ?_
          refine lv_aload_n hx hb dX9_canCome_70 rfl (lv_at hl 0 rfl) ?_
          refine zg_M_nBegun C hs (hM 100 (by decide) (by decide)) z_k969 dX9_canCome_71 ?_
          refine lv_iload_n hx hb dX9_canCome_74 rfl (lv_at hl 1 rfl) ?_
          obtain ⟨g13, hf⟩ := z_gd hf
          refine z_ald C hs (hM 110 (by decide) (by decide)) (z_c110 E _ _ _ _) g13 rfl dX9_canCome_75 ?_
          refine lv_icmp_ge (tgt := 81) hx hb dX9_canCome_76 (by decide) (fun c14 => ?_) (fun c14 => ?_)
          · have hf := z_t hf c14
            obtain ⟨y15, e_y15⟩ : ∃ y : Int32, y = x4 + 1 := ⟨_, rfl⟩
            have hf := z_lte e_y15 hf
            refine lv_iinc (v := y15) (lv' := [(4, .int y15), (0, .ref (z_ad E (100, 0, 0))), (1, .int x1), (2, .int x2)]) hx hb dX9_canCome_81 hl (k := 3) rfl (by rw [e_y15]; rfl) (by decide) rfl (fun ls hl => ?_)
            refine lv_goto (tgt := 39) hx hb dX9_canCome_84 (by decide) ?_
            exact ih x1 x2 y15 σ _ _ _ hs (lv_sub hl [1, 2, 3, 0] rfl) hf
          · have hf := z_f hf c14
            refine lv_iconst (v := 0) hx hb dX9_canCome_79 (by decide) ?_
            exact z_retz C hr hs (by decide +kernel) hf dX9_canCome_80
set_option maxHeartbeats 4000000 in
set_option maxRecDepth 20000 in
theorem wM_canCome {x1 : Int32} {x2 : Int32} {x3 : Int32} (C : z_C E RX9 cX9_canCome 5 A p s m args meth c) (hr : meth.sig.returnType = (some .boolean)) (hM : z_M E) {ro : Int32} {σo : zS} (σ : zS) (H : Heap) (locs : List Loc) (ls : Array Slot) (hs : z_H E A s σ H locs) (hl : lv_has ls 5 [(0, .ref (z_ad E (100, 0, 0))), (1, .int x1), (2, .int x2), (3, .int x3)]) (hf : fM_canCome x1 x2 x3 σ = some (ro, σo)) : W p l e (z_rm 3) s m args below meth c H locs 0 0 (MQ below (z_QI E ro σo A) args s 0 0 A) (F0 m 0 ls []) := by
  have hx := C.1
  have hb := C.2.1
  unfold fM_canCome at hf
  refine lv_iload_n hx hb dX9_canCome_0 rfl (lv_at hl 2 rfl) ?_
  refine lv_iload_n hx hb dX9_canCome_1 rfl (lv_at hl 1 rfl) ?_
  refine lv_ishr hx hb dX9_canCome_2 ?_
  refine lv_iconst (v := 1) hx hb dX9_canCome_3 (by decide) ?_
  refine lv_iand hx hb dX9_canCome_4 ?_
  refine lv_iconst (v := 1) hx hb dX9_canCome_5 (by decide) ?_
  refine lv_icmp_eq (tgt := 34) hx hb dX9_canCome_6 (by decide) (fun c1 => ?_) (fun c1 => ?_)
  · have hf := z_t hf c1
    refine lv_iconst (v := 0) hx hb dX9_canCome_34 (by decide) ?_
    exact z_retz C hr hs (by decide +kernel) hf dX9_canCome_35
  · have hf := z_f hf c1
    refine lv_aload_n hx hb dX9_canCome_9 rfl (lv_at hl 0 rfl) ?_
    refine zg_M_nWhat C hs (hM 100 (by decide) (by decide)) z_k971 dX9_canCome_10 ?_
    refine lv_iload_n hx hb dX9_canCome_13 rfl (lv_at hl 1 rfl) ?_
    obtain ⟨g2, hf⟩ := z_gd hf
    refine z_ald C hs (hM 112 (by decide) (by decide)) (z_c112 E _ _ _ _) g2 rfl dX9_canCome_14 ?_
    refine lv_iload_n hx hb dX9_canCome_15 rfl (lv_at hl 3 rfl) ?_
    refine lv_aload_n hx hb dX9_canCome_16 rfl (lv_at hl 0 rfl) ?_
    refine zg_M_nValue C hs (hM 100 (by decide) (by decide)) z_k972 dX9_canCome_17 ?_
    refine lv_iload_n hx hb dX9_canCome_20 rfl (lv_at hl 1 rfl) ?_
    obtain ⟨g3, hf⟩ := z_gd hf
    refine z_ald C hs (hM 113 (by decide) (by decide)) (z_c113 E _ _ _ _) g3 rfl dX9_canCome_21 ?_
    obtain ⟨r4, σ4, h_4, hf⟩ := z_bds hf
    refine z_goI C hs (z_runS C hs hl.1 (cM_answers l E h_4) zcS_RX9_160 rfl rfl rfl (by decide) (Nat.le_of_ble_eq_true rfl) dX9_canCome_22) (fun H locs hs => ?_)
    refine lv_aload_n hx hb dX9_canCome_25 rfl (lv_at hl 0 rfl) ?_
    refine zg_M_nAnswer C hs (hM 100 (by decide) (by decide)) z_k973 dX9_canCome_26 ?_
    refine lv_iload_n hx hb dX9_canCome_29 rfl (lv_at hl 1 rfl) ?_
    obtain ⟨g5, hf⟩ := z_gd hf
    refine z_ald C hs (hM 114 (by decide) (by decide)) (z_c114 E _ _ _ _) g5 rfl dX9_canCome_30 ?_
    refine lv_icmp_eq (tgt := 36) hx hb dX9_canCome_31 (by decide) (fun c6 => ?_) (fun c6 => ?_)
    · have hf := z_t hf c6
      refine lv_iconst (v := 0) hx hb dX9_canCome_36 (by decide) ?_
      refine lv_istore (lv' := [(4, .int 0), (0, .ref (z_ad E (100, 0, 0))), (1, .int x1), (2, .int x2), (3, .int x3)]) hx hb dX9_canCome_37 hl (by decide) rfl (fun ls hl => ?_)
      exact wM_canCome_39 C hr hM z_fu x1 x2 0 σ4 _ _ _ hs (lv_sub hl [1, 2, 3, 0] rfl) hf
    · have hf := z_f hf c6
      refine lv_iconst (v := 0) hx hb dX9_canCome_34 (by decide) ?_
      exact z_retz C hr hs (by decide +kernel) hf dX9_canCome_35
set_option maxHeartbeats 4000000 in
set_option maxRecDepth 20000 in
theorem cM_canCome (l : Launch) (E : zE) {x1 : Int32} {x2 : Int32} {x3 : Int32} (hM : z_M E) {σ σo : zS} {ro : Int32} (hf : fM_canCome x1 x2 x3 σ = some (ro, σo)) : z_T l E yX9_canCome cX9_canCome 5 (some .boolean) (z_rm 3) (z_QI E ro σo) [.ref (z_ad E (100, 0, 0)), .int x1, .int x2, .int x3] σ :=
  z_enter (by decide) (Nat.le_of_ble_eq_true rfl) rfl (fun p e s m below meth c A ls C hr hs hl => wM_canCome C hr hM σ _ _ ls hs hl hf)
def fM_findOrder_90 (K18 : Int32 → Int32 → zS → Option (Int32 × zS)) (x1 : Int32) (x2 : Int32) (x3 : Int32) (σ : zS) : Option (Int32 × zS) :=
  if z_in x1 10 = true then (
  z_let (z_up σ (115, 0, 0) (x1.toNatClampNeg) x3) (fun σ13 =>
  if x3 = (σ13.1 (100, 0, 0) 26) then
    (if z_in x1 10 = true then (
    z_let (z_up σ13 (115, 0, 0) (x1.toNatClampNeg) ((-1))) (fun σ26 =>
    z_let (x1 + (-1)) (fun y27 =>
    K18 y27 x2 σ26))) else none)
  else
    (z_let (x2 ||| (1 <<< (x3 &&& 31))) (fun y15 =>
    if z_in x3 9 = true then (
    if z_in x1 11 = true then (
    if z_in x3 9 = true then (
    z_bd (fM_after (σ13.1 (112, 0, 0) x3.toNatClampNeg) (σ13.1 (116, 0, 0) x1.toNatClampNeg) (σ13.1 (113, 0, 0) x3.toNatClampNeg) σ13) (fun r19 σ19 =>
    if z_in (x1 + 1) 11 = true then (
    z_let (z_up σ19 (116, 0, 0) ((x1 + 1).toNatClampNeg) r19) (fun σ21 =>
    z_let (x1 + 1) (fun y22 =>
    if z_in y22 10 = true then (
    z_let (z_up σ21 (115, 0, 0) (y22.toNatClampNeg) ((-1))) (fun σ24 =>
    K18 y22 y15 σ24)) else none))) else none)) else none) else none) else none)))) else none
def fM_findOrder_61 (K18 : Int32 → Int32 → zS → Option (Int32 × zS)) : Nat → Int32 → Int32 → Int32 → zS → Option (Int32 × zS)
  | 0, _, _, _, _ => none
  | n + 1, x1, x2, x3, σ =>
    if (σ.1 (100, 0, 0) 26) ≤ x3 then
      (fM_findOrder_90 K18 x1 x2 x3 σ)
    else
      (if z_in x1 11 = true then (
      z_bd (fM_canCome x3 x2 (σ.1 (116, 0, 0) x1.toNatClampNeg) σ) (fun r29 σ29 =>
      if r29 = 0 then
        (z_let (x3 + 1) (fun y31 =>
        fM_findOrder_61 K18 n x1 x2 y31 σ29))
      else
        (fM_findOrder_90 K18 x1 x2 x3 σ29))) else none)
def fM_findOrder_18 : Nat → Int32 → Int32 → zS → Option (Int32 × zS)
  | 0, _, _, _ => none
  | n + 1, x1, x2, σ =>
    if x1 < 0 then
      (if x1 = (σ.1 (100, 0, 0) 26) then
        (some (1, σ))
      else
        (some (0, σ)))
    else
      (if (σ.1 (100, 0, 0) 26) ≤ x1 then
        (if x1 = (σ.1 (100, 0, 0) 26) then
          (some (1, σ))
        else
          (some (0, σ)))
      else
        (if z_in x1 10 = true then (
        if (σ.1 (115, 0, 0) x1.toNatClampNeg) < 0 then
          (if z_in x1 10 = true then (
          z_let ((σ.1 (115, 0, 0) x1.toNatClampNeg) + 1) (fun y10 =>
          fM_findOrder_61 (fM_findOrder_18 n) z_fu x1 x2 y10 σ)) else none)
        else
          (if z_in x1 10 = true then (
          z_let (x2 &&& ((1 <<< ((σ.1 (115, 0, 0) x1.toNatClampNeg) &&& 31)) ^^^ ((-1)))) (fun y33 =>
          if z_in x1 10 = true then (
          z_let ((σ.1 (115, 0, 0) x1.toNatClampNeg) + 1) (fun y35 =>
          fM_findOrder_61 (fM_findOrder_18 n) z_fu x1 y33 y35 σ)) else none)) else none)) else none))
def fM_findOrder (σ : zS) : Option (Int32 × zS) :=
  z_let (z_up σ (115, 0, 0) 0 ((-1))) (fun σ1 =>
  z_let (z_up σ1 (116, 0, 0) 0 0) (fun σ2 =>
  fM_findOrder_18 z_fu 0 0 σ2))
set_option maxHeartbeats 4000000 in
set_option maxRecDepth 20000 in
theorem wM_findOrder_90 (C : z_C E RX9 cX9_findOrder 4 A p s m args meth c) (hr : meth.sig.returnType = (some .boolean)) (hM : z_M E) {ro : Int32} {σo : zS} (K18 : Int32 → Int32 → zS → Option (Int32 × zS)) (hK18 : ∀ (x1 : Int32) (x2 : Int32) (σ : zS) (H : Heap) (locs : List Loc) (ls : Array Slot), z_H E A s σ H locs → lv_has ls 4 [(0, .ref (z_ad E (100, 0, 0))), (1, .int x1), (2, .int x2)] → K18 x1 x2 σ = some (ro, σo) → W p l e (z_rm 4) s m args below meth c H locs 0 0 (MQ below (z_QI E ro σo A) args s 0 0 A) (F0 m 18 ls [])) (x1 : Int32) (x2 : Int32) (x3 : Int32) (σ : zS) (H : Heap) (locs : List Loc) (ls : Array Slot) (hs : z_H E A s σ H locs) (hl : lv_has ls 4 [(0, .ref (z_ad E (100, 0, 0))), (1, .int x1), (2, .int x2), (3, .int x3)]) (hf : fM_findOrder_90 K18 x1 x2 x3 σ = some (ro, σo)) : W p l e (z_rm 4) s m args below meth c H locs 0 0 (MQ below (z_QI E ro σo A) args s 0 0 A) (F0 m 90 ls []) := by
  have hx := C.1
  have hb := C.2.1
  unfold fM_findOrder_90 at hf
  refine lv_aload_n hx hb dX9_findOrder_90 rfl (lv_at hl 0 rfl) ?_
  refine zg_M_row C hs (hM 100 (by decide) (by decide)) z_k974 dX9_findOrder_91 ?_
  refine lv_iload_n hx hb dX9_findOrder_94 rfl (lv_at hl 1 rfl) ?_
  refine lv_iload_n hx hb dX9_findOrder_95 rfl (lv_at hl 3 rfl) ?_
  obtain ⟨g12, hf⟩ := z_gd hf
  refine z_ast C hs (hM 115 (by decide) (by decide)) (fun r h => z_c115 E r h _ _) g12 rfl dX9_findOrder_96 (fun H locs hs => ?_)
  obtain ⟨σ13, -, hs, hf⟩ := z_top hs hf
  refine lv_iload_n hx hb dX9_findOrder_97 rfl (lv_at hl 3 rfl) ?_
  refine lv_aload_n hx hb dX9_findOrder_98 rfl (lv_at hl 0 rfl) ?_
  refine zg_M_noted C hs (hM 100 (by decide) (by decide)) z_k976 dX9_findOrder_99 ?_
  refine lv_icmp_ne (tgt := 118) hx hb dX9_findOrder_102 (by decide) (fun c14 => ?_) (fun c14 => ?_)
  · have hf := z_f hf c14
    refine lv_iload_n hx hb dX9_findOrder_118 rfl (lv_at hl 2 rfl) ?_
    refine lv_iconst (v := 1) hx hb dX9_findOrder_119 (by decide) ?_
    refine lv_iload_n hx hb dX9_findOrder_120 rfl (lv_at hl 3 rfl) ?_
    refine lv_ishl hx hb dX9_findOrder_121 ?_
    refine lv_ior hx hb dX9_findOrder_122 ?_
    refine lv_topi (fun y15 e_y15 => ?_)
    have hf := z_lte e_y15 hf
    refine lv_istore_n (lv' := [(2, .int y15), (0, .ref (z_ad E (100, 0, 0))), (1, .int x1), (3, .int x3)]) hx hb dX9_findOrder_123 rfl hl (by decide) rfl (fun ls hl => ?_)
    refine lv_aload_n hx hb dX9_findOrder_124 rfl (lv_at hl 1 rfl) ?_
    refine zg_M_cell C hs (hM 100 (by decide) (by decide)) z_k975 dX9_findOrder_125 ?_
    refine lv_iload_n hx hb dX9_findOrder_128 rfl (lv_at hl 2 rfl) ?_
    refine lv_iconst (v := 1) hx hb dX9_findOrder_129 (by decide) ?_
    refine lv_iadd hx hb dX9_findOrder_130 ?_
    refine lv_aload_n hx hb dX9_findOrder_131 rfl (lv_at hl 1 rfl) ?_
    refine zg_M_nWhat C hs (hM 100 (by decide) (by decide)) z_k971 dX9_findOrder_132 ?_
    refine lv_iload_n hx hb dX9_findOrder_135 rfl (lv_at hl 3 rfl) ?_
    obtain ⟨g16, hf⟩ := z_gd hf
    refine z_ald C hs (hM 112 (by decide) (by decide)) (z_c112 E _ _ _ _) g16 rfl dX9_findOrder_136 ?_
    refine lv_aload_n hx hb dX9_findOrder_137 rfl (lv_at hl 1 rfl) ?_
    refine zg_M_cell C hs (hM 100 (by decide) (by decide)) z_k975 dX9_findOrder_138 ?_
    refine lv_iload_n hx hb dX9_findOrder_141 rfl (lv_at hl 2 rfl) ?_
    obtain ⟨g17, hf⟩ := z_gd hf
    refine z_ald C hs (hM 116 (by decide) (by decide)) (z_c116 E _ _ _ _) g17 rfl dX9_findOrder_142 ?_
    refine lv_aload_n hx hb dX9_findOrder_143 rfl (lv_at hl 1 rfl) ?_
    refine zg_M_nValue C hs (hM 100 (by decide) (by decide)) z_k972 dX9_findOrder_144 ?_
    refine lv_iload_n hx hb dX9_findOrder_147 rfl (lv_at hl 3 rfl) ?_
    obtain ⟨g18, hf⟩ := z_gd hf
    refine z_ald C hs (hM 113 (by decide) (by decide)) (z_c113 E _ _ _ _) g18 rfl dX9_findOrder_148 ?_
    obtain ⟨r19, σ19, h_19, hf⟩ := z_bds hf
    refine z_goI C hs (z_runS C hs hl.1 (cM_after l E h_19) zcS_RX9_156 rfl rfl rfl (by decide) (Nat.le_of_ble_eq_true rfl) dX9_findOrder_149) (fun H locs hs => ?_)
    obtain ⟨g20, hf⟩ := z_gd hf
    refine z_ast C hs (hM 116 (by decide) (by decide)) (fun r h => z_c116 E r h _ _) g20 rfl dX9_findOrder_152 (fun H locs hs => ?_)
    obtain ⟨σ21, -, hs, hf⟩ := z_top hs hf
    obtain ⟨y22, e_y22⟩ : ∃ y : Int32, y = x1 + 1 := ⟨_, rfl⟩
    have hf := z_lte e_y22 hf
    refine lv_iinc (v := y22) (lv' := [(1, .int y22), (2, .int y15), (0, .ref (z_ad E (100, 0, 0))), (3, .int x3)]) hx hb dX9_findOrder_153 hl (k := 2) rfl (by rw [e_y22]; rfl) (by decide) rfl (fun ls hl => ?_)
    refine lv_aload_n hx hb dX9_findOrder_156 rfl (lv_at hl 2 rfl) ?_
    refine zg_M_row C hs (hM 100 (by decide) (by decide)) z_k974 dX9_findOrder_157 ?_
    refine lv_iload_n hx hb dX9_findOrder_160 rfl (lv_at hl 0 rfl) ?_
    refine lv_iconst (v := (-1)) hx hb dX9_findOrder_161 (by decide) ?_
    obtain ⟨g23, hf⟩ := z_gd hf
    refine z_ast C hs (hM 115 (by decide) (by decide)) (fun r h => z_c115 E r h _ _) g23 rfl dX9_findOrder_162 (fun H locs hs => ?_)
    obtain ⟨σ24, -, hs, hf⟩ := z_top hs hf
    refine lv_goto (tgt := 18) hx hb dX9_findOrder_163 (by decide) ?_
    exact hK18 y22 y15 σ24 _ _ _ hs (lv_sub hl [2, 0, 1] rfl) hf
  · have hf := z_t hf c14
    refine lv_aload_n hx hb dX9_findOrder_105 rfl (lv_at hl 0 rfl) ?_
    refine zg_M_row C hs (hM 100 (by decide) (by decide)) z_k974 dX9_findOrder_106 ?_
    refine lv_iload_n hx hb dX9_findOrder_109 rfl (lv_at hl 1 rfl) ?_
    refine lv_iconst (v := (-1)) hx hb dX9_findOrder_110 (by decide) ?_
    obtain ⟨g25, hf⟩ := z_gd hf
    refine z_ast C hs (hM 115 (by decide) (by decide)) (fun r h => z_c115 E r h _ _) g25 rfl dX9_findOrder_111 (fun H locs hs => ?_)
    obtain ⟨σ26, -, hs, hf⟩ := z_top hs hf
    obtain ⟨y27, e_y27⟩ : ∃ y : Int32, y = x1 + (-1) := ⟨_, rfl⟩
    have hf := z_lte e_y27 hf
    refine lv_iinc (v := y27) (lv' := [(1, .int y27), (0, .ref (z_ad E (100, 0, 0))), (2, .int x2), (3, .int x3)]) hx hb dX9_findOrder_112 hl (k := 1) rfl (by rw [e_y27]; rfl) (by decide) rfl (fun ls hl => ?_)
    refine lv_goto (tgt := 18) hx hb dX9_findOrder_115 (by decide) ?_
    exact hK18 y27 x2 σ26 _ _ _ hs (lv_sub hl [1, 0, 2] rfl) hf
set_option maxHeartbeats 4000000 in
set_option maxRecDepth 20000 in
theorem wM_findOrder_61 (C : z_C E RX9 cX9_findOrder 4 A p s m args meth c) (hr : meth.sig.returnType = (some .boolean)) (hM : z_M E) {ro : Int32} {σo : zS} (K18 : Int32 → Int32 → zS → Option (Int32 × zS)) (hK18 : ∀ (x1 : Int32) (x2 : Int32) (σ : zS) (H : Heap) (locs : List Loc) (ls : Array Slot), z_H E A s σ H locs → lv_has ls 4 [(0, .ref (z_ad E (100, 0, 0))), (1, .int x1), (2, .int x2)] → K18 x1 x2 σ = some (ro, σo) → W p l e (z_rm 4) s m args below meth c H locs 0 0 (MQ below (z_QI E ro σo A) args s 0 0 A) (F0 m 18 ls [])) (n : Nat) : ∀ (x1 : Int32) (x2 : Int32) (x3 : Int32) (σ : zS) (H : Heap) (locs : List Loc) (ls : Array Slot), z_H E A s σ H locs → lv_has ls 4 [(0, .ref (z_ad E (100, 0, 0))), (1, .int x1), (2, .int x2), (3, .int x3)] → fM_findOrder_61 K18 n x1 x2 x3 σ = some (ro, σo) → W p l e (z_rm 4) s m args below meth c H locs 0 0 (MQ below (z_QI E ro σo A) args s 0 0 A) (F0 m 61 ls []) := by
  induction n with
  | zero =>
    intro x1 x2 x3 σ H locs ls hs hl hf
    have hf : none = some (ro, σo) := hf
    cases hf
  | succ n ih =>
    intro x1 x2 x3 σ H locs ls hs hl hf
    have hx := C.1
    have hb := C.2.1
    rw [fM_findOrder_61.eq_2] at hf
    refine lv_iload_n hx hb dX9_findOrder_61 rfl (lv_at hl 3 rfl) ?_
    refine lv_aload_n hx hb dX9_findOrder_62 rfl (lv_at hl 0 rfl) ?_
    refine zg_M_noted C hs (hM 100 (by decide) (by decide)) z_k976 dX9_findOrder_63 ?_
    refine lv_icmp_ge (tgt := 90) hx hb dX9_findOrder_66 (by decide) (fun c11 => ?_) (fun c11 => ?_)
    · have hf := z_t hf c11
      exact wM_findOrder_90 C hr hM K18 hK18 x1 x2 x3 σ _ _ _ hs (lv_sub hl [0, 1, 2, 3] rfl) hf
    · have hf := z_f hf c11
      refine lv_aload_n hx hb dX9_findOrder_69 rfl (lv_at hl 0 rfl) ?_
      refine lv_iload_n hx hb dX9_findOrder_70 rfl (lv_at hl 3 rfl) ?_
      refine lv_iload_n hx hb dX9_findOrder_71 rfl (lv_at hl 2 rfl) ?_
      refine lv_aload_n hx hb dX9_findOrder_72 rfl (lv_at hl 0 rfl) ?_
      refine zg_M_cell C hs (hM 100 (by decide) (by decide)) z_k975 dX9_findOrder_73 ?_
      refine lv_iload_n hx hb dX9_findOrder_76 rfl (lv_at hl 1 rfl) ?_
      obtain ⟨g28, hf⟩ := z_gd hf
      refine z_ald C hs (hM 116 (by decide) (by decide)) (z_c116 E _ _ _ _) g28 rfl dX9_findOrder_77 ?_
      obtain ⟨r29, σ29, h_29, hf⟩ := z_bds hf
      refine z_goI C hs (z_runV C hs hl.1 (cM_canCome l E hM h_29) zcV_RX9_240 (hM 100 (by decide) (by decide)) (z_c100 E _ _ _ _) rfl rfl rfl (by decide) (Nat.le_of_ble_eq_true rfl) dX9_findOrder_78) (fun H locs hs => ?_)
      refine lv_if_ne (tgt := 90) hx hb dX9_findOrder_81 (by decide) (fun c30 => ?_) (fun c30 => ?_)
      · have hf := z_f hf c30
        exact wM_findOrder_90 C hr hM K18 hK18 x1 x2 x3 σ29 _ _ _ hs (lv_sub hl [0, 1, 2, 3] rfl) hf
      · have hf := z_t hf c30
        obtain ⟨y31, e_y31⟩ : ∃ y : Int32, y = x3 + 1 := ⟨_, rfl⟩
        have hf := z_lte e_y31 hf
        refine lv_iinc (v := y31) (lv' := [(3, .int y31), (0, .ref (z_ad E (100, 0, 0))), (1, .int x1), (2, .int x2)]) hx hb dX9_findOrder_84 hl (k := 3) rfl (by rw [e_y31]; rfl) (by decide) rfl (fun ls hl => ?_)
        refine lv_goto (tgt := 61) hx hb dX9_findOrder_87 (by decide) ?_
        exact ih x1 x2 y31 σ29 _ _ _ hs (lv_sub hl [1, 2, 3, 0] rfl) hf
set_option maxHeartbeats 4000000 in
set_option maxRecDepth 20000 in
theorem wM_findOrder_18 (C : z_C E RX9 cX9_findOrder 4 A p s m args meth c) (hr : meth.sig.returnType = (some .boolean)) (hM : z_M E) {ro : Int32} {σo : zS} (n : Nat) : ∀ (x1 : Int32) (x2 : Int32) (σ : zS) (H : Heap) (locs : List Loc) (ls : Array Slot), z_H E A s σ H locs → lv_has ls 4 [(0, .ref (z_ad E (100, 0, 0))), (1, .int x1), (2, .int x2)] → fM_findOrder_18 n x1 x2 σ = some (ro, σo) → W p l e (z_rm 4) s m args below meth c H locs 0 0 (MQ below (z_QI E ro σo A) args s 0 0 A) (F0 m 18 ls []) := by
  induction n with
  | zero =>
    intro x1 x2 σ H locs ls hs hl hf
    have hf : none = some (ro, σo) := hf
    cases hf
  | succ n ih =>
    intro x1 x2 σ H locs ls hs hl hf
    have hx := C.1
    have hb := C.2.1
    rw [fM_findOrder_18.eq_2] at hf
    refine lv_iload_n hx hb dX9_findOrder_18 rfl (lv_at hl 1 rfl) ?_
    refine lv_if_lt (tgt := 166) hx hb dX9_findOrder_19 (by decide) (fun c3 => ?_) (fun c3 => ?_)
    · have hf := z_t hf c3
      refine lv_iload_n hx hb dX9_findOrder_166 rfl (lv_at hl 1 rfl) ?_
      refine lv_aload_n hx hb dX9_findOrder_167 rfl (lv_at hl 0 rfl) ?_
      refine zg_M_noted C hs (hM 100 (by decide) (by decide)) z_k976 dX9_findOrder_168 ?_
      refine lv_icmp_ne (tgt := 178) hx hb dX9_findOrder_171 (by decide) (fun c4 => ?_) (fun c4 => ?_)
      · have hf := z_f hf c4
        refine lv_iconst (v := 0) hx hb dX9_findOrder_178 (by decide) ?_
        exact z_retz C hr hs (by decide +kernel) hf dX9_findOrder_179
      · have hf := z_t hf c4
        refine lv_iconst (v := 1) hx hb dX9_findOrder_174 (by decide) ?_
        refine lv_goto (tgt := 179) hx hb dX9_findOrder_175 (by decide) ?_
        exact z_retz C hr hs (by decide +kernel) hf dX9_findOrder_179
    · have hf := z_f hf c3
      refine lv_iload_n hx hb dX9_findOrder_22 rfl (lv_at hl 1 rfl) ?_
      refine lv_aload_n hx hb dX9_findOrder_23 rfl (lv_at hl 0 rfl) ?_
      refine zg_M_noted C hs (hM 100 (by decide) (by decide)) z_k976 dX9_findOrder_24 ?_
      refine lv_icmp_ge (tgt := 166) hx hb dX9_findOrder_27 (by decide) (fun c5 => ?_) (fun c5 => ?_)
      · have hf := z_t hf c5
        refine lv_iload_n hx hb dX9_findOrder_166 rfl (lv_at hl 1 rfl) ?_
        refine lv_aload_n hx hb dX9_findOrder_167 rfl (lv_at hl 0 rfl) ?_
        refine zg_M_noted C hs (hM 100 (by decide) (by decide)) z_k976 dX9_findOrder_168 ?_
        refine lv_icmp_ne (tgt := 178) hx hb dX9_findOrder_171 (by decide) (fun c6 => ?_) (fun c6 => ?_)
        · have hf := z_f hf c6
          refine lv_iconst (v := 0) hx hb dX9_findOrder_178 (by decide) ?_
          exact z_retz C hr hs (by decide +kernel) hf dX9_findOrder_179
        · have hf := z_t hf c6
          refine lv_iconst (v := 1) hx hb dX9_findOrder_174 (by decide) ?_
          refine lv_goto (tgt := 179) hx hb dX9_findOrder_175 (by decide) ?_
          exact z_retz C hr hs (by decide +kernel) hf dX9_findOrder_179
      · have hf := z_f hf c5
        refine lv_aload_n hx hb dX9_findOrder_30 rfl (lv_at hl 0 rfl) ?_
        refine zg_M_row C hs (hM 100 (by decide) (by decide)) z_k974 dX9_findOrder_31 ?_
        refine lv_iload_n hx hb dX9_findOrder_34 rfl (lv_at hl 1 rfl) ?_
        obtain ⟨g7, hf⟩ := z_gd hf
        refine z_ald C hs (hM 115 (by decide) (by decide)) (z_c115 E _ _ _ _) g7 rfl dX9_findOrder_35 ?_
        refine lv_if_lt (tgt := 52) hx hb dX9_findOrder_36 (by decide) (fun c8 => ?_) (fun c8 => ?_)
        · have hf := z_t hf c8
          refine lv_aload_n hx hb dX9_findOrder_52 rfl (lv_at hl 0 rfl) ?_
          refine zg_M_row C hs (hM 100 (by decide) (by decide)) z_k974 dX9_findOrder_53 ?_
          refine lv_iload_n hx hb dX9_findOrder_56 rfl (lv_at hl 1 rfl) ?_
          obtain ⟨g9, hf⟩ := z_gd hf
          refine z_ald C hs (hM 115 (by decide) (by decide)) (z_c115 E _ _ _ _) g9 rfl dX9_findOrder_57 ?_
          refine lv_iconst (v := 1) hx hb dX9_findOrder_58 (by decide) ?_
          refine lv_iadd hx hb dX9_findOrder_59 ?_
          refine lv_topi (fun y10 e_y10 => ?_)
          have hf := z_lte e_y10 hf
          refine lv_istore_n (lv' := [(3, .int y10), (0, .ref (z_ad E (100, 0, 0))), (1, .int x1), (2, .int x2)]) hx hb dX9_findOrder_60 rfl hl (by decide) rfl (fun ls hl => ?_)
          exact wM_findOrder_61 C hr hM (fM_findOrder_18 n) ih z_fu x1 x2 y10 σ _ _ _ hs (lv_sub hl [1, 2, 3, 0] rfl) hf
        · have hf := z_f hf c8
          refine lv_iload_n hx hb dX9_findOrder_39 rfl (lv_at hl 2 rfl) ?_
          refine lv_iconst (v := 1) hx hb dX9_findOrder_40 (by decide) ?_
          refine lv_aload_n hx hb dX9_findOrder_41 rfl (lv_at hl 0 rfl) ?_
          refine zg_M_row C hs (hM 100 (by decide) (by decide)) z_k974 dX9_findOrder_42 ?_
          refine lv_iload_n hx hb dX9_findOrder_45 rfl (lv_at hl 1 rfl) ?_
          obtain ⟨g32, hf⟩ := z_gd hf
          refine z_ald C hs (hM 115 (by decide) (by decide)) (z_c115 E _ _ _ _) g32 rfl dX9_findOrder_46 ?_
          refine lv_ishl hx hb dX9_findOrder_47 ?_
          refine lv_iconst (v := (-1)) hx hb dX9_findOrder_48 (by decide) ?_
          refine lv_ixor hx hb dX9_findOrder_49 ?_
          refine lv_iand hx hb dX9_findOrder_50 ?_
          refine lv_topi (fun y33 e_y33 => ?_)
          have hf := z_lte e_y33 hf
          refine lv_istore_n (lv' := [(2, .int y33), (0, .ref (z_ad E (100, 0, 0))), (1, .int x1)]) hx hb dX9_findOrder_51 rfl hl (by decide) rfl (fun ls hl => ?_)
          refine lv_aload_n hx hb dX9_findOrder_52 rfl (lv_at hl 1 rfl) ?_
          refine zg_M_row C hs (hM 100 (by decide) (by decide)) z_k974 dX9_findOrder_53 ?_
          refine lv_iload_n hx hb dX9_findOrder_56 rfl (lv_at hl 2 rfl) ?_
          obtain ⟨g34, hf⟩ := z_gd hf
          refine z_ald C hs (hM 115 (by decide) (by decide)) (z_c115 E _ _ _ _) g34 rfl dX9_findOrder_57 ?_
          refine lv_iconst (v := 1) hx hb dX9_findOrder_58 (by decide) ?_
          refine lv_iadd hx hb dX9_findOrder_59 ?_
          refine lv_topi (fun y35 e_y35 => ?_)
          have hf := z_lte e_y35 hf
          refine lv_istore_n (lv' := [(3, .int y35), (2, .int y33), (0, .ref (z_ad E (100, 0, 0))), (1, .int x1)]) hx hb dX9_findOrder_60 rfl hl (by decide) rfl (fun ls hl => ?_)
          exact wM_findOrder_61 C hr hM (fM_findOrder_18 n) ih z_fu x1 y33 y35 σ _ _ _ hs (lv_sub hl [2, 3, 1, 0] rfl) hf
set_option maxHeartbeats 4000000 in
set_option maxRecDepth 20000 in
theorem wM_findOrder (C : z_C E RX9 cX9_findOrder 4 A p s m args meth c) (hr : meth.sig.returnType = (some .boolean)) (hM : z_M E) {ro : Int32} {σo : zS} (σ : zS) (H : Heap) (locs : List Loc) (ls : Array Slot) (hs : z_H E A s σ H locs) (hl : lv_has ls 4 [(0, .ref (z_ad E (100, 0, 0)))]) (hf : fM_findOrder σ = some (ro, σo)) : W p l e (z_rm 4) s m args below meth c H locs 0 0 (MQ below (z_QI E ro σo A) args s 0 0 A) (F0 m 0 ls []) := by
  have hx := C.1
  have hb := C.2.1
  unfold fM_findOrder at hf
  refine lv_iconst (v := 0) hx hb dX9_findOrder_0 (by decide) ?_
  refine lv_istore_n (lv' := [(1, .int 0), (0, .ref (z_ad E (100, 0, 0)))]) hx hb dX9_findOrder_1 rfl hl (by decide) rfl (fun ls hl => ?_)
  refine lv_iconst (v := 0) hx hb dX9_findOrder_2 (by decide) ?_
  refine lv_istore_n (lv' := [(2, .int 0), (1, .int 0), (0, .ref (z_ad E (100, 0, 0)))]) hx hb dX9_findOrder_3 rfl hl (by decide) rfl (fun ls hl => ?_)
  refine lv_aload_n hx hb dX9_findOrder_4 rfl (lv_at hl 2 rfl) ?_
  refine zg_M_row C hs (hM 100 (by decide) (by decide)) z_k974 dX9_findOrder_5 ?_
  refine lv_iconst (v := 0) hx hb dX9_findOrder_8 (by decide) ?_
  refine lv_iconst (v := (-1)) hx hb dX9_findOrder_9 (by decide) ?_
  refine z_ast C hs (hM 115 (by decide) (by decide)) (fun r h => z_c115 E r h _ _) (by decide +kernel) (k := 0) (by decide +kernel) dX9_findOrder_10 (fun H locs hs => ?_)
  obtain ⟨σ1, -, hs, hf⟩ := z_top hs hf
  refine lv_aload_n hx hb dX9_findOrder_11 rfl (lv_at hl 2 rfl) ?_
  refine zg_M_cell C hs (hM 100 (by decide) (by decide)) z_k975 dX9_findOrder_12 ?_
  refine lv_iconst (v := 0) hx hb dX9_findOrder_15 (by decide) ?_
  refine lv_iconst (v := 0) hx hb dX9_findOrder_16 (by decide) ?_
  refine z_ast C hs (hM 116 (by decide) (by decide)) (fun r h => z_c116 E r h _ _) (by decide +kernel) (k := 0) (by decide +kernel) dX9_findOrder_17 (fun H locs hs => ?_)
  obtain ⟨σ2, -, hs, hf⟩ := z_top hs hf
  exact wM_findOrder_18 C hr hM z_fu 0 0 σ2 _ _ _ hs (lv_sub hl [2, 1, 0] rfl) hf
set_option maxHeartbeats 4000000 in
set_option maxRecDepth 20000 in
theorem cM_findOrder (l : Launch) (E : zE) (hM : z_M E) {σ σo : zS} {ro : Int32} (hf : fM_findOrder σ = some (ro, σo)) : z_T l E yX9_findOrder cX9_findOrder 4 (some .boolean) (z_rm 4) (z_QI E ro σo) [.ref (z_ad E (100, 0, 0))] σ :=
  z_enter (by decide) (Nat.le_of_ble_eq_true rfl) rfl (fun p e s m below meth c A ls C hr hs hl => wM_findOrder C hr hM σ _ _ ls hs hl hf)
def fM_judge (σ : zS) : Option (Int32 × zS) :=
  z_bd (fM_findOrder σ) (fun r1 σ1 =>
  if r1 = 0 then
    (some (0, σ1))
  else
    (some (1, σ1)))
set_option maxHeartbeats 4000000 in
set_option maxRecDepth 20000 in
theorem wM_judge (C : z_C E RX9 cX9_judge 1 A p s m args meth c) (hr : meth.sig.returnType = (some .int)) (hM : z_M E) {ro : Int32} {σo : zS} (σ : zS) (H : Heap) (locs : List Loc) (ls : Array Slot) (hs : z_H E A s σ H locs) (hl : lv_has ls 1 [(0, .ref (z_ad E (100, 0, 0)))]) (hf : fM_judge σ = some (ro, σo)) : W p l e (z_rm 5) s m args below meth c H locs 0 0 (MQ below (z_QI E ro σo A) args s 0 0 A) (F0 m 0 ls []) := by
  have hx := C.1
  have hb := C.2.1
  unfold fM_judge at hf
  refine lv_aload_n hx hb dX9_judge_0 rfl (lv_at hl 0 rfl) ?_
  obtain ⟨r1, σ1, h_1, hf⟩ := z_bds hf
  refine z_goI C hs (z_runV C hs hl.1 (cM_findOrder l E hM h_1) zcV_RX9_243 (hM 100 (by decide) (by decide)) (z_c100 E _ _ _ _) rfl rfl rfl (by decide) (Nat.le_of_ble_eq_true rfl) dX9_judge_1) (fun H locs hs => ?_)
  refine lv_if_eq (tgt := 11) hx hb dX9_judge_4 (by decide) (fun c2 => ?_) (fun c2 => ?_)
  · have hf := z_t hf c2
    refine lv_iconst (v := 0) hx hb dX9_judge_11 (by decide) ?_
    exact z_reti C hr hs hf dX9_judge_12
  · have hf := z_f hf c2
    refine lv_iconst (v := 1) hx hb dX9_judge_7 (by decide) ?_
    refine lv_goto (tgt := 12) hx hb dX9_judge_8 (by decide) ?_
    exact z_reti C hr hs hf dX9_judge_12
set_option maxHeartbeats 4000000 in
set_option maxRecDepth 20000 in
theorem cM_judge (l : Launch) (E : zE) (hM : z_M E) {σ σo : zS} {ro : Int32} (hf : fM_judge σ = some (ro, σo)) : z_T l E yX9_judge cX9_judge 1 (some .int) (z_rm 5) (z_QI E ro σo) [.ref (z_ad E (100, 0, 0))] σ :=
  z_enter (by decide) (Nat.le_of_ble_eq_true rfl) rfl (fun p e s m below meth c A ls C hr hs hl => wM_judge C hr hM σ _ _ ls hs hl hf)
def fM_order (x1 : Int32) (σ : zS) : Option (Int32 × zS) :=
  z_bd (fM_isIn x1 0 ((σ.1 (100, 0, 0) 26) - 1) σ) (fun r1 σ1 =>
  if r1 = 0 then
    (some ((-1), σ1))
  else
    (z_bd (fM_findOrder σ1) (fun r3 σ3 =>
    if r3 = 0 then
      (some ((-1), σ3))
    else
      (if z_in x1 10 = true then (
      some (σ3.1 (115, 0, 0) x1.toNatClampNeg, σ3)) else none))))
set_option maxHeartbeats 4000000 in
set_option maxRecDepth 20000 in
theorem wM_order {x1 : Int32} (C : z_C E RX9 cX9_order 2 A p s m args meth c) (hr : meth.sig.returnType = (some .int)) (hM : z_M E) {ro : Int32} {σo : zS} (σ : zS) (H : Heap) (locs : List Loc) (ls : Array Slot) (hs : z_H E A s σ H locs) (hl : lv_has ls 2 [(0, .ref (z_ad E (100, 0, 0))), (1, .int x1)]) (hf : fM_order x1 σ = some (ro, σo)) : W p l e (z_rm 5) s m args below meth c H locs 0 0 (MQ below (z_QI E ro σo A) args s 0 0 A) (F0 m 0 ls []) := by
  have hx := C.1
  have hb := C.2.1
  unfold fM_order at hf
  refine lv_iload_n hx hb dX9_order_0 rfl (lv_at hl 1 rfl) ?_
  refine lv_iconst (v := 0) hx hb dX9_order_1 (by decide) ?_
  refine lv_aload_n hx hb dX9_order_2 rfl (lv_at hl 0 rfl) ?_
  refine zg_M_noted C hs (hM 100 (by decide) (by decide)) z_k976 dX9_order_3 ?_
  refine lv_iconst (v := 1) hx hb dX9_order_6 (by decide) ?_
  refine lv_isub hx hb dX9_order_7 ?_
  obtain ⟨r1, σ1, h_1, hf⟩ := z_bds hf
  refine z_goI C hs (z_runS C hs hl.1 (cM_isIn l E h_1) zcS_RX9_132 rfl rfl rfl (by decide) (Nat.le_of_ble_eq_true rfl) dX9_order_8) (fun H locs hs => ?_)
  refine lv_if_eq (tgt := 30) hx hb dX9_order_11 (by decide) (fun c2 => ?_) (fun c2 => ?_)
  · have hf := z_t hf c2
    refine lv_iconst (v := (-1)) hx hb dX9_order_30 (by decide) ?_
    exact z_reti C hr hs hf dX9_order_31
  · have hf := z_f hf c2
    refine lv_aload_n hx hb dX9_order_14 rfl (lv_at hl 0 rfl) ?_
    obtain ⟨r3, σ3, h_3, hf⟩ := z_bds hf
    refine z_goI C hs (z_runV C hs hl.1 (cM_findOrder l E hM h_3) zcV_RX9_243 (hM 100 (by decide) (by decide)) (z_c100 E _ _ _ _) rfl rfl rfl (by decide) (Nat.le_of_ble_eq_true rfl) dX9_order_15) (fun H locs hs => ?_)
    refine lv_if_eq (tgt := 30) hx hb dX9_order_18 (by decide) (fun c4 => ?_) (fun c4 => ?_)
    · have hf := z_t hf c4
      refine lv_iconst (v := (-1)) hx hb dX9_order_30 (by decide) ?_
      exact z_reti C hr hs hf dX9_order_31
    · have hf := z_f hf c4
      refine lv_aload_n hx hb dX9_order_21 rfl (lv_at hl 0 rfl) ?_
      refine zg_M_row C hs (hM 100 (by decide) (by decide)) z_k974 dX9_order_22 ?_
      refine lv_iload_n hx hb dX9_order_25 rfl (lv_at hl 1 rfl) ?_
      obtain ⟨g5, hf⟩ := z_gd hf
      refine z_ald C hs (hM 115 (by decide) (by decide)) (z_c115 E _ _ _ _) g5 rfl dX9_order_26 ?_
      refine lv_goto (tgt := 31) hx hb dX9_order_27 (by decide) ?_
      exact z_reti C hr hs hf dX9_order_31
set_option maxHeartbeats 4000000 in
set_option maxRecDepth 20000 in
theorem cM_order (l : Launch) (E : zE) {x1 : Int32} (hM : z_M E) {σ σo : zS} {ro : Int32} (hf : fM_order x1 σ = some (ro, σo)) : z_T l E yX9_order cX9_order 2 (some .int) (z_rm 5) (z_QI E ro σo) [.ref (z_ad E (100, 0, 0)), .int x1] σ :=
  z_enter (by decide) (Nat.le_of_ble_eq_true rfl) rfl (fun p e s m below meth c A ls C hr hs hl => wM_order C hr hM σ _ _ ls hs hl hf)
def fM_image_13 : Nat → Int32 → Int32 → zS → Option (Int32 × zS)
  | 0, _, _, _ => none
  | n + 1, x1, x2, σ =>
    if 5000 ≤ x2 then
      (if z_in x1 3 = true then (
      z_let (z_up σ (105, 0, 0) (x1.toNatClampNeg) (vp_nar .boolean 1)) (fun σ5 =>
      z_bd (fM_letters σ5) (fun r6 σ6 =>
      some (r6, σ6)))) else none)
    else
      (if z_in x2 5000 = true then (
      if z_in ((5000 * x1) + x2) 15000 = true then (
      z_let (z_up σ (104, 0, 0) (((5000 * x1) + x2).toNatClampNeg) (σ.1 (103, 0, 0) x2.toNatClampNeg)) (fun σ9 =>
      z_let (x2 + 1) (fun y10 =>
      fM_image_13 n x1 y10 σ9))) else none) else none)
def fM_image (x1 : Int32) (σ : zS) : Option (Int32 × zS) :=
  z_bd (fM_isIn x1 0 2 σ) (fun r1 σ1 =>
  if r1 = 0 then
    (some ((-1), σ1))
  else
    (fM_image_13 z_fu x1 0 σ1))
set_option maxHeartbeats 4000000 in
set_option maxRecDepth 20000 in
theorem wM_image_13 (C : z_C E RX9 cX9_image 3 A p s m args meth c) (hr : meth.sig.returnType = (some .int)) (hM : z_M E) {ro : Int32} {σo : zS} (n : Nat) : ∀ (x1 : Int32) (x2 : Int32) (σ : zS) (H : Heap) (locs : List Loc) (ls : Array Slot), z_H E A s σ H locs → lv_has ls 3 [(0, .ref (z_ad E (100, 0, 0))), (1, .int x1), (2, .int x2)] → fM_image_13 n x1 x2 σ = some (ro, σo) → W p l e (z_rm 3) s m args below meth c H locs 0 0 (MQ below (z_QI E ro σo A) args s 0 0 A) (F0 m 13 ls []) := by
  induction n with
  | zero =>
    intro x1 x2 σ H locs ls hs hl hf
    have hf : none = some (ro, σo) := hf
    cases hf
  | succ n ih =>
    intro x1 x2 σ H locs ls hs hl hf
    have hx := C.1
    have hb := C.2.1
    rw [fM_image_13.eq_2] at hf
    refine lv_iload_n hx hb dX9_image_13 rfl (lv_at hl 2 rfl) ?_
    refine lv_sipush (v := 5000) hx hb dX9_image_14 (by decide) ?_
    refine lv_icmp_ge (tgt := 44) hx hb dX9_image_17 (by decide) (fun c3 => ?_) (fun c3 => ?_)
    · have hf := z_t hf c3
      refine lv_aload_n hx hb dX9_image_44 rfl (lv_at hl 0 rfl) ?_
      refine zg_M_isBoxed C hs (hM 100 (by decide) (by decide)) z_k954 dX9_image_45 ?_
      refine lv_iload_n hx hb dX9_image_48 rfl (lv_at hl 1 rfl) ?_
      refine lv_iconst (v := 1) hx hb dX9_image_49 (by decide) ?_
      obtain ⟨g4, hf⟩ := z_gd hf
      refine z_zast C hs (hM 105 (by decide) (by decide)) (fun r h => z_c105 E r h _ _) g4 rfl dX9_image_50 (fun H locs hs => ?_)
      obtain ⟨σ5, -, hs, hf⟩ := z_top hs hf
      refine lv_aload_n hx hb dX9_image_51 rfl (lv_at hl 0 rfl) ?_
      obtain ⟨r6, σ6, h_6, hf⟩ := z_bds hf
      refine z_goI C hs (z_runV C hs hl.1 (cM_letters l E hM h_6) zcV_RX9_195 (hM 100 (by decide) (by decide)) (z_c100 E _ _ _ _) rfl rfl rfl (by decide) (Nat.le_of_ble_eq_true rfl) dX9_image_52) (fun H locs hs => ?_)
      exact z_reti C hr hs hf dX9_image_55
    · have hf := z_f hf c3
      refine lv_aload_n hx hb dX9_image_20 rfl (lv_at hl 0 rfl) ?_
      refine zg_M_boxes C hs (hM 100 (by decide) (by decide)) z_k953 dX9_image_21 ?_
      refine lv_sipush (v := 5000) hx hb dX9_image_24 (by decide) ?_
      refine lv_iload_n hx hb dX9_image_27 rfl (lv_at hl 1 rfl) ?_
      refine lv_imul hx hb dX9_image_28 ?_
      refine lv_iload_n hx hb dX9_image_29 rfl (lv_at hl 2 rfl) ?_
      refine lv_iadd hx hb dX9_image_30 ?_
      refine lv_aload_n hx hb dX9_image_31 rfl (lv_at hl 0 rfl) ?_
      refine zg_M_all C hs (hM 100 (by decide) (by decide)) z_k952 dX9_image_32 ?_
      refine lv_iload_n hx hb dX9_image_35 rfl (lv_at hl 2 rfl) ?_
      obtain ⟨g7, hf⟩ := z_gd hf
      refine z_ald C hs (hM 103 (by decide) (by decide)) (z_c103 E _ _ _ _) g7 rfl dX9_image_36 ?_
      obtain ⟨g8, hf⟩ := z_gd hf
      refine z_ast C hs (hM 104 (by decide) (by decide)) (fun r h => z_c104 E r h _ _) g8 rfl dX9_image_37 (fun H locs hs => ?_)
      obtain ⟨σ9, -, hs, hf⟩ := z_top hs hf
      obtain ⟨y10, e_y10⟩ : ∃ y : Int32, y = x2 + 1 := ⟨_, rfl⟩
      have hf := z_lte e_y10 hf
      refine lv_iinc (v := y10) (lv' := [(2, .int y10), (0, .ref (z_ad E (100, 0, 0))), (1, .int x1)]) hx hb dX9_image_38 hl (k := 2) rfl (by rw [e_y10]; rfl) (by decide) rfl (fun ls hl => ?_)
      refine lv_goto (tgt := 13) hx hb dX9_image_41 (by decide) ?_
      exact ih x1 y10 σ9 _ _ _ hs (lv_sub hl [1, 2, 0] rfl) hf
set_option maxHeartbeats 4000000 in
set_option maxRecDepth 20000 in
theorem wM_image {x1 : Int32} (C : z_C E RX9 cX9_image 3 A p s m args meth c) (hr : meth.sig.returnType = (some .int)) (hM : z_M E) {ro : Int32} {σo : zS} (σ : zS) (H : Heap) (locs : List Loc) (ls : Array Slot) (hs : z_H E A s σ H locs) (hl : lv_has ls 3 [(0, .ref (z_ad E (100, 0, 0))), (1, .int x1)]) (hf : fM_image x1 σ = some (ro, σo)) : W p l e (z_rm 3) s m args below meth c H locs 0 0 (MQ below (z_QI E ro σo A) args s 0 0 A) (F0 m 0 ls []) := by
  have hx := C.1
  have hb := C.2.1
  unfold fM_image at hf
  refine lv_iload_n hx hb dX9_image_0 rfl (lv_at hl 1 rfl) ?_
  refine lv_iconst (v := 0) hx hb dX9_image_1 (by decide) ?_
  refine lv_iconst (v := 2) hx hb dX9_image_2 (by decide) ?_
  obtain ⟨r1, σ1, h_1, hf⟩ := z_bds hf
  refine z_goI C hs (z_runS C hs hl.1 (cM_isIn l E h_1) zcS_RX9_132 rfl rfl rfl (by decide) (Nat.le_of_ble_eq_true rfl) dX9_image_3) (fun H locs hs => ?_)
  refine lv_if_ne (tgt := 11) hx hb dX9_image_6 (by decide) (fun c2 => ?_) (fun c2 => ?_)
  · have hf := z_f hf c2
    refine lv_iconst (v := 0) hx hb dX9_image_11 (by decide) ?_
    refine lv_istore_n (lv' := [(2, .int 0), (0, .ref (z_ad E (100, 0, 0))), (1, .int x1)]) hx hb dX9_image_12 rfl hl (by decide) rfl (fun ls hl => ?_)
    exact wM_image_13 C hr hM z_fu x1 0 σ1 _ _ _ hs (lv_sub hl [1, 2, 0] rfl) hf
  · have hf := z_t hf c2
    refine lv_iconst (v := (-1)) hx hb dX9_image_9 (by decide) ?_
    exact z_reti C hr hs hf dX9_image_10
set_option maxHeartbeats 4000000 in
set_option maxRecDepth 20000 in
theorem cM_image (l : Launch) (E : zE) {x1 : Int32} (hM : z_M E) {σ σo : zS} {ro : Int32} (hf : fM_image x1 σ = some (ro, σo)) : z_T l E yX9_image cX9_image 3 (some .int) (z_rm 3) (z_QI E ro σo) [.ref (z_ad E (100, 0, 0)), .int x1] σ :=
  z_enter (by decide) (Nat.le_of_ble_eq_true rfl) rfl (fun p e s m below meth c A ls C hr hs hl => wM_image C hr hM σ _ _ ls hs hl hf)
def fM_back_22 : Nat → Int32 → Int32 → zS → Option (Int32 × zS)
  | 0, _, _, _ => none
  | n + 1, x1, x2, σ =>
    if 5000 ≤ x2 then
      (z_bd (fM_letters σ) (fun r6 σ6 =>
      some (r6, σ6)))
    else
      (if z_in ((5000 * x1) + x2) 15000 = true then (
      if z_in x2 5000 = true then (
      z_let (z_up σ (103, 0, 0) (x2.toNatClampNeg) (σ.1 (104, 0, 0) ((5000 * x1) + x2).toNatClampNeg)) (fun σ9 =>
      z_let (x2 + 1) (fun y10 =>
      fM_back_22 n x1 y10 σ9))) else none) else none)
def fM_back (x1 : Int32) (σ : zS) : Option (Int32 × zS) :=
  z_bd (fM_isIn x1 0 2 σ) (fun r1 σ1 =>
  if r1 = 0 then
    (some ((-1), σ1))
  else
    (if z_in x1 3 = true then (
    if (σ1.1 (105, 0, 0) x1.toNatClampNeg) = 0 then
      (some ((-1), σ1))
    else
      (fM_back_22 z_fu x1 0 σ1)) else none))
set_option maxHeartbeats 4000000 in
set_option maxRecDepth 20000 in
theorem wM_back_22 (C : z_C E RX9 cX9_back 3 A p s m args meth c) (hr : meth.sig.returnType = (some .int)) (hM : z_M E) {ro : Int32} {σo : zS} (n : Nat) : ∀ (x1 : Int32) (x2 : Int32) (σ : zS) (H : Heap) (locs : List Loc) (ls : Array Slot), z_H E A s σ H locs → lv_has ls 3 [(0, .ref (z_ad E (100, 0, 0))), (1, .int x1), (2, .int x2)] → fM_back_22 n x1 x2 σ = some (ro, σo) → W p l e (z_rm 3) s m args below meth c H locs 0 0 (MQ below (z_QI E ro σo A) args s 0 0 A) (F0 m 22 ls []) := by
  induction n with
  | zero =>
    intro x1 x2 σ H locs ls hs hl hf
    have hf : none = some (ro, σo) := hf
    cases hf
  | succ n ih =>
    intro x1 x2 σ H locs ls hs hl hf
    have hx := C.1
    have hb := C.2.1
    rw [fM_back_22.eq_2] at hf
    refine lv_iload_n hx hb dX9_back_22 rfl (lv_at hl 2 rfl) ?_
    refine lv_sipush (v := 5000) hx hb dX9_back_23 (by decide) ?_
    refine lv_icmp_ge (tgt := 53) hx hb dX9_back_26 (by decide) (fun c5 => ?_) (fun c5 => ?_)
    · have hf := z_t hf c5
      refine lv_aload_n hx hb dX9_back_53 rfl (lv_at hl 0 rfl) ?_
      obtain ⟨r6, σ6, h_6, hf⟩ := z_bds hf
      refine z_goI C hs (z_runV C hs hl.1 (cM_letters l E hM h_6) zcV_RX9_195 (hM 100 (by decide) (by decide)) (z_c100 E _ _ _ _) rfl rfl rfl (by decide) (Nat.le_of_ble_eq_true rfl) dX9_back_54) (fun H locs hs => ?_)
      exact z_reti C hr hs hf dX9_back_57
    · have hf := z_f hf c5
      refine lv_aload_n hx hb dX9_back_29 rfl (lv_at hl 0 rfl) ?_
      refine zg_M_all C hs (hM 100 (by decide) (by decide)) z_k952 dX9_back_30 ?_
      refine lv_iload_n hx hb dX9_back_33 rfl (lv_at hl 2 rfl) ?_
      refine lv_aload_n hx hb dX9_back_34 rfl (lv_at hl 0 rfl) ?_
      refine zg_M_boxes C hs (hM 100 (by decide) (by decide)) z_k953 dX9_back_35 ?_
      refine lv_sipush (v := 5000) hx hb dX9_back_38 (by decide) ?_
      refine lv_iload_n hx hb dX9_back_41 rfl (lv_at hl 1 rfl) ?_
      refine lv_imul hx hb dX9_back_42 ?_
      refine lv_iload_n hx hb dX9_back_43 rfl (lv_at hl 2 rfl) ?_
      refine lv_iadd hx hb dX9_back_44 ?_
      obtain ⟨g7, hf⟩ := z_gd hf
      refine z_ald C hs (hM 104 (by decide) (by decide)) (z_c104 E _ _ _ _) g7 rfl dX9_back_45 ?_
      obtain ⟨g8, hf⟩ := z_gd hf
      refine z_ast C hs (hM 103 (by decide) (by decide)) (fun r h => z_c103 E r h _ _) g8 rfl dX9_back_46 (fun H locs hs => ?_)
      obtain ⟨σ9, -, hs, hf⟩ := z_top hs hf
      obtain ⟨y10, e_y10⟩ : ∃ y : Int32, y = x2 + 1 := ⟨_, rfl⟩
      have hf := z_lte e_y10 hf
      refine lv_iinc (v := y10) (lv' := [(2, .int y10), (0, .ref (z_ad E (100, 0, 0))), (1, .int x1)]) hx hb dX9_back_47 hl (k := 2) rfl (by rw [e_y10]; rfl) (by decide) rfl (fun ls hl => ?_)
      refine lv_goto (tgt := 22) hx hb dX9_back_50 (by decide) ?_
      exact ih x1 y10 σ9 _ _ _ hs (lv_sub hl [1, 2, 0] rfl) hf
set_option maxHeartbeats 4000000 in
set_option maxRecDepth 20000 in
theorem wM_back {x1 : Int32} (C : z_C E RX9 cX9_back 3 A p s m args meth c) (hr : meth.sig.returnType = (some .int)) (hM : z_M E) {ro : Int32} {σo : zS} (σ : zS) (H : Heap) (locs : List Loc) (ls : Array Slot) (hs : z_H E A s σ H locs) (hl : lv_has ls 3 [(0, .ref (z_ad E (100, 0, 0))), (1, .int x1)]) (hf : fM_back x1 σ = some (ro, σo)) : W p l e (z_rm 3) s m args below meth c H locs 0 0 (MQ below (z_QI E ro σo A) args s 0 0 A) (F0 m 0 ls []) := by
  have hx := C.1
  have hb := C.2.1
  unfold fM_back at hf
  refine lv_iload_n hx hb dX9_back_0 rfl (lv_at hl 1 rfl) ?_
  refine lv_iconst (v := 0) hx hb dX9_back_1 (by decide) ?_
  refine lv_iconst (v := 2) hx hb dX9_back_2 (by decide) ?_
  obtain ⟨r1, σ1, h_1, hf⟩ := z_bds hf
  refine z_goI C hs (z_runS C hs hl.1 (cM_isIn l E h_1) zcS_RX9_132 rfl rfl rfl (by decide) (Nat.le_of_ble_eq_true rfl) dX9_back_3) (fun H locs hs => ?_)
  refine lv_if_eq (tgt := 18) hx hb dX9_back_6 (by decide) (fun c2 => ?_) (fun c2 => ?_)
  · have hf := z_t hf c2
    refine lv_iconst (v := (-1)) hx hb dX9_back_18 (by decide) ?_
    exact z_reti C hr hs hf dX9_back_19
  · have hf := z_f hf c2
    refine lv_aload_n hx hb dX9_back_9 rfl (lv_at hl 0 rfl) ?_
    refine zg_M_isBoxed C hs (hM 100 (by decide) (by decide)) z_k954 dX9_back_10 ?_
    refine lv_iload_n hx hb dX9_back_13 rfl (lv_at hl 1 rfl) ?_
    obtain ⟨g3, hf⟩ := z_gd hf
    refine z_zald C hs (hM 105 (by decide) (by decide)) (z_c105 E _ _ _ _) g3 rfl dX9_back_14 ?_
    refine lv_if_ne (tgt := 20) hx hb dX9_back_15 (by decide) (fun c4 => ?_) (fun c4 => ?_)
    · have hf := z_f hf c4
      refine lv_iconst (v := 0) hx hb dX9_back_20 (by decide) ?_
      refine lv_istore_n (lv' := [(2, .int 0), (0, .ref (z_ad E (100, 0, 0))), (1, .int x1)]) hx hb dX9_back_21 rfl hl (by decide) rfl (fun ls hl => ?_)
      exact wM_back_22 C hr hM z_fu x1 0 σ1 _ _ _ hs (lv_sub hl [1, 2, 0] rfl) hf
    · have hf := z_t hf c4
      refine lv_iconst (v := (-1)) hx hb dX9_back_18 (by decide) ?_
      exact z_reti C hr hs hf dX9_back_19
set_option maxHeartbeats 4000000 in
set_option maxRecDepth 20000 in
theorem cM_back (l : Launch) (E : zE) {x1 : Int32} (hM : z_M E) {σ σo : zS} {ro : Int32} (hf : fM_back x1 σ = some (ro, σo)) : z_T l E yX9_back cX9_back 3 (some .int) (z_rm 3) (z_QI E ro σo) [.ref (z_ad E (100, 0, 0)), .int x1] σ :=
  z_enter (by decide) (Nat.le_of_ble_eq_true rfl) rfl (fun p e s m below meth c A ls C hr hs hl => wM_back C hr hM σ _ _ ls hs hl hf)
def fM_up_4 : Nat → Int32 → Int32 → zS → Option (Int32 × zS)
  | 0, _, _, _ => none
  | n + 1, x1, x2, σ =>
    z_bd (fM_many σ) (fun r1 σ1 =>
    if r1 ≤ x2 then
      (some (x1, σ1))
    else
      (z_bd (fM_isUp x2 σ1) (fun r3 σ3 =>
      if r3 = 0 then
        (z_let (x1 + 0) (fun y5 =>
        z_let (x2 + 1) (fun y6 =>
        fM_up_4 n y5 y6 σ3)))
      else
        (z_let (x1 + 1) (fun y7 =>
        z_let (x2 + 1) (fun y8 =>
        fM_up_4 n y7 y8 σ3))))))
def fM_up (σ : zS) : Option (Int32 × zS) :=
  fM_up_4 z_fu 0 0 σ
set_option maxHeartbeats 4000000 in
set_option maxRecDepth 20000 in
theorem wM_up_4 (C : z_C E RX9 cX9_up 3 A p s m args meth c) (hr : meth.sig.returnType = (some .int)) (hM : z_M E) {ro : Int32} {σo : zS} (n : Nat) : ∀ (x1 : Int32) (x2 : Int32) (σ : zS) (H : Heap) (locs : List Loc) (ls : Array Slot), z_H E A s σ H locs → lv_has ls 3 [(0, .ref (z_ad E (100, 0, 0))), (1, .int x1), (2, .int x2)] → fM_up_4 n x1 x2 σ = some (ro, σo) → W p l e (z_rm 4) s m args below meth c H locs 0 0 (MQ below (z_QI E ro σo A) args s 0 0 A) (F0 m 4 ls []) := by
  induction n with
  | zero =>
    intro x1 x2 σ H locs ls hs hl hf
    have hf : none = some (ro, σo) := hf
    cases hf
  | succ n ih =>
    intro x1 x2 σ H locs ls hs hl hf
    have hx := C.1
    have hb := C.2.1
    rw [fM_up_4.eq_2] at hf
    refine lv_iload_n hx hb dX9_up_4 rfl (lv_at hl 2 rfl) ?_
    refine lv_aload_n hx hb dX9_up_5 rfl (lv_at hl 0 rfl) ?_
    obtain ⟨r1, σ1, h_1, hf⟩ := z_bds hf
    refine z_goI C hs (z_runV C hs hl.1 (cM_many l E hM h_1) zcV_RX9_128 (hM 100 (by decide) (by decide)) (z_c100 E _ _ _ _) rfl rfl rfl (by decide) (Nat.le_of_ble_eq_true rfl) dX9_up_6) (fun H locs hs => ?_)
    refine lv_icmp_ge (tgt := 34) hx hb dX9_up_9 (by decide) (fun c2 => ?_) (fun c2 => ?_)
    · have hf := z_t hf c2
      refine lv_iload_n hx hb dX9_up_34 rfl (lv_at hl 1 rfl) ?_
      exact z_reti C hr hs hf dX9_up_35
    · have hf := z_f hf c2
      refine lv_iload_n hx hb dX9_up_12 rfl (lv_at hl 1 rfl) ?_
      refine lv_aload_n hx hb dX9_up_13 rfl (lv_at hl 0 rfl) ?_
      refine lv_iload_n hx hb dX9_up_14 rfl (lv_at hl 2 rfl) ?_
      obtain ⟨r3, σ3, h_3, hf⟩ := z_bds hf
      refine z_goI C hs (z_runV C hs hl.1 (cM_isUp l E hM h_3) zcV_RX9_150 (hM 100 (by decide) (by decide)) (z_c100 E _ _ _ _) rfl rfl rfl (by decide) (Nat.le_of_ble_eq_true rfl) dX9_up_15) (fun H locs hs => ?_)
      refine lv_if_eq (tgt := 25) hx hb dX9_up_18 (by decide) (fun c4 => ?_) (fun c4 => ?_)
      · have hf := z_t hf c4
        refine lv_iconst (v := 0) hx hb dX9_up_25 (by decide) ?_
        refine lv_iadd hx hb dX9_up_26 ?_
        refine lv_topi (fun y5 e_y5 => ?_)
        have hf := z_lte e_y5 hf
        refine lv_istore_n (lv' := [(1, .int y5), (0, .ref (z_ad E (100, 0, 0))), (2, .int x2)]) hx hb dX9_up_27 rfl hl (by decide) rfl (fun ls hl => ?_)
        obtain ⟨y6, e_y6⟩ : ∃ y : Int32, y = x2 + 1 := ⟨_, rfl⟩
        have hf := z_lte e_y6 hf
        refine lv_iinc (v := y6) (lv' := [(2, .int y6), (1, .int y5), (0, .ref (z_ad E (100, 0, 0)))]) hx hb dX9_up_28 hl (k := 2) rfl (by rw [e_y6]; rfl) (by decide) rfl (fun ls hl => ?_)
        refine lv_goto (tgt := 4) hx hb dX9_up_31 (by decide) ?_
        exact ih y5 y6 σ3 _ _ _ hs (lv_sub hl [2, 1, 0] rfl) hf
      · have hf := z_f hf c4
        refine lv_iconst (v := 1) hx hb dX9_up_21 (by decide) ?_
        refine lv_goto (tgt := 26) hx hb dX9_up_22 (by decide) ?_
        refine lv_iadd hx hb dX9_up_26 ?_
        refine lv_topi (fun y7 e_y7 => ?_)
        have hf := z_lte e_y7 hf
        refine lv_istore_n (lv' := [(1, .int y7), (0, .ref (z_ad E (100, 0, 0))), (2, .int x2)]) hx hb dX9_up_27 rfl hl (by decide) rfl (fun ls hl => ?_)
        obtain ⟨y8, e_y8⟩ : ∃ y : Int32, y = x2 + 1 := ⟨_, rfl⟩
        have hf := z_lte e_y8 hf
        refine lv_iinc (v := y8) (lv' := [(2, .int y8), (1, .int y7), (0, .ref (z_ad E (100, 0, 0)))]) hx hb dX9_up_28 hl (k := 2) rfl (by rw [e_y8]; rfl) (by decide) rfl (fun ls hl => ?_)
        refine lv_goto (tgt := 4) hx hb dX9_up_31 (by decide) ?_
        exact ih y7 y8 σ3 _ _ _ hs (lv_sub hl [2, 1, 0] rfl) hf
set_option maxHeartbeats 4000000 in
set_option maxRecDepth 20000 in
theorem wM_up (C : z_C E RX9 cX9_up 3 A p s m args meth c) (hr : meth.sig.returnType = (some .int)) (hM : z_M E) {ro : Int32} {σo : zS} (σ : zS) (H : Heap) (locs : List Loc) (ls : Array Slot) (hs : z_H E A s σ H locs) (hl : lv_has ls 3 [(0, .ref (z_ad E (100, 0, 0)))]) (hf : fM_up σ = some (ro, σo)) : W p l e (z_rm 4) s m args below meth c H locs 0 0 (MQ below (z_QI E ro σo A) args s 0 0 A) (F0 m 0 ls []) := by
  have hx := C.1
  have hb := C.2.1
  unfold fM_up at hf
  refine lv_iconst (v := 0) hx hb dX9_up_0 (by decide) ?_
  refine lv_istore_n (lv' := [(1, .int 0), (0, .ref (z_ad E (100, 0, 0)))]) hx hb dX9_up_1 rfl hl (by decide) rfl (fun ls hl => ?_)
  refine lv_iconst (v := 0) hx hb dX9_up_2 (by decide) ?_
  refine lv_istore_n (lv' := [(2, .int 0), (1, .int 0), (0, .ref (z_ad E (100, 0, 0)))]) hx hb dX9_up_3 rfl hl (by decide) rfl (fun ls hl => ?_)
  exact wM_up_4 C hr hM z_fu 0 0 σ _ _ _ hs (lv_sub hl [2, 1, 0] rfl) hf
set_option maxHeartbeats 4000000 in
set_option maxRecDepth 20000 in
theorem cM_up (l : Launch) (E : zE) (hM : z_M E) {σ σo : zS} {ro : Int32} (hf : fM_up σ = some (ro, σo)) : z_T l E yX9_up cX9_up 3 (some .int) (z_rm 4) (z_QI E ro σo) [.ref (z_ad E (100, 0, 0))] σ :=
  z_enter (by decide) (Nat.le_of_ble_eq_true rfl) rfl (fun p e s m below meth c A ls C hr hs hl => wM_up C hr hM σ _ _ ls hs hl hf)
def fM_about (x1 : Int32) (σ : zS) : Option (Int32 × zS) :=
  if x1 = 0 then
    (z_bd (fM_many σ) (fun r2 σ2 =>
    some (r2, σ2)))
  else
    (if x1 = 1 then
      (z_bd (fM_voters σ) (fun r4 σ4 =>
      some (r4, σ4)))
    else
      (if x1 = 2 then
        (z_bd (fM_most σ) (fun r6 σ6 =>
        some (r6, σ6)))
      else
        (if x1 = 3 then
          (z_bd (fM_letters σ) (fun r8 σ8 =>
          some (r8, σ8)))
        else
          (if x1 = 4 then
            (some (σ.1 (103, 0, 0) 4960, σ))
          else
            (if x1 = 5 then
              (some (σ.1 (100, 0, 0) 26, σ))
            else
              (if x1 = 6 then
                (some (σ.1 (100, 0, 0) 5, σ))
              else
                (if x1 = 7 then
                  (z_bd (fM_up σ) (fun r13 σ13 =>
                  some (r13, σ13)))
                else
                  (some ((-1), σ)))))))))
set_option maxHeartbeats 4000000 in
set_option maxRecDepth 20000 in
theorem wM_about {x1 : Int32} (C : z_C E RX9 cX9_about 2 A p s m args meth c) (hr : meth.sig.returnType = (some .int)) (hM : z_M E) {ro : Int32} {σo : zS} (σ : zS) (H : Heap) (locs : List Loc) (ls : Array Slot) (hs : z_H E A s σ H locs) (hl : lv_has ls 2 [(0, .ref (z_ad E (100, 0, 0))), (1, .int x1)]) (hf : fM_about x1 σ = some (ro, σo)) : W p l e (z_rm 5) s m args below meth c H locs 0 0 (MQ below (z_QI E ro σo A) args s 0 0 A) (F0 m 0 ls []) := by
  have hx := C.1
  have hb := C.2.1
  unfold fM_about at hf
  refine lv_iload_n hx hb dX9_about_0 rfl (lv_at hl 1 rfl) ?_
  by_cases c1 : x1 = 0
  · have hf := z_t hf c1
    refine lv_tableIn (off := 47) (tgt := 48) hx hb dX9_about_1 (by rw [c1]; decide) (by rw [c1]; decide) (by rw [c1]; decide) (by decide) ?_
    refine lv_aload_n hx hb dX9_about_48 rfl (lv_at hl 0 rfl) ?_
    obtain ⟨r2, σ2, h_2, hf⟩ := z_bds hf
    refine z_goI C hs (z_runV C hs hl.1 (cM_many l E hM h_2) zcV_RX9_128 (hM 100 (by decide) (by decide)) (z_c100 E _ _ _ _) rfl rfl rfl (by decide) (Nat.le_of_ble_eq_true rfl) dX9_about_49) (fun H locs hs => ?_)
    exact z_reti C hr hs hf dX9_about_52
  · have hf := z_f hf c1
    by_cases c3 : x1 = 1
    · have hf := z_t hf c3
      refine lv_tableIn (off := 52) (tgt := 53) hx hb dX9_about_1 (by rw [c3]; decide) (by rw [c3]; decide) (by rw [c3]; decide) (by decide) ?_
      refine lv_aload_n hx hb dX9_about_53 rfl (lv_at hl 0 rfl) ?_
      obtain ⟨r4, σ4, h_4, hf⟩ := z_bds hf
      refine z_goI C hs (z_runV C hs hl.1 (cM_voters l E hM h_4) zcV_RX9_136 (hM 100 (by decide) (by decide)) (z_c100 E _ _ _ _) rfl rfl rfl (by decide) (Nat.le_of_ble_eq_true rfl) dX9_about_54) (fun H locs hs => ?_)
      exact z_reti C hr hs hf dX9_about_57
    · have hf := z_f hf c3
      by_cases c5 : x1 = 2
      · have hf := z_t hf c5
        refine lv_tableIn (off := 57) (tgt := 58) hx hb dX9_about_1 (by rw [c5]; decide) (by rw [c5]; decide) (by rw [c5]; decide) (by decide) ?_
        refine lv_aload_n hx hb dX9_about_58 rfl (lv_at hl 0 rfl) ?_
        obtain ⟨r6, σ6, h_6, hf⟩ := z_bds hf
        refine z_goI C hs (z_runV C hs hl.1 (cM_most l E hM h_6) zcV_RX9_169 (hM 100 (by decide) (by decide)) (z_c100 E _ _ _ _) rfl rfl rfl (by decide) (Nat.le_of_ble_eq_true rfl) dX9_about_59) (fun H locs hs => ?_)
        exact z_reti C hr hs hf dX9_about_62
      · have hf := z_f hf c5
        by_cases c7 : x1 = 3
        · have hf := z_t hf c7
          refine lv_tableIn (off := 62) (tgt := 63) hx hb dX9_about_1 (by rw [c7]; decide) (by rw [c7]; decide) (by rw [c7]; decide) (by decide) ?_
          refine lv_aload_n hx hb dX9_about_63 rfl (lv_at hl 0 rfl) ?_
          obtain ⟨r8, σ8, h_8, hf⟩ := z_bds hf
          refine z_goI C hs (z_runV C hs hl.1 (cM_letters l E hM h_8) zcV_RX9_195 (hM 100 (by decide) (by decide)) (z_c100 E _ _ _ _) rfl rfl rfl (by decide) (Nat.le_of_ble_eq_true rfl) dX9_about_64) (fun H locs hs => ?_)
          exact z_reti C hr hs hf dX9_about_67
        · have hf := z_f hf c7
          by_cases c9 : x1 = 4
          · have hf := z_t hf c9
            refine lv_tableIn (off := 67) (tgt := 68) hx hb dX9_about_1 (by rw [c9]; decide) (by rw [c9]; decide) (by rw [c9]; decide) (by decide) ?_
            refine lv_aload_n hx hb dX9_about_68 rfl (lv_at hl 0 rfl) ?_
            refine zg_M_all C hs (hM 100 (by decide) (by decide)) z_k952 dX9_about_69 ?_
            refine lv_sipush (v := 4960) hx hb dX9_about_72 (by decide) ?_
            refine z_ald C hs (hM 103 (by decide) (by decide)) (z_c103 E _ _ _ _) (by decide +kernel) (k := 4960) (by decide +kernel) dX9_about_75 ?_
            exact z_reti C hr hs hf dX9_about_76
          · have hf := z_f hf c9
            by_cases c10 : x1 = 5
            · have hf := z_t hf c10
              refine lv_tableIn (off := 76) (tgt := 77) hx hb dX9_about_1 (by rw [c10]; decide) (by rw [c10]; decide) (by rw [c10]; decide) (by decide) ?_
              refine lv_aload_n hx hb dX9_about_77 rfl (lv_at hl 0 rfl) ?_
              refine zg_M_noted C hs (hM 100 (by decide) (by decide)) z_k976 dX9_about_78 ?_
              exact z_reti C hr hs hf dX9_about_81
            · have hf := z_f hf c10
              by_cases c11 : x1 = 6
              · have hf := z_t hf c11
                refine lv_tableIn (off := 81) (tgt := 82) hx hb dX9_about_1 (by rw [c11]; decide) (by rw [c11]; decide) (by rw [c11]; decide) (by decide) ?_
                refine lv_aload_n hx hb dX9_about_82 rfl (lv_at hl 0 rfl) ?_
                refine zg_M_taped C hs (hM 100 (by decide) (by decide)) z_k955 dX9_about_83 ?_
                exact z_reti C hr hs hf dX9_about_86
              · have hf := z_f hf c11
                by_cases c12 : x1 = 7
                · have hf := z_t hf c12
                  refine lv_tableIn (off := 86) (tgt := 87) hx hb dX9_about_1 (by rw [c12]; decide) (by rw [c12]; decide) (by rw [c12]; decide) (by decide) ?_
                  refine lv_aload_n hx hb dX9_about_87 rfl (lv_at hl 0 rfl) ?_
                  obtain ⟨r13, σ13, h_13, hf⟩ := z_bds hf
                  refine z_goI C hs (z_runV C hs hl.1 (cM_up l E hM h_13) zcV_RX9_246 (hM 100 (by decide) (by decide)) (z_c100 E _ _ _ _) rfl rfl rfl (by decide) (Nat.le_of_ble_eq_true rfl) dX9_about_88) (fun H locs hs => ?_)
                  exact z_reti C hr hs hf dX9_about_91
                · have hf := z_f hf c12
                  have hq : (x1).toInt < 0 ∨ 7 < (x1).toInt := by
                    have q0 := z_ne (k := 0) (n := 0) (by decide +kernel) c1
                    have q1 := z_ne (k := 1) (n := 1) (by decide +kernel) c3
                    have q2 := z_ne (k := 2) (n := 2) (by decide +kernel) c5
                    have q3 := z_ne (k := 3) (n := 3) (by decide +kernel) c7
                    have q4 := z_ne (k := 4) (n := 4) (by decide +kernel) c9
                    have q5 := z_ne (k := 5) (n := 5) (by decide +kernel) c10
                    have q6 := z_ne (k := 6) (n := 6) (by decide +kernel) c11
                    have q7 := z_ne (k := 7) (n := 7) (by decide +kernel) c12
                    omega
                  refine lv_tableOut (tgt := 92) hx hb dX9_about_1 hq (by decide) ?_
                  refine lv_iconst (v := (-1)) hx hb dX9_about_92 (by decide) ?_
                  exact z_reti C hr hs hf dX9_about_93
set_option maxHeartbeats 4000000 in
set_option maxRecDepth 20000 in
theorem cM_about (l : Launch) (E : zE) {x1 : Int32} (hM : z_M E) {σ σo : zS} {ro : Int32} (hf : fM_about x1 σ = some (ro, σo)) : z_T l E yX9_about cX9_about 2 (some .int) (z_rm 5) (z_QI E ro σo) [.ref (z_ad E (100, 0, 0)), .int x1] σ :=
  z_enter (by decide) (Nat.le_of_ble_eq_true rfl) rfl (fun p e s m below meth c A ls C hr hs hl => wM_about C hr hM σ _ _ ls hs hl hf)
def fM_feed_71 (K18 : Int32 → Int32 → Int32 → Int32 → Int32 → Int32 → zS → Option (Int32 × zS)) (x1 : Int32) (x2 : Int32) (x3 : Int32) (x4 : Int32) (x5 : Int32) (x6 : Int32) (t0 : Int32) (σ : zS) : Option (Int32 × zS) :=
  if z_in ((σ.1 (100, 0, 0) 5) + x6) 420 = true then (
  z_let (z_up σ (101, 0, 0) (((σ.1 (100, 0, 0) 5) + x6).toNatClampNeg) (vp_nar .byte ((t0 >>> ((24 - (8 * (x6 &&& 3))) &&& 31)).toInt8.toInt32))) (fun σ9 =>
  z_let (x6 + 1) (fun y10 =>
  K18 x1 x2 x3 x4 x5 y10 σ9))) else none
def fM_feed_18 : Nat → Int32 → Int32 → Int32 → Int32 → Int32 → Int32 → zS → Option (Int32 × zS)
  | 0, _, _, _, _, _, _, _ => none
  | n + 1, x1, x2, x3, x4, x5, x6, σ =>
    if 20 ≤ x6 then
      (z_let (z_up σ (100, 0, 0) 5 ((σ.1 (100, 0, 0) 5) + 20)) (fun σ3 =>
      some (σ3.1 (100, 0, 0) 5, σ3)))
    else
      (if 4 ≤ x6 then
        (if 8 ≤ x6 then
          (if 12 ≤ x6 then
            (if 16 ≤ x6 then
              (fM_feed_71 (fM_feed_18 n) x1 x2 x3 x4 x5 x6 x5 σ)
            else
              (fM_feed_71 (fM_feed_18 n) x1 x2 x3 x4 x5 x6 x4 σ))
          else
            (fM_feed_71 (fM_feed_18 n) x1 x2 x3 x4 x5 x6 x3 σ))
        else
          (fM_feed_71 (fM_feed_18 n) x1 x2 x3 x4 x5 x6 x2 σ))
      else
        (fM_feed_71 (fM_feed_18 n) x1 x2 x3 x4 x5 x6 x1 σ))
def fM_feed (x1 : Int32) (x2 : Int32) (x3 : Int32) (x4 : Int32) (x5 : Int32) (σ : zS) : Option (Int32 × zS) :=
  if ((σ.1 (100, 0, 0) 5) + 20) ≤ 400 then
    (fM_feed_18 z_fu x1 x2 x3 x4 x5 0 σ)
  else
    (some ((-1), σ))
set_option maxHeartbeats 4000000 in
set_option maxRecDepth 20000 in
theorem wM_feed_71 (C : z_C E RX9 cX9_feed 8 A p s m args meth c) (hr : meth.sig.returnType = (some .int)) (hM : z_M E) {ro : Int32} {σo : zS} (K18 : Int32 → Int32 → Int32 → Int32 → Int32 → Int32 → zS → Option (Int32 × zS)) (hK18 : ∀ (x1 : Int32) (x2 : Int32) (x3 : Int32) (x4 : Int32) (x5 : Int32) (x6 : Int32) (σ : zS) (H : Heap) (locs : List Loc) (ls : Array Slot), z_H E A s σ H locs → lv_has ls 8 [(0, .ref (z_ad E (100, 0, 0))), (1, .int x1), (2, .int x2), (3, .int x3), (4, .int x4), (5, .int x5), (6, .int x6)] → K18 x1 x2 x3 x4 x5 x6 σ = some (ro, σo) → W p l e (z_rm 1) s m args below meth c H locs 0 0 (MQ below (z_QI E ro σo A) args s 0 0 A) (F0 m 18 ls [])) (x1 : Int32) (x2 : Int32) (x3 : Int32) (x4 : Int32) (x5 : Int32) (x6 : Int32) (t0 : Int32) (σ : zS) (H : Heap) (locs : List Loc) (ls : Array Slot) (hs : z_H E A s σ H locs) (hl : lv_has ls 8 [(0, .ref (z_ad E (100, 0, 0))), (1, .int x1), (2, .int x2), (3, .int x3), (4, .int x4), (5, .int x5), (6, .int x6)]) (hf : fM_feed_71 K18 x1 x2 x3 x4 x5 x6 t0 σ = some (ro, σo)) : W p l e (z_rm 1) s m args below meth c H locs 0 0 (MQ below (z_QI E ro σo A) args s 0 0 A) (F0 m 71 ls [.int t0]) := by
  have hx := C.1
  have hb := C.2.1
  unfold fM_feed_71 at hf
  refine lv_istore (lv' := [(7, .int t0), (0, .ref (z_ad E (100, 0, 0))), (1, .int x1), (2, .int x2), (3, .int x3), (4, .int x4), (5, .int x5), (6, .int x6)]) hx hb dX9_feed_71 hl (by decide) rfl (fun ls hl => ?_)
  refine lv_aload_n hx hb dX9_feed_73 rfl (lv_at hl 1 rfl) ?_
  refine zg_M_tape C hs (hM 100 (by decide) (by decide)) z_k950 dX9_feed_74 ?_
  refine lv_aload_n hx hb dX9_feed_77 rfl (lv_at hl 1 rfl) ?_
  refine zg_M_taped C hs (hM 100 (by decide) (by decide)) z_k955 dX9_feed_78 ?_
  refine lv_iload hx hb dX9_feed_81 (lv_at hl 7 rfl) ?_
  refine lv_iadd hx hb dX9_feed_83 ?_
  refine lv_iload hx hb dX9_feed_84 (lv_at hl 0 rfl) ?_
  refine lv_bipush (v := 24) hx hb dX9_feed_86 (by decide) ?_
  refine lv_bipush (v := 8) hx hb dX9_feed_88 (by decide) ?_
  refine lv_iload hx hb dX9_feed_90 (lv_at hl 7 rfl) ?_
  refine lv_iconst (v := 3) hx hb dX9_feed_92 (by decide) ?_
  refine lv_iand hx hb dX9_feed_93 ?_
  refine lv_imul hx hb dX9_feed_94 ?_
  refine lv_isub hx hb dX9_feed_95 ?_
  refine lv_ishr hx hb dX9_feed_96 ?_
  refine lv_i2b hx hb dX9_feed_97 rfl ?_
  obtain ⟨g8, hf⟩ := z_gd hf
  refine z_bast C hs (hM 101 (by decide) (by decide)) (fun r h => z_c101 E r h _ _) g8 rfl dX9_feed_98 (fun H locs hs => ?_)
  obtain ⟨σ9, -, hs, hf⟩ := z_top hs hf
  obtain ⟨y10, e_y10⟩ : ∃ y : Int32, y = x6 + 1 := ⟨_, rfl⟩
  have hf := z_lte e_y10 hf
  refine lv_iinc (v := y10) (lv' := [(6, .int y10), (7, .int t0), (0, .ref (z_ad E (100, 0, 0))), (1, .int x1), (2, .int x2), (3, .int x3), (4, .int x4), (5, .int x5)]) hx hb dX9_feed_99 hl (k := 7) rfl (by rw [e_y10]; rfl) (by decide) rfl (fun ls hl => ?_)
  refine lv_goto (tgt := 18) hx hb dX9_feed_102 (by decide) ?_
  exact hK18 x1 x2 x3 x4 x5 y10 σ9 _ _ _ hs (lv_sub hl [2, 3, 4, 5, 6, 7, 0] rfl) hf
set_option maxHeartbeats 4000000 in
set_option maxRecDepth 20000 in
theorem wM_feed_18 (C : z_C E RX9 cX9_feed 8 A p s m args meth c) (hr : meth.sig.returnType = (some .int)) (hM : z_M E) {ro : Int32} {σo : zS} (n : Nat) : ∀ (x1 : Int32) (x2 : Int32) (x3 : Int32) (x4 : Int32) (x5 : Int32) (x6 : Int32) (σ : zS) (H : Heap) (locs : List Loc) (ls : Array Slot), z_H E A s σ H locs → lv_has ls 8 [(0, .ref (z_ad E (100, 0, 0))), (1, .int x1), (2, .int x2), (3, .int x3), (4, .int x4), (5, .int x5), (6, .int x6)] → fM_feed_18 n x1 x2 x3 x4 x5 x6 σ = some (ro, σo) → W p l e (z_rm 1) s m args below meth c H locs 0 0 (MQ below (z_QI E ro σo A) args s 0 0 A) (F0 m 18 ls []) := by
  induction n with
  | zero =>
    intro x1 x2 x3 x4 x5 x6 σ H locs ls hs hl hf
    have hf : none = some (ro, σo) := hf
    cases hf
  | succ n ih =>
    intro x1 x2 x3 x4 x5 x6 σ H locs ls hs hl hf
    have hx := C.1
    have hb := C.2.1
    rw [fM_feed_18.eq_2] at hf
    refine lv_iload hx hb dX9_feed_18 (lv_at hl 6 rfl) ?_
    refine lv_bipush (v := 20) hx hb dX9_feed_20 (by decide) ?_
    refine lv_icmp_ge (tgt := 105) hx hb dX9_feed_22 (by decide) (fun c2 => ?_) (fun c2 => ?_)
    · have hf := z_t hf c2
      refine lv_aload_n hx hb dX9_feed_105 rfl (lv_at hl 0 rfl) ?_
      refine lv_dup hx hb dX9_feed_106 rfl ?_
      refine zg_M_taped C hs (hM 100 (by decide) (by decide)) z_k955 dX9_feed_107 ?_
      refine lv_bipush (v := 20) hx hb dX9_feed_110 (by decide) ?_
      refine lv_iadd hx hb dX9_feed_112 ?_
      refine zp_M_taped C hs (hM 100 (by decide) (by decide)) z_k955 dX9_feed_113 (fun H locs hs => ?_)
      obtain ⟨σ3, -, hs, hf⟩ := z_top hs hf
      refine lv_aload_n hx hb dX9_feed_116 rfl (lv_at hl 0 rfl) ?_
      refine zg_M_taped C hs (hM 100 (by decide) (by decide)) z_k955 dX9_feed_117 ?_
      exact z_reti C hr hs hf dX9_feed_120
    · have hf := z_f hf c2
      refine lv_iload hx hb dX9_feed_25 (lv_at hl 6 rfl) ?_
      refine lv_iconst (v := 4) hx hb dX9_feed_27 (by decide) ?_
      refine lv_icmp_ge (tgt := 35) hx hb dX9_feed_28 (by decide) (fun c4 => ?_) (fun c4 => ?_)
      · have hf := z_t hf c4
        refine lv_iload hx hb dX9_feed_35 (lv_at hl 6 rfl) ?_
        refine lv_bipush (v := 8) hx hb dX9_feed_37 (by decide) ?_
        refine lv_icmp_ge (tgt := 46) hx hb dX9_feed_39 (by decide) (fun c5 => ?_) (fun c5 => ?_)
        · have hf := z_t hf c5
          refine lv_iload hx hb dX9_feed_46 (lv_at hl 6 rfl) ?_
          refine lv_bipush (v := 12) hx hb dX9_feed_48 (by decide) ?_
          refine lv_icmp_ge (tgt := 57) hx hb dX9_feed_50 (by decide) (fun c6 => ?_) (fun c6 => ?_)
          · have hf := z_t hf c6
            refine lv_iload hx hb dX9_feed_57 (lv_at hl 6 rfl) ?_
            refine lv_bipush (v := 16) hx hb dX9_feed_59 (by decide) ?_
            refine lv_icmp_ge (tgt := 69) hx hb dX9_feed_61 (by decide) (fun c7 => ?_) (fun c7 => ?_)
            · have hf := z_t hf c7
              refine lv_iload hx hb dX9_feed_69 (lv_at hl 5 rfl) ?_
              exact wM_feed_71 C hr hM (fM_feed_18 n) ih x1 x2 x3 x4 x5 x6 x5 σ _ _ _ hs (lv_sub hl [0, 1, 2, 3, 4, 5, 6] rfl) hf
            · have hf := z_f hf c7
              refine lv_iload hx hb dX9_feed_64 (lv_at hl 4 rfl) ?_
              refine lv_goto (tgt := 71) hx hb dX9_feed_66 (by decide) ?_
              exact wM_feed_71 C hr hM (fM_feed_18 n) ih x1 x2 x3 x4 x5 x6 x4 σ _ _ _ hs (lv_sub hl [0, 1, 2, 3, 4, 5, 6] rfl) hf
          · have hf := z_f hf c6
            refine lv_iload_n hx hb dX9_feed_53 rfl (lv_at hl 3 rfl) ?_
            refine lv_goto (tgt := 71) hx hb dX9_feed_54 (by decide) ?_
            exact wM_feed_71 C hr hM (fM_feed_18 n) ih x1 x2 x3 x4 x5 x6 x3 σ _ _ _ hs (lv_sub hl [0, 1, 2, 3, 4, 5, 6] rfl) hf
        · have hf := z_f hf c5
          refine lv_iload_n hx hb dX9_feed_42 rfl (lv_at hl 2 rfl) ?_
          refine lv_goto (tgt := 71) hx hb dX9_feed_43 (by decide) ?_
          exact wM_feed_71 C hr hM (fM_feed_18 n) ih x1 x2 x3 x4 x5 x6 x2 σ _ _ _ hs (lv_sub hl [0, 1, 2, 3, 4, 5, 6] rfl) hf
      · have hf := z_f hf c4
        refine lv_iload_n hx hb dX9_feed_31 rfl (lv_at hl 1 rfl) ?_
        refine lv_goto (tgt := 71) hx hb dX9_feed_32 (by decide) ?_
        exact wM_feed_71 C hr hM (fM_feed_18 n) ih x1 x2 x3 x4 x5 x6 x1 σ _ _ _ hs (lv_sub hl [0, 1, 2, 3, 4, 5, 6] rfl) hf
set_option maxHeartbeats 4000000 in
set_option maxRecDepth 20000 in
theorem wM_feed {x1 : Int32} {x2 : Int32} {x3 : Int32} {x4 : Int32} {x5 : Int32} (C : z_C E RX9 cX9_feed 8 A p s m args meth c) (hr : meth.sig.returnType = (some .int)) (hM : z_M E) {ro : Int32} {σo : zS} (σ : zS) (H : Heap) (locs : List Loc) (ls : Array Slot) (hs : z_H E A s σ H locs) (hl : lv_has ls 8 [(0, .ref (z_ad E (100, 0, 0))), (1, .int x1), (2, .int x2), (3, .int x3), (4, .int x4), (5, .int x5)]) (hf : fM_feed x1 x2 x3 x4 x5 σ = some (ro, σo)) : W p l e (z_rm 1) s m args below meth c H locs 0 0 (MQ below (z_QI E ro σo A) args s 0 0 A) (F0 m 0 ls []) := by
  have hx := C.1
  have hb := C.2.1
  unfold fM_feed at hf
  refine lv_aload_n hx hb dX9_feed_0 rfl (lv_at hl 0 rfl) ?_
  refine zg_M_taped C hs (hM 100 (by decide) (by decide)) z_k955 dX9_feed_1 ?_
  refine lv_bipush (v := 20) hx hb dX9_feed_4 (by decide) ?_
  refine lv_iadd hx hb dX9_feed_6 ?_
  refine lv_sipush (v := 400) hx hb dX9_feed_7 (by decide) ?_
  refine lv_icmp_le (tgt := 15) hx hb dX9_feed_10 (by decide) (fun c1 => ?_) (fun c1 => ?_)
  · have hf := z_t hf c1
    refine lv_iconst (v := 0) hx hb dX9_feed_15 (by decide) ?_
    refine lv_istore (lv' := [(6, .int 0), (0, .ref (z_ad E (100, 0, 0))), (1, .int x1), (2, .int x2), (3, .int x3), (4, .int x4), (5, .int x5)]) hx hb dX9_feed_16 hl (by decide) rfl (fun ls hl => ?_)
    exact wM_feed_18 C hr hM z_fu x1 x2 x3 x4 x5 0 σ _ _ _ hs (lv_sub hl [1, 2, 3, 4, 5, 6, 0] rfl) hf
  · have hf := z_f hf c1
    refine lv_iconst (v := (-1)) hx hb dX9_feed_13 (by decide) ?_
    exact z_reti C hr hs hf dX9_feed_14
set_option maxHeartbeats 4000000 in
set_option maxRecDepth 20000 in
theorem cM_feed (l : Launch) (E : zE) {x1 : Int32} {x2 : Int32} {x3 : Int32} {x4 : Int32} {x5 : Int32} (hM : z_M E) {σ σo : zS} {ro : Int32} (hf : fM_feed x1 x2 x3 x4 x5 σ = some (ro, σo)) : z_T l E yX9_feed cX9_feed 8 (some .int) (z_rm 1) (z_QI E ro σo) [.ref (z_ad E (100, 0, 0)), .int x1, .int x2, .int x3, .int x4, .int x5] σ :=
  z_enter (by decide) (Nat.le_of_ble_eq_true rfl) rfl (fun p e s m below meth c A ls C hr hs hl => wM_feed C hr hM σ _ _ ls hs hl hf)
def fM_end (x1 : Int32) (σ : zS) : Option (Int32 × zS) :=
  if x1 < 0 then
    (some ((-1), σ))
  else
    (if x1 ≤ (σ.1 (100, 0, 0) 5) then
      (z_let (z_up σ (100, 0, 0) 5 x1) (fun σ3 =>
      some (x1, σ3)))
    else
      (some ((-1), σ)))
set_option maxHeartbeats 4000000 in
set_option maxRecDepth 20000 in
theorem wM_end {x1 : Int32} (C : z_C E RX9 cX9_end 2 A p s m args meth c) (hr : meth.sig.returnType = (some .int)) (hM : z_M E) {ro : Int32} {σo : zS} (σ : zS) (H : Heap) (locs : List Loc) (ls : Array Slot) (hs : z_H E A s σ H locs) (hl : lv_has ls 2 [(0, .ref (z_ad E (100, 0, 0))), (1, .int x1)]) (hf : fM_end x1 σ = some (ro, σo)) : W p l e (z_rm 1) s m args below meth c H locs 0 0 (MQ below (z_QI E ro σo A) args s 0 0 A) (F0 m 0 ls []) := by
  have hx := C.1
  have hb := C.2.1
  unfold fM_end at hf
  refine lv_iload_n hx hb dX9_end_0 rfl (lv_at hl 1 rfl) ?_
  refine lv_if_lt (tgt := 12) hx hb dX9_end_1 (by decide) (fun c1 => ?_) (fun c1 => ?_)
  · have hf := z_t hf c1
    refine lv_iconst (v := (-1)) hx hb dX9_end_12 (by decide) ?_
    exact z_reti C hr hs hf dX9_end_13
  · have hf := z_f hf c1
    refine lv_iload_n hx hb dX9_end_4 rfl (lv_at hl 1 rfl) ?_
    refine lv_aload_n hx hb dX9_end_5 rfl (lv_at hl 0 rfl) ?_
    refine zg_M_taped C hs (hM 100 (by decide) (by decide)) z_k955 dX9_end_6 ?_
    refine lv_icmp_le (tgt := 14) hx hb dX9_end_9 (by decide) (fun c2 => ?_) (fun c2 => ?_)
    · have hf := z_t hf c2
      refine lv_aload_n hx hb dX9_end_14 rfl (lv_at hl 0 rfl) ?_
      refine lv_iload_n hx hb dX9_end_15 rfl (lv_at hl 1 rfl) ?_
      refine zp_M_taped C hs (hM 100 (by decide) (by decide)) z_k955 dX9_end_16 (fun H locs hs => ?_)
      obtain ⟨σ3, -, hs, hf⟩ := z_top hs hf
      refine lv_iload_n hx hb dX9_end_19 rfl (lv_at hl 1 rfl) ?_
      exact z_reti C hr hs hf dX9_end_20
    · have hf := z_f hf c2
      refine lv_iconst (v := (-1)) hx hb dX9_end_12 (by decide) ?_
      exact z_reti C hr hs hf dX9_end_13
set_option maxHeartbeats 4000000 in
set_option maxRecDepth 20000 in
theorem cM_end (l : Launch) (E : zE) {x1 : Int32} (hM : z_M E) {σ σo : zS} {ro : Int32} (hf : fM_end x1 σ = some (ro, σo)) : z_T l E yX9_end cX9_end 2 (some .int) (z_rm 1) (z_QI E ro σo) [.ref (z_ad E (100, 0, 0)), .int x1] σ :=
  z_enter (by decide) (Nat.le_of_ble_eq_true rfl) rfl (fun p e s m below meth c A ls C hr hs hl => wM_end C hr hM σ _ _ ls hs hl hf)
end z_walks
