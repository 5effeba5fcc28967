section z_walksr
variable {p : Program} {l : Launch} {e : Env} {s : State} {m : MethodId} {args : Array Value} {below : List Frame} {meth : Method} {c : Code} {E : zE} {A : Nat → Prop}

theorem zcV_RX0_45 : z_CV RX0 45 yX0_canGoOn cX0_canGoOn 8 (some .boolean) 4 := ⟨⟨z_k884, z_k886, z_kp0, z_k9, z_k887⟩, by decide +kernel, by decide⟩
theorem zcN_RX0_52 : z_CN RX0 52 yX8_cellBehind RX8 cX8_cellBehind 3 (some .int) 3 := ⟨⟨z_n888, z_k651, z_k1, z_k652⟩, by decide +kernel, by decide⟩
theorem zcV_RX0_56 : z_CV RX0 56 yX0_canBeNext cX0_canBeNext 4 (some .boolean) 2 := ⟨⟨z_k889, z_k890, z_k891, z_k9, z_k892⟩, by decide +kernel, by decide⟩
theorem zcN_RX0_60 : z_CN RX0 60 yX8_answerTo RX8 cX8_answerTo 3 (some .int) 3 := ⟨⟨z_n893, z_k655, z_k1, z_k656⟩, by decide +kernel, by decide⟩
def fH_canGoOn_158 (rc : Int32 → Int32 → Int32 → Int32 → zS → Option (Int32 × zS)) (K35 : Int32 → Int32 → Int32 → Int32 → Int32 → zS → Option (Int32 × zS)) (x1 : Int32) (x2 : Int32) (x3 : Int32) (x4 : Int32) (x5 : Int32) (t1 : Int32) (t2 : Int32) (t3 : Int32) (t4 : Int32) (σ : zS) : Option (Int32 × zS) :=
  z_bd (rc t1 t2 t3 t4 σ) (fun r25 σ25 =>
  if r25 = 0 then
    (z_let (x5 + 1) (fun y27 =>
    K35 x1 x2 x3 x4 y27 σ25))
  else
    (some (1, σ25)))
def fH_canGoOn_124 (rc : Int32 → Int32 → Int32 → Int32 → zS → Option (Int32 × zS)) (K35 : Int32 → Int32 → Int32 → Int32 → Int32 → zS → Option (Int32 × zS)) (x1 : Int32) (x2 : Int32) (x3 : Int32) (x4 : Int32) (x5 : Int32) (x6 : Int32) (t0 : Int32) (σ : zS) : Option (Int32 × zS) :=
  if z_in x1 9 = true then (
  z_let (z_up σ (46, 0, 0) (x1.toNatClampNeg) x5) (fun σ23 =>
  if t0 = 0 then
    (fH_canGoOn_158 rc K35 x1 x2 x3 x4 x5 (x1 + 1) (x2 ||| (1 <<< (x5 &&& 31))) x6 x4 σ23)
  else
    (fH_canGoOn_158 rc K35 x1 x2 x3 x4 x5 (x1 + 1) (x2 ||| (1 <<< (x5 &&& 31))) x6 x5 σ23))) else none
def fH_canGoOn_119 (rc : Int32 → Int32 → Int32 → Int32 → zS → Option (Int32 × zS)) (K35 : Int32 → Int32 → Int32 → Int32 → Int32 → zS → Option (Int32 × zS)) (x1 : Int32) (x2 : Int32) (x3 : Int32) (x4 : Int32) (x5 : Int32) (x6 : Int32) (σ : zS) : Option (Int32 × zS) :=
  fH_canGoOn_124 rc K35 x1 x2 x3 x4 x5 x6 1 σ
def fH_canGoOn_35 (rc : Int32 → Int32 → Int32 → Int32 → zS → Option (Int32 × zS)) : Nat → Int32 → Int32 → Int32 → Int32 → Int32 → zS → Option (Int32 × zS)
  | 0, _, _, _, _, _, _ => none
  | n + 1, x1, x2, x3, x4, x5, σ =>
    if (σ.1 (40, 0, 0) 7) ≤ x5 then
      (if z_in x2 512 = true then (
      if z_in x2 512 = true then (
      z_let (z_up σ (47, 0, 0) (x2.toNatClampNeg) ((σ.1 (47, 0, 0) x2.toNatClampNeg) ||| (1 <<< (x4 &&& 31)))) (fun σ8 =>
      some (0, σ8))) else none) else none)
    else
      (if z_in x5 9 = true then (
      if z_in x5 9 = true then (
      z_bd (fX_cellBehind (σ.1 (43, 0, 0) x5.toNatClampNeg) x3 (σ.1 (44, 0, 0) x5.toNatClampNeg) σ) (fun r11 σ11 =>
      z_bd (fH_canBeNext x5 x2 σ11) (fun r12 σ12 =>
      if r12 = 0 then
        (z_let (x5 + 1) (fun y14 =>
        fH_canGoOn_35 rc n x1 x2 x3 x4 y14 σ12))
      else
        (if z_in x5 9 = true then (
        z_bd (fX_answerTo (σ12.1 (43, 0, 0) x5.toNatClampNeg) x3 r11 σ12) (fun r16 σ16 =>
        if z_in x5 9 = true then (
        if r16 = (σ16.1 (45, 0, 0) x5.toNatClampNeg) then
          (if z_in x5 9 = true then (
          if (σ16.1 (43, 0, 0) x5.toNatClampNeg) = 3 then
            (if z_in x5 9 = true then (
            if (σ16.1 (45, 0, 0) x5.toNatClampNeg) = 1 then
              (fH_canGoOn_119 rc (fH_canGoOn_35 rc n) x1 x2 x3 x4 x5 r11 σ16)
            else
              (fH_canGoOn_124 rc (fH_canGoOn_35 rc n) x1 x2 x3 x4 x5 r11 0 σ16)) else none)
          else
            (fH_canGoOn_119 rc (fH_canGoOn_35 rc n) x1 x2 x3 x4 x5 r11 σ16)) else none)
        else
          (z_let (x5 + 1) (fun y19 =>
          fH_canGoOn_35 rc n x1 x2 x3 x4 y19 σ16))) else none)) else none)))) else none) else none)
def fH_canGoOnB (rc : Int32 → Int32 → Int32 → Int32 → zS → Option (Int32 × zS)) (x1 : Int32) (x2 : Int32) (x3 : Int32) (x4 : Int32) (σ : zS) : Option (Int32 × zS) :=
  if (σ.1 (40, 0, 0) 7) ≤ x1 then
    (some (1, σ))
  else
    (if x1 < 9 then
      (if z_in x2 512 = true then (
      if (((σ.1 (47, 0, 0) x2.toNatClampNeg) >>> (x4 &&& 31)) &&& 1) = 0 then
        (fH_canGoOn_35 rc z_fu x1 x2 x3 x4 0 σ)
      else
        (some (0, σ))) else none)
    else
      (some (1, σ)))
set_option maxHeartbeats 4000000 in
set_option maxRecDepth 20000 in
theorem wH_canGoOn_158 {rc : Int32 → Int32 → Int32 → Int32 → zS → Option (Int32 × zS)} {lw lr : Nat} (C : z_C E RX0 cX0_canGoOn 8 A p s m args meth c) (hr : meth.sig.returnType = (some .boolean)) (hB : z_B E) (hrc : ∀ (x1 x2 x3 x4 : Int32) (σ σo : zS) (ro : Int32), rc x1 x2 x3 x4 σ = some (ro, σo) → z_T l E yX0_canGoOn cX0_canGoOn 8 (some .boolean) (z_rm lr) (z_QI E ro σo) [.ref (z_ad E (40, 0, 0)), .int x1, .int x2, .int x3, .int x4] σ) (hlr : lr < lw) (hlw : 10 ≤ lw) {ro : Int32} {σo : zS} (K35 : Int32 → Int32 → Int32 → Int32 → Int32 → zS → Option (Int32 × zS)) (hK35 : ∀ (x1 : Int32) (x2 : Int32) (x3 : Int32) (x4 : Int32) (x5 : Int32) (σ : zS) (H : Heap) (locs : List Loc) (ls : Array Slot), z_H E A s σ H locs → lv_has ls 8 [(0, .ref (z_ad E (40, 0, 0))), (1, .int x1), (2, .int x2), (3, .int x3), (4, .int x4), (5, .int x5)] → K35 x1 x2 x3 x4 x5 σ = some (ro, σo) → W p l e (z_rm lw) s m args below meth c H locs 0 0 (MQ below (z_QI E ro σo A) args s 0 0 A) (F0 m 35 ls [])) (x1 : Int32) (x2 : Int32) (x3 : Int32) (x4 : Int32) (x5 : Int32) (t1 : Int32) (t2 : Int32) (t3 : Int32) (t4 : Int32) (σ : zS) (H : Heap) (locs : List Loc) (ls : Array Slot) (hs : z_H E A s σ H locs) (hl : lv_has ls 8 [(0, .ref (z_ad E (40, 0, 0))), (1, .int x1), (2, .int x2), (3, .int x3), (4, .int x4), (5, .int x5)]) (hf : fH_canGoOn_158 rc K35 x1 x2 x3 x4 x5 t1 t2 t3 t4 σ = some (ro, σo)) : W p l e (z_rm lw) s m args below meth c H locs 0 0 (MQ below (z_QI E ro σo A) args s 0 0 A) (F0 m 158 ls [.int t4, .int t3, .int t2, .int t1, .ref (z_ad E (40, 0, 0))]) := by
  have hx := C.1
  have hb := C.2.1
  unfold fH_canGoOn_158 at hf
  obtain ⟨r25, σ25, h_25, hf⟩ := z_bds hf
  refine z_goI C hs (z_runV C hs hl.1 (hrc _ _ _ _ _ _ _ h_25) zcV_RX0_45 (hB 40 (by decide) (by decide)) (z_c40 E _ _ _ _) rfl rfl rfl hlr (Nat.le_of_ble_eq_true rfl) dX0_canGoOn_158) (fun H locs hs => ?_)
  refine lv_if_eq (tgt := 166) hx hb dX0_canGoOn_161 (by decide) (fun c26 => ?_) (fun c26 => ?_)
  · have hf := z_t hf c26
    obtain ⟨y27, e_y27⟩ : ∃ y : Int32, y = x5 + 1 := ⟨_, rfl⟩
    have hf := z_lte e_y27 hf
    refine lv_iinc (v := y27) (lv' := [(5, .int y27), (0, .ref (z_ad E (40, 0, 0))), (1, .int x1), (2, .int x2), (3, .int x3), (4, .int x4)]) hx hb dX0_canGoOn_166 hl (k := 5) rfl (by rw [e_y27]; rfl) (by decide) rfl (fun ls hl => ?_)
    refine lv_goto (tgt := 35) hx hb dX0_canGoOn_169 (by decide) ?_
    exact hK35 x1 x2 x3 x4 y27 σ25 _ _ _ hs (lv_sub hl [1, 2, 3, 4, 5, 0] rfl) hf
  · have hf := z_f hf c26
    refine lv_iconst (v := 1) hx hb dX0_canGoOn_164 (by decide) ?_
    exact z_retz C hr hs (by decide +kernel) hf dX0_canGoOn_165
set_option maxHeartbeats 4000000 in
set_option maxRecDepth 20000 in
theorem wH_canGoOn_124 {rc : Int32 → Int32 → Int32 → Int32 → zS → Option (Int32 × zS)} {lw lr : Nat} (C : z_C E RX0 cX0_canGoOn 8 A p s m args meth c) (hr : meth.sig.returnType = (some .boolean)) (hB : z_B E) (hrc : ∀ (x1 x2 x3 x4 : Int32) (σ σo : zS) (ro : Int32), rc x1 x2 x3 x4 σ = some (ro, σo) → z_T l E yX0_canGoOn cX0_canGoOn 8 (some .boolean) (z_rm lr) (z_QI E ro σo) [.ref (z_ad E (40, 0, 0)), .int x1, .int x2, .int x3, .int x4] σ) (hlr : lr < lw) (hlw : 10 ≤ lw) {ro : Int32} {σo : zS} (K35 : Int32 → Int32 → Int32 → Int32 → Int32 → zS → Option (Int32 × zS)) (hK35 : ∀ (x1 : Int32) (x2 : Int32) (x3 : Int32) (x4 : Int32) (x5 : Int32) (σ : zS) (H : Heap) (locs : List Loc) (ls : Array Slot), z_H E A s σ H locs → lv_has ls 8 [(0, .ref (z_ad E (40, 0, 0))), (1, .int x1), (2, .int x2), (3, .int x3), (4, .int x4), (5, .int x5)] → K35 x1 x2 x3 x4 x5 σ = some (ro, σo) → W p l e (z_rm lw) s m args below meth c H locs 0 0 (MQ below (z_QI E ro σo A) args s 0 0 A) (F0 m 35 ls [])) (x1 : Int32) (x2 : Int32) (x3 : Int32) (x4 : Int32) (x5 : Int32) (x6 : Int32) (t0 : Int32) (σ : zS) (H : Heap) (locs : List Loc) (ls : Array Slot) (hs : z_H E A s σ H locs) (hl : lv_has ls 8 [(0, .ref (z_ad E (40, 0, 0))), (1, .int x1), (2, .int x2), (3, .int x3), (4, .int x4), (5, .int x5), (6, .int x6)]) (hf : fH_canGoOn_124 rc K35 x1 x2 x3 x4 x5 x6 t0 σ = some (ro, σo)) : W p l e (z_rm lw) s m args below meth c H locs 0 0 (MQ below (z_QI E ro σo A) args s 0 0 A) (F0 m 124 ls [.int t0]) := by
  have hx := C.1
  have hb := C.2.1
  unfold fH_canGoOn_124 at hf
  refine lv_istore (lv' := [(7, .int t0), (0, .ref (z_ad E (40, 0, 0))), (1, .int x1), (2, .int x2), (3, .int x3), (4, .int x4), (5, .int x5), (6, .int x6)]) hx hb dX0_canGoOn_124 hl (by decide) rfl (fun ls hl => ?_)
  refine lv_aload_n hx hb dX0_canGoOn_126 rfl (lv_at hl 1 rfl) ?_
  refine zg_H_first C hs (hB 40 (by decide) (by decide)) z_k314 dX0_canGoOn_127 ?_
  refine lv_iload_n hx hb dX0_canGoOn_130 rfl (lv_at hl 2 rfl) ?_
  refine lv_iload hx hb dX0_canGoOn_131 (lv_at hl 6 rfl) ?_
  obtain ⟨g22, hf⟩ := z_gd hf
  refine z_ast C hs (hB 46 (by decide) (by decide)) (fun r h => z_c46 E r h _ _) g22 rfl dX0_canGoOn_133 (fun H locs hs => ?_)
  obtain ⟨σ23, -, hs, hf⟩ := z_top hs hf
  refine lv_aload_n hx hb dX0_canGoOn_134 rfl (lv_at hl 1 rfl) ?_
  refine lv_iload_n hx hb dX0_canGoOn_135 rfl (lv_at hl 2 rfl) ?_
  refine lv_iconst (v := 1) hx hb dX0_canGoOn_136 (by decide) ?_
  refine lv_iadd hx hb dX0_canGoOn_137 ?_
  refine lv_iload_n hx hb dX0_canGoOn_138 rfl (lv_at hl 3 rfl) ?_
  refine lv_iconst (v := 1) hx hb dX0_canGoOn_139 (by decide) ?_
  refine lv_iload hx hb dX0_canGoOn_140 (lv_at hl 6 rfl) ?_
  refine lv_ishl hx hb dX0_canGoOn_142 ?_
  refine lv_ior hx hb dX0_canGoOn_143 ?_
  refine lv_iload hx hb dX0_canGoOn_144 (lv_at hl 7 rfl) ?_
  refine lv_iload hx hb dX0_canGoOn_146 (lv_at hl 0 rfl) ?_
  refine lv_if_eq (tgt := 156) hx hb dX0_canGoOn_148 (by decide) (fun c24 => ?_) (fun c24 => ?_)
  · have hf := z_t hf c24
    refine lv_iload hx hb dX0_canGoOn_156 (lv_at hl 5 rfl) ?_
    exact wH_canGoOn_158 C hr hB hrc hlr hlw K35 hK35 x1 x2 x3 x4 x5 (x1 + 1) (x2 ||| (1 <<< (x5 &&& 31))) x6 x4 σ23 _ _ _ hs (lv_sub hl [1, 2, 3, 4, 5, 6] rfl) hf
  · have hf := z_f hf c24
    refine lv_iload hx hb dX0_canGoOn_151 (lv_at hl 6 rfl) ?_
    refine lv_goto (tgt := 158) hx hb dX0_canGoOn_153 (by decide) ?_
    exact wH_canGoOn_158 C hr hB hrc hlr hlw K35 hK35 x1 x2 x3 x4 x5 (x1 + 1) (x2 ||| (1 <<< (x5 &&& 31))) x6 x5 σ23 _ _ _ hs (lv_sub hl [1, 2, 3, 4, 5, 6] rfl) hf
set_option maxHeartbeats 4000000 in
set_option maxRecDepth 20000 in
theorem wH_canGoOn_119 {rc : Int32 → Int32 → Int32 → Int32 → zS → Option (Int32 × zS)} {lw lr : Nat} (C : z_C E RX0 cX0_canGoOn 8 A p s m args meth c) (hr : meth.sig.returnType = (some .boolean)) (hB : z_B E) (hrc : ∀ (x1 x2 x3 x4 : Int32) (σ σo : zS) (ro : Int32), rc x1 x2 x3 x4 σ = some (ro, σo) → z_T l E yX0_canGoOn cX0_canGoOn 8 (some .boolean) (z_rm lr) (z_QI E ro σo) [.ref (z_ad E (40, 0, 0)), .int x1, .int x2, .int x3, .int x4] σ) (hlr : lr < lw) (hlw : 10 ≤ lw) {ro : Int32} {σo : zS} (K35 : Int32 → Int32 → Int32 → Int32 → Int32 → zS → Option (Int32 × zS)) (hK35 : ∀ (x1 : Int32) (x2 : Int32) (x3 : Int32) (x4 : Int32) (x5 : Int32) (σ : zS) (H : Heap) (locs : List Loc) (ls : Array Slot), z_H E A s σ H locs → lv_has ls 8 [(0, .ref (z_ad E (40, 0, 0))), (1, .int x1), (2, .int x2), (3, .int x3), (4, .int x4), (5, .int x5)] → K35 x1 x2 x3 x4 x5 σ = some (ro, σo) → W p l e (z_rm lw) s m args below meth c H locs 0 0 (MQ below (z_QI E ro σo A) args s 0 0 A) (F0 m 35 ls [])) (x1 : Int32) (x2 : Int32) (x3 : Int32) (x4 : Int32) (x5 : Int32) (x6 : Int32) (σ : zS) (H : Heap) (locs : List Loc) (ls : Array Slot) (hs : z_H E A s σ H locs) (hl : lv_has ls 8 [(0, .ref (z_ad E (40, 0, 0))), (1, .int x1), (2, .int x2), (3, .int x3), (4, .int x4), (5, .int x5), (6, .int x6)]) (hf : fH_canGoOn_119 rc K35 x1 x2 x3 x4 x5 x6 σ = some (ro, σo)) : W p l e (z_rm lw) s m args below meth c H locs 0 0 (MQ below (z_QI E ro σo A) args s 0 0 A) (F0 m 119 ls []) := by
  have hx := C.1
  have hb := C.2.1
  unfold fH_canGoOn_119 at hf
  refine lv_iconst (v := 1) hx hb dX0_canGoOn_119 (by decide) ?_
  refine lv_goto (tgt := 124) hx hb dX0_canGoOn_120 (by decide) ?_
  exact wH_canGoOn_124 C hr hB hrc hlr hlw K35 hK35 x1 x2 x3 x4 x5 x6 1 σ _ _ _ hs (lv_sub hl [0, 1, 2, 3, 4, 5, 6] rfl) hf
set_option maxHeartbeats 4000000 in
set_option maxRecDepth 20000 in
theorem wH_canGoOn_35 {rc : Int32 → Int32 → Int32 → Int32 → zS → Option (Int32 × zS)} {lw lr : Nat} (C : z_C E RX0 cX0_canGoOn 8 A p s m args meth c) (hr : meth.sig.returnType = (some .boolean)) (hB : z_B E) (hrc : ∀ (x1 x2 x3 x4 : Int32) (σ σo : zS) (ro : Int32), rc x1 x2 x3 x4 σ = some (ro, σo) → z_T l E yX0_canGoOn cX0_canGoOn 8 (some .boolean) (z_rm lr) (z_QI E ro σo) [.ref (z_ad E (40, 0, 0)), .int x1, .int x2, .int x3, .int x4] σ) (hlr : lr < lw) (hlw : 10 ≤ lw) {ro : Int32} {σo : zS} (n : Nat) : ∀ (x1 : Int32) (x2 : Int32) (x3 : Int32) (x4 : Int32) (x5 : Int32) (σ : zS) (H : Heap) (locs : List Loc) (ls : Array Slot), z_H E A s σ H locs → lv_has ls 8 [(0, .ref (z_ad E (40, 0, 0))), (1, .int x1), (2, .int x2), (3, .int x3), (4, .int x4), (5, .int x5)] → fH_canGoOn_35 rc n x1 x2 x3 x4 x5 σ = some (ro, σo) → W p l e (z_rm lw) s m args below meth c H locs 0 0 (MQ below (z_QI E ro σo A) args s 0 0 A) (F0 m 35 ls []) := by
  induction n with
  | zero =>
    intro x1 x2 x3 x4 x5 σ H locs ls hs hl hf
    have hf : none = some (ro, σo) := hf
    cases hf
  | succ n ih =>
    intro x1 x2 x3 x4 x5 σ H locs ls hs hl hf
    have hx := C.1
    have hb := C.2.1
    rw [fH_canGoOn_35.eq_2] at hf
    refine lv_iload hx hb dX0_canGoOn_35 (lv_at hl 5 rfl) ?_
    refine lv_aload_n hx hb dX0_canGoOn_37 rfl (lv_at hl 0 rfl) ?_
    refine zg_H_size C hs (hB 40 (by decide) (by decide)) z_k317 dX0_canGoOn_38 ?_
    refine lv_icmp_ge (tgt := 172) hx hb dX0_canGoOn_41 (by decide) (fun c5 => ?_) (fun c5 => ?_)
    · have hf := z_t hf c5
      refine lv_aload_n hx hb dX0_canGoOn_172 rfl (lv_at hl 0 rfl) ?_
      refine zg_H_hopeless C hs (hB 40 (by decide) (by decide)) z_k316 dX0_canGoOn_173 ?_
      refine lv_iload_n hx hb dX0_canGoOn_176 rfl (lv_at hl 2 rfl) ?_
      refine lv_dup2_11 hx hb dX0_canGoOn_177 rfl rfl ?_
      obtain ⟨g6, hf⟩ := z_gd hf
      refine z_ald C hs (hB 47 (by decide) (by decide)) (z_c47 E _ _ _ _) g6 rfl dX0_canGoOn_178 ?_
      refine lv_iconst (v := 1) hx hb dX0_canGoOn_179 (by decide) ?_
      refine lv_iload hx hb dX0_canGoOn_180 (lv_at hl 4 rfl) ?_
      refine lv_ishl hx hb dX0_canGoOn_182 ?_
      refine lv_ior hx hb dX0_canGoOn_183 ?_
      obtain ⟨g7, hf⟩ := z_gd hf
      refine z_ast C hs (hB 47 (by decide) (by decide)) (fun r h => z_c47 E r h _ _) g7 rfl dX0_canGoOn_184 (fun H locs hs => ?_)
      obtain ⟨σ8, -, hs, hf⟩ := z_top hs hf
      refine lv_iconst (v := 0) hx hb dX0_canGoOn_185 (by decide) ?_
      exact z_retz C hr hs (by decide +kernel) hf dX0_canGoOn_186
    · have hf := z_f hf c5
      refine lv_aload_n hx hb dX0_canGoOn_44 rfl (lv_at hl 0 rfl) ?_
      refine zg_H_what C hs (hB 40 (by decide) (by decide)) z_k311 dX0_canGoOn_45 ?_
      refine lv_iload hx hb dX0_canGoOn_48 (lv_at hl 5 rfl) ?_
      obtain ⟨g9, hf⟩ := z_gd hf
      refine z_ald C hs (hB 43 (by decide) (by decide)) (z_c43 E _ _ _ _) g9 rfl dX0_canGoOn_50 ?_
      refine lv_iload_n hx hb dX0_canGoOn_51 rfl (lv_at hl 3 rfl) ?_
      refine lv_aload_n hx hb dX0_canGoOn_52 rfl (lv_at hl 0 rfl) ?_
      refine zg_H_value C hs (hB 40 (by decide) (by decide)) z_k312 dX0_canGoOn_53 ?_
      refine lv_iload hx hb dX0_canGoOn_56 (lv_at hl 5 rfl) ?_
      obtain ⟨g10, hf⟩ := z_gd hf
      refine z_ald C hs (hB 44 (by decide) (by decide)) (z_c44 E _ _ _ _) g10 rfl dX0_canGoOn_58 ?_
      obtain ⟨r11, σ11, h_11, hf⟩ := z_bds hf
      refine z_goI C hs (z_runN C hs hl.1 (cX_cellBehind l E h_11) zcN_RX0_52 rfl rfl (by omega) (Nat.le_of_ble_eq_true rfl) dX0_canGoOn_59) (fun H locs hs => ?_)
      refine lv_istore (lv' := [(6, .int r11), (0, .ref (z_ad E (40, 0, 0))), (1, .int x1), (2, .int x2), (3, .int x3), (4, .int x4), (5, .int x5)]) hx hb dX0_canGoOn_62 hl (by decide) rfl (fun ls hl => ?_)
      refine lv_aload_n hx hb dX0_canGoOn_64 rfl (lv_at hl 1 rfl) ?_
      refine lv_iload hx hb dX0_canGoOn_65 (lv_at hl 6 rfl) ?_
      refine lv_iload_n hx hb dX0_canGoOn_67 rfl (lv_at hl 3 rfl) ?_
      obtain ⟨r12, σ12, h_12, hf⟩ := z_bds hf
      refine z_goI C hs (z_runV C hs hl.1 (cH_canBeNext l E hB h_12) zcV_RX0_56 (hB 40 (by decide) (by decide)) (z_c40 E _ _ _ _) rfl rfl rfl (by omega) (Nat.le_of_ble_eq_true rfl) dX0_canGoOn_68) (fun H locs hs => ?_)
      refine lv_if_eq (tgt := 166) hx hb dX0_canGoOn_71 (by decide) (fun c13 => ?_) (fun c13 => ?_)
      · have hf := z_t hf c13
        obtain ⟨y14, e_y14⟩ : ∃ y : Int32, y = x5 + 1 := ⟨_, rfl⟩
        have hf := z_lte e_y14 hf
        refine lv_iinc (v := y14) (lv' := [(5, .int y14), (6, .int r11), (0, .ref (z_ad E (40, 0, 0))), (1, .int x1), (2, .int x2), (3, .int x3), (4, .int x4)]) hx hb dX0_canGoOn_166 hl (k := 6) rfl (by rw [e_y14]; rfl) (by decide) rfl (fun ls hl => ?_)
        refine lv_goto (tgt := 35) hx hb dX0_canGoOn_169 (by decide) ?_
        exact ih x1 x2 x3 x4 y14 σ12 _ _ _ hs (lv_sub hl [2, 3, 4, 5, 6, 0] rfl) hf
      · have hf := z_f hf c13
        refine lv_aload_n hx hb dX0_canGoOn_74 rfl (lv_at hl 1 rfl) ?_
        refine zg_H_what C hs (hB 40 (by decide) (by decide)) z_k311 dX0_canGoOn_75 ?_
        refine lv_iload hx hb dX0_canGoOn_78 (lv_at hl 6 rfl) ?_
        obtain ⟨g15, hf⟩ := z_gd hf
        refine z_ald C hs (hB 43 (by decide) (by decide)) (z_c43 E _ _ _ _) g15 rfl dX0_canGoOn_80 ?_
        refine lv_iload_n hx hb dX0_canGoOn_81 rfl (lv_at hl 4 rfl) ?_
        refine lv_iload hx hb dX0_canGoOn_82 (lv_at hl 0 rfl) ?_
        obtain ⟨r16, σ16, h_16, hf⟩ := z_bds hf
        refine z_goI C hs (z_runN C hs hl.1 (cX_answerTo l E h_16) zcN_RX0_60 rfl rfl (by omega) (Nat.le_of_ble_eq_true rfl) dX0_canGoOn_84) (fun H locs hs => ?_)
        refine lv_aload_n hx hb dX0_canGoOn_87 rfl (lv_at hl 1 rfl) ?_
        refine zg_H_answer C hs (hB 40 (by decide) (by decide)) z_k313 dX0_canGoOn_88 ?_
        refine lv_iload hx hb dX0_canGoOn_91 (lv_at hl 6 rfl) ?_
        obtain ⟨g17, hf⟩ := z_gd hf
        refine z_ald C hs (hB 45 (by decide) (by decide)) (z_c45 E _ _ _ _) g17 rfl dX0_canGoOn_93 ?_
        refine lv_icmp_ne (tgt := 166) hx hb dX0_canGoOn_94 (by decide) (fun c18 => ?_) (fun c18 => ?_)
        · have hf := z_f hf c18
          obtain ⟨y19, e_y19⟩ : ∃ y : Int32, y = x5 + 1 := ⟨_, rfl⟩
          have hf := z_lte e_y19 hf
          refine lv_iinc (v := y19) (lv' := [(5, .int y19), (6, .int r11), (0, .ref (z_ad E (40, 0, 0))), (1, .int x1), (2, .int x2), (3, .int x3), (4, .int x4)]) hx hb dX0_canGoOn_166 hl (k := 6) rfl (by rw [e_y19]; rfl) (by decide) rfl (fun ls hl => ?_)
          refine lv_goto (tgt := 35) hx hb dX0_canGoOn_169 (by decide) ?_
          exact ih x1 x2 x3 x4 y19 σ16 _ _ _ hs (lv_sub hl [2, 3, 4, 5, 6, 0] rfl) hf
        · have hf := z_t hf c18
          refine lv_aload_n hx hb dX0_canGoOn_97 rfl (lv_at hl 1 rfl) ?_
          refine zg_H_what C hs (hB 40 (by decide) (by decide)) z_k311 dX0_canGoOn_98 ?_
          refine lv_iload hx hb dX0_canGoOn_101 (lv_at hl 6 rfl) ?_
          obtain ⟨g20, hf⟩ := z_gd hf
          refine z_ald C hs (hB 43 (by decide) (by decide)) (z_c43 E _ _ _ _) g20 rfl dX0_canGoOn_103 ?_
          refine lv_iconst (v := 3) hx hb dX0_canGoOn_104 (by decide) ?_
          refine lv_icmp_ne (tgt := 119) hx hb dX0_canGoOn_105 (by decide) (fun c21 => ?_) (fun c21 => ?_)
          · have hf := z_f hf c21
            exact wH_canGoOn_119 C hr hB hrc hlr hlw (fH_canGoOn_35 rc n) ih x1 x2 x3 x4 x5 r11 σ16 _ _ _ hs (lv_sub hl [1, 2, 3, 4, 5, 6, 0] rfl) hf
          · have hf := z_t hf c21
            refine lv_aload_n hx hb dX0_canGoOn_108 rfl (lv_at hl 1 rfl) ?_
            refine zg_H_answer C hs (hB 40 (by decide) (by decide)) z_k313 dX0_canGoOn_109 ?_
            refine lv_iload hx hb dX0_canGoOn_112 (lv_at hl 6 rfl) ?_
            obtain ⟨g28, hf⟩ := z_gd hf
            refine z_ald C hs (hB 45 (by decide) (by decide)) (z_c45 E _ _ _ _) g28 rfl dX0_canGoOn_114 ?_
            refine lv_iconst (v := 1) hx hb dX0_canGoOn_115 (by decide) ?_
            refine lv_icmp_ne (tgt := 123) hx hb dX0_canGoOn_116 (by decide) (fun c29 => ?_) (fun c29 => ?_)
            · have hf := z_f hf c29
              refine lv_iconst (v := 0) hx hb dX0_canGoOn_123 (by decide) ?_
              exact wH_canGoOn_124 C hr hB hrc hlr hlw (fH_canGoOn_35 rc n) ih x1 x2 x3 x4 x5 r11 0 σ16 _ _ _ hs (lv_sub hl [1, 2, 3, 4, 5, 6, 0] rfl) hf
            · have hf := z_t hf c29
              exact wH_canGoOn_119 C hr hB hrc hlr hlw (fH_canGoOn_35 rc n) ih x1 x2 x3 x4 x5 r11 σ16 _ _ _ hs (lv_sub hl [1, 2, 3, 4, 5, 6, 0] rfl) hf
set_option maxHeartbeats 4000000 in
set_option maxRecDepth 20000 in
theorem wH_canGoOnB {rc : Int32 → Int32 → Int32 → Int32 → zS → Option (Int32 × zS)} {lw lr : Nat} {x1 : Int32} {x2 : Int32} {x3 : Int32} {x4 : Int32} (C : z_C E RX0 cX0_canGoOn 8 A p s m args meth c) (hr : meth.sig.returnType = (some .boolean)) (hB : z_B E) (hrc : ∀ (x1 x2 x3 x4 : Int32) (σ σo : zS) (ro : Int32), rc x1 x2 x3 x4 σ = some (ro, σo) → z_T l E yX0_canGoOn cX0_canGoOn 8 (some .boolean) (z_rm lr) (z_QI E ro σo) [.ref (z_ad E (40, 0, 0)), .int x1, .int x2, .int x3, .int x4] σ) (hlr : lr < lw) (hlw : 10 ≤ lw) {ro : Int32} {σo : zS} (σ : zS) (H : Heap) (locs : List Loc) (ls : Array Slot) (hs : z_H E A s σ H locs) (hl : lv_has ls 8 [(0, .ref (z_ad E (40, 0, 0))), (1, .int x1), (2, .int x2), (3, .int x3), (4, .int x4)]) (hf : fH_canGoOnB rc x1 x2 x3 x4 σ = some (ro, σo)) : W p l e (z_rm lw) s m args below meth c H locs 0 0 (MQ below (z_QI E ro σo A) args s 0 0 A) (F0 m 0 ls []) := by
  have hx := C.1
  have hb := C.2.1
  unfold fH_canGoOnB at hf
  refine lv_iload_n hx hb dX0_canGoOn_0 rfl (lv_at hl 1 rfl) ?_
  refine lv_aload_n hx hb dX0_canGoOn_1 rfl (lv_at hl 0 rfl) ?_
  refine zg_H_size C hs (hB 40 (by decide) (by decide)) z_k317 dX0_canGoOn_2 ?_
  refine lv_icmp_ge (tgt := 14) hx hb dX0_canGoOn_5 (by decide) (fun c1 => ?_) (fun c1 => ?_)
  · have hf := z_t hf c1
    refine lv_iconst (v := 1) hx hb dX0_canGoOn_14 (by decide) ?_
    exact z_retz C hr hs (by decide +kernel) hf dX0_canGoOn_15
  · have hf := z_f hf c1
    refine lv_iload_n hx hb dX0_canGoOn_8 rfl (lv_at hl 1 rfl) ?_
    refine lv_bipush (v := 9) hx hb dX0_canGoOn_9 (by decide) ?_
    refine lv_icmp_lt (tgt := 16) hx hb dX0_canGoOn_11 (by decide) (fun c2 => ?_) (fun c2 => ?_)
    · have hf := z_t hf c2
      refine lv_aload_n hx hb dX0_canGoOn_16 rfl (lv_at hl 0 rfl) ?_
      refine zg_H_hopeless C hs (hB 40 (by decide) (by decide)) z_k316 dX0_canGoOn_17 ?_
      refine lv_iload_n hx hb dX0_canGoOn_20 rfl (lv_at hl 2 rfl) ?_
      obtain ⟨g3, hf⟩ := z_gd hf
      refine z_ald C hs (hB 47 (by decide) (by decide)) (z_c47 E _ _ _ _) g3 rfl dX0_canGoOn_21 ?_
      refine lv_iload hx hb dX0_canGoOn_22 (lv_at hl 4 rfl) ?_
      refine lv_ishr hx hb dX0_canGoOn_24 ?_
      refine lv_iconst (v := 1) hx hb dX0_canGoOn_25 (by decide) ?_
      refine lv_iand hx hb dX0_canGoOn_26 ?_
      refine lv_if_eq (tgt := 32) hx hb dX0_canGoOn_27 (by decide) (fun c4 => ?_) (fun c4 => ?_)
      · have hf := z_t hf c4
        refine lv_iconst (v := 0) hx hb dX0_canGoOn_32 (by decide) ?_
        refine lv_istore (lv' := [(5, .int 0), (0, .ref (z_ad E (40, 0, 0))), (1, .int x1), (2, .int x2), (3, .int x3), (4, .int x4)]) hx hb dX0_canGoOn_33 hl (by decide) rfl (fun ls hl => ?_)
        exact wH_canGoOn_35 C hr hB hrc hlr hlw z_fu x1 x2 x3 x4 0 σ _ _ _ hs (lv_sub hl [1, 2, 3, 4, 5, 0] rfl) hf
      · have hf := z_f hf c4
        refine lv_iconst (v := 0) hx hb dX0_canGoOn_30 (by decide) ?_
        exact z_retz C hr hs (by decide +kernel) hf dX0_canGoOn_31
    · have hf := z_f hf c2
      refine lv_iconst (v := 1) hx hb dX0_canGoOn_14 (by decide) ?_
      exact z_retz C hr hs (by decide +kernel) hf dX0_canGoOn_15
set_option maxHeartbeats 4000000 in
set_option maxRecDepth 20000 in
theorem cH_canGoOnB (l : Launch) (E : zE) {rc : Int32 → Int32 → Int32 → Int32 → zS → Option (Int32 × zS)} {lw lr : Nat} {x1 : Int32} {x2 : Int32} {x3 : Int32} {x4 : Int32} (hB : z_B E) (hrc : ∀ (x1 x2 x3 x4 : Int32) (σ σo : zS) (ro : Int32), rc x1 x2 x3 x4 σ = some (ro, σo) → z_T l E yX0_canGoOn cX0_canGoOn 8 (some .boolean) (z_rm lr) (z_QI E ro σo) [.ref (z_ad E (40, 0, 0)), .int x1, .int x2, .int x3, .int x4] σ) (hlr : lr < lw) (hlw : 10 ≤ lw) {σ σo : zS} {ro : Int32} (hf : fH_canGoOnB rc x1 x2 x3 x4 σ = some (ro, σo)) : z_T l E yX0_canGoOn cX0_canGoOn 8 (some .boolean) (z_rm lw) (z_QI E ro σo) [.ref (z_ad E (40, 0, 0)), .int x1, .int x2, .int x3, .int x4] σ :=
  z_enter (by decide) (Nat.le_of_ble_eq_true rfl) rfl (fun p e s m below meth c A ls C hr hs hl => wH_canGoOnB C hr hB hrc hlr hlw σ _ _ ls hs hl hf)
def fH_canGoOn : Nat → Int32 → Int32 → Int32 → Int32 → zS → Option (Int32 × zS)
  | 0, _, _, _, _, _ => none
  | d + 1, x1, x2, x3, x4, σ => fH_canGoOnB (fH_canGoOn d) x1 x2 x3 x4 σ
theorem cH_canGoOn (l : Launch) (E : zE) (hB : z_B E) (d : Nat) : ∀ (x1 x2 x3 x4 : Int32) (σ σo : zS) (ro : Int32), fH_canGoOn d x1 x2 x3 x4 σ = some (ro, σo) → z_T l E yX0_canGoOn cX0_canGoOn 8 (some .boolean) (z_rm (10 + d)) (z_QI E ro σo) [.ref (z_ad E (40, 0, 0)), .int x1, .int x2, .int x3, .int x4] σ := by
  induction d with
  | zero =>
    intro x1 x2 x3 x4 σ σo ro hf
    have hf : none = some (ro, σo) := hf
    cases hf
  | succ d ih =>
    intro x1 x2 x3 x4 σ σo ro hf
    exact cH_canGoOnB l E (rc := fH_canGoOn d) (lw := 10 + (d + 1)) (lr := 10 + d) hB ih (by omega) (by omega) hf
end z_walksr
section z_walksi
variable {p : Program} {l : Launch} {e : Env} {s : State} {m : MethodId} {args : Array Value} {below : List Frame} {meth : Method} {c : Code} {E : zE} {A : Nat → Prop}

def fH_isRight_9 : Nat → Int32 → zS → Option (Int32 × zS)
  | 0, _, _ => none
  | n + 1, x1, σ =>
    if 512 ≤ x1 then
      (z_bd (fH_canGoOn 10 0 0 0 9 σ) (fun r4 σ4 =>
      if z_b01 r4 = true then (
      z_let (z_up σ4 (40, 0, 0) 9 r4) (fun σ6 =>
      z_let (z_up σ6 (40, 0, 0) 8 1) (fun σ7 =>
      if z_b01 (σ7.1 (40, 0, 0) 9) = true then (
      some (σ7.1 (40, 0, 0) 9, σ7)) else none))) else none))
    else
      (if z_in x1 512 = true then (
      z_let (z_up σ (47, 0, 0) (x1.toNatClampNeg) 0) (fun σ10 =>
      z_let (x1 + 1) (fun y11 =>
      fH_isRight_9 n y11 σ10))) else none)
def fH_isRight (σ : zS) : Option (Int32 × zS) :=
  if (σ.1 (40, 0, 0) 8) = 0 then
    (fH_isRight_9 z_fu 0 σ)
  else
    (if z_b01 (σ.1 (40, 0, 0) 9) = true then (
    some (σ.1 (40, 0, 0) 9, σ)) else none)
set_option maxHeartbeats 4000000 in
set_option maxRecDepth 20000 in
theorem wH_isRight_9 (C : z_C E RX0 cX0_isRight 2 A p s m args meth c) (hr : meth.sig.returnType = (some .boolean)) (hB : z_B E) {ro : Int32} {σo : zS} (n : Nat) : ∀ (x1 : Int32) (σ : zS) (H : Heap) (locs : List Loc) (ls : Array Slot), z_H E A s σ H locs → lv_has ls 2 [(0, .ref (z_ad E (40, 0, 0))), (1, .int x1)] → fH_isRight_9 n x1 σ = some (ro, σo) → W p l e (z_rm 21) s m args below meth c H locs 0 0 (MQ below (z_QI E ro σo A) args s 0 0 A) (F0 m 9 ls []) := by
  induction n with
  | zero =>
    intro x1 σ H locs ls hs hl hf
    have hf : none = some (ro, σo) := hf
    cases hf
  | succ n ih =>
    intro x1 σ H locs ls hs hl hf
    have hx := C.1
    have hb := C.2.1
    rw [fH_isRight_9.eq_2] at hf
    refine lv_iload_n hx hb dX0_isRight_9 rfl (lv_at hl 1 rfl) ?_
    refine lv_sipush (v := 512) hx hb dX0_isRight_10 (by decide) ?_
    refine lv_icmp_ge (tgt := 29) hx hb dX0_isRight_13 (by decide) (fun c3 => ?_) (fun c3 => ?_)
    · have hf := z_t hf c3
      refine lv_aload_n hx hb dX0_isRight_29 rfl (lv_at hl 0 rfl) ?_
      refine lv_aload_n hx hb dX0_isRight_30 rfl (lv_at hl 0 rfl) ?_
      refine lv_iconst (v := 0) hx hb dX0_isRight_31 (by decide) ?_
      refine lv_iconst (v := 0) hx hb dX0_isRight_32 (by decide) ?_
      refine lv_iconst (v := 0) hx hb dX0_isRight_33 (by decide) ?_
      refine lv_bipush (v := 9) hx hb dX0_isRight_34 (by decide) ?_
      obtain ⟨r4, σ4, h_4, hf⟩ := z_bds hf
      refine z_goI C hs (z_runV C hs hl.1 (cH_canGoOn l E hB 10 _ _ _ _ _ _ _ h_4) zcV_RX0_45 (hB 40 (by decide) (by decide)) (z_c40 E _ _ _ _) rfl rfl rfl (by decide) (Nat.le_of_ble_eq_true rfl) dX0_isRight_36) (fun H locs hs => ?_)
      obtain ⟨g5, hf⟩ := z_gd hf
      refine zp_H_right C hs (hB 40 (by decide) (by decide)) z_k320 g5 dX0_isRight_39 (fun H locs hs => ?_)
      obtain ⟨σ6, -, hs, hf⟩ := z_top hs hf
      refine lv_aload_n hx hb dX0_isRight_42 rfl (lv_at hl 0 rfl) ?_
      refine lv_iconst (v := 1) hx hb dX0_isRight_43 (by decide) ?_
      refine zp_H_judged C hs (hB 40 (by decide) (by decide)) z_k319 (by decide +kernel) dX0_isRight_44 (fun H locs hs => ?_)
      obtain ⟨σ7, -, hs, hf⟩ := z_top hs hf
      refine lv_aload_n hx hb dX0_isRight_47 rfl (lv_at hl 0 rfl) ?_
      refine zg_H_right C hs (hB 40 (by decide) (by decide)) z_k320 dX0_isRight_48 ?_
      obtain ⟨g8, hf⟩ := z_gd hf
      exact z_retz C hr hs g8 hf dX0_isRight_51
    · have hf := z_f hf c3
      refine lv_aload_n hx hb dX0_isRight_16 rfl (lv_at hl 0 rfl) ?_
      refine zg_H_hopeless C hs (hB 40 (by decide) (by decide)) z_k316 dX0_isRight_17 ?_
      refine lv_iload_n hx hb dX0_isRight_20 rfl (lv_at hl 1 rfl) ?_
      refine lv_iconst (v := 0) hx hb dX0_isRight_21 (by decide) ?_
      obtain ⟨g9, hf⟩ := z_gd hf
      refine z_ast C hs (hB 47 (by decide) (by decide)) (fun r h => z_c47 E r h _ _) g9 rfl dX0_isRight_22 (fun H locs hs => ?_)
      obtain ⟨σ10, -, hs, hf⟩ := z_top hs hf
      obtain ⟨y11, e_y11⟩ : ∃ y : Int32, y = x1 + 1 := ⟨_, rfl⟩
      have hf := z_lte e_y11 hf
      refine lv_iinc (v := y11) (lv' := [(1, .int y11), (0, .ref (z_ad E (40, 0, 0)))]) hx hb dX0_isRight_23 hl (k := 1) rfl (by rw [e_y11]; rfl) (by decide) rfl (fun ls hl => ?_)
      refine lv_goto (tgt := 9) hx hb dX0_isRight_26 (by decide) ?_
      exact ih y11 σ10 _ _ _ hs (lv_sub hl [1, 0] rfl) hf
set_option maxHeartbeats 4000000 in
set_option maxRecDepth 20000 in
theorem wH_isRight (C : z_C E RX0 cX0_isRight 2 A p s m args meth c) (hr : meth.sig.returnType = (some .boolean)) (hB : z_B E) {ro : Int32} {σo : zS} (σ : zS) (H : Heap) (locs : List Loc) (ls : Array Slot) (hs : z_H E A s σ H locs) (hl : lv_has ls 2 [(0, .ref (z_ad E (40, 0, 0)))]) (hf : fH_isRight σ = some (ro, σo)) : W p l e (z_rm 21) s m args below meth c H locs 0 0 (MQ below (z_QI E ro σo A) args s 0 0 A) (F0 m 0 ls []) := by
  have hx := C.1
  have hb := C.2.1
  unfold fH_isRight at hf
  refine lv_aload_n hx hb dX0_isRight_0 rfl (lv_at hl 0 rfl) ?_
  refine zg_H_judged C hs (hB 40 (by decide) (by decide)) z_k319 dX0_isRight_1 ?_
  refine lv_if_ne (tgt := 47) hx hb dX0_isRight_4 (by decide) (fun c1 => ?_) (fun c1 => ?_)
  · have hf := z_f hf c1
    refine lv_aload_n hx hb dX0_isRight_47 rfl (lv_at hl 0 rfl) ?_
    refine zg_H_right C hs (hB 40 (by decide) (by decide)) z_k320 dX0_isRight_48 ?_
    obtain ⟨g2, hf⟩ := z_gd hf
    exact z_retz C hr hs g2 hf dX0_isRight_51
  · have hf := z_t hf c1
    refine lv_iconst (v := 0) hx hb dX0_isRight_7 (by decide) ?_
    refine lv_istore_n (lv' := [(1, .int 0), (0, .ref (z_ad E (40, 0, 0)))]) hx hb dX0_isRight_8 rfl hl (by decide) rfl (fun ls hl => ?_)
    exact wH_isRight_9 C hr hB z_fu 0 σ _ _ _ hs (lv_sub hl [1, 0] rfl) hf
set_option maxHeartbeats 4000000 in
set_option maxRecDepth 20000 in
theorem cH_isRight (l : Launch) (E : zE) (hB : z_B E) {σ σo : zS} {ro : Int32} (hf : fH_isRight σ = some (ro, σo)) : z_T l E yX0_isRight cX0_isRight 2 (some .boolean) (z_rm 21) (z_QI E ro σo) [.ref (z_ad E (40, 0, 0))] σ :=
  z_enter (by decide) (Nat.le_of_ble_eq_true rfl) rfl (fun p e s m below meth c A ls C hr hs hl => wH_isRight C hr hB σ _ _ ls hs hl hf)
theorem zcV_RX8_215 : z_CV RX8 215 yX0_isRight cX0_isRight 2 (some .boolean) 0 := ⟨⟨z_k880, z_k881, z_k882, z_k9, z_k883⟩, by decide +kernel, by decide⟩
def fX_judge (σ : zS) : Option (Int32 × zS) :=
  z_bd (fH_isRight σ) (fun r1 σ1 =>
  if r1 = 0 then
    (some (0, σ1))
  else
    (some (1, σ1)))
set_option maxHeartbeats 4000000 in
set_option maxRecDepth 20000 in
theorem wX_judge (C : z_C E RX8 cX8_judge 1 A p s m args meth c) (hr : meth.sig.returnType = (some .int)) (hB : z_B E) (hW0 : z_W E 0) {ro : Int32} {σo : zS} (σ : zS) (H : Heap) (locs : List Loc) (ls : Array Slot) (hs : z_H E A s σ H locs) (hl : lv_has ls 1 [(0, .ref (z_ad E (30, 0, 0)))]) (hf : fX_judge σ = some (ro, σo)) : W p l e (z_rm 22) s m args below meth c H locs 0 0 (MQ below (z_QI E ro σo A) args s 0 0 A) (F0 m 0 ls []) := by
  have hx := C.1
  have hb := C.2.1
  unfold fX_judge at hf
  refine lv_aload_n hx hb dX8_judge_0 rfl (lv_at hl 0 rfl) ?_
  refine zg_X_history C hs (hB 30 (by decide) (by decide)) z_k346 dX8_judge_1 ?_
  obtain ⟨r1, σ1, h_1, hf⟩ := z_bds hf
  refine z_goI C hs (z_runV C hs hl.1 (cH_isRight l E hB h_1) zcV_RX8_215 (hB 40 (by decide) (by decide)) (z_c40 E _ _ _ _) rfl rfl rfl (by decide) (Nat.le_of_ble_eq_true rfl) dX8_judge_4) (fun H locs hs => ?_)
  refine lv_if_eq (tgt := 14) hx hb dX8_judge_7 (by decide) (fun c2 => ?_) (fun c2 => ?_)
  · have hf := z_t hf c2
    refine lv_iconst (v := 0) hx hb dX8_judge_14 (by decide) ?_
    exact z_reti C hr hs hf dX8_judge_15
  · have hf := z_f hf c2
    refine lv_iconst (v := 1) hx hb dX8_judge_10 (by decide) ?_
    refine lv_goto (tgt := 15) hx hb dX8_judge_11 (by decide) ?_
    exact z_reti C hr hs hf dX8_judge_15
set_option maxHeartbeats 4000000 in
set_option maxRecDepth 20000 in
theorem cX_judge (l : Launch) (E : zE) (hB : z_B E) (hW0 : z_W E 0) {σ σo : zS} {ro : Int32} (hf : fX_judge σ = some (ro, σo)) : z_T l E yX8_judge cX8_judge 1 (some .int) (z_rm 22) (z_QI E ro σo) [.ref (z_ad E (30, 0, 0))] σ :=
  z_enter (by decide) (Nat.le_of_ble_eq_true rfl) rfl (fun p e s m below meth c A ls C hr hs hl => wX_judge C hr hB hW0 σ _ _ ls hs hl hf)
def fX_order (x1 : Int32) (σ : zS) : Option (Int32 × zS) :=
  if x1 < 0 then
    (some ((-1), σ))
  else
    (if (σ.1 (40, 0, 0) 7) ≤ x1 then
      (some ((-1), σ))
    else
      (z_bd (fH_isRight σ) (fun r3 σ3 =>
      if r3 = 0 then
        (some ((-1), σ3))
      else
        (if z_in x1 9 = true then (
        some (σ3.1 (46, 0, 0) x1.toNatClampNeg, σ3)) else none))))
set_option maxHeartbeats 4000000 in
set_option maxRecDepth 20000 in
theorem wX_order {x1 : Int32} (C : z_C E RX8 cX8_order 2 A p s m args meth c) (hr : meth.sig.returnType = (some .int)) (hB : z_B E) (hW0 : z_W E 0) {ro : Int32} {σo : zS} (σ : zS) (H : Heap) (locs : List Loc) (ls : Array Slot) (hs : z_H E A s σ H locs) (hl : lv_has ls 2 [(0, .ref (z_ad E (30, 0, 0))), (1, .int x1)]) (hf : fX_order x1 σ = some (ro, σo)) : W p l e (z_rm 22) s m args below meth c H locs 0 0 (MQ below (z_QI E ro σo A) args s 0 0 A) (F0 m 0 ls []) := by
  have hx := C.1
  have hb := C.2.1
  unfold fX_order at hf
  refine lv_iload_n hx hb dX8_order_0 rfl (lv_at hl 1 rfl) ?_
  refine lv_if_lt (tgt := 25) hx hb dX8_order_1 (by decide) (fun c1 => ?_) (fun c1 => ?_)
  · have hf := z_t hf c1
    refine lv_iconst (v := (-1)) hx hb dX8_order_25 (by decide) ?_
    exact z_reti C hr hs hf dX8_order_26
  · have hf := z_f hf c1
    refine lv_iload_n hx hb dX8_order_4 rfl (lv_at hl 1 rfl) ?_
    refine lv_aload_n hx hb dX8_order_5 rfl (lv_at hl 0 rfl) ?_
    refine zg_X_history C hs (hB 30 (by decide) (by decide)) z_k346 dX8_order_6 ?_
    refine zg_H_size C hs (hB 40 (by decide) (by decide)) z_k318 dX8_order_9 ?_
    refine lv_icmp_ge (tgt := 25) hx hb dX8_order_12 (by decide) (fun c2 => ?_) (fun c2 => ?_)
    · have hf := z_t hf c2
      refine lv_iconst (v := (-1)) hx hb dX8_order_25 (by decide) ?_
      exact z_reti C hr hs hf dX8_order_26
    · have hf := z_f hf c2
      refine lv_aload_n hx hb dX8_order_15 rfl (lv_at hl 0 rfl) ?_
      refine zg_X_history C hs (hB 30 (by decide) (by decide)) z_k346 dX8_order_16 ?_
      obtain ⟨r3, σ3, h_3, hf⟩ := z_bds hf
      refine z_goI C hs (z_runV C hs hl.1 (cH_isRight l E hB h_3) zcV_RX8_215 (hB 40 (by decide) (by decide)) (z_c40 E _ _ _ _) rfl rfl rfl (by decide) (Nat.le_of_ble_eq_true rfl) dX8_order_19) (fun H locs hs => ?_)
      refine lv_if_ne (tgt := 27) hx hb dX8_order_22 (by decide) (fun c4 => ?_) (fun c4 => ?_)
      · have hf := z_f hf c4
        refine lv_aload_n hx hb dX8_order_27 rfl (lv_at hl 0 rfl) ?_
        refine zg_X_history C hs (hB 30 (by decide) (by decide)) z_k346 dX8_order_28 ?_
        refine zg_H_first C hs (hB 40 (by decide) (by decide)) z_k315 dX8_order_31 ?_
        refine lv_iload_n hx hb dX8_order_34 rfl (lv_at hl 1 rfl) ?_
        obtain ⟨g5, hf⟩ := z_gd hf
        refine z_ald C hs (hB 46 (by decide) (by decide)) (z_c46 E _ _ _ _) g5 rfl dX8_order_35 ?_
        exact z_reti C hr hs hf dX8_order_36
      · have hf := z_t hf c4
        refine lv_iconst (v := (-1)) hx hb dX8_order_25 (by decide) ?_
        exact z_reti C hr hs hf dX8_order_26
set_option maxHeartbeats 4000000 in
set_option maxRecDepth 20000 in
theorem cX_order (l : Launch) (E : zE) {x1 : Int32} (hB : z_B E) (hW0 : z_W E 0) {σ σo : zS} {ro : Int32} (hf : fX_order x1 σ = some (ro, σo)) : z_T l E yX8_order cX8_order 2 (some .int) (z_rm 22) (z_QI E ro σo) [.ref (z_ad E (30, 0, 0)), .int x1] σ :=
  z_enter (by decide) (Nat.le_of_ble_eq_true rfl) rfl (fun p e s m below meth c A ls C hr hs hl => wX_order C hr hB hW0 σ _ _ ls hs hl hf)
end z_walksi
