def z_Bl (E : zE) (bl : Nat → Bool) : Prop := ∀ b : Nat, b < 3 → (bl b = true → z_bx E b = some (z_ad E (0, b + 1, 0)) ∧ z_W E (b + 1)) ∧ (bl b = false → z_bx E b = none)
theorem z_nt {x : Bool} (h : ¬ x = true) : x = false := by cases x; rfl; exact absurd rfl h
theorem z_bigR {R : Room} {j n : Nat} (h1 : 12 ≤ R.frames) (h2 : 720 ≤ R.locals) (hj : j < 11) (hn : n ≤ 40) : (z_rm j).frames + 1 ≤ R.frames ∧ 8 + (n + 11) + (z_rm j).locals ≤ R.locals := by
  show j + 1 ≤ R.frames ∧ 8 + (n + 11) + 60 * j ≤ R.locals
  omega
theorem zr_reti {p : Program} {l : Launch} {e : Env} {R : Room} {s : State} {m : MethodId} {args : Array Value} {below : List Frame} {meth : Method} {c : Code} {H : Heap} {locs : List Loc} {cells slots : Nat} {cc : ByteArray} {pc nL : Nat} {ls : Array Slot} {E : zE} {σ : zS} {A : Nat → Prop} {own : String} {ro vr : Int32} {σo : zS} (C : z_C E own cc nL A p s m args meth c) (hr : meth.sig.returnType = some .int) (hs : z_H E A s σ H locs) (hf : some (vr, σ) = some (ro, σo)) (hdg : decode cc pc = .ok (.ireturn, 1)) : W p l e R s m args below meth c H locs cells slots (MQ below (z_QI E ro σo A) args s cells slots A) (F0 m pc ls [.int vr]) := by
  cases hf
  exact W.iret C.1 C.2.1 hr (fun t ht _ => ⟨⟨_, (), rfl, rfl, z_hp ht hs⟩, hs.2.F ht⟩) hs.2.2.2 hdg C.2.2.2.2.2.2.2.2
section z_walksb
variable {p : Program} {l : Launch} {e : Env} {s : State} {m : MethodId} {args : Array Value} {below : List Frame} {meth : Method} {c : Code} {E : zE} {A : Nat → Prop}

variable {R : Room} {cells slots : Nat}
theorem zcS_RX8_224 : z_CS RX8 224 yX8_isBox cX8_isBox 1 (some .boolean) 1 := ⟨⟨z_k902, z_k903, z_k1, z_k904⟩, by decide +kernel, by decide⟩
theorem zcV_RX8_227 : z_CV RX8 227 yX7_copyFrom cX7_copyFrom 3 none 1 := ⟨⟨z_k905, z_k906, z_k907, z_k3, z_k908⟩, by decide +kernel, by decide⟩
def fX_back (bl : Nat → Bool) (x1 : Int32) (σ : zS) : Option (Int32 × zS) :=
  z_bd (fX_isBox x1 σ) (fun r1 σ1 =>
  if r1 = 0 then
    (some ((-1), σ1))
  else
    (if z_in x1 3 = true then (
    if (σ1.1 (37, 0, 0) x1.toNatClampNeg) = 0 then
      (some ((-1), σ1))
    else
      (if z_in x1 3 = true then (
      if bl x1.toNatClampNeg = true then
        (if z_in x1 3 = true then (
        if bl x1.toNatClampNeg = true then
          (z_bd (fW_copyFrom 0 (x1.toNatClampNeg + 1) σ1) (fun _ σ9 =>
          z_bd (fP_countFull 0 σ9) (fun r10 σ10 =>
          some (r10, σ10))))
        else
          (none)) else none)
      else
        (some ((-1), σ1))) else none)) else none))
set_option maxHeartbeats 4000000 in
set_option maxRecDepth 20000 in
theorem wX_back {bl : Nat → Bool} {x1 : Int32} (C : z_C E RX8 cX8_back 2 A p s m args meth c) (hr : meth.sig.returnType = (some .int)) (hB : z_B E) (hW0 : z_W E 0) (hBl : z_Bl E bl) {ro : Int32} {σo : zS} (σ : zS) (H : Heap) (locs : List Loc) (ls : Array Slot) (hs : z_H E A s σ H locs) (hl : lv_has ls 2 [(0, .ref (z_ad E (30, 0, 0))), (1, .int x1)]) (hf : fX_back bl x1 σ = some (ro, σo)) : W p l e (z_rm 6) s m args below meth c H locs 0 0 (MQ below (z_QI E ro σo A) args s 0 0 A) (F0 m 0 ls []) := by
  have hx := C.1
  have hb := C.2.1
  unfold fX_back at hf
  refine lv_iload_n hx hb dX8_back_0 rfl (lv_at hl 1 rfl) ?_
  obtain ⟨r1, σ1, h_1, hf⟩ := z_bds hf
  refine z_goI C hs (z_runS C hs hl.1 (cX_isBox l E h_1) zcS_RX8_224 rfl rfl rfl (by decide) (Nat.le_of_ble_eq_true rfl) dX8_back_1) (fun H locs hs => ?_)
  refine lv_if_eq (tgt := 25) hx hb dX8_back_4 (by decide) (fun c2 => ?_) (fun c2 => ?_)
  · have hf := z_t hf c2
    refine lv_iconst (v := (-1)) hx hb dX8_back_25 (by decide) ?_
    exact z_reti C hr hs hf dX8_back_26
  · have hf := z_f hf c2
    refine lv_aload_n hx hb dX8_back_7 rfl (lv_at hl 0 rfl) ?_
    refine zg_X_kept C hs (hB 30 (by decide) (by decide)) z_k345 dX8_back_8 ?_
    refine lv_iload_n hx hb dX8_back_11 rfl (lv_at hl 1 rfl) ?_
    obtain ⟨g3, hf⟩ := z_gd hf
    refine z_zald C hs (hB 37 (by decide) (by decide)) (z_c37 E _ _ _ _) g3 rfl dX8_back_12 ?_
    refine lv_if_eq (tgt := 25) hx hb dX8_back_13 (by decide) (fun c4 => ?_) (fun c4 => ?_)
    · have hf := z_t hf c4
      refine lv_iconst (v := (-1)) hx hb dX8_back_25 (by decide) ?_
      exact z_reti C hr hs hf dX8_back_26
    · have hf := z_f hf c4
      refine lv_aload_n hx hb dX8_back_16 rfl (lv_at hl 0 rfl) ?_
      refine zg_X_boxes C hs (hB 30 (by decide) (by decide)) z_k344 dX8_back_17 ?_
      refine lv_iload_n hx hb dX8_back_20 rfl (lv_at hl 1 rfl) ?_
      obtain ⟨g5, hf⟩ := z_gd hf
      by_cases c6 : bl x1.toNatClampNeg = true
      · have hf := z_t hf c6
        refine z_aald C hs (hB 36 (by decide) (by decide)) (z_c36 E _ _ _ _) (t0 := 6) rfl g5 (v := .ref (z_ad E (0, x1.toNatClampNeg + 1, 0))) (by rw [((hBl _ (z_in_lt g5)).1 c6).1]; rfl) dX8_back_21 ?_
        refine lv_ifnonnull (tgt := 27) hx hb dX8_back_22 (by decide) ?_
        refine lv_aload_n hx hb dX8_back_27 rfl (lv_at hl 0 rfl) ?_
        refine zg_X_world C hs (hB 30 (by decide) (by decide)) z_k343 dX8_back_28 ?_
        refine lv_aload_n hx hb dX8_back_31 rfl (lv_at hl 0 rfl) ?_
        refine zg_X_boxes C hs (hB 30 (by decide) (by decide)) z_k344 dX8_back_32 ?_
        refine lv_iload_n hx hb dX8_back_35 rfl (lv_at hl 1 rfl) ?_
        obtain ⟨g7, hf⟩ := z_gd hf
        by_cases c8 : bl x1.toNatClampNeg = true
        · have hf := z_t hf c8
          refine z_aald C hs (hB 36 (by decide) (by decide)) (z_c36 E _ _ _ _) (t0 := 6) rfl g7 (v := .ref (z_ad E (0, x1.toNatClampNeg + 1, 0))) (by rw [((hBl _ (z_in_lt g7)).1 c8).1]; rfl) dX8_back_36 ?_
          obtain ⟨r9, σ9, h_9, hf⟩ := z_bds hf
          refine z_goV C hs (z_runV C hs hl.1 (cW_copyFrom l E hW0 ((hBl _ (z_in_lt g7)).1 c8).2 h_9) zcV_RX8_227 (hW0.1 0 (by decide)) (z_c0 E _ _ _ _) rfl rfl rfl (by decide) (Nat.le_of_ble_eq_true rfl) dX8_back_37) (fun H locs hs => ?_)
          refine lv_aload_n hx hb dX8_back_40 rfl (lv_at hl 0 rfl) ?_
          refine zg_X_world C hs (hB 30 (by decide) (by decide)) z_k343 dX8_back_41 ?_
          refine zg_W_post C hs (hW0.1 0 (by decide)) z_k284 dX8_back_44 ?_
          obtain ⟨r10, σ10, h_10, hf⟩ := z_bds hf
          refine z_goI C hs (z_runV C hs hl.1 (cP_countFull l E hW0 h_10) zcV_RX8_230 (hW0.1 2 (by decide)) (z_c2 E _ _ _ _) rfl rfl rfl (by decide) (Nat.le_of_ble_eq_true rfl) dX8_back_47) (fun H locs hs => ?_)
          exact z_reti C hr hs hf dX8_back_50
        · have hf := z_f hf c8
          refine z_aald C hs (hB 36 (by decide) (by decide)) (z_c36 E _ _ _ _) (t0 := 6) rfl g7 (v := .null) (by rw [(hBl _ (z_in_lt g7)).2 (z_nt c8)]; rfl) dX8_back_36 ?_
          cases hf
      · have hf := z_f hf c6
        refine z_aald C hs (hB 36 (by decide) (by decide)) (z_c36 E _ _ _ _) (t0 := 6) rfl g5 (v := .null) (by rw [(hBl _ (z_in_lt g5)).2 (z_nt c6)]; rfl) dX8_back_21 ?_
        refine lv_ifnonnullN hx hb dX8_back_22 ?_
        refine lv_iconst (v := (-1)) hx hb dX8_back_25 (by decide) ?_
        exact z_reti C hr hs hf dX8_back_26
set_option maxHeartbeats 4000000 in
set_option maxRecDepth 20000 in
theorem cX_back (l : Launch) (E : zE) {bl : Nat → Bool} {x1 : Int32} (hB : z_B E) (hW0 : z_W E 0) (hBl : z_Bl E bl) {σ σo : zS} {ro : Int32} (hf : fX_back bl x1 σ = some (ro, σo)) : z_T l E yX8_back cX8_back 2 (some .int) (z_rm 6) (z_QI E ro σo) [.ref (z_ad E (30, 0, 0)), .int x1] σ :=
  z_enter (by decide) (Nat.le_of_ble_eq_true rfl) rfl (fun p e s m below meth c A ls C hr hs hl => wX_back C hr hB hW0 hBl σ _ _ ls hs hl hf)
def fX_image_31 (bl : Nat → Bool) (x1 : Int32) (σ : zS) : Option (Int32 × zS) :=
  if z_in x1 3 = true then (
  if bl x1.toNatClampNeg = true then
    (z_bd (fW_copyFrom (x1.toNatClampNeg + 1) 0 σ) (fun _ σ7 =>
    if z_in x1 3 = true then (
    z_let (z_up σ7 (37, 0, 0) (x1.toNatClampNeg) (vp_nar .boolean 1)) (fun σ9 =>
    z_bd (fP_countFull 0 σ9) (fun r10 σ10 =>
    some (r10, σ10)))) else none))
  else
    (none)) else none
def fX_image (bl : Nat → Bool) (x1 : Int32) (σ : zS) : Option (Int32 × zS) :=
  z_bd (fX_isBox x1 σ) (fun r1 σ1 =>
  if r1 = 0 then
    (some ((-1), σ1))
  else
    (if z_in x1 3 = true then (
    if bl x1.toNatClampNeg = true then
      (fX_image_31 bl x1 σ1)
    else
      (none)) else none))
set_option maxHeartbeats 4000000 in
set_option maxRecDepth 20000 in
theorem wX_image_31 {bl : Nat → Bool} (C : z_C E RX8 cX8_image 2 A p s m args meth c) (hr : meth.sig.returnType = (some .int)) (hB : z_B E) (hW0 : z_W E 0) (hBl : z_Bl E bl) (hR1 : 12 ≤ R.frames) (hR2 : 720 ≤ R.locals) (hcs : cells ≤ R.cells ∧ slots ≤ R.slots) {ro : Int32} {σo : zS} (x1 : Int32) (σ : zS) (H : Heap) (locs : List Loc) (ls : Array Slot) (hs : z_H E A s σ H locs) (hl : lv_has ls 2 [(0, .ref (z_ad E (30, 0, 0))), (1, .int x1)]) (hf : fX_image_31 bl x1 σ = some (ro, σo)) : W p l e R s m args below meth c H locs cells slots (MQ below (z_QI E ro σo A) args s cells slots A) (F0 m 31 ls []) := by
  have hx := C.1
  have hb := C.2.1
  unfold fX_image_31 at hf
  refine lv_aload_n hx hb dX8_image_31 rfl (lv_at hl 0 rfl) ?_
  refine zg_X_boxes C hs (hB 30 (by decide) (by decide)) z_k344 dX8_image_32 ?_
  refine lv_iload_n hx hb dX8_image_35 rfl (lv_at hl 1 rfl) ?_
  obtain ⟨g5, hf⟩ := z_gd hf
  by_cases c6 : bl x1.toNatClampNeg = true
  · have hf := z_t hf c6
    refine z_aald C hs (hB 36 (by decide) (by decide)) (z_c36 E _ _ _ _) (t0 := 6) rfl g5 (v := .ref (z_ad E (0, x1.toNatClampNeg + 1, 0))) (by rw [((hBl _ (z_in_lt g5)).1 c6).1]; rfl) dX8_image_36 ?_
    refine lv_aload_n hx hb dX8_image_37 rfl (lv_at hl 0 rfl) ?_
    refine zg_X_world C hs (hB 30 (by decide) (by decide)) z_k343 dX8_image_38 ?_
    obtain ⟨r7, σ7, h_7, hf⟩ := z_bds hf
    refine zr_goV C hs (zr_runV C hs hl.1 (cW_copyFrom l E ((hBl _ (z_in_lt g5)).1 c6).2 hW0 h_7) zcV_RX8_227 (((hBl _ (z_in_lt g5)).1 c6).2.1 0 (by decide)) (z_c0 E _ _ _ _) rfl rfl rfl (z_bigR hR1 hR2 (by decide) (by decide)) hcs (Nat.le_of_ble_eq_true rfl) dX8_image_41) (fun H locs hs _ _ => ?_)
    refine lv_aload_n hx hb dX8_image_44 rfl (lv_at hl 0 rfl) ?_
    refine zg_X_kept C hs (hB 30 (by decide) (by decide)) z_k345 dX8_image_45 ?_
    refine lv_iload_n hx hb dX8_image_48 rfl (lv_at hl 1 rfl) ?_
    refine lv_iconst (v := 1) hx hb dX8_image_49 (by decide) ?_
    obtain ⟨g8, hf⟩ := z_gd hf
    refine z_zast C hs (hB 37 (by decide) (by decide)) (fun r h => z_c37 E r h _ _) g8 rfl dX8_image_50 (fun H locs hs => ?_)
    obtain ⟨σ9, -, hs, hf⟩ := z_top hs hf
    refine lv_aload_n hx hb dX8_image_51 rfl (lv_at hl 0 rfl) ?_
    refine zg_X_world C hs (hB 30 (by decide) (by decide)) z_k343 dX8_image_52 ?_
    refine zg_W_post C hs (hW0.1 0 (by decide)) z_k284 dX8_image_55 ?_
    obtain ⟨r10, σ10, h_10, hf⟩ := z_bds hf
    refine zr_goI C hs (zr_runV C hs hl.1 (cP_countFull l E hW0 h_10) zcV_RX8_230 (hW0.1 2 (by decide)) (z_c2 E _ _ _ _) rfl rfl rfl (z_bigR hR1 hR2 (by decide) (by decide)) hcs (Nat.le_of_ble_eq_true rfl) dX8_image_58) (fun H locs hs _ _ => ?_)
    exact zr_reti C hr hs hf dX8_image_61
  · have hf := z_f hf c6
    refine z_aald C hs (hB 36 (by decide) (by decide)) (z_c36 E _ _ _ _) (t0 := 6) rfl g5 (v := .null) (by rw [(hBl _ (z_in_lt g5)).2 (z_nt c6)]; rfl) dX8_image_36 ?_
    refine lv_aload_n hx hb dX8_image_37 rfl (lv_at hl 0 rfl) ?_
    refine zg_X_world C hs (hB 30 (by decide) (by decide)) z_k343 dX8_image_38 ?_
    cases hf
set_option maxHeartbeats 4000000 in
set_option maxRecDepth 20000 in
theorem wX_image {bl : Nat → Bool} {x1 : Int32} (C : z_C E RX8 cX8_image 2 A p s m args meth c) (hr : meth.sig.returnType = (some .int)) (hB : z_B E) (hW0 : z_W E 0) (hBl : z_Bl E bl) (hR1 : 12 ≤ R.frames) (hR2 : 720 ≤ R.locals) (hcs : cells ≤ R.cells ∧ slots ≤ R.slots) {ro : Int32} {σo : zS} (σ : zS) (H : Heap) (locs : List Loc) (ls : Array Slot) (hs : z_H E A s σ H locs) (hl : lv_has ls 2 [(0, .ref (z_ad E (30, 0, 0))), (1, .int x1)]) (hf : fX_image bl x1 σ = some (ro, σo)) : W p l e R s m args below meth c H locs cells slots (MQ below (z_QI E ro σo A) args s cells slots A) (F0 m 0 ls []) := by
  have hx := C.1
  have hb := C.2.1
  unfold fX_image at hf
  refine lv_iload_n hx hb dX8_image_0 rfl (lv_at hl 1 rfl) ?_
  obtain ⟨r1, σ1, h_1, hf⟩ := z_bds hf
  refine zr_goI C hs (zr_runS C hs hl.1 (cX_isBox l E h_1) zcS_RX8_224 rfl rfl (z_bigR hR1 hR2 (by decide) (by decide)) hcs (Nat.le_of_ble_eq_true rfl) dX8_image_1) (fun H locs hs _ _ => ?_)
  refine lv_if_ne (tgt := 9) hx hb dX8_image_4 (by decide) (fun c2 => ?_) (fun c2 => ?_)
  · have hf := z_f hf c2
    refine lv_aload_n hx hb dX8_image_9 rfl (lv_at hl 0 rfl) ?_
    refine zg_X_boxes C hs (hB 30 (by decide) (by decide)) z_k344 dX8_image_10 ?_
    refine lv_iload_n hx hb dX8_image_13 rfl (lv_at hl 1 rfl) ?_
    obtain ⟨g3, hf⟩ := z_gd hf
    by_cases c4 : bl x1.toNatClampNeg = true
    · have hf := z_t hf c4
      refine z_aald C hs (hB 36 (by decide) (by decide)) (z_c36 E _ _ _ _) (t0 := 6) rfl g3 (v := .ref (z_ad E (0, x1.toNatClampNeg + 1, 0))) (by rw [((hBl _ (z_in_lt g3)).1 c4).1]; rfl) dX8_image_14 ?_
      refine lv_ifnonnull (tgt := 31) hx hb dX8_image_15 (by decide) ?_
      exact wX_image_31 C hr hB hW0 hBl hR1 hR2 hcs x1 σ1 _ _ _ hs (lv_sub hl [0, 1] rfl) hf
    · have hf := z_f hf c4
      refine z_aald C hs (hB 36 (by decide) (by decide)) (z_c36 E _ _ _ _) (t0 := 6) rfl g3 (v := .null) (by rw [(hBl _ (z_in_lt g3)).2 (z_nt c4)]; rfl) dX8_image_14 ?_
      cases hf
  · have hf := z_t hf c2
    refine lv_iconst (v := (-1)) hx hb dX8_image_7 (by decide) ?_
    exact zr_reti C hr hs hf dX8_image_8
theorem cX_image (l : Launch) (E : zE) {bl : Nat → Bool} {x1 : Int32} (hB : z_B E) (hW0 : z_W E 0) (hBl : z_Bl E bl) {σ σo : zS} {ro : Int32} (hf : fX_image bl x1 σ = some (ro, σo)) : z_T l E yX8_image cX8_image 2 (some .int) (z_rm 12) (z_QI E ro σo) [.ref (z_ad E (30, 0, 0)), .int x1] σ :=
  z_enter (by decide) (Nat.le_of_ble_eq_true rfl) rfl (fun p e s m below meth c A ls C hr hs hl => wX_image C hr hB hW0 hBl (by decide) (by decide) ⟨Nat.le_refl _, Nat.le_refl _⟩ σ _ _ ls hs hl hf)
end z_walksb
