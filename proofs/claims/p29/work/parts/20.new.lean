theorem z_cOI : Cond.code objectInit ⟨#[0xb1]⟩ 1 none ∈ z_wl := z_mem 25 (by decide +kernel)
def z_rmc (k mc ms : Nat) : Room := { frames := k, cells := mc, slots := ms, locals := 60 * k }
def zu_S (E : zE) (f : Nat → Nat) : va_W := [(f 0, .inr (5, [.ref (f 1)])), (f 1, .inl (z_cy E 0, 20, .inl (fun _ => 0)))]
def zu_K (E : zE) (f : Nat → Nat) : va_W := [(f 0, .inr (1, [.int 0, .int 0, .int 0, .int 0, .int 0, .int 0, .int 0, .int 0, .int 0, .int 0, .int 0, .ref (f 1), .ref (f 2), .ref (f 4), .ref (f 6), .ref (f 7), .ref (f 8), .ref (f 9)])), (f 1, .inl (z_cy E 0, 240, .inl (fun _ => 0))), (f 2, .inr (5, [.ref (f 3)])), (f 3, .inl (z_cy E 0, 20, .inl (fun _ => 0))), (f 4, .inr (5, [.ref (f 5)])), (f 5, .inl (z_cy E 0, 20, .inl (fun _ => 0))), (f 6, .inl (z_cy E 0, 7, .inl (fun _ => 0))), (f 7, .inl (z_cy E 0, 7, .inl (fun _ => 0))), (f 8, .inl (z_cy E 0, 7, .inl (fun _ => 0))), (f 9, .inl (z_cy E 0, 7, .inl (fun _ => 0)))]
def zu_L (E : zE) (f : Nat → Nat) : va_W := [(f 0, .inr (2, [.int (-1), .int 0, .int 0, .int 0, .int 0, .int 0, .int 0, .int 0, .int 0, .int 0, .ref (f 1), .ref (f 2)])), (f 1, .inl (z_cy E 0, 30, .inl (fun _ => 0))), (f 2, .inr (5, [.ref (f 3)])), (f 3, .inl (z_cy E 0, 20, .inl (fun _ => 0)))]
def zu_R (E : zE) (f : Nat → Nat) : va_W := [(f 0, .inr (4, [.ref (f 1), .ref (f 2), .ref (f 3), .ref (f 4), .int 0])), (f 1, .inl (z_cy E 0, 40, .inl (fun _ => 0))), (f 2, .inl (z_cy E 0, 40, .inl (fun _ => 0))), (f 3, .inl (z_cy E 0, 40, .inl (fun _ => 0))), (f 4, .inl (z_cy E 0, 40, .inl (fun _ => 0)))]
def zu_T (E : zE) (f : Nat → Nat) : va_W := [(f 0, .inr (6, [.ref (f 1), .ref (f 2), .ref (f 3), .ref (f 4), .int 0, .int 0, .int 0, .int (-1), .int 0, .int 0])), (f 1, .inl (z_cy E 1, 400, .inl (fun _ => 0))), (f 2, .inl (z_cy E 0, 7, .inl (fun _ => 0))), (f 3, .inl (z_cy E 0, 7, .inl (fun _ => 0))), (f 4, .inl (z_cy E 2, 7, .inl (fun _ => 0)))]
def zu_H (E : zE) (f : Nat → Nat) : va_W := [(f 0, .inr (0, [.ref (f 1), .ref (f 2), .ref (f 3), .ref (f 4), .ref (f 5), .ref (f 6), .ref (f 7), .int 0, .int 0, .int 0])), (f 1, .inl (z_cy E 0, 9, .inl (fun _ => 0))), (f 2, .inl (z_cy E 0, 9, .inl (fun _ => 0))), (f 3, .inl (z_cy E 0, 9, .inl (fun _ => 0))), (f 4, .inl (z_cy E 0, 9, .inl (fun _ => 0))), (f 5, .inl (z_cy E 0, 9, .inl (fun _ => 0))), (f 6, .inl (z_cy E 0, 9, .inl (fun _ => 0))), (f 7, .inl (z_cy E 0, 512, .inl (fun _ => 0)))]
theorem zd_X0 : ∀ j, j < 10 → defaultValue (tyX0 j) = vp_V [.null, .null, .null, .null, .null, .null, .null, .int 0, .int 0, .int 0] j := fun j hj => by rcases (show j = 0 ∨ j = 1 ∨ j = 2 ∨ j = 3 ∨ j = 4 ∨ j = 5 ∨ j = 6 ∨ j = 7 ∨ j = 8 ∨ j = 9 by omega) with rfl | rfl | rfl | rfl | rfl | rfl | rfl | rfl | rfl | rfl <;> rfl
theorem zd_X1 : ∀ j, j < 18 → defaultValue (tyX1 j) = vp_V [.int 0, .int 0, .int 0, .int 0, .int 0, .int 0, .int 0, .int 0, .int 0, .int 0, .int 0, .null, .null, .null, .null, .null, .null, .null] j := fun j hj => by rcases (show j = 0 ∨ j = 1 ∨ j = 2 ∨ j = 3 ∨ j = 4 ∨ j = 5 ∨ j = 6 ∨ j = 7 ∨ j = 8 ∨ j = 9 ∨ j = 10 ∨ j = 11 ∨ j = 12 ∨ j = 13 ∨ j = 14 ∨ j = 15 ∨ j = 16 ∨ j = 17 by omega) with rfl | rfl | rfl | rfl | rfl | rfl | rfl | rfl | rfl | rfl | rfl | rfl | rfl | rfl | rfl | rfl | rfl | rfl <;> rfl
theorem zd_X2 : ∀ j, j < 12 → defaultValue (tyX2 j) = vp_V [.int 0, .int 0, .int 0, .int 0, .int 0, .int 0, .int 0, .int 0, .int 0, .int 0, .null, .null] j := fun j hj => by rcases (show j = 0 ∨ j = 1 ∨ j = 2 ∨ j = 3 ∨ j = 4 ∨ j = 5 ∨ j = 6 ∨ j = 7 ∨ j = 8 ∨ j = 9 ∨ j = 10 ∨ j = 11 by omega) with rfl | rfl | rfl | rfl | rfl | rfl | rfl | rfl | rfl | rfl | rfl | rfl <;> rfl
theorem zd_X3 : ∀ j, j < 2 → defaultValue (tyX3 j) = vp_V [.null, .null] j := fun j hj => by rcases (show j = 0 ∨ j = 1 by omega) with rfl | rfl <;> rfl
theorem zd_X4 : ∀ j, j < 5 → defaultValue (tyX4 j) = vp_V [.null, .null, .null, .null, .int 0] j := fun j hj => by rcases (show j = 0 ∨ j = 1 ∨ j = 2 ∨ j = 3 ∨ j = 4 by omega) with rfl | rfl | rfl | rfl | rfl <;> rfl
theorem zd_X5 : ∀ j, j < 1 → defaultValue (tyX5 j) = vp_V [.null] j := fun j hj => by rcases (show j = 0 by omega) with rfl <;> rfl
theorem zd_X6 : ∀ j, j < 10 → defaultValue (tyX6 j) = vp_V [.null, .null, .null, .null, .int 0, .int 0, .int 0, .int 0, .int 0, .int 0] j := fun j hj => by rcases (show j = 0 ∨ j = 1 ∨ j = 2 ∨ j = 3 ∨ j = 4 ∨ j = 5 ∨ j = 6 ∨ j = 7 ∨ j = 8 ∨ j = 9 by omega) with rfl | rfl | rfl | rfl | rfl | rfl | rfl | rfl | rfl | rfl <;> rfl
theorem zd_X7 : ∀ j, j < 5 → defaultValue (tyX7 j) = vp_V [.null, .null, .null, .int 0, .int 0] j := fun j hj => by rcases (show j = 0 ∨ j = 1 ∨ j = 2 ∨ j = 3 ∨ j = 4 by omega) with rfl | rfl | rfl | rfl | rfl <;> rfl
theorem zd_X8 : ∀ j, j < 5 → defaultValue (tyX8 j) = vp_V [.null, .null, .null, .null, .null] j := fun j hj => by rcases (show j = 0 ∨ j = 1 ∨ j = 2 ∨ j = 3 ∨ j = 4 by omega) with rfl | rfl | rfl | rfl | rfl <;> rfl
theorem zd_X9 : ∀ j, j < 27 → defaultValue (tyX9 j) = vp_V [.null, .null, .null, .null, .null, .int 0, .int 0, .int 0, .int 0, .null, .null, .null, .int 0, .int 0, .int 0, .int 0, .int 0, .long 0, .null, .null, .null, .null, .null, .null, .null, .null, .int 0] j := fun j hj => by rcases (show j = 0 ∨ j = 1 ∨ j = 2 ∨ j = 3 ∨ j = 4 ∨ j = 5 ∨ j = 6 ∨ j = 7 ∨ j = 8 ∨ j = 9 ∨ j = 10 ∨ j = 11 ∨ j = 12 ∨ j = 13 ∨ j = 14 ∨ j = 15 ∨ j = 16 ∨ j = 17 ∨ j = 18 ∨ j = 19 ∨ j = 20 ∨ j = 21 ∨ j = 22 ∨ j = 23 ∨ j = 24 ∨ j = 25 ∨ j = 26 by omega) with rfl | rfl | rfl | rfl | rfl | rfl | rfl | rfl | rfl | rfl | rfl | rfl | rfl | rfl | rfl | rfl | rfl | rfl | rfl | rfl | rfl | rfl | rfl | rfl | rfl | rfl | rfl <;> rfl
set_option maxHeartbeats 4000000 in
set_option maxRecDepth 20000 in
theorem cn_S (l : Launch) (E : zE) : z_N l E yX5_init cX5_init 1 (z_rmc 1 1 20) 5 [.null] (zu_S E) 1 20 := by
  refine zn_enter (by decide) (by decide) (fun h0 p e s m below meth c A ls C hr hnm hs hl => ?_)
  have hx := C.1
  have hb := C.2.1
  refine lv_aload_n hx hb dX5_init_0 rfl (lv_at hl 0 rfl) ?_
  refine zn_objInit C hl.1 z_k89 z_k24 z_cOI (Nat.le_of_ble_eq_true rfl) (Nat.le_of_ble_eq_true rfl) dX5_init_1 ?_
  refine lv_aload_n hx hb dX5_init_4 rfl (lv_at hl 0 rfl) ?_
  refine lv_bipush (v := 20) hx hb dX5_init_5 (by decide) ?_
  refine zn_arr C hs z_aI rfl 0 rfl (fun _ h => by cases h) 20 (a0 := (20, .inl (fun _ => 0))) (fun _ => rfl) (by decide) (by decide +kernel) (by decide) (Nat.le_of_ble_eq_true rfl) (Nat.le_of_ble_eq_true rfl) dX5_init_7 (fun q0 H hs => ?_)
  obtain ⟨T_q0, eT_q0⟩ : ∃ T : va_W, T = [] ++ [(q0, .inl (z_cy E 0, 20, .inl (fun _ => 0)))] := ⟨_, rfl⟩
  have hs : zn_H E A s ((h0, .inr (5, [.null])) :: (T_q0)) H [] := by
    rw [eT_q0]
    exact hs
  refine zn_putFe C hnm hs rfl z_iX5 tyX5 tyX5_ok nmX5 0 (by decide) z_k90 (by decide +kernel) rfl (.array .int) (by decide +kernel) rfl rfl (Nat.le_of_ble_eq_true rfl) rfl dX5_init_9 (fun H locs hs => ?_)
  have hs : zn_H E A s ((h0, .inr (5, [.ref q0])) :: (T_q0)) H locs := hs
  rw [eT_q0] at hs
  exact zn_ret C hr hs (fun k => [h0, q0].getD k 0) rfl (fun q h => h) hs.2.1 dX5_init_12
set_option maxHeartbeats 4000000 in
set_option maxRecDepth 20000 in
theorem cn_K (l : Launch) (E : zE) : z_N l E yX1_init cX1_init 1 (z_rmc 2 9 310) 1 [.int 0, .int 0, .int 0, .int 0, .int 0, .int 0, .int 0, .int 0, .int 0, .int 0, .int 0, .null, .null, .null, .null, .null, .null, .null] (zu_K E) 9 310 := by
  refine zn_enter (by decide) (by decide) (fun h0 p e s m below meth c A ls C hr hnm hs hl => ?_)
  have hx := C.1
  have hb := C.2.1
  refine lv_aload_n hx hb dX1_init_0 rfl (lv_at hl 0 rfl) ?_
  refine zn_objInit C hl.1 z_k83 z_k24 z_cOI (Nat.le_of_ble_eq_true rfl) (Nat.le_of_ble_eq_true rfl) dX1_init_1 ?_
  refine lv_aload_n hx hb dX1_init_4 rfl (lv_at hl 0 rfl) ?_
  refine lv_sipush (v := 240) hx hb dX1_init_5 (by decide) ?_
  refine zn_arr C hs z_aI rfl 0 rfl (fun _ h => by cases h) 240 (a0 := (240, .inl (fun _ => 0))) (fun _ => rfl) (by decide) (by decide +kernel) (by decide) (Nat.le_of_ble_eq_true rfl) (Nat.le_of_ble_eq_true rfl) dX1_init_8 (fun q0 H hs => ?_)
  obtain ⟨T_q0, eT_q0⟩ : ∃ T : va_W, T = [] ++ [(q0, .inl (z_cy E 0, 240, .inl (fun _ => 0)))] := ⟨_, rfl⟩
  have hs : zn_H E A s ((h0, .inr (1, [.int 0, .int 0, .int 0, .int 0, .int 0, .int 0, .int 0, .int 0, .int 0, .int 0, .int 0, .null, .null, .null, .null, .null, .null, .null])) :: (T_q0)) H [] := by
    rw [eT_q0]
    exact hs
  refine zn_putFe C hnm hs rfl z_iX1 tyX1 tyX1_ok nmX1 11 (by decide) z_k122 (by decide +kernel) rfl (.array .int) (by decide +kernel) rfl rfl (Nat.le_of_ble_eq_true rfl) rfl dX1_init_10 (fun H locs hs => ?_)
  have hs : zn_H E A s ((h0, .inr (1, [.int 0, .int 0, .int 0, .int 0, .int 0, .int 0, .int 0, .int 0, .int 0, .int 0, .int 0, .ref q0, .null, .null, .null, .null, .null, .null])) :: (T_q0)) H locs := hs
  refine lv_aload_n hx hb dX1_init_13 rfl (lv_at hl 0 rfl) ?_
  refine zn_new C hs z_iX5 tyX5 tyX5_ok z_k84 z_k85 z_k5 (ci := 5) rfl zd_X5 (Nat.le_of_ble_eq_true rfl) (Nat.le_of_ble_eq_true rfl) dX1_init_14 dX1_init_17 (fun q1 H hs => ?_)
  refine zn_callN C hl.1 (cn_S l E) hs ⟨rfl, rfl⟩ z_n86 z_k87 z_k5 z_k88 (by decide +kernel) ⟨(Nat.le_of_ble_eq_true rfl), (Nat.le_of_ble_eq_true rfl)⟩ (Nat.le_of_ble_eq_true rfl) ⟨(Nat.le_of_ble_eq_true rfl), (Nat.le_of_ble_eq_true rfl)⟩ dX1_init_18 (fun f2 H locs hq_2 hsN => ?_)
  subst hq_2
  have hs : zn_H E A s ((h0, .inr (1, [.int 0, .int 0, .int 0, .int 0, .int 0, .int 0, .int 0, .int 0, .int 0, .int 0, .int 0, .ref q0, .null, .null, .null, .null, .null, .null])) :: (T_q0 ++ zu_S E f2)) H locs := hsN
  refine zn_putFe C hnm hs rfl z_iX1 tyX1 tyX1_ok nmX1 12 (by decide) z_k125 (by decide +kernel) rfl (.object "LogKeepers$State") (by decide +kernel) rfl rfl (Nat.le_of_ble_eq_true rfl) rfl dX1_init_21 (fun H locs hs => ?_)
  have hs : zn_H E A s ((h0, .inr (1, [.int 0, .int 0, .int 0, .int 0, .int 0, .int 0, .int 0, .int 0, .int 0, .int 0, .int 0, .ref q0, .ref (f2 0), .null, .null, .null, .null, .null])) :: (T_q0 ++ zu_S E f2)) H locs := hs
  refine lv_aload_n hx hb dX1_init_24 rfl (lv_at hl 0 rfl) ?_
  refine zn_new C hs z_iX5 tyX5 tyX5_ok z_k84 z_k85 z_k5 (ci := 5) rfl zd_X5 (Nat.le_of_ble_eq_true rfl) (Nat.le_of_ble_eq_true rfl) dX1_init_25 dX1_init_28 (fun q3 H hs => ?_)
  refine zn_callN C hl.1 (cn_S l E) hs ⟨rfl, rfl⟩ z_n86 z_k87 z_k5 z_k88 (by decide +kernel) ⟨(Nat.le_of_ble_eq_true rfl), (Nat.le_of_ble_eq_true rfl)⟩ (Nat.le_of_ble_eq_true rfl) ⟨(Nat.le_of_ble_eq_true rfl), (Nat.le_of_ble_eq_true rfl)⟩ dX1_init_29 (fun f4 H locs hq_4 hsN => ?_)
  subst hq_4
  have hs : zn_H E A s ((h0, .inr (1, [.int 0, .int 0, .int 0, .int 0, .int 0, .int 0, .int 0, .int 0, .int 0, .int 0, .int 0, .ref q0, .ref (f2 0), .null, .null, .null, .null, .null])) :: ((T_q0 ++ zu_S E f2) ++ zu_S E f4)) H locs := hsN
  refine zn_putFe C hnm hs rfl z_iX1 tyX1 tyX1_ok nmX1 13 (by decide) z_k127 (by decide +kernel) rfl (.object "LogKeepers$State") (by decide +kernel) rfl rfl (Nat.le_of_ble_eq_true rfl) rfl dX1_init_32 (fun H locs hs => ?_)
  have hs : zn_H E A s ((h0, .inr (1, [.int 0, .int 0, .int 0, .int 0, .int 0, .int 0, .int 0, .int 0, .int 0, .int 0, .int 0, .ref q0, .ref (f2 0), .ref (f4 0), .null, .null, .null, .null])) :: ((T_q0 ++ zu_S E f2) ++ zu_S E f4)) H locs := hs
  refine lv_aload_n hx hb dX1_init_35 rfl (lv_at hl 0 rfl) ?_
  refine lv_bipush (v := 7) hx hb dX1_init_36 (by decide) ?_
  refine zn_arr C hs z_aI rfl 0 rfl (fun _ h => by cases h) 7 (a0 := (7, .inl (fun _ => 0))) (fun _ => rfl) (by decide) (by decide +kernel) (by decide) (Nat.le_of_ble_eq_true rfl) (Nat.le_of_ble_eq_true rfl) dX1_init_38 (fun q5 H hs => ?_)
  obtain ⟨T_q5, eT_q5⟩ : ∃ T : va_W, T = ((T_q0 ++ zu_S E f2) ++ zu_S E f4) ++ [(q5, .inl (z_cy E 0, 7, .inl (fun _ => 0)))] := ⟨_, rfl⟩
  have hs : zn_H E A s ((h0, .inr (1, [.int 0, .int 0, .int 0, .int 0, .int 0, .int 0, .int 0, .int 0, .int 0, .int 0, .int 0, .ref q0, .ref (f2 0), .ref (f4 0), .null, .null, .null, .null])) :: (T_q5)) H locs := by
    rw [eT_q5]
    exact hs
  refine zn_putFe C hnm hs rfl z_iX1 tyX1 tyX1_ok nmX1 14 (by decide) z_k130 (by decide +kernel) rfl (.array .int) (by decide +kernel) rfl rfl (Nat.le_of_ble_eq_true rfl) rfl dX1_init_40 (fun H locs hs => ?_)
  have hs : zn_H E A s ((h0, .inr (1, [.int 0, .int 0, .int 0, .int 0, .int 0, .int 0, .int 0, .int 0, .int 0, .int 0, .int 0, .ref q0, .ref (f2 0), .ref (f4 0), .ref q5, .null, .null, .null])) :: (T_q5)) H locs := hs
  refine lv_aload_n hx hb dX1_init_43 rfl (lv_at hl 0 rfl) ?_
  refine lv_bipush (v := 7) hx hb dX1_init_44 (by decide) ?_
  refine zn_arr C hs z_aI rfl 0 rfl (fun _ h => by cases h) 7 (a0 := (7, .inl (fun _ => 0))) (fun _ => rfl) (by decide) (by decide +kernel) (by decide) (Nat.le_of_ble_eq_true rfl) (Nat.le_of_ble_eq_true rfl) dX1_init_46 (fun q6 H hs => ?_)
  obtain ⟨T_q6, eT_q6⟩ : ∃ T : va_W, T = T_q5 ++ [(q6, .inl (z_cy E 0, 7, .inl (fun _ => 0)))] := ⟨_, rfl⟩
  have hs : zn_H E A s ((h0, .inr (1, [.int 0, .int 0, .int 0, .int 0, .int 0, .int 0, .int 0, .int 0, .int 0, .int 0, .int 0, .ref q0, .ref (f2 0), .ref (f4 0), .ref q5, .null, .null, .null])) :: (T_q6)) H locs := by
    rw [eT_q6]
    exact hs
  refine zn_putFe C hnm hs rfl z_iX1 tyX1 tyX1_ok nmX1 15 (by decide) z_k133 (by decide +kernel) rfl (.array .int) (by decide +kernel) rfl rfl (Nat.le_of_ble_eq_true rfl) rfl dX1_init_48 (fun H locs hs => ?_)
  have hs : zn_H E A s ((h0, .inr (1, [.int 0, .int 0, .int 0, .int 0, .int 0, .int 0, .int 0, .int 0, .int 0, .int 0, .int 0, .ref q0, .ref (f2 0), .ref (f4 0), .ref q5, .ref q6, .null, .null])) :: (T_q6)) H locs := hs
  refine lv_aload_n hx hb dX1_init_51 rfl (lv_at hl 0 rfl) ?_
  refine lv_bipush (v := 7) hx hb dX1_init_52 (by decide) ?_
  refine zn_arr C hs z_aI rfl 0 rfl (fun _ h => by cases h) 7 (a0 := (7, .inl (fun _ => 0))) (fun _ => rfl) (by decide) (by decide +kernel) (by decide) (Nat.le_of_ble_eq_true rfl) (Nat.le_of_ble_eq_true rfl) dX1_init_54 (fun q7 H hs => ?_)
  obtain ⟨T_q7, eT_q7⟩ : ∃ T : va_W, T = T_q6 ++ [(q7, .inl (z_cy E 0, 7, .inl (fun _ => 0)))] := ⟨_, rfl⟩
  have hs : zn_H E A s ((h0, .inr (1, [.int 0, .int 0, .int 0, .int 0, .int 0, .int 0, .int 0, .int 0, .int 0, .int 0, .int 0, .ref q0, .ref (f2 0), .ref (f4 0), .ref q5, .ref q6, .null, .null])) :: (T_q7)) H locs := by
    rw [eT_q7]
    exact hs
  refine zn_putFe C hnm hs rfl z_iX1 tyX1 tyX1_ok nmX1 16 (by decide) z_k136 (by decide +kernel) rfl (.array .int) (by decide +kernel) rfl rfl (Nat.le_of_ble_eq_true rfl) rfl dX1_init_56 (fun H locs hs => ?_)
  have hs : zn_H E A s ((h0, .inr (1, [.int 0, .int 0, .int 0, .int 0, .int 0, .int 0, .int 0, .int 0, .int 0, .int 0, .int 0, .ref q0, .ref (f2 0), .ref (f4 0), .ref q5, .ref q6, .ref q7, .null])) :: (T_q7)) H locs := hs
  refine lv_aload_n hx hb dX1_init_59 rfl (lv_at hl 0 rfl) ?_
  refine lv_bipush (v := 7) hx hb dX1_init_60 (by decide) ?_
  refine zn_arr C hs z_aI rfl 0 rfl (fun _ h => by cases h) 7 (a0 := (7, .inl (fun _ => 0))) (fun _ => rfl) (by decide) (by decide +kernel) (by decide) (Nat.le_of_ble_eq_true rfl) (Nat.le_of_ble_eq_true rfl) dX1_init_62 (fun q8 H hs => ?_)
  obtain ⟨T_q8, eT_q8⟩ : ∃ T : va_W, T = T_q7 ++ [(q8, .inl (z_cy E 0, 7, .inl (fun _ => 0)))] := ⟨_, rfl⟩
  have hs : zn_H E A s ((h0, .inr (1, [.int 0, .int 0, .int 0, .int 0, .int 0, .int 0, .int 0, .int 0, .int 0, .int 0, .int 0, .ref q0, .ref (f2 0), .ref (f4 0), .ref q5, .ref q6, .ref q7, .null])) :: (T_q8)) H locs := by
    rw [eT_q8]
    exact hs
  refine zn_putFe C hnm hs rfl z_iX1 tyX1 tyX1_ok nmX1 17 (by decide) z_k139 (by decide +kernel) rfl (.array .int) (by decide +kernel) rfl rfl (Nat.le_of_ble_eq_true rfl) rfl dX1_init_64 (fun H locs hs => ?_)
  have hs : zn_H E A s ((h0, .inr (1, [.int 0, .int 0, .int 0, .int 0, .int 0, .int 0, .int 0, .int 0, .int 0, .int 0, .int 0, .ref q0, .ref (f2 0), .ref (f4 0), .ref q5, .ref q6, .ref q7, .ref q8])) :: (T_q8)) H locs := hs
  rw [eT_q8, eT_q7, eT_q6, eT_q5, eT_q0] at hs
  exact zn_ret C hr hs (fun k => [h0, q0, f2 0, f2 1, f4 0, f4 1, q5, q6, q7, q8].getD k 0) rfl (fun q h => h) hs.2.1 dX1_init_67
set_option maxHeartbeats 4000000 in
set_option maxRecDepth 20000 in
theorem cn_L (l : Launch) (E : zE) : z_N l E yX2_init cX2_init 1 (z_rmc 2 3 51) 2 [.int 0, .int 0, .int 0, .int 0, .int 0, .int 0, .int 0, .int 0, .int 0, .int 0, .null, .null] (zu_L E) 3 51 := by
  refine zn_enter (by decide) (by decide) (fun h0 p e s m below meth c A ls C hr hnm hs hl => ?_)
  have hx := C.1
  have hb := C.2.1
  refine lv_aload_n hx hb dX2_init_0 rfl (lv_at hl 0 rfl) ?_
  refine zn_objInit C hl.1 z_k190 z_k24 z_cOI (Nat.le_of_ble_eq_true rfl) (Nat.le_of_ble_eq_true rfl) dX2_init_1 ?_
  refine lv_aload_n hx hb dX2_init_4 rfl (lv_at hl 0 rfl) ?_
  refine lv_iconst (v := (-1)) hx hb dX2_init_5 (by decide) ?_
  refine zn_putI C hs rfl z_iX2 tyX2 tyX2_ok nmX2 0 (by decide) z_k193 rfl rfl rfl (Nat.le_of_ble_eq_true rfl) rfl dX2_init_6 (fun H locs hs => ?_)
  have hs : zn_H E A s ((h0, .inr (2, [.int (-1), .int 0, .int 0, .int 0, .int 0, .int 0, .int 0, .int 0, .int 0, .int 0, .null, .null])) :: []) H locs := hs
  refine lv_aload_n hx hb dX2_init_9 rfl (lv_at hl 0 rfl) ?_
  refine lv_bipush (v := 30) hx hb dX2_init_10 (by decide) ?_
  refine zn_arr C hs z_aI rfl 0 rfl (fun _ h => by cases h) 30 (a0 := (30, .inl (fun _ => 0))) (fun _ => rfl) (by decide) (by decide +kernel) (by decide) (Nat.le_of_ble_eq_true rfl) (Nat.le_of_ble_eq_true rfl) dX2_init_12 (fun q0 H hs => ?_)
  obtain ⟨T_q0, eT_q0⟩ : ∃ T : va_W, T = [] ++ [(q0, .inl (z_cy E 0, 30, .inl (fun _ => 0)))] := ⟨_, rfl⟩
  have hs : zn_H E A s ((h0, .inr (2, [.int (-1), .int 0, .int 0, .int 0, .int 0, .int 0, .int 0, .int 0, .int 0, .int 0, .null, .null])) :: (T_q0)) H locs := by
    rw [eT_q0]
    exact hs
  refine zn_putFe C hnm hs rfl z_iX2 tyX2 tyX2_ok nmX2 10 (by decide) z_k215 (by decide +kernel) rfl (.array .int) (by decide +kernel) rfl rfl (Nat.le_of_ble_eq_true rfl) rfl dX2_init_14 (fun H locs hs => ?_)
  have hs : zn_H E A s ((h0, .inr (2, [.int (-1), .int 0, .int 0, .int 0, .int 0, .int 0, .int 0, .int 0, .int 0, .int 0, .ref q0, .null])) :: (T_q0)) H locs := hs
  refine lv_aload_n hx hb dX2_init_17 rfl (lv_at hl 0 rfl) ?_
  refine zn_new C hs z_iX5 tyX5 tyX5_ok z_k191 z_k85 z_k5 (ci := 5) rfl zd_X5 (Nat.le_of_ble_eq_true rfl) (Nat.le_of_ble_eq_true rfl) dX2_init_18 dX2_init_21 (fun q1 H hs => ?_)
  refine zn_callN C hl.1 (cn_S l E) hs ⟨rfl, rfl⟩ z_n192 z_k87 z_k5 z_k88 (by decide +kernel) ⟨(Nat.le_of_ble_eq_true rfl), (Nat.le_of_ble_eq_true rfl)⟩ (Nat.le_of_ble_eq_true rfl) ⟨(Nat.le_of_ble_eq_true rfl), (Nat.le_of_ble_eq_true rfl)⟩ dX2_init_22 (fun f2 H locs hq_2 hsN => ?_)
  subst hq_2
  have hs : zn_H E A s ((h0, .inr (2, [.int (-1), .int 0, .int 0, .int 0, .int 0, .int 0, .int 0, .int 0, .int 0, .int 0, .ref q0, .null])) :: (T_q0 ++ zu_S E f2)) H locs := hsN
  refine zn_putFe C hnm hs rfl z_iX2 tyX2 tyX2_ok nmX2 11 (by decide) z_k217 (by decide +kernel) rfl (.object "LogKeepers$State") (by decide +kernel) rfl rfl (Nat.le_of_ble_eq_true rfl) rfl dX2_init_25 (fun H locs hs => ?_)
  have hs : zn_H E A s ((h0, .inr (2, [.int (-1), .int 0, .int 0, .int 0, .int 0, .int 0, .int 0, .int 0, .int 0, .int 0, .ref q0, .ref (f2 0)])) :: (T_q0 ++ zu_S E f2)) H locs := hs
  rw [eT_q0] at hs
  exact zn_ret C hr hs (fun k => [h0, q0, f2 0, f2 1].getD k 0) rfl (fun q h => h) hs.2.1 dX2_init_28
set_option maxHeartbeats 4000000 in
set_option maxRecDepth 20000 in
theorem cn_R (l : Launch) (E : zE) : z_N l E yX4_init cX4_init 1 (z_rmc 1 4 160) 4 [.null, .null, .null, .null, .int 0] (zu_R E) 4 160 := by
  refine zn_enter (by decide) (by decide) (fun h0 p e s m below meth c A ls C hr hnm hs hl => ?_)
  have hx := C.1
  have hb := C.2.1
  refine lv_aload_n hx hb dX4_init_0 rfl (lv_at hl 0 rfl) ?_
  refine zn_objInit C hl.1 z_k258 z_k24 z_cOI (Nat.le_of_ble_eq_true rfl) (Nat.le_of_ble_eq_true rfl) dX4_init_1 ?_
  refine lv_aload_n hx hb dX4_init_4 rfl (lv_at hl 0 rfl) ?_
  refine lv_bipush (v := 40) hx hb dX4_init_5 (by decide) ?_
  refine zn_arr C hs z_aI rfl 0 rfl (fun _ h => by cases h) 40 (a0 := (40, .inl (fun _ => 0))) (fun _ => rfl) (by decide) (by decide +kernel) (by decide) (Nat.le_of_ble_eq_true rfl) (Nat.le_of_ble_eq_true rfl) dX4_init_7 (fun q0 H hs => ?_)
  obtain ⟨T_q0, eT_q0⟩ : ∃ T : va_W, T = [] ++ [(q0, .inl (z_cy E 0, 40, .inl (fun _ => 0)))] := ⟨_, rfl⟩
  have hs : zn_H E A s ((h0, .inr (4, [.null, .null, .null, .null, .int 0])) :: (T_q0)) H [] := by
    rw [eT_q0]
    exact hs
  refine zn_putFe C hnm hs rfl z_iX4 tyX4 tyX4_ok nmX4 0 (by decide) z_k259 (by decide +kernel) rfl (.array .int) (by decide +kernel) rfl rfl (Nat.le_of_ble_eq_true rfl) rfl dX4_init_9 (fun H locs hs => ?_)
  have hs : zn_H E A s ((h0, .inr (4, [.ref q0, .null, .null, .null, .int 0])) :: (T_q0)) H locs := hs
  refine lv_aload_n hx hb dX4_init_12 rfl (lv_at hl 0 rfl) ?_
  refine lv_bipush (v := 40) hx hb dX4_init_13 (by decide) ?_
  refine zn_arr C hs z_aI rfl 0 rfl (fun _ h => by cases h) 40 (a0 := (40, .inl (fun _ => 0))) (fun _ => rfl) (by decide) (by decide +kernel) (by decide) (Nat.le_of_ble_eq_true rfl) (Nat.le_of_ble_eq_true rfl) dX4_init_15 (fun q1 H hs => ?_)
  obtain ⟨T_q1, eT_q1⟩ : ∃ T : va_W, T = T_q0 ++ [(q1, .inl (z_cy E 0, 40, .inl (fun _ => 0)))] := ⟨_, rfl⟩
  have hs : zn_H E A s ((h0, .inr (4, [.ref q0, .null, .null, .null, .int 0])) :: (T_q1)) H locs := by
    rw [eT_q1]
    exact hs
  refine zn_putFe C hnm hs rfl z_iX4 tyX4 tyX4_ok nmX4 1 (by decide) z_k261 (by decide +kernel) rfl (.array .int) (by decide +kernel) rfl rfl (Nat.le_of_ble_eq_true rfl) rfl dX4_init_17 (fun H locs hs => ?_)
  have hs : zn_H E A s ((h0, .inr (4, [.ref q0, .ref q1, .null, .null, .int 0])) :: (T_q1)) H locs := hs
  refine lv_aload_n hx hb dX4_init_20 rfl (lv_at hl 0 rfl) ?_
  refine lv_bipush (v := 40) hx hb dX4_init_21 (by decide) ?_
  refine zn_arr C hs z_aI rfl 0 rfl (fun _ h => by cases h) 40 (a0 := (40, .inl (fun _ => 0))) (fun _ => rfl) (by decide) (by decide +kernel) (by decide) (Nat.le_of_ble_eq_true rfl) (Nat.le_of_ble_eq_true rfl) dX4_init_23 (fun q2 H hs => ?_)
  obtain ⟨T_q2, eT_q2⟩ : ∃ T : va_W, T = T_q1 ++ [(q2, .inl (z_cy E 0, 40, .inl (fun _ => 0)))] := ⟨_, rfl⟩
  have hs : zn_H E A s ((h0, .inr (4, [.ref q0, .ref q1, .null, .null, .int 0])) :: (T_q2)) H locs := by
    rw [eT_q2]
    exact hs
  refine zn_putFe C hnm hs rfl z_iX4 tyX4 tyX4_ok nmX4 2 (by decide) z_k263 (by decide +kernel) rfl (.array .int) (by decide +kernel) rfl rfl (Nat.le_of_ble_eq_true rfl) rfl dX4_init_25 (fun H locs hs => ?_)
  have hs : zn_H E A s ((h0, .inr (4, [.ref q0, .ref q1, .ref q2, .null, .int 0])) :: (T_q2)) H locs := hs
  refine lv_aload_n hx hb dX4_init_28 rfl (lv_at hl 0 rfl) ?_
  refine lv_bipush (v := 40) hx hb dX4_init_29 (by decide) ?_
  refine zn_arr C hs z_aI rfl 0 rfl (fun _ h => by cases h) 40 (a0 := (40, .inl (fun _ => 0))) (fun _ => rfl) (by decide) (by decide +kernel) (by decide) (Nat.le_of_ble_eq_true rfl) (Nat.le_of_ble_eq_true rfl) dX4_init_31 (fun q3 H hs => ?_)
  obtain ⟨T_q3, eT_q3⟩ : ∃ T : va_W, T = T_q2 ++ [(q3, .inl (z_cy E 0, 40, .inl (fun _ => 0)))] := ⟨_, rfl⟩
  have hs : zn_H E A s ((h0, .inr (4, [.ref q0, .ref q1, .ref q2, .null, .int 0])) :: (T_q3)) H locs := by
    rw [eT_q3]
    exact hs
  refine zn_putFe C hnm hs rfl z_iX4 tyX4 tyX4_ok nmX4 3 (by decide) z_k265 (by decide +kernel) rfl (.array .int) (by decide +kernel) rfl rfl (Nat.le_of_ble_eq_true rfl) rfl dX4_init_33 (fun H locs hs => ?_)
  have hs : zn_H E A s ((h0, .inr (4, [.ref q0, .ref q1, .ref q2, .ref q3, .int 0])) :: (T_q3)) H locs := hs
  rw [eT_q3, eT_q2, eT_q1, eT_q0] at hs
  exact zn_ret C hr hs (fun k => [h0, q0, q1, q2, q3].getD k 0) rfl (fun q h => h) hs.2.1 dX4_init_36
set_option maxHeartbeats 4000000 in
set_option maxRecDepth 20000 in
theorem cn_T (l : Launch) (E : zE) : z_N l E yX6_init cX6_init 1 (z_rmc 1 4 421) 6 [.null, .null, .null, .null, .int 0, .int 0, .int 0, .int 0, .int 0, .int 0] (zu_T E) 4 421 := by
  refine zn_enter (by decide) (by decide) (fun h0 p e s m below meth c A ls C hr hnm hs hl => ?_)
  have hx := C.1
  have hb := C.2.1
  refine lv_aload_n hx hb dX6_init_0 rfl (lv_at hl 0 rfl) ?_
  refine zn_objInit C hl.1 z_k31 z_k24 z_cOI (Nat.le_of_ble_eq_true rfl) (Nat.le_of_ble_eq_true rfl) dX6_init_1 ?_
  refine lv_aload_n hx hb dX6_init_4 rfl (lv_at hl 0 rfl) ?_
  refine lv_sipush (v := 400) hx hb dX6_init_5 (by decide) ?_
  refine zn_arr C hs z_aB rfl 1 rfl (fun _ h => by cases h) 400 (a0 := (400, .inl (fun _ => 0))) (fun _ => rfl) (by decide) (by decide +kernel) (by decide) (Nat.le_of_ble_eq_true rfl) (Nat.le_of_ble_eq_true rfl) dX6_init_8 (fun q0 H hs => ?_)
  obtain ⟨T_q0, eT_q0⟩ : ∃ T : va_W, T = [] ++ [(q0, .inl (z_cy E 1, 400, .inl (fun _ => 0)))] := ⟨_, rfl⟩
  have hs : zn_H E A s ((h0, .inr (6, [.null, .null, .null, .null, .int 0, .int 0, .int 0, .int 0, .int 0, .int 0])) :: (T_q0)) H [] := by
    rw [eT_q0]
    exact hs
  refine zn_putFe C hnm hs rfl z_iX6 tyX6 tyX6_ok nmX6 0 (by decide) z_k32 (by decide +kernel) rfl (.array .byte) (by decide +kernel) rfl rfl (Nat.le_of_ble_eq_true rfl) rfl dX6_init_10 (fun H locs hs => ?_)
  have hs : zn_H E A s ((h0, .inr (6, [.ref q0, .null, .null, .null, .int 0, .int 0, .int 0, .int 0, .int 0, .int 0])) :: (T_q0)) H locs := hs
  refine lv_aload_n hx hb dX6_init_13 rfl (lv_at hl 0 rfl) ?_
  refine lv_bipush (v := 7) hx hb dX6_init_14 (by decide) ?_
  refine zn_arr C hs z_aI rfl 0 rfl (fun _ h => by cases h) 7 (a0 := (7, .inl (fun _ => 0))) (fun _ => rfl) (by decide) (by decide +kernel) (by decide) (Nat.le_of_ble_eq_true rfl) (Nat.le_of_ble_eq_true rfl) dX6_init_16 (fun q1 H hs => ?_)
  obtain ⟨T_q1, eT_q1⟩ : ∃ T : va_W, T = T_q0 ++ [(q1, .inl (z_cy E 0, 7, .inl (fun _ => 0)))] := ⟨_, rfl⟩
  have hs : zn_H E A s ((h0, .inr (6, [.ref q0, .null, .null, .null, .int 0, .int 0, .int 0, .int 0, .int 0, .int 0])) :: (T_q1)) H locs := by
    rw [eT_q1]
    exact hs
  refine zn_putFe C hnm hs rfl z_iX6 tyX6 tyX6_ok nmX6 1 (by decide) z_k33 (by decide +kernel) rfl (.array .int) (by decide +kernel) rfl rfl (Nat.le_of_ble_eq_true rfl) rfl dX6_init_18 (fun H locs hs => ?_)
  have hs : zn_H E A s ((h0, .inr (6, [.ref q0, .ref q1, .null, .null, .int 0, .int 0, .int 0, .int 0, .int 0, .int 0])) :: (T_q1)) H locs := hs
  refine lv_aload_n hx hb dX6_init_21 rfl (lv_at hl 0 rfl) ?_
  refine lv_bipush (v := 7) hx hb dX6_init_22 (by decide) ?_
  refine zn_arr C hs z_aI rfl 0 rfl (fun _ h => by cases h) 7 (a0 := (7, .inl (fun _ => 0))) (fun _ => rfl) (by decide) (by decide +kernel) (by decide) (Nat.le_of_ble_eq_true rfl) (Nat.le_of_ble_eq_true rfl) dX6_init_24 (fun q2 H hs => ?_)
  obtain ⟨T_q2, eT_q2⟩ : ∃ T : va_W, T = T_q1 ++ [(q2, .inl (z_cy E 0, 7, .inl (fun _ => 0)))] := ⟨_, rfl⟩
  have hs : zn_H E A s ((h0, .inr (6, [.ref q0, .ref q1, .null, .null, .int 0, .int 0, .int 0, .int 0, .int 0, .int 0])) :: (T_q2)) H locs := by
    rw [eT_q2]
    exact hs
  refine zn_putFe C hnm hs rfl z_iX6 tyX6 tyX6_ok nmX6 2 (by decide) z_k34 (by decide +kernel) rfl (.array .int) (by decide +kernel) rfl rfl (Nat.le_of_ble_eq_true rfl) rfl dX6_init_26 (fun H locs hs => ?_)
  have hs : zn_H E A s ((h0, .inr (6, [.ref q0, .ref q1, .ref q2, .null, .int 0, .int 0, .int 0, .int 0, .int 0, .int 0])) :: (T_q2)) H locs := hs
  refine lv_aload_n hx hb dX6_init_29 rfl (lv_at hl 0 rfl) ?_
  refine lv_bipush (v := 7) hx hb dX6_init_30 (by decide) ?_
  refine zn_arr C hs z_aZ rfl 2 rfl (fun _ h => by cases h) 7 (a0 := (7, .inl (fun _ => 0))) (fun _ => rfl) (by decide) (by decide +kernel) (by decide) (Nat.le_of_ble_eq_true rfl) (Nat.le_of_ble_eq_true rfl) dX6_init_32 (fun q3 H hs => ?_)
  obtain ⟨T_q3, eT_q3⟩ : ∃ T : va_W, T = T_q2 ++ [(q3, .inl (z_cy E 2, 7, .inl (fun _ => 0)))] := ⟨_, rfl⟩
  have hs : zn_H E A s ((h0, .inr (6, [.ref q0, .ref q1, .ref q2, .null, .int 0, .int 0, .int 0, .int 0, .int 0, .int 0])) :: (T_q3)) H locs := by
    rw [eT_q3]
    exact hs
  refine zn_putFe C hnm hs rfl z_iX6 tyX6 tyX6_ok nmX6 3 (by decide) z_k35 (by decide +kernel) rfl (.array .boolean) (by decide +kernel) rfl rfl (Nat.le_of_ble_eq_true rfl) rfl dX6_init_34 (fun H locs hs => ?_)
  have hs : zn_H E A s ((h0, .inr (6, [.ref q0, .ref q1, .ref q2, .ref q3, .int 0, .int 0, .int 0, .int 0, .int 0, .int 0])) :: (T_q3)) H locs := hs
  refine lv_aload_n hx hb dX6_init_37 rfl (lv_at hl 0 rfl) ?_
  refine lv_iconst (v := (-1)) hx hb dX6_init_38 (by decide) ?_
  refine zn_putI C hs rfl z_iX6 tyX6 tyX6_ok nmX6 7 (by decide) z_k43 rfl rfl rfl (Nat.le_of_ble_eq_true rfl) rfl dX6_init_39 (fun H locs hs => ?_)
  have hs : zn_H E A s ((h0, .inr (6, [.ref q0, .ref q1, .ref q2, .ref q3, .int 0, .int 0, .int 0, .int (-1), .int 0, .int 0])) :: (T_q3)) H locs := hs
  rw [eT_q3, eT_q2, eT_q1, eT_q0] at hs
  exact zn_ret C hr hs (fun k => [h0, q0, q1, q2, q3].getD k 0) rfl (fun q h => h) hs.2.1 dX6_init_42
set_option maxHeartbeats 4000000 in
set_option maxRecDepth 20000 in
theorem cn_H (l : Launch) (E : zE) : z_N l E yX0_init cX0_init 1 (z_rmc 1 7 566) 0 [.null, .null, .null, .null, .null, .null, .null, .int 0, .int 0, .int 0] (zu_H E) 7 566 := by
  refine zn_enter (by decide) (by decide) (fun h0 p e s m below meth c A ls C hr hnm hs hl => ?_)
  have hx := C.1
  have hb := C.2.1
  refine lv_aload_n hx hb dX0_init_0 rfl (lv_at hl 0 rfl) ?_
  refine zn_objInit C hl.1 z_k308 z_k24 z_cOI (Nat.le_of_ble_eq_true rfl) (Nat.le_of_ble_eq_true rfl) dX0_init_1 ?_
  refine lv_aload_n hx hb dX0_init_4 rfl (lv_at hl 0 rfl) ?_
  refine lv_bipush (v := 9) hx hb dX0_init_5 (by decide) ?_
  refine zn_arr C hs z_aI rfl 0 rfl (fun _ h => by cases h) 9 (a0 := (9, .inl (fun _ => 0))) (fun _ => rfl) (by decide) (by decide +kernel) (by decide) (Nat.le_of_ble_eq_true rfl) (Nat.le_of_ble_eq_true rfl) dX0_init_7 (fun q0 H hs => ?_)
  obtain ⟨T_q0, eT_q0⟩ : ∃ T : va_W, T = [] ++ [(q0, .inl (z_cy E 0, 9, .inl (fun _ => 0)))] := ⟨_, rfl⟩
  have hs : zn_H E A s ((h0, .inr (0, [.null, .null, .null, .null, .null, .null, .null, .int 0, .int 0, .int 0])) :: (T_q0)) H [] := by
    rw [eT_q0]
    exact hs
  refine zn_putFe C hnm hs rfl z_iX0 tyX0 tyX0_ok nmX0 0 (by decide) z_k309 (by decide +kernel) rfl (.array .int) (by decide +kernel) rfl rfl (Nat.le_of_ble_eq_true rfl) rfl dX0_init_9 (fun H locs hs => ?_)
  have hs : zn_H E A s ((h0, .inr (0, [.ref q0, .null, .null, .null, .null, .null, .null, .int 0, .int 0, .int 0])) :: (T_q0)) H locs := hs
  refine lv_aload_n hx hb dX0_init_12 rfl (lv_at hl 0 rfl) ?_
  refine lv_bipush (v := 9) hx hb dX0_init_13 (by decide) ?_
  refine zn_arr C hs z_aI rfl 0 rfl (fun _ h => by cases h) 9 (a0 := (9, .inl (fun _ => 0))) (fun _ => rfl) (by decide) (by decide +kernel) (by decide) (Nat.le_of_ble_eq_true rfl) (Nat.le_of_ble_eq_true rfl) dX0_init_15 (fun q1 H hs => ?_)
  obtain ⟨T_q1, eT_q1⟩ : ∃ T : va_W, T = T_q0 ++ [(q1, .inl (z_cy E 0, 9, .inl (fun _ => 0)))] := ⟨_, rfl⟩
  have hs : zn_H E A s ((h0, .inr (0, [.ref q0, .null, .null, .null, .null, .null, .null, .int 0, .int 0, .int 0])) :: (T_q1)) H locs := by
    rw [eT_q1]
    exact hs
  refine zn_putFe C hnm hs rfl z_iX0 tyX0 tyX0_ok nmX0 1 (by decide) z_k310 (by decide +kernel) rfl (.array .int) (by decide +kernel) rfl rfl (Nat.le_of_ble_eq_true rfl) rfl dX0_init_17 (fun H locs hs => ?_)
  have hs : zn_H E A s ((h0, .inr (0, [.ref q0, .ref q1, .null, .null, .null, .null, .null, .int 0, .int 0, .int 0])) :: (T_q1)) H locs := hs
  refine lv_aload_n hx hb dX0_init_20 rfl (lv_at hl 0 rfl) ?_
  refine lv_bipush (v := 9) hx hb dX0_init_21 (by decide) ?_
  refine zn_arr C hs z_aI rfl 0 rfl (fun _ h => by cases h) 9 (a0 := (9, .inl (fun _ => 0))) (fun _ => rfl) (by decide) (by decide +kernel) (by decide) (Nat.le_of_ble_eq_true rfl) (Nat.le_of_ble_eq_true rfl) dX0_init_23 (fun q2 H hs => ?_)
  obtain ⟨T_q2, eT_q2⟩ : ∃ T : va_W, T = T_q1 ++ [(q2, .inl (z_cy E 0, 9, .inl (fun _ => 0)))] := ⟨_, rfl⟩
  have hs : zn_H E A s ((h0, .inr (0, [.ref q0, .ref q1, .null, .null, .null, .null, .null, .int 0, .int 0, .int 0])) :: (T_q2)) H locs := by
    rw [eT_q2]
    exact hs
  refine zn_putFe C hnm hs rfl z_iX0 tyX0 tyX0_ok nmX0 2 (by decide) z_k311 (by decide +kernel) rfl (.array .int) (by decide +kernel) rfl rfl (Nat.le_of_ble_eq_true rfl) rfl dX0_init_25 (fun H locs hs => ?_)
  have hs : zn_H E A s ((h0, .inr (0, [.ref q0, .ref q1, .ref q2, .null, .null, .null, .null, .int 0, .int 0, .int 0])) :: (T_q2)) H locs := hs
  refine lv_aload_n hx hb dX0_init_28 rfl (lv_at hl 0 rfl) ?_
  refine lv_bipush (v := 9) hx hb dX0_init_29 (by decide) ?_
  refine zn_arr C hs z_aI rfl 0 rfl (fun _ h => by cases h) 9 (a0 := (9, .inl (fun _ => 0))) (fun _ => rfl) (by decide) (by decide +kernel) (by decide) (Nat.le_of_ble_eq_true rfl) (Nat.le_of_ble_eq_true rfl) dX0_init_31 (fun q3 H hs => ?_)
  obtain ⟨T_q3, eT_q3⟩ : ∃ T : va_W, T = T_q2 ++ [(q3, .inl (z_cy E 0, 9, .inl (fun _ => 0)))] := ⟨_, rfl⟩
  have hs : zn_H E A s ((h0, .inr (0, [.ref q0, .ref q1, .ref q2, .null, .null, .null, .null, .int 0, .int 0, .int 0])) :: (T_q3)) H locs := by
    rw [eT_q3]
    exact hs
  refine zn_putFe C hnm hs rfl z_iX0 tyX0 tyX0_ok nmX0 3 (by decide) z_k312 (by decide +kernel) rfl (.array .int) (by decide +kernel) rfl rfl (Nat.le_of_ble_eq_true rfl) rfl dX0_init_33 (fun H locs hs => ?_)
  have hs : zn_H E A s ((h0, .inr (0, [.ref q0, .ref q1, .ref q2, .ref q3, .null, .null, .null, .int 0, .int 0, .int 0])) :: (T_q3)) H locs := hs
  refine lv_aload_n hx hb dX0_init_36 rfl (lv_at hl 0 rfl) ?_
  refine lv_bipush (v := 9) hx hb dX0_init_37 (by decide) ?_
  refine zn_arr C hs z_aI rfl 0 rfl (fun _ h => by cases h) 9 (a0 := (9, .inl (fun _ => 0))) (fun _ => rfl) (by decide) (by decide +kernel) (by decide) (Nat.le_of_ble_eq_true rfl) (Nat.le_of_ble_eq_true rfl) dX0_init_39 (fun q4 H hs => ?_)
  obtain ⟨T_q4, eT_q4⟩ : ∃ T : va_W, T = T_q3 ++ [(q4, .inl (z_cy E 0, 9, .inl (fun _ => 0)))] := ⟨_, rfl⟩
  have hs : zn_H E A s ((h0, .inr (0, [.ref q0, .ref q1, .ref q2, .ref q3, .null, .null, .null, .int 0, .int 0, .int 0])) :: (T_q4)) H locs := by
    rw [eT_q4]
    exact hs
  refine zn_putFe C hnm hs rfl z_iX0 tyX0 tyX0_ok nmX0 4 (by decide) z_k313 (by decide +kernel) rfl (.array .int) (by decide +kernel) rfl rfl (Nat.le_of_ble_eq_true rfl) rfl dX0_init_41 (fun H locs hs => ?_)
  have hs : zn_H E A s ((h0, .inr (0, [.ref q0, .ref q1, .ref q2, .ref q3, .ref q4, .null, .null, .int 0, .int 0, .int 0])) :: (T_q4)) H locs := hs
  refine lv_aload_n hx hb dX0_init_44 rfl (lv_at hl 0 rfl) ?_
  refine lv_bipush (v := 9) hx hb dX0_init_45 (by decide) ?_
  refine zn_arr C hs z_aI rfl 0 rfl (fun _ h => by cases h) 9 (a0 := (9, .inl (fun _ => 0))) (fun _ => rfl) (by decide) (by decide +kernel) (by decide) (Nat.le_of_ble_eq_true rfl) (Nat.le_of_ble_eq_true rfl) dX0_init_47 (fun q5 H hs => ?_)
  obtain ⟨T_q5, eT_q5⟩ : ∃ T : va_W, T = T_q4 ++ [(q5, .inl (z_cy E 0, 9, .inl (fun _ => 0)))] := ⟨_, rfl⟩
  have hs : zn_H E A s ((h0, .inr (0, [.ref q0, .ref q1, .ref q2, .ref q3, .ref q4, .null, .null, .int 0, .int 0, .int 0])) :: (T_q5)) H locs := by
    rw [eT_q5]
    exact hs
  refine zn_putFe C hnm hs rfl z_iX0 tyX0 tyX0_ok nmX0 5 (by decide) z_k314 (by decide +kernel) rfl (.array .int) (by decide +kernel) rfl rfl (Nat.le_of_ble_eq_true rfl) rfl dX0_init_49 (fun H locs hs => ?_)
  have hs : zn_H E A s ((h0, .inr (0, [.ref q0, .ref q1, .ref q2, .ref q3, .ref q4, .ref q5, .null, .int 0, .int 0, .int 0])) :: (T_q5)) H locs := hs
  refine lv_aload_n hx hb dX0_init_52 rfl (lv_at hl 0 rfl) ?_
  refine lv_sipush (v := 512) hx hb dX0_init_53 (by decide) ?_
  refine zn_arr C hs z_aI rfl 0 rfl (fun _ h => by cases h) 512 (a0 := (512, .inl (fun _ => 0))) (fun _ => rfl) (by decide) (by decide +kernel) (by decide) (Nat.le_of_ble_eq_true rfl) (Nat.le_of_ble_eq_true rfl) dX0_init_56 (fun q6 H hs => ?_)
  obtain ⟨T_q6, eT_q6⟩ : ∃ T : va_W, T = T_q5 ++ [(q6, .inl (z_cy E 0, 512, .inl (fun _ => 0)))] := ⟨_, rfl⟩
  have hs : zn_H E A s ((h0, .inr (0, [.ref q0, .ref q1, .ref q2, .ref q3, .ref q4, .ref q5, .null, .int 0, .int 0, .int 0])) :: (T_q6)) H locs := by
    rw [eT_q6]
    exact hs
  refine zn_putFe C hnm hs rfl z_iX0 tyX0 tyX0_ok nmX0 6 (by decide) z_k316 (by decide +kernel) rfl (.array .int) (by decide +kernel) rfl rfl (Nat.le_of_ble_eq_true rfl) rfl dX0_init_58 (fun H locs hs => ?_)
  have hs : zn_H E A s ((h0, .inr (0, [.ref q0, .ref q1, .ref q2, .ref q3, .ref q4, .ref q5, .ref q6, .int 0, .int 0, .int 0])) :: (T_q6)) H locs := hs
  rw [eT_q6, eT_q5, eT_q4, eT_q3, eT_q2, eT_q1, eT_q0] at hs
  exact zn_ret C hr hs (fun k => [h0, q0, q1, q2, q3, q4, q5, q6].getD k 0) rfl (fun q h => h) hs.2.1 dX0_init_61
