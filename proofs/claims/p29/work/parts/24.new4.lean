set_option maxHeartbeats 4000000 in
set_option maxRecDepth 20000 in
theorem cn_M (l : Launch) (E : zE) {σ1 : zS} (hf : fM_begin z_sM = some ((), σ1)) : z_N l E yX9_init cX9_init 1 (z_rmc 9 16 20971) 9 [.null, .null, .null, .null, .null, .int 0, .int 0, .int 0, .int 0, .null, .null, .null, .int 0, .int 0, .int 0, .int 0, .int 0, .long 0, .null, .null, .null, .null, .null, .null, .null, .null, .int 0] (fun f => z_ws (z_EM E f) σ1) 16 20971 := by
  refine zn_enter (by decide) (by decide) (fun h0 p e s m below meth c A ls C hr hnm hs hl => ?_)
  have hx := C.1
  have hb := C.2.1
  refine lv_aload_n hx hb dX9_init_0 rfl (lv_at hl 0 rfl) ?_
  refine zn_objInit C hl.1 z_k941 z_k24 z_cOI (Nat.le_of_ble_eq_true rfl) (Nat.le_of_ble_eq_true rfl) dX9_init_1 ?_
  refine lv_aload_n hx hb dX9_init_4 rfl (lv_at hl 0 rfl) ?_
  refine lv_sipush (v := 420) hx hb dX9_init_5 (by decide) ?_
  refine zn_arr C hs z_aB rfl 1 rfl (fun _ h => by cases h) 420 (a0 := (420, .inl (fun _ => 0))) (fun _ => rfl) (by decide) (by decide +kernel) (by decide) (Nat.le_of_ble_eq_true rfl) (Nat.le_of_ble_eq_true rfl) dX9_init_8 (fun q0 H hs => ?_)
  obtain ⟨T_q0, eT_q0⟩ : ∃ T : va_W, T = [] ++ [(q0, .inl (z_cy E 1, 420, .inl (fun _ => 0)))] := ⟨_, rfl⟩
  have hs : zn_H E A s ((h0, .inr (9, [.null, .null, .null, .null, .null, .int 0, .int 0, .int 0, .int 0, .null, .null, .null, .int 0, .int 0, .int 0, .int 0, .int 0, .long 0, .null, .null, .null, .null, .null, .null, .null, .null, .int 0])) :: (T_q0)) H [] := by
    rw [eT_q0]
    exact hs
  refine zn_putFe C hnm hs rfl z_iX9 tyX9 tyX9_ok nmX9 0 (by decide) z_k950 (by decide +kernel) rfl (.array .byte) (by decide +kernel) rfl rfl (Nat.le_of_ble_eq_true rfl) rfl dX9_init_10 (fun H locs hs => ?_)
  have hs : zn_H E A s ((h0, .inr (9, [.ref q0, .null, .null, .null, .null, .int 0, .int 0, .int 0, .int 0, .null, .null, .null, .int 0, .int 0, .int 0, .int 0, .int 0, .long 0, .null, .null, .null, .null, .null, .null, .null, .null, .int 0])) :: (T_q0)) H locs := hs
  refine lv_aload_n hx hb dX9_init_13 rfl (lv_at hl 0 rfl) ?_
  refine lv_sipush (v := 400) hx hb dX9_init_14 (by decide) ?_
  refine zn_arr C hs z_aB rfl 1 rfl (fun _ h => by cases h) 400 (a0 := (400, .inl (fun _ => 0))) (fun _ => rfl) (by decide) (by decide +kernel) (by decide) (Nat.le_of_ble_eq_true rfl) (Nat.le_of_ble_eq_true rfl) dX9_init_17 (fun q1 H hs => ?_)
  obtain ⟨T_q1, eT_q1⟩ : ∃ T : va_W, T = T_q0 ++ [(q1, .inl (z_cy E 1, 400, .inl (fun _ => 0)))] := ⟨_, rfl⟩
  have hs : zn_H E A s ((h0, .inr (9, [.ref q0, .null, .null, .null, .null, .int 0, .int 0, .int 0, .int 0, .null, .null, .null, .int 0, .int 0, .int 0, .int 0, .int 0, .long 0, .null, .null, .null, .null, .null, .null, .null, .null, .int 0])) :: (T_q1)) H locs := by
    rw [eT_q1]
    exact hs
  refine zn_putFe C hnm hs rfl z_iX9 tyX9 tyX9_ok nmX9 1 (by decide) z_k951 (by decide +kernel) rfl (.array .byte) (by decide +kernel) rfl rfl (Nat.le_of_ble_eq_true rfl) rfl dX9_init_19 (fun H locs hs => ?_)
  have hs : zn_H E A s ((h0, .inr (9, [.ref q0, .ref q1, .null, .null, .null, .int 0, .int 0, .int 0, .int 0, .null, .null, .null, .int 0, .int 0, .int 0, .int 0, .int 0, .long 0, .null, .null, .null, .null, .null, .null, .null, .null, .int 0])) :: (T_q1)) H locs := hs
  refine lv_aload_n hx hb dX9_init_22 rfl (lv_at hl 0 rfl) ?_
  refine lv_sipush (v := 5000) hx hb dX9_init_23 (by decide) ?_
  refine zn_arr C hs z_aI rfl 0 rfl (fun _ h => by cases h) 5000 (a0 := (5000, .inl (fun _ => 0))) (fun _ => rfl) (by decide) (by decide +kernel) (by decide) (Nat.le_of_ble_eq_true rfl) (Nat.le_of_ble_eq_true rfl) dX9_init_26 (fun q2 H hs => ?_)
  obtain ⟨T_q2, eT_q2⟩ : ∃ T : va_W, T = T_q1 ++ [(q2, .inl (z_cy E 0, 5000, .inl (fun _ => 0)))] := ⟨_, rfl⟩
  have hs : zn_H E A s ((h0, .inr (9, [.ref q0, .ref q1, .null, .null, .null, .int 0, .int 0, .int 0, .int 0, .null, .null, .null, .int 0, .int 0, .int 0, .int 0, .int 0, .long 0, .null, .null, .null, .null, .null, .null, .null, .null, .int 0])) :: (T_q2)) H locs := by
    rw [eT_q2]
    exact hs
  refine zn_putFe C hnm hs rfl z_iX9 tyX9 tyX9_ok nmX9 2 (by decide) z_k952 (by decide +kernel) rfl (.array .int) (by decide +kernel) rfl rfl (Nat.le_of_ble_eq_true rfl) rfl dX9_init_28 (fun H locs hs => ?_)
  have hs : zn_H E A s ((h0, .inr (9, [.ref q0, .ref q1, .ref q2, .null, .null, .int 0, .int 0, .int 0, .int 0, .null, .null, .null, .int 0, .int 0, .int 0, .int 0, .int 0, .long 0, .null, .null, .null, .null, .null, .null, .null, .null, .int 0])) :: (T_q2)) H locs := hs
  refine lv_aload_n hx hb dX9_init_31 rfl (lv_at hl 0 rfl) ?_
  refine lv_sipush (v := 15000) hx hb dX9_init_32 (by decide) ?_
  refine zn_arr C hs z_aI rfl 0 rfl (fun _ h => by cases h) 15000 (a0 := (15000, .inl (fun _ => 0))) (fun _ => rfl) (by decide) (by decide +kernel) (by decide) (Nat.le_of_ble_eq_true rfl) (Nat.le_of_ble_eq_true rfl) dX9_init_35 (fun q3 H hs => ?_)
  obtain ⟨T_q3, eT_q3⟩ : ∃ T : va_W, T = T_q2 ++ [(q3, .inl (z_cy E 0, 15000, .inl (fun _ => 0)))] := ⟨_, rfl⟩
  have hs : zn_H E A s ((h0, .inr (9, [.ref q0, .ref q1, .ref q2, .null, .null, .int 0, .int 0, .int 0, .int 0, .null, .null, .null, .int 0, .int 0, .int 0, .int 0, .int 0, .long 0, .null, .null, .null, .null, .null, .null, .null, .null, .int 0])) :: (T_q3)) H locs := by
    rw [eT_q3]
    exact hs
  refine zn_putFe C hnm hs rfl z_iX9 tyX9 tyX9_ok nmX9 3 (by decide) z_k953 (by decide +kernel) rfl (.array .int) (by decide +kernel) rfl rfl (Nat.le_of_ble_eq_true rfl) rfl dX9_init_37 (fun H locs hs => ?_)
  have hs : zn_H E A s ((h0, .inr (9, [.ref q0, .ref q1, .ref q2, .ref q3, .null, .int 0, .int 0, .int 0, .int 0, .null, .null, .null, .int 0, .int 0, .int 0, .int 0, .int 0, .long 0, .null, .null, .null, .null, .null, .null, .null, .null, .int 0])) :: (T_q3)) H locs := hs
  refine lv_aload_n hx hb dX9_init_40 rfl (lv_at hl 0 rfl) ?_
  refine lv_iconst (v := 3) hx hb dX9_init_41 (by decide) ?_
  refine zn_arr C hs z_aZ rfl 2 rfl (fun _ h => by cases h) 3 (a0 := (3, .inl (fun _ => 0))) (fun _ => rfl) (by decide) (by decide +kernel) (by decide) (Nat.le_of_ble_eq_true rfl) (Nat.le_of_ble_eq_true rfl) dX9_init_42 (fun q4 H hs => ?_)
  obtain ⟨T_q4, eT_q4⟩ : ∃ T : va_W, T = T_q3 ++ [(q4, .inl (z_cy E 2, 3, .inl (fun _ => 0)))] := ⟨_, rfl⟩
  have hs : zn_H E A s ((h0, .inr (9, [.ref q0, .ref q1, .ref q2, .ref q3, .null, .int 0, .int 0, .int 0, .int 0, .null, .null, .null, .int 0, .int 0, .int 0, .int 0, .int 0, .long 0, .null, .null, .null, .null, .null, .null, .null, .null, .int 0])) :: (T_q4)) H locs := by
    rw [eT_q4]
    exact hs
  refine zn_putFe C hnm hs rfl z_iX9 tyX9 tyX9_ok nmX9 4 (by decide) z_k954 (by decide +kernel) rfl (.array .boolean) (by decide +kernel) rfl rfl (Nat.le_of_ble_eq_true rfl) rfl dX9_init_44 (fun H locs hs => ?_)
  have hs : zn_H E A s ((h0, .inr (9, [.ref q0, .ref q1, .ref q2, .ref q3, .ref q4, .int 0, .int 0, .int 0, .int 0, .null, .null, .null, .int 0, .int 0, .int 0, .int 0, .int 0, .long 0, .null, .null, .null, .null, .null, .null, .null, .null, .int 0])) :: (T_q4)) H locs := hs
  refine lv_aload_n hx hb dX9_init_47 rfl (lv_at hl 0 rfl) ?_
  refine lv_iconst (v := (-1)) hx hb dX9_init_48 (by decide) ?_
  refine zn_putI C hs rfl z_iX9 tyX9 tyX9_ok nmX9 8 (by decide) z_k958 rfl rfl rfl (Nat.le_of_ble_eq_true rfl) rfl dX9_init_49 (fun H locs hs => ?_)
  have hs : zn_H E A s ((h0, .inr (9, [.ref q0, .ref q1, .ref q2, .ref q3, .ref q4, .int 0, .int 0, .int 0, .int (-1), .null, .null, .null, .int 0, .int 0, .int 0, .int 0, .int 0, .long 0, .null, .null, .null, .null, .null, .null, .null, .null, .int 0])) :: (T_q4)) H locs := hs
  refine lv_aload_n hx hb dX9_init_52 rfl (lv_at hl 0 rfl) ?_
  refine lv_iconst (v := 2) hx hb dX9_init_53 (by decide) ?_
  refine zn_arr C hs z_aI rfl 0 rfl (fun _ h => by cases h) 2 (a0 := (2, .inl (fun _ => 0))) (fun _ => rfl) (by decide) (by decide +kernel) (by decide) (Nat.le_of_ble_eq_true rfl) (Nat.le_of_ble_eq_true rfl) dX9_init_54 (fun q5 H hs => ?_)
  obtain ⟨T_q5, eT_q5⟩ : ∃ T : va_W, T = T_q4 ++ [(q5, .inl (z_cy E 0, 2, .inl (fun _ => 0)))] := ⟨_, rfl⟩
  have hs : zn_H E A s ((h0, .inr (9, [.ref q0, .ref q1, .ref q2, .ref q3, .ref q4, .int 0, .int 0, .int 0, .int (-1), .null, .null, .null, .int 0, .int 0, .int 0, .int 0, .int 0, .long 0, .null, .null, .null, .null, .null, .null, .null, .null, .int 0])) :: (T_q5)) H locs := by
    rw [eT_q5]
    exact hs
  refine zn_putFe C hnm hs rfl z_iX9 tyX9 tyX9_ok nmX9 9 (by decide) z_k959 (by decide +kernel) rfl (.array .int) (by decide +kernel) rfl rfl (Nat.le_of_ble_eq_true rfl) rfl dX9_init_56 (fun H locs hs => ?_)
  have hs : zn_H E A s ((h0, .inr (9, [.ref q0, .ref q1, .ref q2, .ref q3, .ref q4, .int 0, .int 0, .int 0, .int (-1), .ref q5, .null, .null, .int 0, .int 0, .int 0, .int 0, .int 0, .long 0, .null, .null, .null, .null, .null, .null, .null, .null, .int 0])) :: (T_q5)) H locs := hs
  refine lv_aload_n hx hb dX9_init_59 rfl (lv_at hl 0 rfl) ?_
  refine lv_iconst (v := 2) hx hb dX9_init_60 (by decide) ?_
  refine zn_arr C hs z_aI rfl 0 rfl (fun _ h => by cases h) 2 (a0 := (2, .inl (fun _ => 0))) (fun _ => rfl) (by decide) (by decide +kernel) (by decide) (Nat.le_of_ble_eq_true rfl) (Nat.le_of_ble_eq_true rfl) dX9_init_61 (fun q6 H hs => ?_)
  obtain ⟨T_q6, eT_q6⟩ : ∃ T : va_W, T = T_q5 ++ [(q6, .inl (z_cy E 0, 2, .inl (fun _ => 0)))] := ⟨_, rfl⟩
  have hs : zn_H E A s ((h0, .inr (9, [.ref q0, .ref q1, .ref q2, .ref q3, .ref q4, .int 0, .int 0, .int 0, .int (-1), .ref q5, .null, .null, .int 0, .int 0, .int 0, .int 0, .int 0, .long 0, .null, .null, .null, .null, .null, .null, .null, .null, .int 0])) :: (T_q6)) H locs := by
    rw [eT_q6]
    exact hs
  refine zn_putFe C hnm hs rfl z_iX9 tyX9 tyX9_ok nmX9 10 (by decide) z_k960 (by decide +kernel) rfl (.array .int) (by decide +kernel) rfl rfl (Nat.le_of_ble_eq_true rfl) rfl dX9_init_63 (fun H locs hs => ?_)
  have hs : zn_H E A s ((h0, .inr (9, [.ref q0, .ref q1, .ref q2, .ref q3, .ref q4, .int 0, .int 0, .int 0, .int (-1), .ref q5, .ref q6, .null, .int 0, .int 0, .int 0, .int 0, .int 0, .long 0, .null, .null, .null, .null, .null, .null, .null, .null, .int 0])) :: (T_q6)) H locs := hs
  refine lv_aload_n hx hb dX9_init_66 rfl (lv_at hl 0 rfl) ?_
  refine lv_bipush (v := 14) hx hb dX9_init_67 (by decide) ?_
  refine zn_arr C hs z_aJ rfl 3 rfl (fun _ h => by cases h) 14 (a0 := (14, .inr (.inl (fun _ => 0)))) (fun _ => rfl) (by decide) (by decide +kernel) (by decide) (Nat.le_of_ble_eq_true rfl) (Nat.le_of_ble_eq_true rfl) dX9_init_69 (fun q7 H hs => ?_)
  obtain ⟨T_q7, eT_q7⟩ : ∃ T : va_W, T = T_q6 ++ [(q7, .inl (z_cy E 3, 14, .inr (.inl (fun _ => 0))))] := ⟨_, rfl⟩
  have hs : zn_H E A s ((h0, .inr (9, [.ref q0, .ref q1, .ref q2, .ref q3, .ref q4, .int 0, .int 0, .int 0, .int (-1), .ref q5, .ref q6, .null, .int 0, .int 0, .int 0, .int 0, .int 0, .long 0, .null, .null, .null, .null, .null, .null, .null, .null, .int 0])) :: (T_q7)) H locs := by
    rw [eT_q7]
    exact hs
  refine zn_putFe C hnm hs rfl z_iX9 tyX9 tyX9_ok nmX9 11 (by decide) z_k961 (by decide +kernel) rfl (.array .long) (by decide +kernel) rfl rfl (Nat.le_of_ble_eq_true rfl) rfl dX9_init_71 (fun H locs hs => ?_)
  have hs : zn_H E A s ((h0, .inr (9, [.ref q0, .ref q1, .ref q2, .ref q3, .ref q4, .int 0, .int 0, .int 0, .int (-1), .ref q5, .ref q6, .ref q7, .int 0, .int 0, .int 0, .int 0, .int 0, .long 0, .null, .null, .null, .null, .null, .null, .null, .null, .int 0])) :: (T_q7)) H locs := hs
  refine lv_aload_n hx hb dX9_init_74 rfl (lv_at hl 0 rfl) ?_
  refine lv_bipush (v := 64) hx hb dX9_init_75 (by decide) ?_
  refine zn_arr C hs z_aI rfl 0 rfl (fun _ h => by cases h) 64 (a0 := (64, .inl (fun _ => 0))) (fun _ => rfl) (by decide) (by decide +kernel) (by decide) (Nat.le_of_ble_eq_true rfl) (Nat.le_of_ble_eq_true rfl) dX9_init_77 (fun q8 H hs => ?_)
  obtain ⟨T_q8, eT_q8⟩ : ∃ T : va_W, T = T_q7 ++ [(q8, .inl (z_cy E 0, 64, .inl (fun _ => 0)))] := ⟨_, rfl⟩
  have hs : zn_H E A s ((h0, .inr (9, [.ref q0, .ref q1, .ref q2, .ref q3, .ref q4, .int 0, .int 0, .int 0, .int (-1), .ref q5, .ref q6, .ref q7, .int 0, .int 0, .int 0, .int 0, .int 0, .long 0, .null, .null, .null, .null, .null, .null, .null, .null, .int 0])) :: (T_q8)) H locs := by
    rw [eT_q8]
    exact hs
  refine zn_putFe C hnm hs rfl z_iX9 tyX9 tyX9_ok nmX9 18 (by decide) z_k968 (by decide +kernel) rfl (.array .int) (by decide +kernel) rfl rfl (Nat.le_of_ble_eq_true rfl) rfl dX9_init_79 (fun H locs hs => ?_)
  have hs : zn_H E A s ((h0, .inr (9, [.ref q0, .ref q1, .ref q2, .ref q3, .ref q4, .int 0, .int 0, .int 0, .int (-1), .ref q5, .ref q6, .ref q7, .int 0, .int 0, .int 0, .int 0, .int 0, .long 0, .ref q8, .null, .null, .null, .null, .null, .null, .null, .int 0])) :: (T_q8)) H locs := hs
  refine lv_aload_n hx hb dX9_init_82 rfl (lv_at hl 0 rfl) ?_
  refine lv_bipush (v := 9) hx hb dX9_init_83 (by decide) ?_
  refine zn_arr C hs z_aI rfl 0 rfl (fun _ h => by cases h) 9 (a0 := (9, .inl (fun _ => 0))) (fun _ => rfl) (by decide) (by decide +kernel) (by decide) (Nat.le_of_ble_eq_true rfl) (Nat.le_of_ble_eq_true rfl) dX9_init_85 (fun q9 H hs => ?_)
  obtain ⟨T_q9, eT_q9⟩ : ∃ T : va_W, T = T_q8 ++ [(q9, .inl (z_cy E 0, 9, .inl (fun _ => 0)))] := ⟨_, rfl⟩
  have hs : zn_H E A s ((h0, .inr (9, [.ref q0, .ref q1, .ref q2, .ref q3, .ref q4, .int 0, .int 0, .int 0, .int (-1), .ref q5, .ref q6, .ref q7, .int 0, .int 0, .int 0, .int 0, .int 0, .long 0, .ref q8, .null, .null, .null, .null, .null, .null, .null, .int 0])) :: (T_q9)) H locs := by
    rw [eT_q9]
    exact hs
  refine zn_putFe C hnm hs rfl z_iX9 tyX9 tyX9_ok nmX9 19 (by decide) z_k969 (by decide +kernel) rfl (.array .int) (by decide +kernel) rfl rfl (Nat.le_of_ble_eq_true rfl) rfl dX9_init_87 (fun H locs hs => ?_)
  have hs : zn_H E A s ((h0, .inr (9, [.ref q0, .ref q1, .ref q2, .ref q3, .ref q4, .int 0, .int 0, .int 0, .int (-1), .ref q5, .ref q6, .ref q7, .int 0, .int 0, .int 0, .int 0, .int 0, .long 0, .ref q8, .ref q9, .null, .null, .null, .null, .null, .null, .int 0])) :: (T_q9)) H locs := hs
  refine lv_aload_n hx hb dX9_init_90 rfl (lv_at hl 0 rfl) ?_
  refine lv_bipush (v := 9) hx hb dX9_init_91 (by decide) ?_
  refine zn_arr C hs z_aI rfl 0 rfl (fun _ h => by cases h) 9 (a0 := (9, .inl (fun _ => 0))) (fun _ => rfl) (by decide) (by decide +kernel) (by decide) (Nat.le_of_ble_eq_true rfl) (Nat.le_of_ble_eq_true rfl) dX9_init_93 (fun q10 H hs => ?_)
  obtain ⟨T_q10, eT_q10⟩ : ∃ T : va_W, T = T_q9 ++ [(q10, .inl (z_cy E 0, 9, .inl (fun _ => 0)))] := ⟨_, rfl⟩
  have hs : zn_H E A s ((h0, .inr (9, [.ref q0, .ref q1, .ref q2, .ref q3, .ref q4, .int 0, .int 0, .int 0, .int (-1), .ref q5, .ref q6, .ref q7, .int 0, .int 0, .int 0, .int 0, .int 0, .long 0, .ref q8, .ref q9, .null, .null, .null, .null, .null, .null, .int 0])) :: (T_q10)) H locs := by
    rw [eT_q10]
    exact hs
  refine zn_putFe C hnm hs rfl z_iX9 tyX9 tyX9_ok nmX9 20 (by decide) z_k970 (by decide +kernel) rfl (.array .int) (by decide +kernel) rfl rfl (Nat.le_of_ble_eq_true rfl) rfl dX9_init_95 (fun H locs hs => ?_)
  have hs : zn_H E A s ((h0, .inr (9, [.ref q0, .ref q1, .ref q2, .ref q3, .ref q4, .int 0, .int 0, .int 0, .int (-1), .ref q5, .ref q6, .ref q7, .int 0, .int 0, .int 0, .int 0, .int 0, .long 0, .ref q8, .ref q9, .ref q10, .null, .null, .null, .null, .null, .int 0])) :: (T_q10)) H locs := hs
  refine lv_aload_n hx hb dX9_init_98 rfl (lv_at hl 0 rfl) ?_
  refine lv_bipush (v := 9) hx hb dX9_init_99 (by decide) ?_
  refine zn_arr C hs z_aI rfl 0 rfl (fun _ h => by cases h) 9 (a0 := (9, .inl (fun _ => 0))) (fun _ => rfl) (by decide) (by decide +kernel) (by decide) (Nat.le_of_ble_eq_true rfl) (Nat.le_of_ble_eq_true rfl) dX9_init_101 (fun q11 H hs => ?_)
  obtain ⟨T_q11, eT_q11⟩ : ∃ T : va_W, T = T_q10 ++ [(q11, .inl (z_cy E 0, 9, .inl (fun _ => 0)))] := ⟨_, rfl⟩
  have hs : zn_H E A s ((h0, .inr (9, [.ref q0, .ref q1, .ref q2, .ref q3, .ref q4, .int 0, .int 0, .int 0, .int (-1), .ref q5, .ref q6, .ref q7, .int 0, .int 0, .int 0, .int 0, .int 0, .long 0, .ref q8, .ref q9, .ref q10, .null, .null, .null, .null, .null, .int 0])) :: (T_q11)) H locs := by
    rw [eT_q11]
    exact hs
  refine zn_putFe C hnm hs rfl z_iX9 tyX9 tyX9_ok nmX9 21 (by decide) z_k971 (by decide +kernel) rfl (.array .int) (by decide +kernel) rfl rfl (Nat.le_of_ble_eq_true rfl) rfl dX9_init_103 (fun H locs hs => ?_)
  have hs : zn_H E A s ((h0, .inr (9, [.ref q0, .ref q1, .ref q2, .ref q3, .ref q4, .int 0, .int 0, .int 0, .int (-1), .ref q5, .ref q6, .ref q7, .int 0, .int 0, .int 0, .int 0, .int 0, .long 0, .ref q8, .ref q9, .ref q10, .ref q11, .null, .null, .null, .null, .int 0])) :: (T_q11)) H locs := hs
  refine lv_aload_n hx hb dX9_init_106 rfl (lv_at hl 0 rfl) ?_
  refine lv_bipush (v := 9) hx hb dX9_init_107 (by decide) ?_
  refine zn_arr C hs z_aI rfl 0 rfl (fun _ h => by cases h) 9 (a0 := (9, .inl (fun _ => 0))) (fun _ => rfl) (by decide) (by decide +kernel) (by decide) (Nat.le_of_ble_eq_true rfl) (Nat.le_of_ble_eq_true rfl) dX9_init_109 (fun q12 H hs => ?_)
  obtain ⟨T_q12, eT_q12⟩ : ∃ T : va_W, T = T_q11 ++ [(q12, .inl (z_cy E 0, 9, .inl (fun _ => 0)))] := ⟨_, rfl⟩
  have hs : zn_H E A s ((h0, .inr (9, [.ref q0, .ref q1, .ref q2, .ref q3, .ref q4, .int 0, .int 0, .int 0, .int (-1), .ref q5, .ref q6, .ref q7, .int 0, .int 0, .int 0, .int 0, .int 0, .long 0, .ref q8, .ref q9, .ref q10, .ref q11, .null, .null, .null, .null, .int 0])) :: (T_q12)) H locs := by
    rw [eT_q12]
    exact hs
  refine zn_putFe C hnm hs rfl z_iX9 tyX9 tyX9_ok nmX9 22 (by decide) z_k972 (by decide +kernel) rfl (.array .int) (by decide +kernel) rfl rfl (Nat.le_of_ble_eq_true rfl) rfl dX9_init_111 (fun H locs hs => ?_)
  have hs : zn_H E A s ((h0, .inr (9, [.ref q0, .ref q1, .ref q2, .ref q3, .ref q4, .int 0, .int 0, .int 0, .int (-1), .ref q5, .ref q6, .ref q7, .int 0, .int 0, .int 0, .int 0, .int 0, .long 0, .ref q8, .ref q9, .ref q10, .ref q11, .ref q12, .null, .null, .null, .int 0])) :: (T_q12)) H locs := hs
  refine lv_aload_n hx hb dX9_init_114 rfl (lv_at hl 0 rfl) ?_
  refine lv_bipush (v := 9) hx hb dX9_init_115 (by decide) ?_
  refine zn_arr C hs z_aI rfl 0 rfl (fun _ h => by cases h) 9 (a0 := (9, .inl (fun _ => 0))) (fun _ => rfl) (by decide) (by decide +kernel) (by decide) (Nat.le_of_ble_eq_true rfl) (Nat.le_of_ble_eq_true rfl) dX9_init_117 (fun q13 H hs => ?_)
  obtain ⟨T_q13, eT_q13⟩ : ∃ T : va_W, T = T_q12 ++ [(q13, .inl (z_cy E 0, 9, .inl (fun _ => 0)))] := ⟨_, rfl⟩
  have hs : zn_H E A s ((h0, .inr (9, [.ref q0, .ref q1, .ref q2, .ref q3, .ref q4, .int 0, .int 0, .int 0, .int (-1), .ref q5, .ref q6, .ref q7, .int 0, .int 0, .int 0, .int 0, .int 0, .long 0, .ref q8, .ref q9, .ref q10, .ref q11, .ref q12, .null, .null, .null, .int 0])) :: (T_q13)) H locs := by
    rw [eT_q13]
    exact hs
  refine zn_putFe C hnm hs rfl z_iX9 tyX9 tyX9_ok nmX9 23 (by decide) z_k973 (by decide +kernel) rfl (.array .int) (by decide +kernel) rfl rfl (Nat.le_of_ble_eq_true rfl) rfl dX9_init_119 (fun H locs hs => ?_)
  have hs : zn_H E A s ((h0, .inr (9, [.ref q0, .ref q1, .ref q2, .ref q3, .ref q4, .int 0, .int 0, .int 0, .int (-1), .ref q5, .ref q6, .ref q7, .int 0, .int 0, .int 0, .int 0, .int 0, .long 0, .ref q8, .ref q9, .ref q10, .ref q11, .ref q12, .ref q13, .null, .null, .int 0])) :: (T_q13)) H locs := hs
  refine lv_aload_n hx hb dX9_init_122 rfl (lv_at hl 0 rfl) ?_
  refine lv_bipush (v := 10) hx hb dX9_init_123 (by decide) ?_
  refine zn_arr C hs z_aI rfl 0 rfl (fun _ h => by cases h) 10 (a0 := (10, .inl (fun _ => 0))) (fun _ => rfl) (by decide) (by decide +kernel) (by decide) (Nat.le_of_ble_eq_true rfl) (Nat.le_of_ble_eq_true rfl) dX9_init_125 (fun q14 H hs => ?_)
  obtain ⟨T_q14, eT_q14⟩ : ∃ T : va_W, T = T_q13 ++ [(q14, .inl (z_cy E 0, 10, .inl (fun _ => 0)))] := ⟨_, rfl⟩
  have hs : zn_H E A s ((h0, .inr (9, [.ref q0, .ref q1, .ref q2, .ref q3, .ref q4, .int 0, .int 0, .int 0, .int (-1), .ref q5, .ref q6, .ref q7, .int 0, .int 0, .int 0, .int 0, .int 0, .long 0, .ref q8, .ref q9, .ref q10, .ref q11, .ref q12, .ref q13, .null, .null, .int 0])) :: (T_q14)) H locs := by
    rw [eT_q14]
    exact hs
  refine zn_putFe C hnm hs rfl z_iX9 tyX9 tyX9_ok nmX9 24 (by decide) z_k974 (by decide +kernel) rfl (.array .int) (by decide +kernel) rfl rfl (Nat.le_of_ble_eq_true rfl) rfl dX9_init_127 (fun H locs hs => ?_)
  have hs : zn_H E A s ((h0, .inr (9, [.ref q0, .ref q1, .ref q2, .ref q3, .ref q4, .int 0, .int 0, .int 0, .int (-1), .ref q5, .ref q6, .ref q7, .int 0, .int 0, .int 0, .int 0, .int 0, .long 0, .ref q8, .ref q9, .ref q10, .ref q11, .ref q12, .ref q13, .ref q14, .null, .int 0])) :: (T_q14)) H locs := hs
  refine lv_aload_n hx hb dX9_init_130 rfl (lv_at hl 0 rfl) ?_
  refine lv_bipush (v := 11) hx hb dX9_init_131 (by decide) ?_
  refine zn_arr C hs z_aI rfl 0 rfl (fun _ h => by cases h) 11 (a0 := (11, .inl (fun _ => 0))) (fun _ => rfl) (by decide) (by decide +kernel) (by decide) (Nat.le_of_ble_eq_true rfl) (Nat.le_of_ble_eq_true rfl) dX9_init_133 (fun q15 H hs => ?_)
  obtain ⟨T_q15, eT_q15⟩ : ∃ T : va_W, T = T_q14 ++ [(q15, .inl (z_cy E 0, 11, .inl (fun _ => 0)))] := ⟨_, rfl⟩
  have hs : zn_H E A s ((h0, .inr (9, [.ref q0, .ref q1, .ref q2, .ref q3, .ref q4, .int 0, .int 0, .int 0, .int (-1), .ref q5, .ref q6, .ref q7, .int 0, .int 0, .int 0, .int 0, .int 0, .long 0, .ref q8, .ref q9, .ref q10, .ref q11, .ref q12, .ref q13, .ref q14, .null, .int 0])) :: (T_q15)) H locs := by
    rw [eT_q15]
    exact hs
  refine zn_putFe C hnm hs rfl z_iX9 tyX9 tyX9_ok nmX9 25 (by decide) z_k975 (by decide +kernel) rfl (.array .int) (by decide +kernel) rfl rfl (Nat.le_of_ble_eq_true rfl) rfl dX9_init_135 (fun H locs hs => ?_)
  have hs : zn_H E A s ((h0, .inr (9, [.ref q0, .ref q1, .ref q2, .ref q3, .ref q4, .int 0, .int 0, .int 0, .int (-1), .ref q5, .ref q6, .ref q7, .int 0, .int 0, .int 0, .int 0, .int 0, .long 0, .ref q8, .ref q9, .ref q10, .ref q11, .ref q12, .ref q13, .ref q14, .ref q15, .int 0])) :: (T_q15)) H locs := hs
  refine lv_aload_n hx hb dX9_init_138 rfl (lv_at hl 0 rfl) ?_
  rw [eT_q15, eT_q14, eT_q13, eT_q12, eT_q11, eT_q10, eT_q9, eT_q8, eT_q7, eT_q6, eT_q5, eT_q4, eT_q3, eT_q2, eT_q1, eT_q0] at hs
  obtain ⟨fM, efM⟩ : ∃ fM : Nat → Nat, fM = (fun k => [h0, q0, q1, q2, q3, q4, q5, q6, q7, q8, q9, q10, q11, q12, q13, q14, q15].getD k 0) := ⟨_, rfl⟩
  have hs : zn_H E A s (z_ws (z_EM E fM) z_sM) H locs := by
    rw [efM]
    exact hs
  have C2 : z_C (z_EM E fM) RX9 cX9_init 1 A p s m #[.ref h0] meth c := ⟨C.1, C.2.1, C.2.2.1, C.2.2.2.1, C.2.2.2.2.1, C.2.2.2.2.2.1.1, fun τ => z_Dall hs.2.1 τ, C.2.2.2.2.2.2.1, C.2.2.2.2.2.2.2⟩
  have hs2 : z_H (z_EM E fM) A s z_sM H locs := ⟨hs.1, hs.2.2⟩
  have ha : h0 = z_ad (z_EM E fM) (100, 0, 0) := by rw [efM]; rfl
  refine W.eq (g2 := F0 m 139 ls [.ref (z_ad (z_EM E fM) (100, 0, 0))]) (by rw [← ha]) ?_
  refine zr_goV C2 hs2 (zr_runV C2 hs2 hl.1 (cM_begin l (z_EM E fM) (z_EM_M E fM) hf) zcV_RX9_65 (z_EM_M E fM 100 (by decide) (by decide)) (z_c100 _ _ _ _ _) rfl rfl rfl ⟨(Nat.le_of_ble_eq_true rfl), (Nat.le_of_ble_eq_true rfl)⟩ ⟨(Nat.le_of_ble_eq_true rfl), (Nat.le_of_ble_eq_true rfl)⟩ (Nat.le_of_ble_eq_true rfl) dX9_init_139) (fun H1 locs1 hs3 _ _ => ?_)
  exact zn_retP C hr hs3.2 fM (by rw [efM]; rfl) hs3.1 (C2.2.2.2.2.2.2.1 σ1) dX9_init_142
