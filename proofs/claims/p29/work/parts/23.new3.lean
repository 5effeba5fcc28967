theorem zu_T_c {E : zE} {f g : Nat → Nat} (h : ∀ q, q < 5 → f q = g q) : zu_T E f = zu_T E g := by
  unfold zu_T
  rw [h 0 (by decide), h 1 (by decide), h 2 (by decide), h 3 (by decide), h 4 (by decide)]
theorem zu_H_c {E : zE} {f g : Nat → Nat} (h : ∀ q, q < 8 → f q = g q) : zu_H E f = zu_H E g := by
  unfold zu_H
  rw [h 0 (by decide), h 1 (by decide), h 2 (by decide), h 3 (by decide), h 4 (by decide), h 5 (by decide), h 6 (by decide), h 7 (by decide)]
def zu_X (E : zE) (f : Nat → Nat) : va_W := (f 0, .inr (8, [.ref (f 1), .ref (f 100), .ref (f 6), .ref (f 7), .ref (f 8)])) :: (((([] ++ zu_T E (fun q => f (1 + q))) ++ zu_W E (fun q => f (100 + q))) ++ [(f 6, .inl (z_cy E 6, 3, .inr (.inr (.inr (.inr (fun _ => none))))))]) ++ [(f 7, .inl (z_cy E 2, 3, .inl (fun _ => 0)))]) ++ zu_H E (fun q => f (8 + q))
def z_bigX (h0 q0 q1 : Nat) (fT fH fW : Nat → Nat) : Nat → Nat := fun k => if k = 0 then h0 else if k < 6 then fT (k - 1) else if k = 6 then q0 else if k = 7 then q1 else if k < 100 then fH (k - 8) else fW (k - 100)
theorem zu_X_of (E : zE) (h0 q0 q1 : Nat) (fT fH fW : Nat → Nat) : zu_X E (z_bigX h0 q0 q1 fT fH fW) = (h0, .inr (8, [.ref (fT 0), .ref (fW 0), .ref q0, .ref q1, .ref (fH 0)])) :: (((([] ++ zu_T E fT) ++ zu_W E fW) ++ [(q0, .inl (z_cy E 6, 3, .inr (.inr (.inr (.inr (fun _ => none))))))]) ++ [(q1, .inl (z_cy E 2, 3, .inl (fun _ => 0)))]) ++ zu_H E fH := by
  have e1 : zu_T E (fun q => z_bigX h0 q0 q1 fT fH fW (1 + q)) = zu_T E fT := zu_T_c (fun q hq => by
    show z_bigX h0 q0 q1 fT fH fW (1 + q) = fT q
    unfold z_bigX
    rw [if_neg (by omega), if_pos (by omega), show 1 + q - 1 = q by omega])
  have e2 : (fun q => z_bigX h0 q0 q1 fT fH fW (100 + q)) = fW := funext fun q => by
    unfold z_bigX
    rw [if_neg (by omega), if_neg (by omega), if_neg (by omega), if_neg (by omega), if_neg (by omega), show 100 + q - 100 = q by omega]
  have e3 : zu_H E (fun q => z_bigX h0 q0 q1 fT fH fW (8 + q)) = zu_H E fH := zu_H_c (fun q hq => by
    show z_bigX h0 q0 q1 fT fH fW (8 + q) = fH q
    unfold z_bigX
    rw [if_neg (by omega), if_neg (by omega), if_neg (by omega), if_neg (by omega), if_pos (by omega), show 8 + q - 8 = q by omega])
  unfold zu_X
  rw [e1, e2, e3]
  rfl
set_option maxHeartbeats 4000000 in
set_option maxRecDepth 20000 in
theorem cn_X (l : Launch) (E : zE) : z_N l E yX8_init cX8_init 1 (z_rmc 5 258 6111) 8 [.null, .null, .null, .null, .null] (zu_X E) 258 6111 := by
  refine zn_enter (by decide) (by decide) (fun h0 p e s m below meth c A ls C hr hnm hs hl => ?_)
  have hx := C.1
  have hb := C.2.1
  refine lv_aload_n hx hb dX8_init_0 rfl (lv_at hl 0 rfl) ?_
  refine zn_objInit C hl.1 z_k23 z_k24 z_cOI (Nat.le_of_ble_eq_true rfl) (Nat.le_of_ble_eq_true rfl) dX8_init_1 ?_
  refine lv_aload_n hx hb dX8_init_4 rfl (lv_at hl 0 rfl) ?_
  refine zn_new C hs z_iX6 tyX6 tyX6_ok z_k26 z_k27 z_k2 (ci := 6) rfl zd_X6 (Nat.le_of_ble_eq_true rfl) (Nat.le_of_ble_eq_true rfl) dX8_init_5 dX8_init_8 (fun q0 H hs => ?_)
  refine zn_callN C hl.1 (cn_T l E) hs ⟨rfl, rfl⟩ z_n28 z_k29 z_k2 z_k30 (by decide +kernel) ⟨(Nat.le_of_ble_eq_true rfl), (Nat.le_of_ble_eq_true rfl)⟩ (Nat.le_of_ble_eq_true rfl) ⟨(Nat.le_of_ble_eq_true rfl), (Nat.le_of_ble_eq_true rfl)⟩ dX8_init_9 (fun f1 H locs hq_1 hsN => ?_)
  subst hq_1
  have hs : zn_H E A s ((h0, .inr (8, [.null, .null, .null, .null, .null])) :: ([] ++ zu_T E f1)) H locs := hsN
  refine zn_putFe C hnm hs rfl z_iX8 tyX8 tyX8_ok nmX8 0 (by decide) z_k342 (by decide +kernel) rfl (.object "LogKeepers$Tape") (by decide +kernel) rfl rfl (Nat.le_of_ble_eq_true rfl) rfl dX8_init_12 (fun H locs hs => ?_)
  have hs : zn_H E A s ((h0, .inr (8, [.ref (f1 0), .null, .null, .null, .null])) :: ([] ++ zu_T E f1)) H locs := hs
  refine lv_aload_n hx hb dX8_init_15 rfl (lv_at hl 0 rfl) ?_
  refine zn_new C hs z_iX7 tyX7 tyX7_ok z_k71 z_k72 z_k3 (ci := 7) rfl zd_X7 (Nat.le_of_ble_eq_true rfl) (Nat.le_of_ble_eq_true rfl) dX8_init_16 dX8_init_19 (fun q2 H hs => ?_)
  refine zn_callI C hl.1 (cn_W l E) hs ⟨rfl, rfl⟩ z_k73 z_k74 z_k3 z_k75 (by decide +kernel) ⟨(Nat.le_of_ble_eq_true rfl), (Nat.le_of_ble_eq_true rfl)⟩ (Nat.le_of_ble_eq_true rfl) ⟨(Nat.le_of_ble_eq_true rfl), (Nat.le_of_ble_eq_true rfl)⟩ dX8_init_20 (fun f3 H locs hq_3 hsN => ?_)
  subst hq_3
  have hs : zn_H E A s ((h0, .inr (8, [.ref (f1 0), .null, .null, .null, .null])) :: (([] ++ zu_T E f1) ++ zu_W E f3)) H locs := hsN
  refine zn_putFe C hnm hs rfl z_iX8 tyX8 tyX8_ok nmX8 1 (by decide) z_k343 (by decide +kernel) rfl (.object "LogKeepers$World") (by decide +kernel) rfl rfl (Nat.le_of_ble_eq_true rfl) rfl dX8_init_23 (fun H locs hs => ?_)
  have hs : zn_H E A s ((h0, .inr (8, [.ref (f1 0), .ref (f3 0), .null, .null, .null])) :: (([] ++ zu_T E f1) ++ zu_W E f3)) H locs := hs
  refine lv_aload_n hx hb dX8_init_26 rfl (lv_at hl 0 rfl) ?_
  refine lv_iconst (v := 3) hx hb dX8_init_27 (by decide) ?_
  refine zn_anew C hs z_k71 C.2.2.2.2.2.1.2.2.2 6 rfl 3 (by decide) (by decide +kernel) (by decide) (Nat.le_of_ble_eq_true rfl) (Nat.le_of_ble_eq_true rfl) dX8_init_28 (fun q4 H hs => ?_)
  have hs : zn_H E A s ((h0, .inr (8, [.ref (f1 0), .ref (f3 0), .null, .null, .null])) :: ((([] ++ zu_T E f1) ++ zu_W E f3) ++ [(q4, .inl (z_cy E 6, 3, .inr (.inr (.inr (.inr (fun _ => none))))))])) H locs := hs
  refine zn_putFe C hnm hs rfl z_iX8 tyX8 tyX8_ok nmX8 2 (by decide) z_k344 (by decide +kernel) rfl (.array (.object "LogKeepers$World")) (by decide +kernel) rfl rfl (Nat.le_of_ble_eq_true rfl) rfl dX8_init_31 (fun H locs hs => ?_)
  have hs : zn_H E A s ((h0, .inr (8, [.ref (f1 0), .ref (f3 0), .ref q4, .null, .null])) :: ((([] ++ zu_T E f1) ++ zu_W E f3) ++ [(q4, .inl (z_cy E 6, 3, .inr (.inr (.inr (.inr (fun _ => none))))))])) H locs := hs
  refine lv_aload_n hx hb dX8_init_34 rfl (lv_at hl 0 rfl) ?_
  refine lv_iconst (v := 3) hx hb dX8_init_35 (by decide) ?_
  refine zn_arr C hs z_aZ rfl 2 rfl (fun _ h => by cases h) 3 (a0 := (3, .inl (fun _ => 0))) (fun _ => rfl) (by decide) (by decide +kernel) (by decide) (Nat.le_of_ble_eq_true rfl) (Nat.le_of_ble_eq_true rfl) dX8_init_36 (fun q5 H hs => ?_)
  have hs : zn_H E A s ((h0, .inr (8, [.ref (f1 0), .ref (f3 0), .ref q4, .null, .null])) :: (((([] ++ zu_T E f1) ++ zu_W E f3) ++ [(q4, .inl (z_cy E 6, 3, .inr (.inr (.inr (.inr (fun _ => none))))))]) ++ [(q5, .inl (z_cy E 2, 3, .inl (fun _ => 0)))])) H locs := hs
  refine zn_putFe C hnm hs rfl z_iX8 tyX8 tyX8_ok nmX8 3 (by decide) z_k345 (by decide +kernel) rfl (.array .boolean) (by decide +kernel) rfl rfl (Nat.le_of_ble_eq_true rfl) rfl dX8_init_38 (fun H locs hs => ?_)
  have hs : zn_H E A s ((h0, .inr (8, [.ref (f1 0), .ref (f3 0), .ref q4, .ref q5, .null])) :: (((([] ++ zu_T E f1) ++ zu_W E f3) ++ [(q4, .inl (z_cy E 6, 3, .inr (.inr (.inr (.inr (fun _ => none))))))]) ++ [(q5, .inl (z_cy E 2, 3, .inl (fun _ => 0)))])) H locs := hs
  refine lv_aload_n hx hb dX8_init_41 rfl (lv_at hl 0 rfl) ?_
  refine zn_new C hs z_iX0 tyX0 tyX0_ok z_k303 z_k304 z_k9 (ci := 0) rfl zd_X0 (Nat.le_of_ble_eq_true rfl) (Nat.le_of_ble_eq_true rfl) dX8_init_42 dX8_init_45 (fun q6 H hs => ?_)
  refine zn_callN C hl.1 (cn_H l E) hs ⟨rfl, rfl⟩ z_n305 z_k306 z_k9 z_k307 (by decide +kernel) ⟨(Nat.le_of_ble_eq_true rfl), (Nat.le_of_ble_eq_true rfl)⟩ (Nat.le_of_ble_eq_true rfl) ⟨(Nat.le_of_ble_eq_true rfl), (Nat.le_of_ble_eq_true rfl)⟩ dX8_init_46 (fun f7 H locs hq_7 hsN => ?_)
  subst hq_7
  have hs : zn_H E A s ((h0, .inr (8, [.ref (f1 0), .ref (f3 0), .ref q4, .ref q5, .null])) :: ((((([] ++ zu_T E f1) ++ zu_W E f3) ++ [(q4, .inl (z_cy E 6, 3, .inr (.inr (.inr (.inr (fun _ => none))))))]) ++ [(q5, .inl (z_cy E 2, 3, .inl (fun _ => 0)))]) ++ zu_H E f7)) H locs := hsN
  refine zn_putFe C hnm hs rfl z_iX8 tyX8 tyX8_ok nmX8 4 (by decide) z_k346 (by decide +kernel) rfl (.object "LogKeepers$History") (by decide +kernel) rfl rfl (Nat.le_of_ble_eq_true rfl) rfl dX8_init_49 (fun H locs hs => ?_)
  have hs : zn_H E A s ((h0, .inr (8, [.ref (f1 0), .ref (f3 0), .ref q4, .ref q5, .ref (f7 0)])) :: ((((([] ++ zu_T E f1) ++ zu_W E f3) ++ [(q4, .inl (z_cy E 6, 3, .inr (.inr (.inr (.inr (fun _ => none))))))]) ++ [(q5, .inl (z_cy E 2, 3, .inl (fun _ => 0)))]) ++ zu_H E f7)) H locs := hs
  have hs := hs
  rw [show ((h0, .inr (8, [.ref (f1 0), .ref (f3 0), .ref q4, .ref q5, .ref (f7 0)])) :: ((((([] ++ zu_T E f1) ++ zu_W E f3) ++ [(q4, .inl (z_cy E 6, 3, .inr (.inr (.inr (.inr (fun _ => none))))))]) ++ [(q5, .inl (z_cy E 2, 3, .inl (fun _ => 0)))]) ++ zu_H E f7)) = zu_X E (z_bigX h0 q4 q5 f1 f7 f3) from (zu_X_of E h0 q4 q5 f1 f7 f3).symm] at hs
  exact zn_retP C hr hs.2.2 (z_bigX h0 q4 q5 f1 f7 f3) rfl hs.1 hs.2.1 dX8_init_52
