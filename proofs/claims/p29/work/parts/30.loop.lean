/-- all of it: every call keeps the relation -/
def zl_all (REL : (Nat → Bool) → zS → zS → Nat → Prop) : Prop := (∀ (bl : Nat → Bool) (σ τ : zS) (n : Nat), n < 512 → REL bl σ τ n → REL bl σ τ (n + 1)) ∧ zl_st_feed REL ∧ zl_st_end REL ∧ zl_st_keepers REL ∧ zl_st_fault REL ∧ zl_st_ask REL ∧ zl_st_deliver REL ∧ zl_st_drop REL ∧ zl_st_twice REL ∧ zl_st_fall REL ∧ zl_st_rise REL ∧ zl_st_command REL ∧ zl_st_append REL ∧ zl_st_fold REL ∧ zl_st_read REL ∧ zl_st_good REL ∧ zl_st_keeper REL ∧ zl_st_entry REL ∧ zl_st_state REL ∧ zl_st_client REL ∧ zl_st_peer REL ∧ zl_st_slot REL ∧ zl_st_note REL ∧ zl_st_hush REL ∧ zl_st_judge REL ∧ zl_st_order REL ∧ zl_st_image REL ∧ zl_st_back REL ∧ zl_st_about REL
section zl_loop
variable {p : Program} {l : Launch} {e : Env} {s : State} {m : MethodId} {args : Array Value} {below : List Frame} {meth : Method} {c : Code} {Q : State → Prop}
variable {M : zE} {A : Nat → Prop} {K V : Nat → Nat} {fv : Value} {b0 L : Nat} {xs : Nat → Int32} {REL : (Nat → Bool) → zS → zS → Nat → Prop}
set_option maxHeartbeats 8000000 in
set_option maxRecDepth 20000 in
theorem zl_body (C : zl_L K V fv A p s m args meth c b0 L xs) (AL : zl_all REL) {n : Nat} {X : zE} {bl : Nat → Bool} {σ τ : zS} {H : Heap} {locs : List Loc} {ls : Array Slot} (I : zl_I A s X M bl σ τ H locs) (hl : lv_has ls 4 [(3, .int (nI (7 * n))), (2, .ref (z_ad M (100, 0, 0))), (1, .ref (z_ad X (30, 0, 0))), (0, .ref b0)]) (hn : 7 * n + 7 ≤ L) (h0 : REL bl σ τ n) (KK : zl_K l e A s M p m args below meth c Q REL n b0) : W p l e room_1 s m args below meth c H locs (276 + 243 * zl_nb bl) (27114 + 5098 * zl_nb bl) Q (F0 m 27 ls []) := by
  have hx := C.1
  have hb := C.2.1
  have hL : L ≤ 3584 := C.2.2.2.2.2.2.2.2.2.2.2
  refine lv_aload_n hx hb dL_law_27 rfl (lv_at hl 3 rfl) ?_
  refine lv_iload_n hx hb dL_law_28 rfl (lv_at hl 0 rfl) ?_
  refine zl_ld0 C I.2.2.2.2.2.2.2.1.2 hn dL_law_29 ?_
  refine lv_bipush (v := 31) hx hb dL_law_30 (by decide) ?_
  refine lv_iand hx hb dL_law_32 ?_
  obtain ⟨j, hj, ej⟩ := pk_andE (xs (7 * n)) (m := 31) 5 (by decide)
  rw [ej]
  have hj32 : j < 32 := hj
  by_cases h27 : j ≤ 27
  · rcases (show j = 0 ∨ j = 1 ∨ j = 2 ∨ j = 3 ∨ j = 4 ∨ j = 5 ∨ j = 6 ∨ j = 7 ∨ j = 8 ∨ j = 9 ∨ j = 10 ∨ j = 11 ∨ j = 12 ∨ j = 13 ∨ j = 14 ∨ j = 15 ∨ j = 16 ∨ j = 17 ∨ j = 18 ∨ j = 19 ∨ j = 20 ∨ j = 21 ∨ j = 22 ∨ j = 23 ∨ j = 24 ∨ j = 25 ∨ j = 26 ∨ j = 27 by omega) with rfl | rfl | rfl | rfl | rfl | rfl | rfl | rfl | rfl | rfl | rfl | rfl | rfl | rfl | rfl | rfl | rfl | rfl | rfl | rfl | rfl | rfl | rfl | rfl | rfl | rfl | rfl | rfl
    · exact lv_tableIn (off := 127) (tgt := 160) hx hb dL_law_33 (by decide +kernel) (by decide +kernel) (by decide +kernel) (by decide) (zl_c0 C I hl hn h0 AL.2.1 KK)
    · exact lv_tableIn (off := 190) (tgt := 223) hx hb dL_law_33 (by decide +kernel) (by decide +kernel) (by decide +kernel) (by decide) (zl_c1 C I hl hn h0 AL.2.2.1 KK)
    · exact lv_tableIn (off := 213) (tgt := 246) hx hb dL_law_33 (by decide +kernel) (by decide +kernel) (by decide +kernel) (by decide) (zl_c2 C I hl hn h0 AL.2.2.2.1 KK)
    · exact lv_tableIn (off := 226) (tgt := 259) hx hb dL_law_33 (by decide +kernel) (by decide +kernel) (by decide +kernel) (by decide) (zl_c3 C I hl hn h0 AL.2.2.2.2.1 KK)
    · exact lv_tableIn (off := 249) (tgt := 282) hx hb dL_law_33 (by decide +kernel) (by decide +kernel) (by decide +kernel) (by decide) (zl_c4 C I hl hn h0 AL.2.2.2.2.2.1 KK)
    · exact lv_tableIn (off := 272) (tgt := 305) hx hb dL_law_33 (by decide +kernel) (by decide +kernel) (by decide +kernel) (by decide) (zl_c5 C I hl hn h0 AL.2.2.2.2.2.2.1 KK)
    · exact lv_tableIn (off := 295) (tgt := 328) hx hb dL_law_33 (by decide +kernel) (by decide +kernel) (by decide +kernel) (by decide) (zl_c6 C I hl hn h0 AL.2.2.2.2.2.2.2.1 KK)
    · exact lv_tableIn (off := 318) (tgt := 351) hx hb dL_law_33 (by decide +kernel) (by decide +kernel) (by decide +kernel) (by decide) (zl_c7 C I hl hn h0 AL.2.2.2.2.2.2.2.2.1 KK)
    · exact lv_tableIn (off := 341) (tgt := 374) hx hb dL_law_33 (by decide +kernel) (by decide +kernel) (by decide +kernel) (by decide) (zl_c8 C I hl hn h0 AL.2.2.2.2.2.2.2.2.2.1 KK)
    · exact lv_tableIn (off := 364) (tgt := 397) hx hb dL_law_33 (by decide +kernel) (by decide +kernel) (by decide +kernel) (by decide) (zl_c9 C I hl hn h0 AL.2.2.2.2.2.2.2.2.2.2.1 KK)
    · exact lv_tableIn (off := 387) (tgt := 420) hx hb dL_law_33 (by decide +kernel) (by decide +kernel) (by decide +kernel) (by decide) (zl_c10 C I hl hn h0 AL.2.2.2.2.2.2.2.2.2.2.2.1 KK)
    · exact lv_tableIn (off := 462) (tgt := 495) hx hb dL_law_33 (by decide +kernel) (by decide +kernel) (by decide +kernel) (by decide) (zl_c11 C I hl hn h0 AL.2.2.2.2.2.2.2.2.2.2.2.2.1 KK)
    · exact lv_tableIn (off := 495) (tgt := 528) hx hb dL_law_33 (by decide +kernel) (by decide +kernel) (by decide +kernel) (by decide) (zl_c12 C I hl hn h0 AL.2.2.2.2.2.2.2.2.2.2.2.2.2.1 KK)
    · exact lv_tableIn (off := 528) (tgt := 561) hx hb dL_law_33 (by decide +kernel) (by decide +kernel) (by decide +kernel) (by decide) (zl_c13 C I hl hn h0 AL.2.2.2.2.2.2.2.2.2.2.2.2.2.2.1 KK)
    · exact lv_tableIn (off := 561) (tgt := 594) hx hb dL_law_33 (by decide +kernel) (by decide +kernel) (by decide +kernel) (by decide) (zl_c14 C I hl hn h0 AL.2.2.2.2.2.2.2.2.2.2.2.2.2.2.2.1 KK)
    · exact lv_tableIn (off := 584) (tgt := 617) hx hb dL_law_33 (by decide +kernel) (by decide +kernel) (by decide +kernel) (by decide) (zl_c15 C I hl hn h0 AL.2.2.2.2.2.2.2.2.2.2.2.2.2.2.2.2.1 KK)
    · exact lv_tableIn (off := 617) (tgt := 650) hx hb dL_law_33 (by decide +kernel) (by decide +kernel) (by decide +kernel) (by decide) (zl_c16 C I hl hn h0 AL.2.2.2.2.2.2.2.2.2.2.2.2.2.2.2.2.2.1 KK)
    · exact lv_tableIn (off := 660) (tgt := 693) hx hb dL_law_33 (by decide +kernel) (by decide +kernel) (by decide +kernel) (by decide) (zl_c17 C I hl hn h0 AL.2.2.2.2.2.2.2.2.2.2.2.2.2.2.2.2.2.2.1 KK)
    · exact lv_tableIn (off := 693) (tgt := 726) hx hb dL_law_33 (by decide +kernel) (by decide +kernel) (by decide +kernel) (by decide) (zl_c18 C I hl hn h0 AL.2.2.2.2.2.2.2.2.2.2.2.2.2.2.2.2.2.2.2.1 KK)
    · exact lv_tableIn (off := 736) (tgt := 769) hx hb dL_law_33 (by decide +kernel) (by decide +kernel) (by decide +kernel) (by decide) (zl_c19 C I hl hn h0 AL.2.2.2.2.2.2.2.2.2.2.2.2.2.2.2.2.2.2.2.2.1 KK)
    · exact lv_tableIn (off := 779) (tgt := 812) hx hb dL_law_33 (by decide +kernel) (by decide +kernel) (by decide +kernel) (by decide) (zl_c20 C I hl hn h0 AL.2.2.2.2.2.2.2.2.2.2.2.2.2.2.2.2.2.2.2.2.2.1 KK)
    · exact lv_tableIn (off := 812) (tgt := 845) hx hb dL_law_33 (by decide +kernel) (by decide +kernel) (by decide +kernel) (by decide) (zl_c21 C I hl hn h0 AL.2.2.2.2.2.2.2.2.2.2.2.2.2.2.2.2.2.2.2.2.2.2.1 KK)
    · exact lv_tableIn (off := 875) (tgt := 908) hx hb dL_law_33 (by decide +kernel) (by decide +kernel) (by decide +kernel) (by decide) (zl_c22 C I hl hn h0 AL.2.2.2.2.2.2.2.2.2.2.2.2.2.2.2.2.2.2.2.2.2.2.2.1 KK)
    · exact lv_tableIn (off := 888) (tgt := 921) hx hb dL_law_33 (by decide +kernel) (by decide +kernel) (by decide +kernel) (by decide) (zl_c23 C I hl hn h0 AL.2.2.2.2.2.2.2.2.2.2.2.2.2.2.2.2.2.2.2.2.2.2.2.2.1 KK)
    · exact lv_tableIn (off := 901) (tgt := 934) hx hb dL_law_33 (by decide +kernel) (by decide +kernel) (by decide +kernel) (by decide) (zl_c24 C I hl hn h0 AL.2.2.2.2.2.2.2.2.2.2.2.2.2.2.2.2.2.2.2.2.2.2.2.2.2.1 KK)
    · exact lv_tableIn (off := 924) (tgt := 957) hx hb dL_law_33 (by decide +kernel) (by decide +kernel) (by decide +kernel) (by decide) (zl_c25 C I hl hn h0 AL.2.2.2.2.2.2.2.2.2.2.2.2.2.2.2.2.2.2.2.2.2.2.2.2.2.2.1 KK)
    · exact lv_tableIn (off := 947) (tgt := 980) hx hb dL_law_33 (by decide +kernel) (by decide +kernel) (by decide +kernel) (by decide) (zl_c26 C I hl hn h0 AL.2.2.2.2.2.2.2.2.2.2.2.2.2.2.2.2.2.2.2.2.2.2.2.2.2.2.2.1 KK)
    · exact lv_tableIn (off := 970) (tgt := 1003) hx hb dL_law_33 (by decide +kernel) (by decide +kernel) (by decide +kernel) (by decide) (zl_c27 C I hl hn h0 AL.2.2.2.2.2.2.2.2.2.2.2.2.2.2.2.2.2.2.2.2.2.2.2.2.2.2.2.2 KK)
  · refine lv_tableOut (tgt := 1026) hx hb dL_law_33 (Or.inr (by rw [nI_toInt (by omega)]; omega)) (by decide) ?_
    exact W.widen (by omega) (by omega) (KK X bl σ τ H locs ls I hl (AL.1 bl σ τ n (by omega) h0))
set_option maxHeartbeats 4000000 in
set_option maxRecDepth 20000 in
theorem zl_loop (C : zl_L K V fv A p s m args meth c b0 L xs) (AL : zl_all REL) (KE : ∀ (H : Heap) (locs : List Loc) (ls : Array Slot) (cells slots : Nat), cells ≤ 600000 → slots ≤ 7302250 → va_S A s.heap H locs → W p l e room_1 s m args below meth c H locs cells slots Q (F0 m 1032 ls [])) (k : Nat) : ∀ (n : Nat) (X : zE) (bl : Nat → Bool) (σ τ : zS) (H : Heap) (locs : List Loc) (ls : Array Slot), n + k = 512 → zl_I A s X M bl σ τ H locs → lv_has ls 4 [(3, .int (nI (7 * n))), (2, .ref (z_ad M (100, 0, 0))), (1, .ref (z_ad X (30, 0, 0))), (0, .ref b0)] → REL bl σ τ n → W p l e room_1 s m args below meth c H locs (276 + 243 * zl_nb bl) (27114 + 5098 * zl_nb bl) Q (F0 m 18 ls []) := by
  have hx := C.1
  have hb := C.2.1
  obtain ⟨-, -, hml, hown, hts, hA, hlk, hX, hXs, hbl, hbA, hL⟩ := id C
  induction k with
  | zero =>
    intro n X bl σ τ H locs ls hnk I hl h0
    have hnb := zl_nb_le bl
    refine lv_iload_n hx hb dL_law_18 rfl (lv_at hl 0 rfl) ?_
    refine lv_aload_n hx hb dL_law_19 rfl (lv_at hl 3 rfl) ?_
    refine va_slen hx hb hXs hbl hbA I.2.2.2.2.2.2.2.1.2 dL_law_20 ?_
    refine lv_bipush (v := 7) hx hb dL_law_21 (by decide) ?_
    refine lv_isub hx hb dL_law_23 ?_
    refine lv_icmp_gt (tgt := 1032) hx hb dL_law_24 (by decide) (fun _ => KE H locs ls _ _ (by omega) (by omega) I.2.2.2.2.2.2.2.1.2) (fun hc => absurd ?_ hc)
    rw [Int32.lt_iff_toInt_lt, show (7 : Int32) = nI 7 from by decide +kernel, nI_toInt (by omega)]
    show (nI L - nI 7).toInt < _
    rw [pk_sub_toInt (by omega) (by omega)]
    omega
  | succ k ih =>
    intro n X bl σ τ H locs ls hnk I hl h0
    have hnb := zl_nb_le bl
    refine lv_iload_n hx hb dL_law_18 rfl (lv_at hl 0 rfl) ?_
    refine lv_aload_n hx hb dL_law_19 rfl (lv_at hl 3 rfl) ?_
    refine va_slen hx hb hXs hbl hbA I.2.2.2.2.2.2.2.1.2 dL_law_20 ?_
    refine lv_bipush (v := 7) hx hb dL_law_21 (by decide) ?_
    refine lv_isub hx hb dL_law_23 ?_
    refine lv_icmp_gt (tgt := 1032) hx hb dL_law_24 (by decide) (fun _ => KE H locs ls _ _ (by omega) (by omega) I.2.2.2.2.2.2.2.1.2) (fun hc => ?_)
    have hn : 7 * n + 7 ≤ L := by
      rw [Int32.lt_iff_toInt_lt, show (7 : Int32) = nI 7 from by decide +kernel, nI_toInt (by omega)] at hc
      have h7 : (nI L - nI 7).toInt = (L : Int) - 7 := pk_sub_toInt (by omega) (by omega)
      have hc2 : ¬ (nI L - nI 7).toInt < ((7 * n : Nat) : Int) := hc
      rw [h7] at hc2
      omega
    refine zl_body C AL I hl hn h0 (fun X bl σ τ H locs ls I hl h1 => ?_)
    refine lv_iinc (v := nI (7 * (n + 1))) (lv' := [(3, .int (nI (7 * (n + 1)))), (2, .ref (z_ad M (100, 0, 0))), (1, .ref (z_ad X (30, 0, 0))), (0, .ref b0)]) hx hb dL_law_1026 hl (k := 0) rfl ?_ (by decide) rfl (fun ls hl => ?_)
    · show nI (7 * n) + nI 7 = nI (7 * (n + 1))
      rw [nI_add]
      rfl
    refine lv_goto (tgt := 18) hx hb dL_law_1029 (by decide) ?_
    exact ih (n + 1) X bl σ τ H locs ls (by omega) I hl h1
end zl_loop
