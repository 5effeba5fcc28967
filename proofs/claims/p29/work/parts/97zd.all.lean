/-! every call keeps the relation (genst.py) -/
theorem st_good : zl_st_good yREL := fun bl σ τ n hn h x => by
  obtain ⟨r, r2, ρ, π, e1, e2, e3, e4⟩ := st_good_w (by omega) h x
  exact ⟨r, r2, ρ, π, e1, e2, e3⟩
theorem st_all : zl_all yREL := ⟨fun _ _ _ _ _ h => yREL_mono h, st_feed, st_end, st_keepers, st_fault, st_ask, st_deliver, st_drop, st_twice, st_fall, st_rise, st_command, st_append, st_fold, st_read, st_good, st_keeper, st_entry, st_state, st_client, st_peer, st_slot, st_note, st_hush, st_judge, st_order, st_image, st_back, st_about⟩
theorem st_1 {τ : zS} (hbeg : fM_begin z_sM = some ((), τ)) : yREL (fun _ => false) z_sX τ 0 := st_0 hbeg
