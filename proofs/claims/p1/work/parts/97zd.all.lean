/-! every call keeps the relation (genst.py) -/
def yREL1 (bl : Nat → Bool) (σ τ : zS) (n : Nat) : Prop := yREL bl σ τ n ∧ (n = 0 → σ.1 (4, 0, 0) 4 = 0)
theorem y1_s {bl : Nat → Bool} {σ τ : zS} {n : Nat} (h : yREL bl σ τ (n + 1)) : yREL1 bl σ τ (n + 1) := ⟨h, fun e => absurd e (Nat.succ_ne_zero n)⟩
theorem y1_feed : zl_st_feed yREL1 := fun bl σ τ n hn h x1 x2 x3 x4 x5 => by
  obtain ⟨r, ρ, π, e1, e2, e3⟩ := st_feed bl σ τ n hn h.1 x1 x2 x3 x4 x5
  exact ⟨r, ρ, π, e1, e2, y1_s e3⟩
theorem y1_end : zl_st_end yREL1 := fun bl σ τ n hn h x1 => by
  obtain ⟨r, ρ, π, e1, e2, e3⟩ := st_end bl σ τ n hn h.1 x1
  exact ⟨r, ρ, π, e1, e2, y1_s e3⟩
theorem y1_keepers : zl_st_keepers yREL1 := fun bl σ τ n hn h => by
  obtain ⟨r, ρ, π, e1, e2, e3⟩ := st_keepers bl σ τ n hn h.1
  exact ⟨r, ρ, π, e1, e2, y1_s e3⟩
theorem y1_fault : zl_st_fault yREL1 := fun bl σ τ n hn h x1 => by
  obtain ⟨r, ρ, π, e1, e2, e3⟩ := st_fault bl σ τ n hn h.1 x1
  exact ⟨r, ρ, π, e1, e2, y1_s e3⟩
theorem y1_ask : zl_st_ask yREL1 := fun bl σ τ n hn h x1 => by
  obtain ⟨r, ρ, π, e1, e2, e3⟩ := st_ask bl σ τ n hn h.1 x1
  exact ⟨r, ρ, π, e1, e2, y1_s e3⟩
theorem y1_deliver : zl_st_deliver yREL1 := fun bl σ τ n hn h x1 => by
  obtain ⟨r, ρ, π, e1, e2, e3⟩ := st_deliver bl σ τ n hn h.1 x1
  exact ⟨r, ρ, π, e1, e2, y1_s e3⟩
theorem y1_drop : zl_st_drop yREL1 := fun bl σ τ n hn h x1 => by
  obtain ⟨r, ρ, π, e1, e2, e3⟩ := st_drop bl σ τ n hn h.1 x1
  exact ⟨r, ρ, π, e1, e2, y1_s e3⟩
theorem y1_twice : zl_st_twice yREL1 := fun bl σ τ n hn h x1 => by
  obtain ⟨r, ρ, π, e1, e2, e3⟩ := st_twice bl σ τ n hn h.1 x1
  exact ⟨r, ρ, π, e1, e2, y1_s e3⟩
theorem y1_fall : zl_st_fall yREL1 := fun bl σ τ n hn h x1 => by
  obtain ⟨r, ρ, π, e1, e2, e3⟩ := st_fall bl σ τ n hn h.1 x1
  exact ⟨r, ρ, π, e1, e2, y1_s e3⟩
theorem y1_rise : zl_st_rise yREL1 := fun bl σ τ n hn h x1 => by
  obtain ⟨r, ρ, π, e1, e2, e3⟩ := st_rise bl σ τ n hn h.1 x1
  exact ⟨r, ρ, π, e1, e2, y1_s e3⟩
theorem y1_command : zl_st_command yREL1 := fun bl σ τ n hn h x1 x2 x3 x4 x5 x6 => by
  obtain ⟨r, ρ, π, e1, e2, e3⟩ := st_command bl σ τ n hn h.1 x1 x2 x3 x4 x5 x6
  exact ⟨r, ρ, π, e1, e2, y1_s e3⟩
theorem y1_append : zl_st_append yREL1 := fun bl σ τ n hn h x1 x2 => by
  obtain ⟨r, ρ, π, e1, e2, e3⟩ := st_append bl σ τ n hn h.1 x1 x2
  exact ⟨r, ρ, π, e1, e2, y1_s e3⟩
theorem y1_fold : zl_st_fold yREL1 := fun bl σ τ n hn h x1 x2 => by
  obtain ⟨r, ρ, π, e1, e2, e3⟩ := st_fold bl σ τ n hn h.1 x1 x2
  exact ⟨r, ρ, π, e1, e2, y1_s e3⟩
theorem y1_read : zl_st_read yREL1 := fun bl σ τ n hn h x1 x2 => by
  obtain ⟨r, ρ, π, e1, e2, e3⟩ := st_read bl σ τ n hn h.1 x1 x2
  exact ⟨r, ρ, π, e1, e2, y1_s e3⟩
theorem y1_good : zl_st_good yREL1 := fun bl σ τ n hn h x => by
  obtain ⟨r, r2, ρ, π, e1, e2, e3, e4⟩ := st_good_w (by omega) h.1 x
  have e := e4 (h.2 (by omega))
  subst e
  exact ⟨r, ρ, π, e1, e2, y1_s e3⟩
theorem y1_keeper : zl_st_keeper yREL1 := fun bl σ τ n hn h x1 x2 => by
  obtain ⟨r, ρ, π, e1, e2, e3⟩ := st_keeper bl σ τ n hn h.1 x1 x2
  exact ⟨r, ρ, π, e1, e2, y1_s e3⟩
theorem y1_entry : zl_st_entry yREL1 := fun bl σ τ n hn h x1 x2 x3 => by
  obtain ⟨r, ρ, π, e1, e2, e3⟩ := st_entry bl σ τ n hn h.1 x1 x2 x3
  exact ⟨r, ρ, π, e1, e2, y1_s e3⟩
theorem y1_state : zl_st_state yREL1 := fun bl σ τ n hn h x1 x2 => by
  obtain ⟨r, ρ, π, e1, e2, e3⟩ := st_state bl σ τ n hn h.1 x1 x2
  exact ⟨r, ρ, π, e1, e2, y1_s e3⟩
theorem y1_client : zl_st_client yREL1 := fun bl σ τ n hn h x1 x2 x3 => by
  obtain ⟨r, ρ, π, e1, e2, e3⟩ := st_client bl σ τ n hn h.1 x1 x2 x3
  exact ⟨r, ρ, π, e1, e2, y1_s e3⟩
theorem y1_peer : zl_st_peer yREL1 := fun bl σ τ n hn h x1 x2 x3 => by
  obtain ⟨r, ρ, π, e1, e2, e3⟩ := st_peer bl σ τ n hn h.1 x1 x2 x3
  exact ⟨r, ρ, π, e1, e2, y1_s e3⟩
theorem y1_slot : zl_st_slot yREL1 := fun bl σ τ n hn h x1 x2 => by
  obtain ⟨r, ρ, π, e1, e2, e3⟩ := st_slot bl σ τ n hn h.1 x1 x2
  exact ⟨r, ρ, π, e1, e2, y1_s e3⟩
theorem y1_note : zl_st_note yREL1 := fun bl σ τ n hn h x1 x2 x3 x4 x5 => by
  obtain ⟨r, ρ, π, e1, e2, e3⟩ := st_note bl σ τ n hn h.1 x1 x2 x3 x4 x5
  exact ⟨r, ρ, π, e1, e2, y1_s e3⟩
theorem y1_hush : zl_st_hush yREL1 := fun bl σ τ n hn h => by
  obtain ⟨r, ρ, π, e1, e2, e3⟩ := st_hush bl σ τ n hn h.1
  exact ⟨r, ρ, π, e1, e2, y1_s e3⟩
theorem y1_judge : zl_st_judge yREL1 := fun bl σ τ n hn h => by
  obtain ⟨r, ρ, π, e1, e2, e3⟩ := st_judge bl σ τ n hn h.1
  exact ⟨r, ρ, π, e1, e2, y1_s e3⟩
theorem y1_order : zl_st_order yREL1 := fun bl σ τ n hn h x1 => by
  obtain ⟨r, ρ, π, e1, e2, e3⟩ := st_order bl σ τ n hn h.1 x1
  exact ⟨r, ρ, π, e1, e2, y1_s e3⟩
theorem y1_image : zl_st_image yREL1 := fun bl σ τ n hn h x => by
  rcases st_image bl σ τ n hn h.1 x with ⟨r, ρ, π, e1, e2, e3⟩ | ⟨r, r1, ρ, π, a1, a2, a3, a4, a5, a6, e3⟩
  · exact Or.inl ⟨r, ρ, π, e1, e2, y1_s e3⟩
  · exact Or.inr ⟨r, r1, ρ, π, a1, a2, a3, a4, a5, a6, y1_s e3⟩
theorem y1_back : zl_st_back yREL1 := fun bl σ τ n hn h x1 => by
  obtain ⟨r, ρ, π, e1, e2, e3⟩ := st_back bl σ τ n hn h.1 x1
  exact ⟨r, ρ, π, e1, e2, y1_s e3⟩
theorem y1_about : zl_st_about yREL1 := fun bl σ τ n hn h x1 => by
  obtain ⟨r, ρ, π, e1, e2, e3⟩ := st_about bl σ τ n hn h.1 x1
  exact ⟨r, ρ, π, e1, e2, y1_s e3⟩
theorem st_all : zl_all yREL1 := ⟨fun _ _ _ _ _ h => y1_s (yREL_mono h.1), y1_feed, y1_end, y1_keepers, y1_fault, y1_ask, y1_deliver, y1_drop, y1_twice, y1_fall, y1_rise, y1_command, y1_append, y1_fold, y1_read, y1_good, y1_keeper, y1_entry, y1_state, y1_client, y1_peer, y1_slot, y1_note, y1_hush, y1_judge, y1_order, y1_image, y1_back, y1_about⟩
theorem st_1 {τ : zS} (hbeg : fM_begin z_sM = some ((), τ)) : yREL1 (fun _ => false) z_sX τ 0 := ⟨st_0 hbeg, fun _ => by first | rfl | decide +kernel⟩
