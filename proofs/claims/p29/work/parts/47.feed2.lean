theorem eT_room {t : Nat} {σ : zS} (ht : t ≤ 400) (h : σ.1 (31, 0, 0) 4 = nI t) : fT_hasRoomFor 20 σ = some (if t + 20 ≤ 400 then 1 else 0, σ) := by
  have e20 : nI t + 20 = nI (t + 20) := nI_lit t (by decide +kernel)
  unfold fT_hasRoomFor
  rw [h, e20]
  by_cases hr : t + 20 ≤ 400
  · rw [if_pos hr, if_neg (fun hh => by
      rw [show (400 : Int32) = nI 400 from by decide +kernel] at hh
      have := (nI_ltI (a := 400) (b := t + 20) (by decide) (by omega)).mp hh
      omega)]
  · rw [if_neg hr, if_pos (by
      rw [show (400 : Int32) = nI 400 from by decide +kernel]
      exact (nI_ltI (a := 400) (b := t + 20) (by decide) (by omega)).mpr (by omega))]
set_option maxHeartbeats 1000000 in
theorem eT_feed {σ τ : zS} (h : zT_r σ τ) (a b c d e : Int32) : ∃ r ρ π, fX_feed a b c d e σ = some (r, ρ) ∧ fM_feed a b c d e τ = some (r, π) ∧ zT_r ρ π ∧ (∀ z : zJ, z ≠ (31, 0, 0) → z ≠ (32, 0, 0) → ρ.1 z = σ.1 z) ∧ (∀ z : zJ, z ≠ (100, 0, 0) → z ≠ (101, 0, 0) → π.1 z = τ.1 z) ∧ (∀ k, k ≠ 5 → π.1 (100, 0, 0) k = τ.1 (100, 0, 0) k) ∧ π.2 = τ.2 := by
  obtain ⟨⟨t, h1, h2, h3, h4⟩, h5, h6⟩ := id h
  have e20 : nI t + 20 = nI (t + 20) := nI_lit t (by decide +kernel)
  unfold fX_feed fM_feed
  rw [eT_room h1 h2, z_bde, h3, e20]
  by_cases hr : t + 20 ≤ 400
  · rw [if_pos hr, if_neg (by decide), if_pos (by
      rw [show (400 : Int32) = nI 400 from by decide +kernel]
      exact nI_le (by omega) (by decide))]
    rw [eT_put a (by omega) h2, z_bde, eT_put b (t := t + 4) (by omega) (zp4_len _ _ _), z_bde, eT_put c (t := t + 8) (by omega) (zp4_len _ _ _), z_bde, eT_put d (t := t + 12) (by omega) (zp4_len _ _ _), z_bde, eT_put e (t := t + 16) (by omega) (zp4_len _ _ _), z_bde]
    have hm := eM_feed_18 (a := a) (b := b) (c := c) (d := d) (e := e) hr 20 0 z_fu τ rfl (z_fu_big (by decide)) h3
    rw [nI_0] at hm
    obtain ⟨τ1, m1, m2, m3, m4, m5, m6, m7⟩ := hm
    obtain ⟨ρ, eρ⟩ : ∃ ρ, ρ = zp4 (zp4 (zp4 (zp4 (zp4 σ t a) (t + 4) b) (t + 8) c) (t + 12) d) (t + 16) e := ⟨_, rfl⟩
    rw [← eρ]
    have hlen : ρ.1 (31, 0, 0) 4 = nI (t + 20) := by rw [eρ]; exact zp4_len _ _ _
    have h31 : ∀ k, k ≠ 4 → ρ.1 (31, 0, 0) k = σ.1 (31, 0, 0) k := fun k hk => by
      rw [eρ, zp4_31 _ _ _ hk, zp4_31 _ _ _ hk, zp4_31 _ _ _ hk, zp4_31 _ _ _ hk, zp4_31 _ _ _ hk]
    refine ⟨nI (t + 20), ρ, τ1, by rw [hlen], m1, ⟨⟨t + 20, hr, hlen, m4, fun j hj => ?_⟩, ?_, ?_⟩, fun z z1 z2 => ?_, m6, m5, m7⟩
    · by_cases c0 : j < t
      · rw [m3 j (by omega), eρ, zp4_bn _ _ _ (by omega), zp4_bn _ _ _ (by omega), zp4_bn _ _ _ (by omega), zp4_bn _ _ _ (by omega), zp4_bn _ _ _ (by omega)]
        exact h4 j c0
      · obtain ⟨i, rfl⟩ : ∃ i, j = t + i := ⟨j - t, by omega⟩
        have hi : i < 20 := by omega
        rw [m2 i (Nat.zero_le i) hi, pk_andN (n := i) (by omega) (m := 3) 2 (by decide +kernel), eρ]
        unfold mV
        by_cases c4 : i < 4
        · rw [if_pos c4, zp4_bn _ _ _ (by omega), zp4_bn _ _ _ (by omega), zp4_bn _ _ _ (by omega), zp4_bn _ _ _ (by omega), zp4_b _ _ _ c4, show i % 2 ^ 2 = i by omega]
        rw [if_neg c4]
        by_cases c8 : i < 8
        · rw [if_pos c8, zp4_bn _ _ _ (by omega), zp4_bn _ _ _ (by omega), zp4_bn _ _ _ (by omega), show t + i = t + 4 + (i - 4) by omega, zp4_b _ _ _ (by omega), show i % 2 ^ 2 = i - 4 by omega]
        rw [if_neg c8]
        by_cases c12 : i < 12
        · rw [if_pos c12, zp4_bn _ _ _ (by omega), zp4_bn _ _ _ (by omega), show t + i = t + 8 + (i - 8) by omega, zp4_b _ _ _ (by omega), show i % 2 ^ 2 = i - 8 by omega]
        rw [if_neg c12]
        by_cases c16 : i < 16
        · rw [if_pos c16, zp4_bn _ _ _ (by omega), show t + i = t + 12 + (i - 12) by omega, zp4_b _ _ _ (by omega), show i % 2 ^ 2 = i - 12 by omega]
        · rw [if_neg c16, show t + i = t + 16 + (i - 16) by omega, zp4_b _ _ _ (by omega), show i % 2 ^ 2 = i - 16 by omega]
    · rw [h31 6 (by decide), m5 7 (by decide)]
      exact h5
    · rw [h31 7 (by decide), m5 8 (by decide)]
      exact h6
    · rw [eρ, zp4_o _ _ _ z1 z2, zp4_o _ _ _ z1 z2, zp4_o _ _ _ z1 z2, zp4_o _ _ _ z1 z2, zp4_o _ _ _ z1 z2]
  · rw [if_neg hr, if_pos rfl, if_neg (fun hh => by
      rw [show (400 : Int32) = nI 400 from by decide +kernel] at hh
      have := (nI_leI (a := t + 20) (b := 400) (by omega) (by decide)).mp hh
      omega)]
    exact ⟨_, σ, τ, rfl, rfl, h, fun _ _ _ => rfl, fun _ _ _ => rfl, fun _ _ => rfl, rfl⟩
