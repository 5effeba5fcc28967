/-! history: note, hush -/
theorem eM_isIn (x a b : Int32) (τ : zS) : fM_isIn x a b τ = some (if a ≤ x ∧ x ≤ b then 1 else 0, τ) := by
  unfold fM_isIn
  by_cases h1 : x < a
  · rw [if_pos h1, if_neg (fun hh => i32_nlt.mpr hh.1 h1)]
  rw [if_neg h1]
  by_cases h2 : b < x
  · rw [if_pos h2, if_neg (fun hh => i32_nlt.mpr hh.2 h2)]
  rw [if_neg h2, if_pos ⟨i32_nlt.mp h1, i32_nlt.mp h2⟩]
theorem eX_isWhat (x : Int32) (σ : zS) : fX_isWhat x σ = some (if 0 ≤ x ∧ x ≤ 3 then 1 else 0, σ) := by
  unfold fX_isWhat
  by_cases h1 : x < 0
  · rw [if_pos h1, if_neg (fun hh => i32_nlt.mpr hh.1 h1)]
  rw [if_neg h1]
  by_cases h2 : 3 < x
  · rw [if_pos h2, if_neg (fun hh => i32_nlt.mpr hh.2 h2)]
  rw [if_neg h2, if_pos ⟨i32_nlt.mp h1, i32_nlt.mp h2⟩]
/-- the noted commands are the same -/
def zH_r (σ τ : zS) : Prop := ∃ h : Nat, h ≤ 9 ∧ σ.1 (40, 0, 0) 7 = nI h ∧ τ.1 (100, 0, 0) 26 = nI h ∧ ∀ j, j < h → σ.1 (41, 0, 0) j = τ.1 (110, 0, 0) j ∧ σ.1 (42, 0, 0) j = τ.1 (111, 0, 0) j ∧ σ.1 (43, 0, 0) j = τ.1 (112, 0, 0) j ∧ σ.1 (44, 0, 0) j = τ.1 (113, 0, 0) j ∧ σ.1 (45, 0, 0) j = τ.1 (114, 0, 0) j ∧ σ.1 (41, 0, 0) j ≤ σ.1 (42, 0, 0) j ∧ 0 ≤ σ.1 (43, 0, 0) j ∧ σ.1 (43, 0, 0) j ≤ 3
theorem eH_hush {σ τ : zS} (h : zH_r σ τ) : ∃ r ρ π, fX_hush σ = some (r, ρ) ∧ fM_hush τ = some (r, π) ∧ zH_r ρ π ∧ ρ.1 (40, 0, 0) 8 = 0 ∧ (∀ z : zJ, z ≠ (40, 0, 0) → ρ.1 z = σ.1 z) ∧ (∀ z : zJ, z ≠ (100, 0, 0) → π.1 z = τ.1 z) ∧ (∀ k, k ≠ 26 → π.1 (100, 0, 0) k = τ.1 (100, 0, 0) k) ∧ π.2 = τ.2 := by
  obtain ⟨n, h1, h2, h3, h4⟩ := h
  refine ⟨nI n, z_up (z_up σ (40, 0, 0) 7 0) (40, 0, 0) 8 0, z_up τ (100, 0, 0) 26 0, ?_, ?_, ⟨0, by decide, ?_, ?_, fun j hj => by omega⟩, ?_, fun z hz => ?_, fun z hz => z_up_n _ _ _ hz, fun k hk => ?_, rfl⟩
  · unfold fX_hush fH_clear
    rw [h2]
    rfl
  · unfold fM_hush
    rw [h3]
    rfl
  · rw [z_up_s, upd_n _ _ (by decide), z_up_s, upd_s, nI_0]
  · rw [z_up_s, upd_s, nI_0]
  · rw [z_up_s, upd_s]
  · rw [z_up_n _ _ _ hz, z_up_n _ _ _ hz]
  · rw [z_up_s, upd_n _ _ hk]
