/-! history: note, hush -/
theorem eM_isIn (x a b : Int32) (τ : zS) : fM_isIn x a b τ = some (if a ≤ x ∧ x ≤ b then 1 else 0, τ) := by
  unfold fM_isIn
  by_cases h1 : x < a
  · rw [if_pos h1, if_neg (fun hh => i32_nlt.mpr hh.1 h1)]
  rw [if_neg h1]
  by_cases h2 : b < x
  · rw [if_pos h2, if_neg (fun hh => i32_nlt.mpr hh.2 h2)]
  rw [if_neg h2, if_pos ⟨i32_nlt.mp h1, i32_nlt.mp h2⟩]
theorem eX_isWhat (x : Int32) (σ : zS) : fX_isWhat x σ = some (if 0 ≤ x ∧ x ≤ 3 then 1 else 0, σ) := by
  unfold fX_isWhat
  by_cases h1 : x < 0
  · rw [if_pos h1, if_neg (fun hh => i32_nlt.mpr hh.1 h1)]
  rw [if_neg h1]
  by_cases h2 : 3 < x
  · rw [if_pos h2, if_neg (fun hh => i32_nlt.mpr hh.2 h2)]
  rw [if_neg h2, if_pos ⟨i32_nlt.mp h1, i32_nlt.mp h2⟩]
/-- the noted commands are the same -/
def zH_r (σ τ : zS) : Prop := ∃ h : Nat, h ≤ 9 ∧ σ.1 (40, 0, 0) 7 = nI h ∧ τ.1 (100, 0, 0) 26 = nI h ∧ ∀ j, j < h → σ.1 (41, 0, 0) j = τ.1 (110, 0, 0) j ∧ σ.1 (42, 0, 0) j = τ.1 (111, 0, 0) j ∧ σ.1 (43, 0, 0) j = τ.1 (112, 0, 0) j ∧ σ.1 (44, 0, 0) j = τ.1 (113, 0, 0) j ∧ σ.1 (45, 0, 0) j = τ.1 (114, 0, 0) j ∧ σ.1 (41, 0, 0) j ≤ σ.1 (42, 0, 0) j ∧ 0 ≤ σ.1 (43, 0, 0) j ∧ σ.1 (43, 0, 0) j ≤ 3
theorem eH_hush {σ τ : zS} (h : zH_r σ τ) : ∃ r ρ π, fX_hush σ = some (r, ρ) ∧ fM_hush τ = some (r, π) ∧ zH_r ρ π ∧ ρ.1 (40, 0, 0) 8 = 0 ∧ (∀ z : zJ, z ≠ (40, 0, 0) → ρ.1 z = σ.1 z) ∧ (∀ z : zJ, z ≠ (100, 0, 0) → π.1 z = τ.1 z) ∧ (∀ k, k ≠ 26 → π.1 (100, 0, 0) k = τ.1 (100, 0, 0) k) ∧ π.2 = τ.2 := by
  obtain ⟨n, h1, h2, h3, h4⟩ := h
  refine ⟨nI n, z_up (z_up σ (40, 0, 0) 7 0) (40, 0, 0) 8 0, z_up τ (100, 0, 0) 26 0, ?_, ?_, ⟨0, by decide, ?_, ?_, fun j hj => by omega⟩, ?_, fun z hz => ?_, fun z hz => z_up_n _ _ _ hz, fun k hk => ?_, rfl⟩
  · unfold fX_hush fH_clear
    rw [h2]
    rfl
  · unfold fM_hush
    rw [h3]
    rfl
  · rw [z_up_s, upd_n _ _ (by decide), z_up_s, upd_s, nI_0]
  · rw [z_up_s, upd_s, nI_0]
  · rw [z_up_s, upd_s]
  · rw [z_up_n _ _ _ hz, z_up_n _ _ _ hz]
  · rw [z_up_s, upd_n _ _ hk]
set_option maxHeartbeats 1000000 in
theorem eH_addX {σ : zS} {n : Nat} (x1 x2 x3 x4 x5 : Int32) (hn : n < 9) (h2 : σ.1 (40, 0, 0) 7 = nI n) : ∃ ρ, fH_add x1 x2 x3 x4 x5 σ = some (nI n, ρ) ∧ ρ.1 (40, 0, 0) 7 = nI (n + 1) ∧ ρ.1 (40, 0, 0) 8 = 0 ∧ ρ.1 (41, 0, 0) = upd (σ.1 (41, 0, 0)) n x1 ∧ ρ.1 (42, 0, 0) = upd (σ.1 (42, 0, 0)) n x2 ∧ ρ.1 (43, 0, 0) = upd (σ.1 (43, 0, 0)) n x3 ∧ ρ.1 (44, 0, 0) = upd (σ.1 (44, 0, 0)) n x4 ∧ ρ.1 (45, 0, 0) = upd (σ.1 (45, 0, 0)) n x5 ∧ (∀ z : zJ, (z.1 < 40 ∨ 45 < z.1) → ρ.1 z = σ.1 z) := by
  have g : z_in (nI n) 9 = true := nI_inz hn (by decide)
  have kc : (nI n).toNatClampNeg = n := nI_clamp (by omega)
  have lt : nI n < 9 := by
    rw [show (9 : Int32) = nI 9 from by decide +kernel]
    exact nI_lt hn (by decide)
  have m1 : ∀ (t : zS) (q : zJ) (i : Nat) (x : Int32), q ≠ (40, 0, 0) → (z_up t q i x).1 (40, 0, 0) = t.1 (40, 0, 0) := fun t q i x hq => z_up_n t i x (fun hh => hq hh.symm)
  refine ⟨z_up (z_up (z_up (z_up (z_up (z_up (z_up σ (41, 0, 0) n x1) (42, 0, 0) n x2) (43, 0, 0) n x3) (44, 0, 0) n x4) (45, 0, 0) n x5) (40, 0, 0) 7 (nI (n + 1))) (40, 0, 0) 8 0, ?_, ?_, ?_, ?_, ?_, ?_, ?_, ?_, fun z hz => ?_⟩
  · unfold fH_add fH_isFull
    rw [h2, if_pos lt, z_bde, if_pos rfl]
    simp only [z_let, m1 _ (41, 0, 0) _ _ (by decide), m1 _ (42, 0, 0) _ _ (by decide), m1 _ (43, 0, 0) _ _ (by decide), m1 _ (44, 0, 0) _ _ (by decide), m1 _ (45, 0, 0) _ _ (by decide), h2, g, kc, if_true, nI_1]
    rw [z_up_s, upd_n _ _ (by decide), z_up_s, upd_s, nI_pred]
  · rw [z_up_s, upd_n _ _ (by decide), z_up_s, upd_s]
  · rw [z_up_s, upd_s]
  · simp only [z_up_n _ _ _ (show ((41, 0, 0) : zJ) ≠ (40, 0, 0) by decide), z_up_n _ _ _ (show ((41, 0, 0) : zJ) ≠ (42, 0, 0) by decide), z_up_n _ _ _ (show ((41, 0, 0) : zJ) ≠ (43, 0, 0) by decide), z_up_n _ _ _ (show ((41, 0, 0) : zJ) ≠ (44, 0, 0) by decide), z_up_n _ _ _ (show ((41, 0, 0) : zJ) ≠ (45, 0, 0) by decide), z_up_s]
  · simp only [z_up_n _ _ _ (show ((42, 0, 0) : zJ) ≠ (40, 0, 0) by decide), z_up_n _ _ _ (show ((42, 0, 0) : zJ) ≠ (41, 0, 0) by decide), z_up_n _ _ _ (show ((42, 0, 0) : zJ) ≠ (43, 0, 0) by decide), z_up_n _ _ _ (show ((42, 0, 0) : zJ) ≠ (44, 0, 0) by decide), z_up_n _ _ _ (show ((42, 0, 0) : zJ) ≠ (45, 0, 0) by decide), z_up_s]
  · simp only [z_up_n _ _ _ (show ((43, 0, 0) : zJ) ≠ (40, 0, 0) by decide), z_up_n _ _ _ (show ((43, 0, 0) : zJ) ≠ (41, 0, 0) by decide), z_up_n _ _ _ (show ((43, 0, 0) : zJ) ≠ (42, 0, 0) by decide), z_up_n _ _ _ (show ((43, 0, 0) : zJ) ≠ (44, 0, 0) by decide), z_up_n _ _ _ (show ((43, 0, 0) : zJ) ≠ (45, 0, 0) by decide), z_up_s]
  · simp only [z_up_n _ _ _ (show ((44, 0, 0) : zJ) ≠ (40, 0, 0) by decide), z_up_n _ _ _ (show ((44, 0, 0) : zJ) ≠ (41, 0, 0) by decide), z_up_n _ _ _ (show ((44, 0, 0) : zJ) ≠ (42, 0, 0) by decide), z_up_n _ _ _ (show ((44, 0, 0) : zJ) ≠ (43, 0, 0) by decide), z_up_n _ _ _ (show ((44, 0, 0) : zJ) ≠ (45, 0, 0) by decide), z_up_s]
  · simp only [z_up_n _ _ _ (show ((45, 0, 0) : zJ) ≠ (40, 0, 0) by decide), z_up_n _ _ _ (show ((45, 0, 0) : zJ) ≠ (41, 0, 0) by decide), z_up_n _ _ _ (show ((45, 0, 0) : zJ) ≠ (42, 0, 0) by decide), z_up_n _ _ _ (show ((45, 0, 0) : zJ) ≠ (43, 0, 0) by decide), z_up_n _ _ _ (show ((45, 0, 0) : zJ) ≠ (44, 0, 0) by decide), z_up_s]
  · have hne : ∀ q : Nat, 40 ≤ q → q ≤ 45 → z ≠ (q, 0, 0) := fun q q1 q2 hh => by
      rw [hh] at hz
      rcases hz with z1 | z1
      · exact absurd z1 (by show ¬ q < 40; omega)
      · exact absurd z1 (by show ¬ 45 < q; omega)
    rw [z_up_n _ _ _ (hne 40 (by decide) (by decide)), z_up_n _ _ _ (hne 40 (by decide) (by decide)), z_up_n _ _ _ (hne 45 (by decide) (by decide)), z_up_n _ _ _ (hne 44 (by decide) (by decide)), z_up_n _ _ _ (hne 43 (by decide) (by decide)), z_up_n _ _ _ (hne 42 (by decide) (by decide)), z_up_n _ _ _ (hne 41 (by decide) (by decide))]
