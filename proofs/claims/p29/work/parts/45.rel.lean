/-! the relation of a world of the class and a row 'all' of the model -/
/-- keeper k -/
def zK_r (σ : zS) (w : Nat) (B : Nat → Int32) (k : Nat) : Prop :=
  (B (320 * k + 0) = σ.1 (10, w, k) 2 ∧ B (320 * k + 1) = σ.1 (10, w, k) 3 ∧ B (320 * k + 5) = σ.1 (10, w, k) 4 ∧ B (320 * k + 2) = σ.1 (10, w, k) 5 ∧ B (320 * k + 3) = σ.1 (10, w, k) 6 ∧ B (320 * k + 4) = σ.1 (10, w, k) 7 ∧ B (320 * k + 6) = σ.1 (10, w, k) 8 ∧ B (320 * k + 9) = σ.1 (10, w, k) 1) ∧
  ((¬ σ.1 (10, w, k) 4 = 0 → B (320 * k + 7) = σ.1 (10, w, k) 9) ∧ (σ.1 (10, w, k) 4 = 2 → B (320 * k + 8) = σ.1 (10, w, k) 10 ∧ ∀ o, o < 7 → B (320 * k + 50 + o) = σ.1 (16, w, k) o ∧ B (320 * k + 57 + o) = σ.1 (17, w, k) o ∧ B (320 * k + 64 + o) = σ.1 (18, w, k) o)) ∧
  (∀ j : Nat, (j : Int) < 6 * ((σ.1 (10, w, k) 7).toInt - (σ.1 (10, w, k) 5).toInt) → B (320 * k + 80 + j) = σ.1 (11, w, k) j) ∧
  zl_lay (fun q => B (320 * k + 10 + q)) (σ.1 (13, w, k)) ∧ zl_lay (fun q => B (320 * k + 30 + q)) (σ.1 (15, w, k))
/-- slot s -/
def zL_r (σ : zS) (w : Nat) (B : Nat → Int32) (s : Nat) : Prop :=
  B (2240 + 64 * s) = σ.1 (20, w, s) 0 ∧ (¬ σ.1 (20, w, s) 0 = -1 → (∀ f, f < 9 → B (2240 + 64 * s + f) = σ.1 (20, w, s) f) ∧
    (σ.1 (20, w, s) 0 = 2 → ∀ j : Nat, (j : Int) < 6 * (σ.1 (20, w, s) 6).toInt → B (2240 + 64 * s + 10 + j) = σ.1 (21, w, s) j) ∧
    (σ.1 (20, w, s) 0 = 4 → zl_lay (fun q => B (2240 + 64 * s + 10 + q)) (σ.1 (23, w, s))))
/-- the reads -/
def zR_r (σ : zS) (w : Nat) (B : Nat → Int32) : Prop := B 4960 = σ.1 (4, w, 0) 4 ∧ ∀ i f : Nat, (i : Int) < (σ.1 (4, w, 0) 4).toInt → f < 4 → B (4800 + 4 * i + f) = σ.1 (5 + f, w, 0) i
def zW_r (N : Nat) (σ : zS) (w : Nat) (B : Nat → Int32) : Prop := (∀ k, k < N → zK_r σ w B k) ∧ (∀ s, s < 40 → zL_r σ w B s) ∧ zR_r σ w B
/-- kinds of letters -/
def zL_k (σ : zS) (w : Nat) : Prop := ∀ s, s < 40 → σ.1 (20, w, s) 0 = -1 ∨ ∃ j : Nat, j < 5 ∧ σ.1 (20, w, s) 0 = nI j
theorem zL_k_dec {x : Int32} (h : x = -1 ∨ ∃ j : Nat, j < 5 ∧ x = nI j) : (x = -1 ↔ x < 0) ∧ (x = -1 ↔ ¬ 0 ≤ x) := by
  rcases h with rfl | ⟨j, hj, rfl⟩
  · exact ⟨⟨fun _ => by decide +kernel, fun _ => rfl⟩, ⟨fun _ => by decide +kernel, fun _ => rfl⟩⟩
  · have h1 : ¬ nI j < 0 := nI_pos (by omega)
    have h2 : ¬ nI j = -1 := fun e1 => h1 (by rw [e1]; decide +kernel)
    exact ⟨⟨fun h => absurd h h2, fun h => absurd h h1⟩, ⟨fun h => absurd h h2, fun h => absurd (i32_nlt.mp h1) h⟩⟩
/-- both find the same empty slot, and as many letters -/
theorem zE_empty {σ τ : zS} {w : Nat} (hL : ∀ s, s < 40 → zL_r σ w (al τ) s) (hk : zL_k σ w) : z_fst (fun s => decide (σ.1 (20, w, s) 0 = -1)) 40 0 = z_fst (fun s => decide (¬ 0 ≤ al τ (2240 + 64 * s))) 40 0 := by
  refine z_fst_congr 40 0 (fun j _ h2 => ?_)
  have h3 : j < 40 := by omega
  have e1 := (hL j h3).1
  have e2 := (zL_k_dec (hk j h3)).2
  rw [e1]
  exact decide_eq_decide.mpr e2
theorem zE_letters {σ τ : zS} {w : Nat} (hL : ∀ s, s < 40 → zL_r σ w (al τ) s) (hk : zL_k σ w) : z_cnt (fun s => decide (¬ σ.1 (20, w, s) 0 = -1)) 40 0 = z_cnt (fun s => decide (¬ al τ (2240 + 64 * s) < 0)) 40 0 := by
  refine z_cnt_congr 40 0 (fun j _ h2 => ?_)
  have h3 : j < 40 := by omega
  have e1 := (hL j h3).1
  have e2 := (zL_k_dec (hk j h3)).1
  rw [e1]
  exact decide_eq_decide.mpr (not_congr e2)
/-! tape: end, fault -/
def zT_r (σ τ : zS) : Prop := (∃ t : Nat, t ≤ 400 ∧ σ.1 (31, 0, 0) 4 = nI t ∧ τ.1 (100, 0, 0) 5 = nI t ∧ ∀ j, j < t → σ.1 (32, 0, 0) j = τ.1 (101, 0, 0) j) ∧ σ.1 (31, 0, 0) 6 = τ.1 (100, 0, 0) 7 ∧ σ.1 (31, 0, 0) 7 = τ.1 (100, 0, 0) 8
theorem eT_fault {σ τ : zS} (h : zT_r σ τ) (x : Int32) : ∃ r, fX_fault x σ = some (r, σ) ∧ fM_fault x τ = some (r, τ) := by
  unfold fX_fault fM_fault
  by_cases h0 : x = 0
  · rw [if_pos h0, if_pos h0, h.2.1]
    exact ⟨_, rfl, rfl⟩
  rw [if_neg h0, if_neg h0]
  by_cases h1 : x = 1
  · rw [if_pos h1, if_pos h1, h.2.2]
    exact ⟨_, rfl, rfl⟩
  rw [if_neg h1, if_neg h1]
  exact ⟨_, rfl, rfl⟩
theorem eT_end {σ τ : zS} (h : zT_r σ τ) (x : Int32) : ∃ r ρ π, fX_end x σ = some (r, ρ) ∧ fM_end x τ = some (r, π) ∧ zT_r ρ π ∧ (∀ a : zJ, a ≠ (31, 0, 0) → ρ.1 a = σ.1 a) ∧ (∀ a : zJ, a ≠ (100, 0, 0) → π.1 a = τ.1 a) ∧ (∀ k, k ≠ 5 → π.1 (100, 0, 0) k = τ.1 (100, 0, 0) k) ∧ π.2 = τ.2 := by
  obtain ⟨⟨t, h1, h2, h3, h4⟩, h5, h6⟩ := h
  unfold fX_end fM_end
  by_cases hn : x < 0
  · rw [if_pos hn, if_pos hn]
    exact ⟨_, σ, τ, rfl, rfl, ⟨⟨t, h1, h2, h3, h4⟩, h5, h6⟩, fun _ _ => rfl, fun _ _ => rfl, fun _ _ => rfl, rfl⟩
  rw [if_neg hn, if_neg hn, h2, h3]
  by_cases hle : x ≤ nI t
  · rw [if_pos hle, if_pos hle]
    obtain ⟨u, hu, rfl⟩ := nI_of hn
    have hut : u ≤ t := (nI_leI hu (by omega)).mp hle
    refine ⟨nI u, z_up σ (31, 0, 0) 4 (nI u), z_up τ (100, 0, 0) 5 (nI u), rfl, rfl, ⟨⟨u, by omega, ?_, ?_, fun j hj => ?_⟩, ?_, ?_⟩, fun a ha => z_up_n _ _ _ ha, fun a ha => z_up_n _ _ _ ha, fun k hk => ?_, rfl⟩
    · rw [z_up_s, upd_s]
    · rw [z_up_s, upd_s]
    · rw [z_up_n _ _ _ (by decide), z_up_n _ _ _ (by decide)]
      exact h4 j (by omega)
    · rw [z_up_s, z_up_s, upd_n _ _ (by decide), upd_n _ _ (by decide)]
      exact h5
    · rw [z_up_s, z_up_s, upd_n _ _ (by decide), upd_n _ _ (by decide)]
      exact h6
    · rw [z_up_s, upd_n _ _ hk]
  · rw [if_neg hle, if_neg hle]
    exact ⟨_, σ, τ, rfl, rfl, ⟨⟨t, h1, h2, h3, h4⟩, h5, h6⟩, fun _ _ => rfl, fun _ _ => rfl, fun _ _ => rfl, rfl⟩
