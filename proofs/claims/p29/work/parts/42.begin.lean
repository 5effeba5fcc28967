/-! the model's beginning -/
/-- all but the two rows that begin() writes -/
def zm_fr (τ τ1 : zS) : Prop := (∀ a : zJ, a ≠ (103, 0, 0) → a ≠ (105, 0, 0) → τ1.1 a = τ.1 a) ∧ τ1.2 = τ.2
theorem zm_fr.rf (τ : zS) : zm_fr τ τ := ⟨fun _ _ _ => rfl, rfl⟩
theorem zm_fr.tr {τ τ1 τ2 : zS} (h1 : zm_fr τ τ1) (h2 : zm_fr τ1 τ2) : zm_fr τ τ2 := ⟨fun a h3 h4 => (h2.1 a h3 h4).trans (h1.1 a h3 h4), h2.2.trans h1.2⟩
theorem zm_fr.up3 (τ : zS) (k : Nat) (x : Int32) : zm_fr τ (z_up τ (103, 0, 0) k x) := ⟨fun _ h3 _ => z_up_n τ k x h3, rfl⟩
theorem zm_fr.up5 (τ : zS) (k : Nat) (x : Int32) : zm_fr τ (z_up τ (105, 0, 0) k x) := ⟨fun _ _ h4 => z_up_n τ k x h4, rfl⟩
theorem al_s (τ : zS) (k : Nat) (x : Int32) : al (z_up τ (103, 0, 0) k x) k = x := by
  show (z_up τ (103, 0, 0) k x).1 (103, 0, 0) k = x
  rw [z_up_s, upd_s]
theorem al_n (τ : zS) {k j : Nat} (x : Int32) (h : j ≠ k) : al (z_up τ (103, 0, 0) k x) j = al τ j := by
  show (z_up τ (103, 0, 0) k x).1 (103, 0, 0) j = τ.1 (103, 0, 0) j
  rw [z_up_s, upd_n _ _ h]
theorem eM_begin_73 : ∀ (m i n : Nat) (τ : zS), i + m = 3 → m < n → ∃ τ1, fM_begin_73 n (nI i) τ = some ((), τ1) ∧ (∀ b, i ≤ b → b < 3 → τ1.1 (105, 0, 0) b = 0) ∧ (∀ b, b < i → τ1.1 (105, 0, 0) b = τ.1 (105, 0, 0) b) ∧ (∀ j, al τ1 j = al τ j) ∧ zm_fr τ τ1 := by
  intro m
  induction m with
  | zero =>
    intro i n τ hi hn
    obtain ⟨n, rfl⟩ : ∃ k, n = k + 1 := ⟨n - 1, by omega⟩
    rw [fM_begin_73.eq_2, if_pos ((nI_le_lit (a := 3) (by decide +kernel) (by decide) (by omega)).mpr (by omega))]
    exact ⟨τ, rfl, fun b h1 h2 => by omega, fun _ _ => rfl, fun _ => rfl, zm_fr.rf τ⟩
  | succ m ih =>
    intro i n τ hi hn
    obtain ⟨n, rfl⟩ : ∃ k, n = k + 1 := ⟨n - 1, by omega⟩
    rw [fM_begin_73.eq_2, if_neg (fun hh => by have := (nI_le_lit (a := 3) (by decide +kernel) (by decide) (by omega)).mp hh; omega), if_pos (nI_inz (by omega) (by decide)), nI_clamp (by omega)]
    obtain ⟨τ1, h1, h2, h3, h4, h5⟩ := ih (i + 1) n (z_up τ (105, 0, 0) i (vp_nar .boolean 0)) (by omega) (by omega)
    refine ⟨τ1, ?_, fun b hb1 hb2 => ?_, fun b hb => ?_, fun j => ?_, (zm_fr.up5 τ i _).tr h5⟩
    · show fM_begin_73 n (nI i + 1) (z_up τ (105, 0, 0) i (vp_nar .boolean 0)) = _
      rw [nI_1]
      exact h1
    · by_cases e1 : b = i
      · subst e1
        rw [h3 b (by omega), z_up_s, upd_s]
        decide +kernel
      · exact h2 b (by omega) hb2
    · rw [h3 b (by omega), z_up_s, upd_n _ _ (by omega)]
    · rw [h4 j]
      show (z_up τ (105, 0, 0) i _).1 (103, 0, 0) j = _
      rw [z_up_n τ i _ (by decide)]
theorem eM_begin_45 : ∀ (m i n : Nat) (τ : zS), i + m = 40 → m < n → ∃ τ1, fM_begin_45 n (nI i) τ = fM_begin_73 z_fu 0 τ1 ∧ (∀ s, i ≤ s → s < 40 → al τ1 (2240 + 64 * s) = -1) ∧ (∀ j, (∀ s, i ≤ s → s < 40 → j ≠ 2240 + 64 * s) → al τ1 j = al τ j) ∧ zm_fr τ τ1 := by
  intro m
  induction m with
  | zero =>
    intro i n τ hi hn
    obtain ⟨n, rfl⟩ : ∃ k, n = k + 1 := ⟨n - 1, by omega⟩
    rw [fM_begin_45.eq_2, if_pos ((nI_le_lit (a := 40) (by decide +kernel) (by decide) (by omega)).mpr (by omega))]
    exact ⟨τ, rfl, fun b h1 h2 => by omega, fun _ _ => rfl, zm_fr.rf τ⟩
  | succ m ih =>
    intro i n τ hi hn
    obtain ⟨n, rfl⟩ : ∃ k, n = k + 1 := ⟨n - 1, by omega⟩
    have e1 : (2240 : Int32) + 64 * nI i = nI (2240 + 64 * i) := by
      rw [show (64 : Int32) = nI 64 from by decide +kernel, show (2240 : Int32) = nI 2240 from by decide +kernel, pk_mul, nI_add]
    rw [fM_begin_45.eq_2, if_neg (fun hh => by have := (nI_le_lit (a := 40) (by decide +kernel) (by decide) (by omega)).mp hh; omega), e1, if_pos (nI_inz (by omega) (by decide)), nI_clamp (by omega)]
    obtain ⟨τ1, h1, h2, h3, h5⟩ := ih (i + 1) n (z_up τ (103, 0, 0) (2240 + 64 * i) (-1)) (by omega) (by omega)
    refine ⟨τ1, ?_, fun b hb1 hb2 => ?_, fun j hj => ?_, (zm_fr.up3 τ _ _).tr h5⟩
    · show fM_begin_45 n (nI i + 1) (z_up τ (103, 0, 0) (2240 + 64 * i) (-1)) = _
      rw [nI_1]
      exact h1
    · by_cases e1 : b = i
      · subst e1
        rw [h3 _ (fun s h6 h7 => by omega), al_s]
      · exact h2 b (by omega) hb2
    · rw [h3 j (fun s h6 h7 => hj s (by omega) h7), al_n τ _ (hj i (Nat.le_refl i) (by omega))]
theorem eM_begin_24 : ∀ (m i n : Nat) (τ : zS), i + m = 7 → m < n → ∃ τ1, fM_begin_24 n (nI i) τ = fM_begin_45 z_fu 0 τ1 ∧ (∀ s, i ≤ s → s < 7 → al τ1 (320 * s + 1) = -1) ∧ (∀ j, (∀ s, i ≤ s → s < 7 → j ≠ 320 * s + 1) → al τ1 j = al τ j) ∧ zm_fr τ τ1 := by
  intro m
  induction m with
  | zero =>
    intro i n τ hi hn
    obtain ⟨n, rfl⟩ : ∃ k, n = k + 1 := ⟨n - 1, by omega⟩
    rw [fM_begin_24.eq_2, if_pos ((nI_le_lit (a := 7) (by decide +kernel) (by decide) (by omega)).mpr (by omega))]
    exact ⟨τ, rfl, fun b h1 h2 => by omega, fun _ _ => rfl, zm_fr.rf τ⟩
  | succ m ih =>
    intro i n τ hi hn
    obtain ⟨n, rfl⟩ : ∃ k, n = k + 1 := ⟨n - 1, by omega⟩
    have hp := eM_put (k := i) (w := 1) τ (-1) (by omega) (by decide)
    rw [show nI 1 = (1 : Int32) from by decide +kernel] at hp
    rw [fM_begin_24.eq_2, if_neg (fun hh => by have := (nI_le_lit (a := 7) (by decide +kernel) (by decide) (by omega)).mp hh; omega), hp, z_bde]
    obtain ⟨τ1, h1, h2, h3, h5⟩ := ih (i + 1) n (z_up τ (103, 0, 0) (320 * i + 1) (-1)) (by omega) (by omega)
    refine ⟨τ1, ?_, fun b hb1 hb2 => ?_, fun j hj => ?_, (zm_fr.up3 τ _ _).tr h5⟩
    · show fM_begin_24 n (nI i + 1) (z_up τ (103, 0, 0) (320 * i + 1) (-1)) = _
      rw [nI_1]
      exact h1
    · by_cases e1 : b = i
      · subst e1
        rw [h3 _ (fun s h6 h7 => by omega), al_s]
      · exact h2 b (by omega) hb2
    · rw [h3 j (fun s h6 h7 => hj s (by omega) h7), al_n τ _ (hj i (Nat.le_refl i) (by omega))]
theorem eM_begin_2 : ∀ (m i n : Nat) (τ : zS), i + m = 5000 → m < n → ∃ τ1, fM_begin_2 n (nI i) τ = fM_begin_24 z_fu 0 τ1 ∧ (∀ j, i ≤ j → j < 5000 → al τ1 j = 0) ∧ (∀ j, j < i ∨ 5000 ≤ j → al τ1 j = al τ j) ∧ zm_fr τ τ1 := by
  intro m
  induction m with
  | zero =>
    intro i n τ hi hn
    obtain ⟨n, rfl⟩ : ∃ k, n = k + 1 := ⟨n - 1, by omega⟩
    rw [fM_begin_2.eq_2, if_pos ((nI_le_lit (a := 5000) (by decide +kernel) (by decide) (by omega)).mpr (by omega))]
    exact ⟨τ, rfl, fun b h1 h2 => by omega, fun _ _ => rfl, zm_fr.rf τ⟩
  | succ m ih =>
    intro i n τ hi hn
    obtain ⟨n, rfl⟩ : ∃ k, n = k + 1 := ⟨n - 1, by omega⟩
    rw [fM_begin_2.eq_2, if_neg (fun hh => by have := (nI_le_lit (a := 5000) (by decide +kernel) (by decide) (by omega)).mp hh; omega), if_pos (nI_inz (by omega) (by decide)), nI_clamp (by omega)]
    obtain ⟨τ1, h1, h2, h3, h5⟩ := ih (i + 1) n (z_up τ (103, 0, 0) i 0) (by omega) (by omega)
    refine ⟨τ1, ?_, fun j hj1 hj2 => ?_, fun j hj => ?_, (zm_fr.up3 τ _ _).tr h5⟩
    · show fM_begin_2 n (nI i + 1) (z_up τ (103, 0, 0) i 0) = _
      rw [nI_1]
      exact h1
    · by_cases e1 : j = i
      · subst e1
        rw [h3 _ (Or.inl (by omega)), al_s]
      · exact h2 j (by omega) hj2
    · rw [h3 j (by omega), al_n τ _ (by omega)]
/-- what 'all' is behind begin() -/
def z_all0 (j : Nat) : Int32 := if j < 2240 ∧ j % 320 = 1 then -1 else if 2240 ≤ j ∧ j < 4800 ∧ (j - 2240) % 64 = 0 then -1 else 0
theorem eM_begin (τ : zS) : ∃ τ1, fM_begin τ = some ((), τ1) ∧ (∀ j, j < 5000 → al τ1 j = z_all0 j) ∧ (∀ b, b < 3 → τ1.1 (105, 0, 0) b = 0) ∧ zm_fr τ τ1 := by
  obtain ⟨t1, a1, a2, a3, a4⟩ := eM_begin_2 5000 0 z_fu τ rfl (z_fu_big (by decide))
  obtain ⟨t2, b1, b2, b3, b4⟩ := eM_begin_24 7 0 z_fu t1 rfl (z_fu_big (by decide))
  obtain ⟨t3, c1, c2, c3, c4⟩ := eM_begin_45 40 0 z_fu t2 rfl (z_fu_big (by decide))
  obtain ⟨t4, d1, d2, d3, d4, d5⟩ := eM_begin_73 3 0 z_fu t3 rfl (z_fu_big (by decide))
  rw [nI_0] at a1 b1 c1 d1
  refine ⟨t4, ?_, fun j hj => ?_, fun b hb => d2 b (Nat.zero_le b) hb, ((a4.tr b4).tr c4).tr d5⟩
  · unfold fM_begin
    rw [a1, b1, c1, d1]
  · rw [d4 j]
    unfold z_all0
    by_cases h1 : j < 2240 ∧ j % 320 = 1
    · rw [if_pos h1, c3 j (fun s _ _ => by omega)]
      have h2 := b2 (j / 320) (Nat.zero_le _) (by omega)
      rw [show 320 * (j / 320) + 1 = j by omega] at h2
      exact h2
    · rw [if_neg h1]
      by_cases h3 : 2240 ≤ j ∧ j < 4800 ∧ (j - 2240) % 64 = 0
      · rw [if_pos h3]
        have h2 := c2 ((j - 2240) / 64) (Nat.zero_le _) (by omega)
        rw [show 2240 + 64 * ((j - 2240) / 64) = j by omega] at h2
        exact h2
      · rw [if_neg h3, c3 j (fun s _ _ => by omega), b3 j (fun s _ _ => by omega), a2 j (Nat.zero_le j) hj]
