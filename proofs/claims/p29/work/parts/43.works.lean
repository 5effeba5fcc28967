/-! a command that counts: cells, latest numbers, answers -/
def mAf (t w x : Int32) : Int32 := if t = 0 then x else if t = 1 then w + x else if t = 2 then (if w < x then x else w) else if w = 0 then x else w
def mAn (t w x : Int32) : Int32 := if t = 0 then w else if t = 3 then (if w = 0 then 1 else 0) else mAf t w x
theorem i32_nlt {a b : Int32} : ¬ a < b ↔ b ≤ a := by
  rw [Int32.lt_iff_toInt_lt, Int32.le_iff_toInt_le]
  omega
theorem eM_after (t w x : Int32) (τ : zS) : fM_after t w x τ = some (mAf t w x, τ) := by
  unfold fM_after mAf
  by_cases h0 : t = 0
  · rw [if_pos h0, if_pos h0]
  rw [if_neg h0, if_neg h0]
  by_cases h1 : t = 1
  · rw [if_pos h1, if_pos h1]
  rw [if_neg h1, if_neg h1]
  by_cases h2 : t = 2
  · rw [if_pos h2, if_pos h2]
    by_cases h3 : w < x
    · rw [if_pos h3, if_neg (fun h4 => i32_nlt.mpr h4 h3)]
    · rw [if_neg h3, if_pos (i32_nlt.mp h3)]
  rw [if_neg h2, if_neg h2]
  by_cases h3 : w = 0
  · rw [if_pos h3, if_pos h3]
  · rw [if_neg h3, if_neg h3]
theorem eM_answers (t w x : Int32) (τ : zS) : fM_answers t w x τ = some (mAn t w x, τ) := by
  unfold fM_answers mAn
  by_cases h0 : t = 0
  · rw [if_pos h0, if_pos h0]
  rw [if_neg h0, if_neg h0]
  by_cases h1 : t = 3
  · rw [if_pos h1, if_pos h1]
    by_cases h2 : w = 0
    · rw [if_pos h2, if_pos h2]
    · rw [if_neg h2, if_neg h2]
  rw [if_neg h1, if_neg h1, eM_after, z_bde]
theorem eX_cellBehind (t w x : Int32) (σ : zS) : fX_cellBehind t w x σ = some (mAf t w x, σ) := by
  unfold fX_cellBehind mAf
  by_cases h0 : t = 0
  · rw [if_pos h0, if_pos h0]
  rw [if_neg h0, if_neg h0]
  by_cases h1 : t = 1
  · rw [if_pos h1, if_pos h1]
  rw [if_neg h1, if_neg h1]
  by_cases h2 : t = 2
  · rw [if_pos h2, if_pos h2]
  rw [if_neg h2, if_neg h2]
  by_cases h3 : w = 0
  · rw [if_pos h3, if_pos h3]
  · rw [if_neg h3, if_neg h3]
theorem eX_answerTo (t w x : Int32) (σ : zS) : fX_answerTo t w (mAf t w x) σ = some (mAn t w x, σ) := by
  unfold fX_answerTo mAn
  by_cases h0 : t = 0
  · rw [if_pos h0, if_pos h0]
  rw [if_neg h0, if_neg h0]
  by_cases h1 : t = 3
  · rw [if_pos h1, if_pos h1]
    by_cases h2 : w = 0
    · rw [if_pos h2, if_pos h2]
    · rw [if_neg h2, if_neg h2]
  rw [if_neg h1, if_neg h1]
theorem eX_isClient {k : Nat} (hk : k < 6) (σ : zS) : fX_isClient (nI k) σ = some (1, σ) := by
  unfold fX_isClient
  rw [if_neg (nI_pos (by omega)), if_neg (fun hh => by have := (nI_le_lit (a := 6) (by decide +kernel) (by decide) (by omega)).mp hh; omega)]
theorem eX_isCell {k : Nat} (hk : k < 8) (σ : zS) : fX_isCell (nI k) σ = some (1, σ) := by
  unfold fX_isCell
  rw [if_neg (nI_pos (by omega)), if_neg (fun hh => by have := (nI_le_lit (a := 8) (by decide +kernel) (by decide) (by omega)).mp hh; omega)]
/-- the state behind an entry: g in the model's order (cells, then of each client its latest number and its answer) -/
def mTake (g ee : Nat → Int32) (cl ce : Nat) : Nat → Int32 := if g (8 + 2 * cl) < ee 2 then (fun q => if q = 9 + 2 * cl then mAn (ee 3) (g ce) (ee 5) else if q = 8 + 2 * cl then ee 2 else if q = ce then mAf (ee 3) (g ce) (ee 5) else g q) else g
theorem nI_lit {x : Int32} {a : Nat} (b : Nat) (hx : x = nI a) : nI b + x = nI (b + a) := by rw [hx, nI_add]
set_option maxHeartbeats 1000000 in
theorem eM_works {S B cl ce : Nat} (τ : zS) (hS : S + 20 ≤ 5000) (hB : B + 6 ≤ 5000) (hd : B + 6 ≤ S ∨ S + 20 ≤ B) (hc : cl < 6) (he : ce < 8) (h1 : al τ (B + 1) = nI cl) (h4 : al τ (B + 4) = nI ce) : ∃ τ1, fM_works (nI S) (nI B) τ = some ((), τ1) ∧ (∀ q, q < 20 → al τ1 (S + q) = mTake (fun q => al τ (S + q)) (fun q => al τ (B + q)) cl ce q) ∧ (∀ j, j < S ∨ S + 20 ≤ j → al τ1 j = al τ j) ∧ (∀ a : zJ, a ≠ (103, 0, 0) → τ1.1 a = τ.1 a) ∧ τ1.2 = τ.2 := by
  have i1 : nI B + 1 = nI (B + 1) := nI_1 B
  have i2 : nI B + 2 = nI (B + 2) := nI_lit B (by decide +kernel)
  have i3 : nI B + 3 = nI (B + 3) := nI_lit B (by decide +kernel)
  have i4 : nI B + 4 = nI (B + 4) := nI_lit B (by decide +kernel)
  have i5 : nI B + 5 = nI (B + 5) := nI_lit B (by decide +kernel)
  have k1 : (nI (B + 1)).toNatClampNeg = B + 1 := nI_clamp (by omega)
  have k2 : (nI (B + 2)).toNatClampNeg = B + 2 := nI_clamp (by omega)
  have k3 : (nI (B + 3)).toNatClampNeg = B + 3 := nI_clamp (by omega)
  have k4 : (nI (B + 4)).toNatClampNeg = B + 4 := nI_clamp (by omega)
  have k5 : (nI (B + 5)).toNatClampNeg = B + 5 := nI_clamp (by omega)
  have g1 : z_in (nI (B + 1)) 5000 = true := nI_inz (by omega) (by decide)
  have g2 : z_in (nI (B + 2)) 5000 = true := nI_inz (by omega) (by decide)
  have g3 : z_in (nI (B + 3)) 5000 = true := nI_inz (by omega) (by decide)
  have g4 : z_in (nI (B + 4)) 5000 = true := nI_inz (by omega) (by decide)
  have g5 : z_in (nI (B + 5)) 5000 = true := nI_inz (by omega) (by decide)
  have y2 : nI S + 8 + 2 * al τ (B + 1) = nI (S + 8 + 2 * cl) := by
    rw [h1, nI_lit S (a := 8) (by decide +kernel), show (2 : Int32) = nI 2 from by decide +kernel, pk_mul, nI_add]
  have y4 : nI S + al τ (B + 4) = nI (S + ce) := by rw [h4, nI_add]
  have y2s : nI (S + 8 + 2 * cl) + 1 = nI (S + 9 + 2 * cl) := by
    rw [nI_1]
    congr 1
    omega
  have ky2 : (nI (S + 8 + 2 * cl)).toNatClampNeg = S + 8 + 2 * cl := nI_clamp (by omega)
  have ky4 : (nI (S + ce)).toNatClampNeg = S + ce := nI_clamp (by omega)
  have ky3 : (nI (S + 9 + 2 * cl)).toNatClampNeg = S + 9 + 2 * cl := nI_clamp (by omega)
  have gy2 : z_in (nI (S + 8 + 2 * cl)) 5000 = true := nI_inz (by omega) (by decide)
  have gy4 : z_in (nI (S + ce)) 5000 = true := nI_inz (by omega) (by decide)
  have gy3 : z_in (nI (S + 9 + 2 * cl)) 5000 = true := nI_inz (by omega) (by decide)
  have e0 : fM_works (nI S) (nI B) τ = if al τ (S + 8 + 2 * cl) < al τ (B + 2) then z_let (z_up τ (103, 0, 0) (S + ce) (mAf (al τ (B + 3)) (al τ (S + ce)) (al τ (B + 5)))) (fun t1 => z_let (z_up t1 (103, 0, 0) (S + 8 + 2 * cl) (al t1 (B + 2))) (fun t2 => some ((), z_up t2 (103, 0, 0) (S + 9 + 2 * cl) (mAn (al t2 (B + 3)) (al τ (S + ce)) (al τ (B + 5)))))) else some ((), τ) := by
    unfold fM_works
    simp only [i1, i2, i3, i4, i5, k1, k2, k3, k4, k5, g1, g2, g3, g4, g5, if_true, z_let]
    simp only [show τ.1 (103, 0, 0) (B + 1) = al τ (B + 1) from rfl, show τ.1 (103, 0, 0) (B + 4) = al τ (B + 4) from rfl, y2, y4, ky2, ky4, gy2, gy4, if_true, y2s, ky3, gy3, eM_after, eM_answers, z_bde]
  by_cases hp : al τ (S + 8 + 2 * cl) < al τ (B + 2)
  · have r2 : al (z_up τ (103, 0, 0) (S + ce) (mAf (al τ (B + 3)) (al τ (S + ce)) (al τ (B + 5)))) (B + 2) = al τ (B + 2) := al_n τ _ (by omega)
    have r3 : al (z_up (z_up τ (103, 0, 0) (S + ce) (mAf (al τ (B + 3)) (al τ (S + ce)) (al τ (B + 5)))) (103, 0, 0) (S + 8 + 2 * cl) (al τ (B + 2))) (B + 3) = al τ (B + 3) := by rw [al_n _ _ (by omega), al_n _ _ (by omega)]
    refine ⟨z_up (z_up (z_up τ (103, 0, 0) (S + ce) (mAf (al τ (B + 3)) (al τ (S + ce)) (al τ (B + 5)))) (103, 0, 0) (S + 8 + 2 * cl) (al τ (B + 2))) (103, 0, 0) (S + 9 + 2 * cl) (mAn (al τ (B + 3)) (al τ (S + ce)) (al τ (B + 5))), ?_, fun q hq => ?_, fun j hj => ?_, fun a ha => ?_, rfl⟩
    · rw [e0, if_pos hp]
      simp only [z_let, r2, r3]
    · have hp2 : al τ (S + (8 + 2 * cl)) < al τ (B + 2) := by rw [← Nat.add_assoc]; exact hp
      unfold mTake
      rw [if_pos hp2]
      by_cases q1 : q = 9 + 2 * cl
      · subst q1
        rw [if_pos rfl, show S + (9 + 2 * cl) = S + 9 + 2 * cl by omega, al_s]
      · rw [if_neg q1, al_n _ _ (by omega)]
        by_cases q2 : q = 8 + 2 * cl
        · subst q2
          rw [if_pos rfl, show S + (8 + 2 * cl) = S + 8 + 2 * cl by omega, al_s]
        · rw [if_neg q2, al_n _ _ (by omega)]
          by_cases q3 : q = ce
          · subst q3
            rw [if_pos rfl, al_s]
          · rw [if_neg q3, al_n _ _ (by omega)]
    · rw [al_n _ _ (by omega), al_n _ _ (by omega), al_n _ _ (by omega)]
    · rw [z_up_n _ _ _ ha, z_up_n _ _ _ ha, z_up_n _ _ _ ha]
  · refine ⟨τ, by rw [e0, if_neg hp], fun q hq => ?_, fun _ _ => rfl, fun _ _ => rfl, rfl⟩
    have hp2 : ¬ al τ (S + (8 + 2 * cl)) < al τ (B + 2) := by rw [← Nat.add_assoc]; exact hp
    unfold mTake
    rw [if_neg hp2]
