/-! keepers -/
theorem kp_byte (x : Int32) : vp_nar .byte x &&& 255 = x &&& 255 := by
  rw [vp_nar_byte]
  apply Int32.toBitVec_inj.1
  rw [Int32.toBitVec_and, Int32.toBitVec_and]
  apply BitVec.eq_of_getLsbD_eq
  intro i hi
  rw [BitVec.getLsbD_and, BitVec.getLsbD_and]
  by_cases c : i < 8
  · have e : x.toInt8.toInt32.toBitVec.getLsbD i = x.toBitVec.getLsbD i := by
      rw [Int8.toBitVec_toInt32, Int32.toBitVec_toInt8, BitVec.getLsbD_signExtend, if_pos c, BitVec.getLsbD_signExtend, if_pos (show i < 32 by omega)]
      simp [hi, c]
    rw [e]
  · have e : ∀ j : Fin 32, 8 ≤ j.val → (255 : Int32).toBitVec.getLsbD j.val = false := by decide +kernel
    rw [e ⟨i, hi⟩ (by show 8 ≤ i; omega), Bool.and_false, Bool.and_false]
theorem m_text {t : Nat} (ht : t ≤ 400) : ∀ (m i F : Nat) (τ : zS), τ.1 (100, 0, 0) 6 = nI t → i + m = t → m < F → ∃ τ', fM_keepers_20 F (nI i) τ = fM_keepers_20 1 (nI t) τ' ∧ (∀ j, i ≤ j → j < t → τ'.1 (102, 0, 0) j = vp_nar .byte (τ.1 (101, 0, 0) j)) ∧ (∀ j, j < i → τ'.1 (102, 0, 0) j = τ.1 (102, 0, 0) j) ∧ (∀ z : zJ, z ≠ (102, 0, 0) → τ'.1 z = τ.1 z) ∧ τ'.2 = τ.2 := by
  intro m
  induction m with
  | zero =>
    intro i F τ h hi hF
    obtain ⟨F, rfl⟩ : ∃ k, F = k + 1 := ⟨F - 1, by omega⟩
    have e : i = t := by omega
    subst e
    refine ⟨τ, ?_, fun j h1 h2 => by omega, fun _ _ => rfl, fun _ _ => rfl, rfl⟩
    rw [fM_keepers_20.eq_2, fM_keepers_20.eq_2, h, if_pos ((nI_leI (by omega) (by omega)).mpr (by omega)), if_pos ((nI_leI (by omega) (by omega)).mpr (by omega))]
  | succ m ih =>
    intro i F τ h hi hF
    obtain ⟨F, rfl⟩ : ∃ k, F = k + 1 := ⟨F - 1, by omega⟩
    obtain ⟨τ', e1, e2, e3, e4, e5⟩ := ih (i + 1) F (z_up τ (102, 0, 0) i (vp_nar .byte (τ.1 (101, 0, 0) i))) (by rw [z_up_n _ _ _ (by decide)]; exact h) (by omega) (by omega)
    refine ⟨τ', ?_, fun j h1 h2 => ?_, fun j hj => ?_, fun z hz => by rw [e4 z hz, z_up_n _ _ _ hz], e5⟩
    · rw [fM_keepers_20.eq_2, h, if_neg (fun q => by have := (nI_leI (by omega) (by omega)).mp q; omega), if_pos (nI_inz (by omega) (by decide)), if_pos (nI_inz (by omega) (by decide)), nI_clamp (by omega)]
      show fM_keepers_20 F (nI i + 1) _ = _
      rw [nI_1]
      exact e1
    · by_cases c : j = i
      · rw [c, e3 i (by omega), z_up_s, upd_s]
      · rw [e2 j (by omega) h2, z_up_n _ _ _ (by decide)]
    · rw [e3 j (by omega), z_up_s, upd_n _ _ (by omega)]
theorem x_kept : ∀ (m i F : Nat) (W : yW), i + m = 3 → m < F → ∃ W2, fX_keepers_32 F (nI i) (cE W) = some (nI (W.1 (0, 0, 0) 3), cE W2) ∧ W2.1 = W.1 ∧ (∀ z : zJ, z ≠ (37, 0, 0) → W2.2.1 z = W.2.1 z) ∧ (∀ b, i ≤ b → b < 3 → W2.2.1 (37, 0, 0) b = 0) ∧ (∀ b, b < i → W2.2.1 (37, 0, 0) b = W.2.1 (37, 0, 0) b) ∧ W2.2.2 = W.2.2 := by
  intro m
  induction m with
  | zero =>
    intro i F W hi hF
    obtain ⟨F, rfl⟩ : ∃ k, F = k + 1 := ⟨F - 1, by omega⟩
    rw [fX_keepers_32.eq_2, if_pos ((nI_le_lit (a := 3) (by decide +kernel) (by decide) (by omega)).mpr (by omega)), cE_1 (z := (0, 0, 0)) (i := 3) rfl]
    exact ⟨W, rfl, rfl, fun _ _ => rfl, fun b h1 h2 => by omega, fun _ _ => rfl, rfl⟩
  | succ m ih =>
    intro i F W hi hF
    obtain ⟨F, rfl⟩ : ∃ k, F = k + 1 := ⟨F - 1, by omega⟩
    rw [fX_keepers_32.eq_2, if_neg (fun hh => by have := (nI_le_lit (a := 3) (by decide +kernel) (by decide) (by omega)).mp hh; omega), if_pos (nI_inz (by omega) (by decide)), nI_clamp (by omega), show vp_nar .boolean 0 = 0 from by decide +kernel, cU0 (z := (37, 0, 0)) rfl]
    obtain ⟨W2, e1, e2, e3, e4, e5, e6⟩ := ih (i + 1) F (yR W (37, 0, 0) i 0) (by omega) (by omega)
    refine ⟨W2, ?_, e2, fun z hz => ?_, fun b h1 h2 => ?_, fun b hb => ?_, e6⟩
    · show fX_keepers_32 F (nI i + 1) _ = _
      rw [nI_1]
      exact e1
    · rw [e3 z hz]; exact z_up_n _ _ _ hz
    · by_cases c : b = i
      · rw [e5 b (by omega)]
        show (z_up W.2 (37, 0, 0) i 0).1 (37, 0, 0) b = 0
        rw [z_up_s, c, upd_s]
      · exact e4 b (by omega) h2
    · rw [e5 b (by omega)]
      show (z_up W.2 (37, 0, 0) i 0).1 (37, 0, 0) b = _
      rw [z_up_s, upd_n _ _ (by omega)]
set_option maxHeartbeats 1000000 in
/-- the model's keepers, to its end -/
theorem m_keepers {t bk : Nat} {b : Nat → Nat} {τ : zS} (ht : t ≤ 400) (hb : ∀ j, b j < 256) (h5 : τ.1 (100, 0, 0) 5 = nI t) (hk : bk < 2) (h12 : τ.1 (100, 0, 0) 12 = nI bk) (hx : ∀ j, j < t → τ.1 (101, 0, 0) j &&& 255 = nI (b j)) (nm ln : Nat → Nat) (sl : Nat → Bool) : ∃ τ0 τ', fM_keepers τ = fM_keepers_151 τ' ∧ kMr τ0 (1 - bk) τ' (kRun b t (t + 1) 0 0 0 nm ln sl) ∧ (∀ z : zJ, z ≠ (100, 0, 0) → z ≠ (102, 0, 0) → z ≠ (106, 0, 0) → z ≠ (107, 0, 0) → τ0.1 z = τ.1 z) ∧ (∀ i, i ≠ 1 - bk → τ0.1 (106, 0, 0) i = τ.1 (106, 0, 0) i ∧ τ0.1 (107, 0, 0) i = τ.1 (107, 0, 0) i) ∧ τ0.1 (100, 0, 0) 5 = 0 ∧ ∀ i, 17 < i ∨ i = 12 → τ0.1 (100, 0, 0) i = τ.1 (100, 0, 0) i := by
  obtain ⟨F, hF, eF⟩ := z_fu_ex
  obtain ⟨τ1, e1⟩ : ∃ s, s = z_up (z_up (z_up τ (100, 0, 0) 7 0) (100, 0, 0) 8 (-1)) (100, 0, 0) 6 (nI t) := ⟨_, rfl⟩
  have d1 : fM_keepers τ = fM_keepers_20 F (nI 0) τ1 := by
    unfold fM_keepers
    rw [eF, nI_0, e1]
    show fM_keepers_20 F 0 (z_up (z_up (z_up τ (100, 0, 0) 7 0) (100, 0, 0) 8 (-1)) (100, 0, 0) 6 ((z_up (z_up τ (100, 0, 0) 7 0) (100, 0, 0) 8 (-1)).1 (100, 0, 0) 5)) = _
    rw [show (z_up (z_up τ (100, 0, 0) 7 0) (100, 0, 0) 8 (-1)).1 (100, 0, 0) 5 = nI t from by rw [z_up_s, upd_n _ _ (by decide), z_up_s, upd_n _ _ (by decide)]; exact h5]
  have a6 : τ1.1 (100, 0, 0) 6 = nI t := by rw [e1, z_up_s, upd_s]
  have a7 : τ1.1 (100, 0, 0) 7 = 0 := by rw [e1, z_up_s, upd_n _ _ (by decide), z_up_s, upd_n _ _ (by decide), z_up_s, upd_s]
  have a8 : τ1.1 (100, 0, 0) 8 = -1 := by rw [e1, z_up_s, upd_n _ _ (by decide), z_up_s, upd_s]
  have ao : ∀ i, i ≠ 6 → i ≠ 7 → i ≠ 8 → τ1.1 (100, 0, 0) i = τ.1 (100, 0, 0) i := fun i i1 i2 i3 => by rw [e1, z_up_s, upd_n _ _ i1, z_up_s, upd_n _ _ i3, z_up_s, upd_n _ _ i2]
  have az : ∀ z : zJ, z ≠ (100, 0, 0) → τ1.1 z = τ.1 z := fun z hz => by rw [e1, z_up_n _ _ _ hz, z_up_n _ _ _ hz, z_up_n _ _ _ hz]
  obtain ⟨τ2, c1, c2, c3, c4, c5⟩ := m_text ht t 0 F τ1 a6 (by omega) (by omega)
  obtain ⟨rb, er⟩ : ∃ r, r = 1 - bk := ⟨_, rfl⟩
  rw [← er]
  have hrb : rb < 2 := by omega
  have gr : z_in (nI rb) 2 = true := nI_inz hrb (by decide)
  have kr : (nI rb).toNatClampNeg = rb := nI_clamp (by omega)
  obtain ⟨τ3, e3⟩ : ∃ s, s = z_up (z_up (z_up τ2 (100, 0, 0) 5 0) (100, 0, 0) 15 0) (100, 0, 0) 13 (nI rb) := ⟨_, rfl⟩
  obtain ⟨τ4, e4⟩ : ∃ s, s = z_up (z_up τ3 (106, 0, 0) rb 0) (107, 0, 0) rb 0 := ⟨_, rfl⟩
  have s13 : τ3.1 (100, 0, 0) 13 = nI rb := by rw [e3, z_up_s, upd_s]
  have s0 : ∀ i, i ≠ 5 → i ≠ 13 → i ≠ 15 → τ3.1 (100, 0, 0) i = τ1.1 (100, 0, 0) i := fun i i1 i2 i3 => by rw [e3, z_up_s, upd_n _ _ i2, z_up_s, upd_n _ _ i3, z_up_s, upd_n _ _ i1, c4 _ (by decide)]
  have sz : ∀ z : zJ, z ≠ (100, 0, 0) → τ3.1 z = τ2.1 z := fun z hz => by rw [e3, z_up_n _ _ _ hz, z_up_n _ _ _ hz, z_up_n _ _ _ hz]
  have u0 : τ4.1 (100, 0, 0) = τ3.1 (100, 0, 0) := by rw [e4, z_up_n _ _ _ (by decide), z_up_n _ _ _ (by decide)]
  have uz : ∀ z : zJ, z ≠ (106, 0, 0) → z ≠ (107, 0, 0) → τ4.1 z = τ3.1 z := fun z z1 z2 => by rw [e4, z_up_n _ _ _ z2, z_up_n _ _ _ z1]
  have d2 : fM_keepers_20 1 (nI t) τ2 = z_bd (fM_goOn τ4) (fun _ σ12 => fM_keepers_90 F σ12) := by
    rw [fM_keepers_20.eq_2, c4 (100, 0, 0) (by decide), a6, if_pos ((nI_leI (by omega) (by omega)).mpr (by omega)), eF]
    show (if z_in ((z_up (z_up (z_up τ2 (100, 0, 0) 5 0) (100, 0, 0) 15 0) (100, 0, 0) 13 (1 - (z_up (z_up τ2 (100, 0, 0) 5 0) (100, 0, 0) 15 0).1 (100, 0, 0) 12)).1 (100, 0, 0) 13) 2 = true then _ else none) = _
    have e12 : (1 : Int32) - (z_up (z_up τ2 (100, 0, 0) 5 0) (100, 0, 0) 15 0).1 (100, 0, 0) 12 = nI rb := by
      rw [z_up_s, upd_n _ _ (by decide), z_up_s, upd_n _ _ (by decide), c4 _ (by decide), ao 12 (by decide) (by decide) (by decide), h12, er, show (1 : Int32) = nI 1 from by decide +kernel]
      exact pk_sub (by omega)
    rw [e12, ← e3, s13, if_pos gr]
    rw [kr, z_let, z_up_n _ _ _ (by decide), s13, if_pos gr, kr, z_let, ← e4]
  have hMb : kMb t b τ4 := by
    refine ⟨ht, hb, by rw [u0, s0 6 (by decide) (by decide) (by decide)]; exact a6, fun j hj => ?_⟩
    rw [uz (102, 0, 0) (by decide) (by decide), sz _ (by decide), c2 j (by omega) hj, az (101, 0, 0) (by decide), kp_byte]
    exact hx j hj
  have hMs : kMs t b τ4 rb τ4 0 0 0 nm ln := by
    refine ⟨hMb, ⟨hrb, by decide, by decide, by decide⟩, ⟨?_, ?_, ?_, ?_, ?_⟩, fun i hi => by omega, fun _ _ _ _ _ => rfl, fun _ _ => ⟨rfl, rfl⟩, fun _ _ => rfl⟩
    · rw [u0, s0 7 (by decide) (by decide) (by decide)]; exact a7
    · rw [u0, s0 8 (by decide) (by decide) (by decide)]; exact a8
    · rw [u0]; exact s13
    · rw [e4, z_up_n _ _ _ (by decide), z_up_s, upd_s, nI_0]
    · rw [e4, z_up_s, upd_s, nI_0]
  obtain ⟨τ5, g1, g2, g3, g4⟩ := kM_goOn (e := 0) hMb (by rw [u0, e3, z_up_s, upd_n _ _ (by decide), z_up_s, upd_s, nI_0]) (by omega)
  obtain ⟨τ6, k1, k2⟩ := kM_run (t + 1) 0 0 F 0 nm ln sl τ5 (kMs_g hMs g2 g4) g3 (by omega) (fun i hi => by omega) (fun i _ => Nat.zero_testBit i) (by omega) (by omega)
  refine ⟨τ4, τ6, ?_, k2, fun z z0 z1 z2 z3 => ?_, fun i hi => ?_, ?_, fun i hi => ?_⟩
  · rw [d1, c1, d2, g1, z_bde, k1]
  · rw [uz z z2 z3, sz z z0, c4 z z1, az z z0]
  · rw [e4, z_up_n _ _ _ (by decide), z_up_s, upd_n _ _ hi, z_up_s, upd_n _ _ hi, z_up_n _ _ _ (by decide), sz _ (by decide), sz _ (by decide), c4 _ (by decide), c4 _ (by decide), az _ (by decide), az _ (by decide)]
    exact ⟨rfl, rfl⟩
  · rw [u0, e3, z_up_s, upd_n _ _ (by decide), z_up_s, upd_n _ _ (by decide), z_up_s, upd_s]
  · rw [u0, s0 i (by omega) (by omega) (by omega), ao i (by omega) (by omega) (by omega)]
