/-! the model gets answers -/
theorem yc_Ia11 {t : Nat} (ht : t = 16 ∨ t = 17 ∨ t = 18) (W : yW) (w k f v : Nat) (j : Nat) : (cE (yI W (t, w, k) f v)).1 (11, w, k) j = (cE W).1 (11, w, k) j := by
  rw [cE_at, cE_at, yI_z _ _ (by simp; omega)]
  rfl
theorem mK_arr {B : Nat → Int32} {W : yW} {w k t g o v : Nat} (h : mK B W w k) (hp : (t = 16 ∧ g = 50) ∨ (t = 17 ∧ g = 57) ∨ (t = 18 ∧ g = 64)) (ho : o < 7) : mK (upd B (320 * k + (g + o)) (nI v)) (yI W (t, w, k) o v) w k := by
  obtain ⟨⟨a1, a2, a3, a4, a5, a6, a7, a8⟩, b1, b2, b3, b4, b5⟩ := h
  have u : ∀ i, i ≠ 320 * k + (g + o) → upd B (320 * k + (g + o)) (nI v) i = B i := fun i hi => upd_n _ _ hi
  have e10 : ∀ i, (yI W (t, w, k) o v).1 (10, w, k) i = W.1 (10, w, k) i := fun i => yI_z _ _ (by simp; omega)
  have e11 := yc_Ia11 (t := t) (by omega) W w k o v
  unfold mK
  simp only [e10, e11, yI_r]
  refine ⟨⟨?_, ?_, ?_, ?_, ?_, ?_, ?_, ?_⟩, fun e => ?_, fun e => ⟨?_, fun q hq => ?_⟩, fun j hj => ?_, zl_lay_c (fun q hq => u _ (by omega)) b4, zl_lay_c (fun q hq => u _ (by omega)) b5⟩
  · rw [u _ (by omega)]; exact a1
  · rw [u _ (by omega)]; exact a2
  · rw [u _ (by omega)]; exact a3
  · rw [u _ (by omega)]; exact a4
  · rw [u _ (by omega)]; exact a5
  · rw [u _ (by omega)]; exact a6
  · rw [u _ (by omega)]; exact a7
  · rw [u _ (by omega)]; exact a8
  · rw [u _ (by omega)]; exact b1 e
  · rw [u _ (by omega)]; exact (b2 e).1
  · obtain ⟨c1, c2, c3⟩ := (b2 e).2 q hq
    rw [yI_at, yI_at, yI_at]
    unfold upd
    clear b1 b2 b3 b4 b5 u e10 e11
    rcases hp with ⟨rfl, rfl⟩ | ⟨rfl, rfl⟩ | ⟨rfl, rfl⟩ <;> refine ⟨?_, ?_, ?_⟩ <;> grind
  · rw [u _ (by omega)]; exact b3 j hj
section mansw
variable {τ0 τ : zS} {W : yW} {k : Nat}
theorem mw_arr {t g o v : Nat} (h : mR τ0 τ W) (a : yA W 0) (hk : k < W.1 (0, 0, 0) 3) (hp : (t = 16 ∧ g = 50) ∨ (t = 17 ∧ g = 57) ∨ (t = 18 ∧ g = 64)) (ho : o < 7) : ∃ τ', fM_put (nI k) (nI (g + o)) (nI v) τ = some ((), τ') ∧ mR τ0 τ' (yI W (t, 0, k) o v) := by
  have k7 : k < 7 := by have := h.1.1.1; omega
  rw [eM_put τ _ k7 (by omega)]
  refine ⟨_, rfl, mR_k h a hk (fun i hi => upd_n _ _ (by omega)) (fun z i hz => yI_z _ _ (fun e => by rw [e] at hz; simp at hz; omega)) (fun z _ => rfl) (yI_z _ _ (by simp; omega)) (mK_arr (h.2.1.1 k hk) hp ho)⟩
theorem yA_arr {t o v : Nat} (a : yA W 0) (ht : t = 16 ∨ t = 17 ∨ t = 18) : yA (yI W (t, 0, k) o v) 0 := yA_I a (by simp; omega)
theorem m_getsAnswer (h : mR τ0 τ W) (hH : mHd (τ0.1 (109, 0, 0)) W) (a : yA W 0) (hE : yEn W) (hB : ∀ z i, W.1 z i < 40000) (hk : k < W.1 (0, 0, 0) 3) (hf : W.1 (20, 0, 40) 1 < 7) (hr : W.1 (10, 0, k) 4 ≤ 2) (h5 : W.1 (10, 0, k) 5 ≤ W.1 (10, 0, k) 8) (hn : W.1 (10, 0, k) 4 = 2 → 1 ≤ W.1 (16, 0, k) (W.1 (20, 0, 40) 1)) (h4 : W.1 (20, 0, 40) 4 ≤ 1) : ∃ τ', fM_getsAnswer (nI k) τ = some (0, τ') ∧ mR τ0 τ' (if W.1 (10, 0, k) 4 = 2 ∧ W.1 (10, 0, k) 2 = W.1 (20, 0, 40) 3 then sSettle k (sAns k W) else W) := by
  have hN := mR_N h
  have mh := m_hand h hH
  have mo := m_of h hk
  have b2 := hB (10, 0, k) 2
  have c3 := hB (20, 0, 40) 3
  have c5 := hB (20, 0, 40) 5
  have c8 := hB (20, 0, 40) 8
  have b16 := hB (16, 0, k) (W.1 (20, 0, 40) 1)
  have b17 := hB (17, 0, k) (W.1 (20, 0, 40) 1)
  have b18 := hB (18, 0, k) (W.1 (20, 0, 40) 1)
  unfold fM_getsAnswer
  rw [mo.2.2.2.2.2.1, z_bde]
  by_cases d1 : W.1 (10, 0, k) 4 = 2
  · have hn := hn d1
    rw [if_pos (by rw [d1]; decide +kernel), mo.1, z_bde, mh.2.2.1]
    by_cases d2 : W.1 (10, 0, k) 2 = W.1 (20, 0, 40) 3
    · rw [if_pos (by rw [d2]), if_pos ⟨d1, d2⟩, z_let, mh.1]
      have g64 : (64 : Int32) + nI (W.1 (20, 0, 40) 1) = nI (64 + W.1 (20, 0, 40) 1) := lit_nI _ (by decide +kernel)
      have g57 : (57 : Int32) + nI (W.1 (20, 0, 40) 1) = nI (57 + W.1 (20, 0, 40) 1) := lit_nI _ (by decide +kernel)
      have g50 : (50 : Int32) + nI (W.1 (20, 0, 40) 1) = nI (50 + W.1 (20, 0, 40) 1) := lit_nI _ (by decide +kernel)
      rw [g64, ((m_of8 h hk d1).2 _ hf).2.2, z_bde, mh.2.2.2.2.2.2.2]
      -- answered
      obtain ⟨W1, eW1⟩ : ∃ W1, W1 = yI W (18, 0, k) (W.1 (20, 0, 40) 1) (max (W.1 (18, 0, k) (W.1 (20, 0, 40) 1)) (W.1 (20, 0, 40) 8)) := ⟨_, rfl⟩
      have s1 : ∃ τ1, (if nI (W.1 (20, 0, 40) 8) ≤ nI (W.1 (18, 0, k) (W.1 (20, 0, 40) 1)) then fM_getsAnswer_69 (nI k) (nI (W.1 (20, 0, 40) 1)) τ else z_bd (fM_put (nI k) (nI (64 + W.1 (20, 0, 40) 1)) (nI (W.1 (20, 0, 40) 8)) τ) (fun _ σ21 => fM_getsAnswer_69 (nI k) (nI (W.1 (20, 0, 40) 1)) σ21)) = fM_getsAnswer_69 (nI k) (nI (W.1 (20, 0, 40) 1)) τ1 ∧ mR τ0 τ1 W1 := by
        by_cases d3 : W.1 (20, 0, 40) 8 ≤ W.1 (18, 0, k) (W.1 (20, 0, 40) 1)
        · refine ⟨τ, by rw [if_pos (nI_le d3 (by omega))], ?_⟩
          rw [eW1, Nat.max_eq_left d3, yI_self]
          exact h
        · obtain ⟨t1, e1, h1⟩ := mw_arr (t := 18) (g := 64) (o := W.1 (20, 0, 40) 1) (v := W.1 (20, 0, 40) 8) h a hk (by simp) hf
          refine ⟨t1, by rw [if_neg (nI_ge (by omega) (by omega)), e1, z_bde], ?_⟩
          rw [eW1, Nat.max_eq_right (by omega)]
          exact h1
      obtain ⟨t1, e1, h1⟩ := s1
      rw [e1]
      have a1 : yA W1 0 := by rw [eW1]; exact yA_arr a (by simp)
      have w10 : ∀ j f, W1.1 (10, 0, j) f = W.1 (10, 0, j) f := fun j f => by rw [eW1, yI_z _ _ (by simp)]
      have w20 : ∀ j f, W1.1 (20, 0, j) f = W.1 (20, 0, j) f := fun j f => by rw [eW1, yI_z _ _ (by simp)]
      have w0 : ∀ f, W1.1 (0, 0, 0) f = W.1 (0, 0, 0) f := fun f => by rw [eW1, yI_z _ _ (by simp)]
      have w17 : ∀ f, W1.1 (17, 0, k) f = W.1 (17, 0, k) f := fun f => by rw [eW1, yI_z _ _ (by simp)]
      have w16 : ∀ f, W1.1 (16, 0, k) f = W.1 (16, 0, k) f := fun f => by rw [eW1, yI_z _ _ (by simp)]
      have wB : ∀ z i, W1.1 z i < 40001 := fun z i => by
        have := hB z i
        rw [eW1, yI_at]
        split
        · omega
        · omega
      have hk1 : k < W1.1 (0, 0, 0) 3 := by rw [w0]; exact hk
      have wE : yEn W1 := by rw [eW1]; exact yEn_I hE (by simp) (by simp)
      have hH1 : mHd (τ0.1 (109, 0, 0)) W1 := mHd_c hH (fun f => w20 40 f) (fun f => by rw [eW1, yI_z _ _ (by simp)]) (fun t => by rw [eW1]; rfl)
      have mh1 := m_hand h1 hH1
      simp only [w20] at mh1
      have r1 : W1.1 (10, 0, k) 4 = 2 := by rw [w10]; exact d1
      -- the end: settles
      have fin : ∀ (τ2 : zS) (W2 : yW), mR τ0 τ2 W2 → yA W2 0 → yEn W2 → (∀ z i, W2.1 z i < 50000) → (∀ f, W2.1 (0, 0, 0) f = W1.1 (0, 0, 0) f) → (∀ f, W2.1 (10, 0, k) f = W1.1 (10, 0, k) f) → ∃ τ', fM_settles (nI k) τ2 = some ((), τ') ∧ mR τ0 τ' (sSettle k W2) := fun τ2 W2 q1 q2 q3 q4 q5 q6 => m_settles q1 q4 q3 q2 (by rw [q5]; exact hk1) (by rw [q6]; exact r1) (by rw [q6, q6, w10, w10]; exact h5)
      unfold fM_getsAnswer_69
      rw [mh1.2.2.2.1]
      by_cases d4 : W.1 (20, 0, 40) 4 = 1
      · rw [if_pos (by rw [d4]; decide +kernel), g57, ((m_of8 h1 hk1 r1).2 _ hf).2.1, z_bde, mh1.2.2.2.2.1, w17]
        obtain ⟨W2, eW2⟩ : ∃ W2, W2 = yI W1 (17, 0, k) (W.1 (20, 0, 40) 1) (max (W.1 (17, 0, k) (W.1 (20, 0, 40) 1)) (W.1 (20, 0, 40) 5)) := ⟨_, rfl⟩
        have s2 : ∃ τ2, (if nI (W.1 (20, 0, 40) 5) ≤ nI (W.1 (17, 0, k) (W.1 (20, 0, 40) 1)) then fM_getsAnswer_112 (nI k) (nI (W.1 (20, 0, 40) 1)) t1 else z_bd (fM_put (nI k) (nI (57 + W.1 (20, 0, 40) 1)) (nI (W.1 (20, 0, 40) 5)) t1) (fun _ σ20 => fM_getsAnswer_112 (nI k) (nI (W.1 (20, 0, 40) 1)) σ20)) = fM_getsAnswer_112 (nI k) (nI (W.1 (20, 0, 40) 1)) τ2 ∧ mR τ0 τ2 W2 := by
          by_cases d3 : W.1 (20, 0, 40) 5 ≤ W.1 (17, 0, k) (W.1 (20, 0, 40) 1)
          · refine ⟨t1, by rw [if_pos (nI_le d3 (by omega))], ?_⟩
            rw [eW2, Nat.max_eq_left d3, ← w17, yI_self]
            exact h1
          · obtain ⟨t2, e2, h2⟩ := mw_arr (t := 17) (g := 57) (o := W.1 (20, 0, 40) 1) (v := W.1 (20, 0, 40) 5) h1 a1 hk1 (by simp) hf
            refine ⟨t2, by rw [if_neg (nI_ge (by omega) (by omega)), e2, z_bde], ?_⟩
            rw [eW2, Nat.max_eq_right (by omega)]
            exact h2
        obtain ⟨t2, e2, h2⟩ := s2
        rw [e2]
        have a2 : yA W2 0 := by rw [eW2]; exact yA_arr a1 (by simp)
        have v10 : ∀ f, W2.1 (10, 0, k) f = W1.1 (10, 0, k) f := fun f => by rw [eW2, yI_z _ _ (by simp)]
        have v0 : ∀ f, W2.1 (0, 0, 0) f = W1.1 (0, 0, 0) f := fun f => by rw [eW2, yI_z _ _ (by simp)]
        have v17 : W2.1 (17, 0, k) (W.1 (20, 0, 40) 1) = max (W.1 (17, 0, k) (W.1 (20, 0, 40) 1)) (W.1 (20, 0, 40) 5) := by rw [eW2, yI_s]
        have hk2 : k < W2.1 (0, 0, 0) 3 := by rw [v0]; exact hk1
        unfold fM_getsAnswer_112
        rw [g57, ((m_of8 h2 hk2 (by rw [v10]; exact r1)).2 _ hf).2.1, z_bde, g50, nI_1, v17]
        obtain ⟨t3, e3, h3⟩ := mw_arr (t := 16) (g := 50) (o := W.1 (20, 0, 40) 1) (v := max (W.1 (17, 0, k) (W.1 (20, 0, 40) 1)) (W.1 (20, 0, 40) 5) + 1) h2 a2 hk2 (by simp) hf
        have eA : sAns k W = yI W2 (16, 0, k) (W.1 (20, 0, 40) 1) (max (W.1 (17, 0, k) (W.1 (20, 0, 40) 1)) (W.1 (20, 0, 40) 5) + 1) := by
          rw [eW2, eW1]
          exact if_pos d4
        rw [← eA] at h3
        obtain ⟨t4, e4, h4'⟩ := fin t3 (sAns k W) h3 (by rw [eA]; exact yA_arr a2 (by simp)) (by rw [eA]; refine yEn_I ?_ (by simp) (by simp); rw [eW2]; exact yEn_I wE (by simp) (by simp)) (fun z i => by
          have := wB z i
          rw [eA, yI_at]
          split
          · omega
          · rw [eW2, yI_at]
            split
            · omega
            · omega) (fun f => by rw [eA, yI_z _ _ (by simp), v0]) (fun f => by rw [eA, yI_z _ _ (by simp), v10])
        exact ⟨t4, by rw [e3, z_bde, e4, z_bde], h4'⟩
      · have d40 : W.1 (20, 0, 40) 4 = 0 := by omega
        rw [if_neg (by rw [d40]; decide +kernel), g50, ((m_of8 h1 hk1 r1).2 _ hf).1, z_bde, z_let, w16, y_sub1 hn, mh1.2.2.2.2.1, nI_1]
        have eA : sAns k W = yI W1 (16, 0, k) (W.1 (20, 0, 40) 1) (max 1 (min (W.1 (16, 0, k) (W.1 (20, 0, 40) 1) - 1) (W.1 (20, 0, 40) 5 + 1))) := by
          rw [eW1]
          exact if_neg d4
        have f171 : ∀ v, v < 50000 → max 1 v = max 1 (min (W.1 (16, 0, k) (W.1 (20, 0, 40) 1) - 1) (W.1 (20, 0, 40) 5 + 1)) → ∃ τ', fM_getsAnswer_171 (nI k) (nI (W.1 (20, 0, 40) 1)) (nI v) t1 = some (0, τ') ∧ mR τ0 τ' (sSettle k (sAns k W)) := fun v hv ev => by
          obtain ⟨t3, e3, h3⟩ := mw_arr (t := 16) (g := 50) (o := W.1 (20, 0, 40) 1) (v := max 1 v) h1 a1 hk1 (by simp) hf
          rw [ev, ← eA] at h3
          obtain ⟨t4, e4, h4'⟩ := fin t3 (sAns k W) h3 (by rw [eA]; exact yA_arr a1 (by simp)) (by rw [eA]; exact yEn_I wE (by simp) (by simp)) (fun z i => by
            have := wB z i
            rw [eA, yI_at]
            split
            · omega
            · omega) (fun f => by rw [eA, yI_z _ _ (by simp)]) (fun f => by rw [eA, yI_z _ _ (by simp)])
          refine ⟨t4, ?_, h4'⟩
          unfold fM_getsAnswer_171 fM_getsAnswer_188
          rw [g50]
          by_cases c1 : 1 ≤ v
          · rw [if_pos ((nI_le_lit (a := 1) (by decide +kernel) (by decide) (by omega)).mpr c1)]
            rw [show max 1 v = v by omega] at e3
            rw [e3, z_bde, e4, z_bde]
          · rw [if_neg (fun q => c1 ((nI_le_lit (a := 1) (by decide +kernel) (by decide) (by omega)).mp q))]
            rw [show max 1 v = 1 by omega, show nI 1 = 1 from by decide +kernel] at e3
            rw [e3, z_bde, e4, z_bde]
        by_cases c1 : W.1 (16, 0, k) (W.1 (20, 0, 40) 1) - 1 ≤ W.1 (20, 0, 40) 5 + 1
        · rw [if_pos (nI_le c1 (by omega))]
          exact f171 _ (by omega) (by rw [Nat.min_eq_left c1])
        · rw [if_neg (nI_ge (by omega) (by omega))]
          exact f171 _ (by omega) (by rw [Nat.min_eq_right (by omega)])
    · exact ⟨τ, by rw [if_neg (fun q => d2 ((nI_eq (by omega) (by omega)).mp q))], by rw [if_neg (fun q => d2 q.2)]; exact h⟩
  · exact ⟨τ, by rw [if_neg (by rw [show (2 : Int32) = nI 2 from by decide +kernel]; exact fun q => d1 ((nI_eq (by omega) (by decide)).mp q))], by rw [if_neg (fun q => d1 q.1)]; exact h⟩
theorem m_getsAns (h : mR τ0 τ W) (hH : mHd (τ0.1 (109, 0, 0)) W) (a : yA W 0) (hE : yEn W) (hB : ∀ z i, W.1 z i < 40000) (hk : k < W.1 (0, 0, 0) 3) (hf : W.1 (20, 0, 40) 1 < 7) (hr : W.1 (10, 0, k) 4 ≤ 2) (h5 : W.1 (10, 0, k) 5 ≤ W.1 (10, 0, k) 8) (hn : W.1 (10, 0, k) 4 = 2 → 1 ≤ W.1 (16, 0, k) (W.1 (20, 0, 40) 1)) (h4 : W.1 (20, 0, 40) 4 ≤ 1) : ∃ τ', fM_getsAnswer (nI k) τ = some (0, τ') ∧ mR τ0 τ' (if W.1 (10, 0, k) 4 = 2 ∧ W.1 (10, 0, k) 2 = W.1 (20, 0, 40) 3 then sSettle k (sAns k (sHd k W)) else W) := by
  by_cases c : W.1 (10, 0, k) 4 = 2 ∧ W.1 (10, 0, k) 2 = W.1 (20, 0, 40) 3
  · have f : yFr W (sHd k W) := yFr_19 _ _ _ _ _
    have n10 : ∀ i, (sHd k W).1 (10, 0, k) i = W.1 (10, 0, k) i := fun i => sHd_n k W i (by simp)
    have n20 : ∀ i, (sHd k W).1 (20, 0, 40) i = W.1 (20, 0, 40) i := fun i => sHd_n k W i (by simp)
    have n0 : ∀ i, (sHd k W).1 (0, 0, 0) i = W.1 (0, 0, 0) i := fun i => sHd_n k W i (by simp)
    have n16 : ∀ i, (sHd k W).1 (16, 0, k) i = W.1 (16, 0, k) i := fun i => sHd_n k W i (by simp)
    obtain ⟨t1, e1, h1⟩ := m_getsAnswer (W := sHd k W) (k := k) (mR_fr f h) (mHd_fr f hH) (yA_fr f a) (sHd_E hE) (sHd_B hB) (by rw [n0]; exact hk) (by rw [n20]; exact hf) (by rw [n10]; exact hr) (by rw [n10, n10]; exact h5) (by rw [n10, n16, n20]; exact hn) (by rw [n20]; exact h4)
    rw [n10, n10, n20, if_pos c] at h1
    exact ⟨t1, e1, by rw [if_pos c]; exact h1⟩
  · obtain ⟨t1, e1, h1⟩ := m_getsAnswer (k := k) h hH a hE hB hk hf hr h5 hn h4
    rw [if_neg c] at h1
    exact ⟨t1, e1, by rw [if_neg c]; exact h1⟩
end mansw
