/-! the model: drop, twice, fall, rise -/
section macts
variable {τ0 τ : zS} {W : yW} {k : Nat}
theorem m_drop {s : Nat} (h : mR τ0 τ W) (a : yA W 0) (hB : ∀ z i, W.1 z i < 50000) (hs : s < 40) : (W.1 (20, 0, s) 0 = 0 → fM_drop (nI s) τ = some (-1, τ)) ∧ (W.1 (20, 0, s) 0 ≠ 0 → ∃ τ', fM_drop (nI s) τ = some (iI ((W.1 (20, 0, s) 0 : Int) - 1), τ') ∧ mR τ0 τ' (yI W (20, 0, s) 0 0)) := by
  unfold fM_drop
  rw [m_hasLetter h hB hs, z_bde]
  refine ⟨fun c => by rw [if_pos c, if_pos rfl], fun c => ?_⟩
  obtain ⟨e1, h1⟩ := m_dropL h a hs
  exact ⟨_, by rw [if_neg c, if_neg (by decide), eM_slotOf0 τ hs, z_bde, (h.2.1.2.1 s hs).1, e1, z_bde], h1⟩
theorem m_dropN {x : Int32} (τ : zS) (hx : ∀ s, s < 40 → x ≠ nI s) : fM_drop x τ = some (-1, τ) := by
  unfold fM_drop
  rw [m_noLetter τ hx, z_bde, if_pos rfl]
theorem sCopyL_r (w0 i0 w1 i1 : Nat) (W : yW) : (∀ q, q < 30 → (sCopyL w0 i0 w1 i1 W).2.1 (21, w0, i0) q = W.2.1 (21, w1, i1) q) ∧ (∀ q, q < 20 → (sCopyL w0 i0 w1 i1 W).2.1 (23, w0, i0) q = W.2.1 (23, w1, i1) q) := by
  refine ⟨fun q hq => ?_, fun q hq => ?_⟩
  · unfold sCopyL
    rw [yCp_2 (by simp)]
    show (z_upR (sCopyN w0 i0 w1 i1 W).2 (21, w0, i0) _).1 (21, w0, i0) q = _
    rw [z_upR_s]
    unfold va_cpy
    rw [if_pos (by omega), Nat.zero_add, Nat.sub_zero]
    rfl
  · unfold sCopyL
    show (z_upR (yCp (sCopyN w0 i0 w1 i1 W) (21, w1, i1) (21, w0, i0) 0 0 30).2 (23, w0, i0) _).1 (23, w0, i0) q = _
    rw [z_upR_s]
    unfold va_cpy
    rw [if_pos (by omega), Nat.zero_add, Nat.sub_zero, yCp_2 (by simp)]
    rfl
theorem mR_twice {s e : Nat} (h : mR τ0 τ W) (a : yA W 0) (hs : s < 40) (he : e < 40) (hne : e ≠ s) : mR τ0 (z_upR τ (103, 0, 0) (va_cpy (al τ) (al τ) (2240 + 64 * s) (2240 + 64 * e) 64)) (sCopyL 0 e 0 s W) := by
  obtain ⟨m1, m2⟩ := h.2.1.2.1 s hs
  have r : ∀ f, f < 64 → va_cpy (al τ) (al τ) (2240 + 64 * s) (2240 + 64 * e) 64 (2240 + 64 * e + f) = al τ (2240 + 64 * s + f) := fun f hf => by
    unfold va_cpy
    rw [if_pos (by omega), show 2240 + 64 * s + (2240 + 64 * e + f - (2240 + 64 * e)) = 2240 + 64 * s + f by omega]
  have v20 : ∀ f, f < 9 → (sCopyL 0 e 0 s W).1 (20, 0, e) f = W.1 (20, 0, s) f := fun f hf => by rw [sCopyL_at, if_pos ⟨rfl, Nat.lt_succ_of_lt hf⟩]
  obtain ⟨r1, r2⟩ := sCopyL_r 0 e 0 s W
  refine mR_s h a he (fun i hi => by unfold va_cpy; rw [if_neg (by omega)]) (fun z f hz => ?_) (fun z hz => sCopyL_2 _ _ _ _ _ (fun e1 => by rw [e1] at hz; simp at hz) (fun e1 => by rw [e1] at hz; simp at hz)) ?_
  · rw [sCopyL_at, if_neg, if_neg, if_neg]
    · rintro ⟨e1, -⟩; rw [e1] at hz; simp at hz
    · rintro ⟨e1, -⟩; rw [e1] at hz; simp at hz
    · rintro ⟨e1, -⟩; rw [e1] at hz; simp at hz
  · unfold mL
    rw [v20 0 (by decide), v20 6 (by decide)]
    refine ⟨by have := r 0 (by decide); rw [Nat.add_zero, Nat.add_zero] at this; rw [this]; exact m1, fun h0 => ?_⟩
    obtain ⟨n1, n2, n3⟩ := m2 h0
    refine ⟨fun f f1 f2 => by rw [r f (by omega), v20 f f2]; exact n1 f f1 f2, fun e3 j hj => ?_, fun e5 => ?_⟩
    · have := a.2.2.1 s e3
      have c : (cE (sCopyL 0 e 0 s W)).1 (21, 0, e) j = (cE W).1 (21, 0, s) j := by
        rw [cE_at, cE_at, sCopyL_at, if_neg (by simp), if_pos ⟨rfl, by omega⟩, r1 j (by omega)]
      rw [Nat.add_assoc (2240 + 64 * e), r _ (by omega), c, ← Nat.add_assoc]
      exact n2 e3 j hj
    · exact zl_lay_2 r2 (zl_lay_c (fun q hq => by rw [Nat.add_assoc (2240 + 64 * e), r _ (by omega), ← Nat.add_assoc]) (n3 e5))
theorem m_twice {s : Nat} (h : mR τ0 τ W) (a : yA W 0) (hB : ∀ z i, W.1 z i < 50000) (hs : s < 40) : (W.1 (20, 0, s) 0 = 0 ∨ sEmp W = none → fM_twice (nI s) τ = some (-1, τ)) ∧ (∀ e, W.1 (20, 0, s) 0 ≠ 0 → sEmp W = some e → ∃ τ', fM_twice (nI s) τ = some (nI e, τ') ∧ mR τ0 τ' (sCopyL 0 e 0 s W)) := by
  unfold fM_twice
  rw [m_hasLetter h hB hs, z_bde, m_empty h hB]
  refine ⟨fun c => ?_, fun e c he => ?_⟩
  · by_cases c0 : W.1 (20, 0, s) 0 = 0
    · rw [if_pos c0, if_pos rfl]
    · have c1 : sEmp W = none := c.resolve_left c0
      rw [if_neg c0, if_neg (by decide), c1, z_bde]
      exact if_neg (by decide +kernel)
  · obtain ⟨e40, e0⟩ := sEmp_lt he
    have hne : e ≠ s := fun q => by rw [q] at e0; exact c e0
    have g : ∀ x, (2240 : Int32) + 64 * nI x = nI (2240 + 64 * x) := fun x => by
      rw [show (2240 : Int32) = nI 2240 from by decide +kernel, show (64 : Int32) = nI 64 from by decide +kernel, pk_mul, nI_add]
    refine ⟨z_upR τ (103, 0, 0) (va_cpy (al τ) (al τ) (2240 + 64 * s) (2240 + 64 * e) 64), ?_, mR_twice h a hs e40 hne⟩
    rw [if_neg c, if_neg (by decide), he, z_bde]
    show (if (0 : Int32) ≤ nI e then _ else _) = _
    rw [if_pos (nI_pos' (by omega)), m_empty h hB, he, z_bde]
    show z_bd (fM_copy (2240 + 64 * nI s) (2240 + 64 * nI e) 64 τ) _ = _
    rw [g, g, show (64 : Int32) = nI 64 from by decide +kernel, m_copy τ (by omega) (by omega) (by omega), z_bde]
    rfl
theorem m_twiceN {x : Int32} (τ : zS) (hx : ∀ s, s < 40 → x ≠ nI s) : fM_twice x τ = some (-1, τ) := by
  unfold fM_twice
  rw [m_noLetter τ hx, z_bde, if_pos rfl]
theorem m_rise (h : mR τ0 τ W) (a : yA W 0) (hk : k < W.1 (0, 0, 0) 3) (hf : W.1 (10, 0, k) 1 ≤ 1) : (W.1 (10, 0, k) 1 = 0 → fM_rise (nI k) τ = some (0, τ)) ∧ (W.1 (10, 0, k) 1 ≠ 0 → ∃ τ', fM_rise (nI k) τ = some (1, τ') ∧ mR τ0 τ' (yI W (10, 0, k) 1 0)) := by
  unfold fM_rise
  rw [m_isKeeper h hk, z_bde, if_neg (by decide), m_isUp h hk hf, z_bde]
  refine ⟨fun c => by rw [if_pos c, if_neg (by decide)], fun c => ?_⟩
  obtain ⟨t1, e1, h1⟩ := mw_fallen (v := 0) (x := 0) h a hk nI_0.symm
  exact ⟨t1, by rw [if_neg c, if_pos rfl, e1, z_bde], h1⟩
theorem m_riseN {x : Int32} (h : mR τ0 τ W) (hx : ∀ k, k < W.1 (0, 0, 0) 3 → x ≠ nI k) : fM_rise x τ = some (0, τ) := by
  unfold fM_rise
  rw [m_noKeeper h hx, z_bde, if_pos rfl]
theorem m_fall (h : mR τ0 τ W) (a : yA W 0) (hk : k < W.1 (0, 0, 0) 3) (hf : W.1 (10, 0, k) 1 ≤ 1) : (W.1 (10, 0, k) 1 ≠ 0 → fM_fall (nI k) τ = some (0, τ)) ∧ (W.1 (10, 0, k) 1 = 0 → ∃ τ', fM_fall (nI k) τ = some (1, τ') ∧ mR τ0 τ' (sFall k W)) := by
  have k7 : k < 7 := by have := a.1; omega
  unfold fM_fall
  rw [m_isUp h hk hf, z_bde]
  refine ⟨fun c => by rw [if_neg c, if_pos rfl], fun c => ?_⟩
  obtain ⟨t1, e1, h1⟩ := mw_fallen (v := 1) (x := 1) h a hk (by decide +kernel)
  have a1 : yA (yI W (10, 0, k) 1 1) 0 := yA_I a (by simp)
  have hk1 : k < (yI W (10, 0, k) 1 1).1 (0, 0, 0) 3 := by rw [yI_z _ _ (by simp)]; exact hk
  obtain ⟨t2, e2, h2⟩ := m_follow h1 a1 hk1
  have a2 := yA_follow (k := k) a1
  have hk2 : k < (sFollow k (yI W (10, 0, k) 1 1)).1 (0, 0, 0) 3 := by rw [sFollow_at, if_neg (by simp)]; exact hk1
  have e5 : (sFollow k (yI W (10, 0, k) 1 1)).1 (10, 0, k) 5 = W.1 (10, 0, k) 5 := by rw [sFollow_at, if_neg (by omega), yI_i _ _ (by decide)]
  obtain ⟨t3, e3, h3⟩ := mw_done (v := W.1 (10, 0, k) 5) h2 a2 hk2
  have a3 : yA (yI (sFollow k (yI W (10, 0, k) 1 1)) (10, 0, k) 8 (W.1 (10, 0, k) 5)) 0 := yA_I a2 (by simp)
  have hk3 : k < (yI (sFollow k (yI W (10, 0, k) 1 1)) (10, 0, k) 8 (W.1 (10, 0, k) 5)).1 (0, 0, 0) 3 := by rw [yI_z _ _ (by simp)]; exact hk2
  have mo2 := m_of h2 hk2
  have K3 := h3.2.1.1 k hk3
  have hr : zl_lay (fun q => va_cpy (al t3) (al t3) (320 * k + 10) (320 * k + 30) 20 (320 * k + 30 + q)) (va_cpy (W.2.1 (13, 0, k)) (W.2.1 (15, 0, k)) 0 0 20) := by
    refine zl_lay_2 (h := W.2.1 (13, 0, k)) (fun q hq => by unfold va_cpy; rw [if_pos (by omega), Nat.zero_add, Nat.sub_zero]) (zl_lay_c (fun q hq => ?_) K3.2.2.2.2.1)
    unfold va_cpy
    rw [if_pos (by omega), show 320 * k + 10 + (320 * k + 30 + q - (320 * k + 30)) = 320 * k + 10 + q by omega]
  have mS3 := mK_state (t := 15) (S := 30) (B' := va_cpy (al t3) (al t3) (320 * k + 10) (320 * k + 30) 20) (r := va_cpy (W.2.1 (13, 0, k)) (W.2.1 (15, 0, k)) 0 0 20) K3 (Or.inr ⟨rfl, rfl⟩) (fun i hi => by unfold va_cpy; rw [if_neg (by omega)]) hr
  -- as a copy
  have sF1 : ∀ (z : zJ) f, z.1 ≠ 15 → (sFall k W).1 z f = (yI (sFollow k (yI W (10, 0, k) 1 1)) (10, 0, k) 8 (W.1 (10, 0, k) 5)).1 z f := fun z f hz => by
    unfold sFall
    rw [yCp_at, if_neg (fun e => hz (by rw [e.1]))]
  have sF2 : ∀ z : zJ, (sFall k W).2.1 z = (yRow (yI (sFollow k (yI W (10, 0, k) 1 1)) (10, 0, k) 8 (W.1 (10, 0, k) 5)) (15, 0, k) (va_cpy (W.2.1 (13, 0, k)) (W.2.1 (15, 0, k)) 0 0 20)).2.1 z := fun z => rfl
  refine ⟨z_upR t3 (103, 0, 0) (va_cpy (al t3) (al t3) (320 * k + 10) (320 * k + 30) 20), ?_, mR_k h3 a3 hk3 (fun i hi => by unfold va_cpy; rw [if_neg (by omega)]) (fun z f hz => ?_) (fun z hz => ?_) ?_ ?_⟩
  · rw [if_pos c, if_neg (by decide), e1, z_bde, e2, z_bde, mo2.2.2.1, z_bde, e5, e3, z_bde, y_320 k 10 (by decide +kernel), y_320 k 30 (by decide +kernel), show (20 : Int32) = nI 20 from by decide +kernel, m_copy t3 (by omega) (by omega) (by omega), z_bde]
  · unfold sFall
    rw [yCp_at, if_neg (fun e => by rw [e.1] at hz; simp at hz)]
  · unfold sFall
    exact yCp_2 (fun e => by rw [e] at hz; simp at hz)
  · rw [sF1 _ _ (by simp)]
  · have q := mK_c (B' := va_cpy (al t3) (al t3) (320 * k + 10) (320 * k + 30) 20) (W' := sFall k W) mS3 (fun _ _ _ => rfl) (a3.2.1 k) (fun t i ht => by rw [sF1 _ _ (by simp; omega)]; rfl) (fun t ht => sF2 _)
    exact q
theorem m_fallN {x : Int32} (h : mR τ0 τ W) (hx : ∀ k, k < W.1 (0, 0, 0) 3 → x ≠ nI k) : fM_fall x τ = some (0, τ) := by
  unfold fM_fall
  rw [m_noUp h hx, z_bde, if_pos rfl]
end macts
