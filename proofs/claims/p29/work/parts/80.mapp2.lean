/-! the model gets entries: all of it -/
section mapp2
variable {τ0 τ : zS} {W : yW} {k : Nat}
theorem sFollow_at (k : Nat) (W : yW) (z : zJ) (f : Nat) : (sFollow k W).1 z f = if z = (10, 0, k) ∧ (f = 4 ∨ f = 9 ∨ f = 10) then 0 else W.1 z f := by
  unfold sFollow
  rw [yI_at, yI_at, yI_at]
  grind
theorem yA_follow (a : yA W 0) : yA (sFollow k W) 0 := yA_I (yA_I (yA_I a (by simp)) (by simp)) (by simp)
theorem sTm_follow (e : Nat) : sTm (sFollow k W) k e = sTm W k e := by
  unfold sTm
  rw [sFollow_at, sFollow_at, sFollow_at]
  simp
theorem sEmp_follow : sEmp (sFollow k W) = sEmp W := sEmp_c (W := W) (fun s => by rw [sFollow_at]; simp)
theorem sAdv_2 (k : Nat) : ∀ (m : Nat) (V : yW) {z : zJ}, z ≠ (15, 0, k) → (sAdv k m V).2.1 z = V.2.1 z := by
  intro m
  induction m with
  | zero => intro V z _; rfl
  | succ m ih =>
    intro V z hz
    rw [sAdv, ih _ hz]
    exact (z_upR_o z hz).1
theorem sEnt_2 (k : Nat) : ∀ (m r i : Nat) (V : yW) {z : zJ}, z ≠ (11, 0, k) → (sEnt k m r i V).2.2.1 z = V.2.1 z := by
  intro m
  induction m with
  | zero => intro r i V z _; rfl
  | succ m ih =>
    intro r i V z hz
    rw [sEnt]
    split
    · exact ih _ _ _ hz
    · split
      · rw [ih _ _ _ hz, yCp_2 hz]
        rfl
      · rfl
/-- no: the log does not fit -/
theorem m_app_no {s : Nat} (h : mR τ0 τ W) (hH : mHd (τ0.1 (109, 0, 0)) W) (a : yA W 0) (hB : ∀ z i, W.1 z i < 40000) (hk : k < W.1 (0, 0, 0) 3) (hr : W.1 (20, 0, 40) 2 = k) (h5 : W.1 (10, 0, k) 5 ≤ W.1 (10, 0, k) 8) (hs : sEmp W = some s) (h1 : 1 ≤ W.1 (20, 0, 40) 4) : ∃ τ', fM_getsAppend_84 (nI k) (nI (W.1 (20, 0, 40) 4)) τ = some (1, τ') ∧ mR τ0 τ' (sReply 3 0 (min ((sCut k (W.1 (20, 0, 40) 4) W).1 (10, 0, k) 7) (W.1 (20, 0, 40) 4 - 1)) (sCut k (W.1 (20, 0, 40) 4) W)) := by
  have mo := m_of h hk
  have b7 := hB (10, 0, k) 7
  have b8 := hB (10, 0, k) 8
  have c4 := hB (20, 0, 40) 4
  have l40 := a.2.1 k
  -- behind the cut
  have s1 : ∀ t0, t0 = max (W.1 (20, 0, 40) 4 - 1) (W.1 (10, 0, k) 8) → ∃ τ1, fM_getsAppend_110 (nI k) (nI (W.1 (20, 0, 40) 4)) (nI t0) τ = fM_getsAppend_128 (nI k) (nI (W.1 (20, 0, 40) 4)) τ1 ∧ mR τ0 τ1 (sCut k (W.1 (20, 0, 40) 4) W) := fun t0 et => by
    unfold fM_getsAppend_110 sCut
    rw [mo.2.2.2.2.1, z_bde, ← et]
    by_cases c : W.1 (10, 0, k) 7 ≤ t0
    · refine ⟨τ, by rw [if_pos (nI_le c (by omega))], ?_⟩
      rw [Nat.min_eq_left c, yI_self]
      exact h
    · obtain ⟨t1, e1, h1⟩ := mw_last (v := t0) h a hk (fun j hj => (h.2.1.1 k hk).2.2.2.1 j (by omega))
      refine ⟨t1, by rw [if_neg (nI_ge (by omega) (by omega)), e1, z_bde], ?_⟩
      rw [Nat.min_eq_right (by omega)]
      exact h1
  have s2 : ∃ τ1, fM_getsAppend_84 (nI k) (nI (W.1 (20, 0, 40) 4)) τ = fM_getsAppend_128 (nI k) (nI (W.1 (20, 0, 40) 4)) τ1 ∧ mR τ0 τ1 (sCut k (W.1 (20, 0, 40) 4) W) := by
    unfold fM_getsAppend_84
    rw [mo.2.2.2.2.2.2.1, z_bde, y_sub1 h1]
    by_cases c : W.1 (20, 0, 40) 4 - 1 ≤ W.1 (10, 0, k) 8
    · rw [if_pos (nI_le c (by omega)), mo.2.2.2.2.2.2.1, z_bde]
      exact s1 _ (by omega)
    · rw [if_neg (nI_ge (by omega) (by omega))]
      exact s1 _ (by omega)
  obtain ⟨t1, e1, h1'⟩ := s2
  have cz : ∀ (z : zJ) f, ¬ (z = (10, 0, k) ∧ f = 7) → (sCut k (W.1 (20, 0, 40) 4) W).1 z f = W.1 z f := fun z f hz => sCut_at hz
  have cN : (sCut k (W.1 (20, 0, 40) 4) W).1 (0, 0, 0) 3 = W.1 (0, 0, 0) 3 := cz _ _ (by simp)
  have c20 : ∀ f, (sCut k (W.1 (20, 0, 40) 4) W).1 (20, 0, 40) f = W.1 (20, 0, 40) f := fun f => cz _ _ (by simp)
  have hc : mHd (τ0.1 (109, 0, 0)) (sCut k (W.1 (20, 0, 40) 4) W) := mHd_c hH c20 (fun f => cz _ _ (by simp)) (fun _ => rfl)
  have c7 : (sCut k (W.1 (20, 0, 40) 4) W).1 (10, 0, k) 7 = min (W.1 (10, 0, k) 7) (max (W.1 (20, 0, 40) 4 - 1) (W.1 (10, 0, k) 8)) := yI_s _ _ _ _
  have ca : yA (sCut k (W.1 (20, 0, 40) 4) W) 0 := ⟨by rw [cN]; exact a.1, fun j => by
    by_cases ej : j = k
    · rw [ej, c7, cz _ _ (by simp)]; omega
    · rw [cz _ _ (by simp [ej]), cz _ _ (by simp [ej])]; exact a.2.1 j, fun s => by rw [cz _ _ (by simp), cz _ _ (by simp)]; exact a.2.2.1 s, by rw [cz _ _ (by simp)]; exact a.2.2.2⟩
  have cB : ∀ z i, (sCut k (W.1 (20, 0, 40) 4) W).1 z i < 50000 := fun z i => by
    have := hB z i
    unfold sCut
    rw [yI_at]
    split
    · omega
    · omega
  obtain ⟨t2, e2, h2⟩ := m_answersBack (y := 0) (n := min ((sCut k (W.1 (20, 0, 40) 4) W).1 (10, 0, k) 7) (W.1 (20, 0, 40) 4 - 1)) (s := s) (x2 := 0) h1' hc ca cB (by rw [c20, cN, hr]; exact hk) (by rw [sEmp_c (W := W) (fun j => cz _ _ (by simp))]; exact hs) (by decide) (by rw [nI_0])
  refine ⟨t2, ?_, h2⟩
  rw [c20, hr] at e2
  have mo1 := m_of h1' (by rw [cN]; exact hk)
  have bc7 := cB (10, 0, k) 7
  have f152 : ∀ v, v < 50000 → v = min ((sCut k (W.1 (20, 0, 40) 4) W).1 (10, 0, k) 7) (W.1 (20, 0, 40) 4 - 1) → fM_getsAppend_152 (nI k) (nI v) t1 = some (1, t2) := fun v hv ev => by
    unfold fM_getsAppend_152
    rw [if_pos (nI_pos' (by omega)), ev, e2, z_bde]
  rw [e1]
  unfold fM_getsAppend_128
  rw [mo1.2.2.2.2.1, z_bde, y_sub1 h1]
  by_cases c : W.1 (20, 0, 40) 4 - 1 ≤ (sCut k (W.1 (20, 0, 40) 4) W).1 (10, 0, k) 7
  · rw [if_pos (nI_le c (by omega))]
    exact f152 _ (by omega) (by omega)
  · rw [if_neg (nI_ge (by omega) (by omega)), mo1.2.2.2.2.1, z_bde]
    exact f152 _ (by omega) (by omega)
theorem m_app_yes {s : Nat} {Lf : Nat → Nat} (h : mR τ0 τ W) (hH : mHd (τ0.1 (109, 0, 0)) W) (a : yA W 0) (hE : yEn W) (hB : ∀ z i, W.1 z i < 40000) (hk : k < W.1 (0, 0, 0) 3) (hr : W.1 (20, 0, 40) 2 = k) (h3 : W.1 (20, 0, 40) 0 = 3) (h6 : W.1 (20, 0, 40) 6 ≤ 5) (h5 : W.1 (10, 0, k) 5 ≤ W.1 (10, 0, k) 8) (h8 : W.1 (10, 0, k) 8 ≤ W.1 (10, 0, k) 7) (hs : sEmp W = some s) (hl : W.1 (20, 0, 40) 4 ≤ W.1 (10, 0, k) 7) (hD : ∀ e, W.1 (10, 0, k) 5 < e → e ≤ W.1 (10, 0, k) 8 → sTm W k e = Lf e) (hL : ∀ j, j < W.1 (20, 0, 40) 6 → W.1 (21, 0, 40) (6 * j) = Lf (W.1 (20, 0, 40) 4 + 1 + j)) : ∃ τ', fM_getsAppend_177 z_fu (nI k) (nI (W.1 (20, 0, 40) 4)) (nI (W.1 (20, 0, 40) 4)) 0 τ = some (1, τ') ∧ mR τ0 τ' (sReply 3 1 (sApp k W).1 (sApp k W).2) := by
  obtain ⟨n, hz, ez⟩ := z_fu_ex
  rw [ez]
  have c4 := hB (20, 0, 40) 4
  have c7 := hB (20, 0, 40) 7
  have b7 := hB (10, 0, k) 7
  have l40 := a.2.1 k
  obtain ⟨t1, e1, h1, hle⟩ := m_ent (k := k) (ahead := W.1 (20, 0, 40) 4) (Lf := Lf) τ0 (W.1 (20, 0, 40) 6) 0 n 40000 τ W h hH a hB (by omega) hk h5 h8 h3 h6 (by omega) hl hD hL (by omega)
  rw [Nat.add_zero, nI_0] at e1
  rw [Nat.add_zero] at h1 hle
  rw [e1]
  obtain ⟨a1, a2, a3, a4, a5, a6, a7, -⟩ := sEnt_inv k (W.1 (20, 0, 40) 6) (W.1 (20, 0, 40) 4) 0 40000 W hB hE h8 l40
  have a0 : ∀ z : zJ, z ≠ (11, 0, k) → (sEnt k (W.1 (20, 0, 40) 6) (W.1 (20, 0, 40) 4) 0 W).2.2.1 z = W.2.1 z := fun z hz => sEnt_2 k _ _ _ _ hz
  have k7 : k < 7 := by have := a.1; omega
  unfold sApp
  dsimp only
  generalize sEnt k (W.1 (20, 0, 40) 6) (W.1 (20, 0, 40) 4) 0 W = p at h1 hle a1 a2 a3 a4 a5 a6 a7 a0 ⊢
  have p20 : ∀ s j, p.2.1 (20, 0, s) j = W.1 (20, 0, s) j := fun s j => a3 _ _ (by simp) (by simp)
  have p5 : p.2.1 (10, 0, k) 5 = W.1 (10, 0, k) 5 := a3 _ _ (by simp) (by simp)
  have p8 : p.2.1 (10, 0, k) 8 = W.1 (10, 0, k) 8 := a3 _ _ (by simp) (by simp)
  have pN : p.2.1 (0, 0, 0) 3 = W.1 (0, 0, 0) 3 := a3 _ _ (by simp) (by simp)
  have hBp : ∀ z j, p.2.1 z j < 50000 := fun z j => by have := a1 z j; omega
  have pA : yA p.2 0 := ⟨by rw [pN]; exact a.1, fun j => by
    by_cases ej : j = k
    · rw [ej, p5]; exact a5
    · rw [a3 _ _ (by simp [ej]) (by simp [ej]), a3 _ _ (by simp [ej]) (by simp [ej])]; exact a.2.1 j, fun s => by rw [p20, p20]; exact a.2.2.1 s, by rw [a3 _ _ (by simp) (by simp)]; exact a.2.2.2⟩
  obtain ⟨t2, e2, h2⟩ := m_doneTo (k := k) (N' := min (W.1 (20, 0, 40) 7) p.1) h1 hBp a2 pA (by rw [pN]; exact hk) (by rw [p5, p8]; exact h5) (by omega)
  rw [p8] at h2
  rw [show min (min (W.1 (20, 0, 40) 7) p.1) (p.2.1 (10, 0, k) 7) = min (W.1 (20, 0, 40) 7) p.1 by omega]
  have av : ∀ (z : zJ) f, ¬ (z = (10, 0, k) ∧ f = 8) → (sAdv k (min (W.1 (20, 0, 40) 7) p.1 - W.1 (10, 0, k) 8) p.2).1 z f = p.2.1 z f := fun z f hz => by rw [sAdv_1, if_neg hz]
  have hHp : mHd (τ0.1 (109, 0, 0)) (sAdv k (min (W.1 (20, 0, 40) 7) p.1 - W.1 (10, 0, k) 8) p.2) := by
    exact mHd_c hH (fun f => by rw [av _ _ (by simp), p20]) (fun f => by rw [av _ _ (by simp), a3 _ _ (by simp) (by simp)]) (fun t => by rw [sAdv_2 _ _ _ (by simp; omega), a0 _ (by simp; omega)])
  have aA : yA (sAdv k (min (W.1 (20, 0, 40) 7) p.1 - W.1 (10, 0, k) 8) p.2) 0 := ⟨by rw [av _ _ (by simp)]; exact pA.1, fun j => by rw [av _ _ (by simp), av _ _ (by simp)]; exact pA.2.1 j, fun s => by rw [av _ _ (by simp), av _ _ (by simp)]; exact pA.2.2.1 s, by rw [av _ _ (by simp)]; exact pA.2.2.2⟩
  obtain ⟨t3, e3, h3'⟩ := m_answersBack (y := 1) (n := p.1) (s := s) (x2 := 1) h2 hHp aA (fun z j => by
    have := hBp z j
    rw [sAdv_1]
    split
    · rw [p8]; omega
    · omega) (by rw [av _ _ (by simp), av _ _ (by simp), p20, pN, hr]; exact hk) (by rw [sEmp_c (W := W) (fun j => by rw [av _ _ (by simp), p20])]; exact hs) (by decide) (by decide +kernel)
  refine ⟨t3, ?_, h3'⟩
  rw [av _ _ (by simp), p20, hr] at e3
  have hH1 : t1.1 (109, 0, 0) 7 = nI (W.1 (20, 0, 40) 7) := by
    rw [h1.2.2.1 (109, 0, 0) (by decide)]
    exact hH.2.1 7 (by decide) (by decide)
  unfold fM_getsAppend_228 fM_getsAppend_250
  rw [hH1]
  by_cases c : p.1 ≤ W.1 (20, 0, 40) 7
  · rw [if_pos (nI_le c (by omega))]
    rw [Nat.min_eq_right c] at e2
    rw [e2, z_bde, e3, z_bde]
  · rw [if_neg (nI_ge (by omega) (by omega))]
    rw [Nat.min_eq_left (by omega)] at e2
    rw [e2, z_bde, e3, z_bde]
theorem m_getsAppend {s : Nat} {Lf : Nat → Nat} (h : mR τ0 τ W) (hH : mHd (τ0.1 (109, 0, 0)) W) (a : yA W 0) (hE : yEn W) (hB : ∀ z i, W.1 z i < 40000) (hk : k < W.1 (0, 0, 0) 3) (hr : W.1 (20, 0, 40) 2 = k) (hro : W.1 (10, 0, k) 4 ≤ 2) (h3 : W.1 (20, 0, 40) 0 = 3) (h6 : W.1 (20, 0, 40) 6 ≤ 5) (h5 : W.1 (10, 0, k) 5 ≤ W.1 (10, 0, k) 8) (h8 : W.1 (10, 0, k) 8 ≤ W.1 (10, 0, k) 7) (hs : sEmp W = some s) (hD : W.1 (10, 0, k) 2 ≤ W.1 (20, 0, 40) 3 → W.1 (10, 0, k) 4 ≠ 2 → ∀ e, W.1 (10, 0, k) 5 < e → e ≤ W.1 (10, 0, k) 8 → sTm W k e = Lf e) (hL : ∀ j, j < W.1 (20, 0, 40) 6 → W.1 (21, 0, 40) (6 * j) = Lf (W.1 (20, 0, 40) 4 + 1 + j)) : ∃ τ', fM_getsAppend (nI k) τ = some (if W.1 (20, 0, 40) 3 < W.1 (10, 0, k) 2 ∨ W.1 (10, 0, k) 4 ≠ 2 then 1 else 0, τ') ∧ mR τ0 τ' (sFromL k W) := by
  have hB5 : ∀ z i, W.1 z i < 50000 := fun z i => by have := hB z i; omega
  have mh := m_hand h hH
  have mo := m_of h hk
  have b2 := hB (10, 0, k) 2
  have c3 := hB (20, 0, 40) 3
  have c4 := hB (20, 0, 40) 4
  have c5 := hB (20, 0, 40) 5
  have b7 := hB (10, 0, k) 7
  have b5 := hB (10, 0, k) 5
  unfold fM_getsAppend sFromL
  rw [mo.1, z_bde, mh.2.2.1]
  by_cases d1 : W.1 (20, 0, 40) 3 < W.1 (10, 0, k) 2
  · obtain ⟨t1, e1, h1⟩ := m_answersBack (y := 0) (n := 0) (s := s) (x2 := 0) h hH a hB5 (by rw [hr]; exact hk) hs (by decide) (by rw [nI_0])
    rw [hr, nI_0] at e1
    exact ⟨t1, by rw [if_neg (nI_ge d1 (by omega)), e1, z_bde, if_pos (Or.inl d1)], by rw [if_pos d1]; exact h1⟩
  · rw [if_pos (nI_le (by omega) (by omega)), mo.2.2.2.2.2.1, z_bde, if_neg d1]
    by_cases d2 : W.1 (10, 0, k) 4 = 2
    · exact ⟨τ, by rw [if_pos (by rw [d2]; decide +kernel), if_neg (by omega)], by rw [if_pos d2]; exact h⟩
    · rw [if_neg (by rw [show (2 : Int32) = nI 2 from by decide +kernel]; exact fun q => d2 ((nI_eq (by omega) (by decide)).mp q)), if_neg d2, if_pos (Or.inr d2)]
      obtain ⟨t1, e1, h1⟩ := m_follow h a hk
      have f10 : ∀ f, f ≠ 4 → f ≠ 9 → f ≠ 10 → (sFollow k W).1 (10, 0, k) f = W.1 (10, 0, k) f := fun f f1 f2 f3 => by
        rw [sFollow_at]; simp [f1, f2, f3]
      have fz : ∀ (z : zJ) f, z ≠ (10, 0, k) → (sFollow k W).1 z f = W.1 z f := fun z f hz => by
        rw [sFollow_at]; simp [hz]
      have hN : k < (sFollow k W).1 (0, 0, 0) 3 := by rw [fz _ _ (by simp)]; exact hk
      have hHf : mHd (τ0.1 (109, 0, 0)) (sFollow k W) := mHd_c hH (fun f => fz _ _ (by simp)) (fun f => fz _ _ (by simp)) (fun _ => rfl)
      have aF := yA_follow (k := k) a
      have fB : ∀ z i, (sFollow k W).1 z i < 40000 := fun z i => by
        have := hB z i
        rw [sFollow_at]
        split
        · omega
        · omega
      have mh1 := m_hand h1 hHf
      have mo1 := m_of h1 hN
      have e5 := f10 5 (by decide) (by decide) (by decide)
      have e7 := f10 7 (by decide) (by decide) (by decide)
      have e8 := f10 8 (by decide) (by decide) (by decide)
      have e20 : ∀ f, (sFollow k W).1 (20, 0, 40) f = W.1 (20, 0, 40) f := fun f => fz _ _ (by simp)
      have es : sEmp (sFollow k W) = some s := by rw [sEmp_follow]; exact hs
      simp only [e20] at mh1
      have no : 1 ≤ W.1 (20, 0, 40) 4 → ∃ τ', fM_getsAppend_84 (nI k) (nI (W.1 (20, 0, 40) 4)) t1 = some (1, τ') ∧ mR τ0 τ' (sReply 3 0 (min ((sCut k (W.1 (20, 0, 40) 4) (sFollow k W)).1 (10, 0, k) 7) (W.1 (20, 0, 40) 4 - 1)) (sCut k (W.1 (20, 0, 40) 4) (sFollow k W))) := fun q => by
        have := m_app_no (k := k) (s := s) h1 hHf aF fB hN (by rw [e20]; exact hr) (by rw [e5, e8]; exact h5) es (by rw [e20]; exact q)
        rw [e20] at this
        exact this
      have yes : ¬ W.1 (10, 0, k) 7 < W.1 (20, 0, 40) 4 → ∃ τ', fM_getsAppend_177 z_fu (nI k) (nI (W.1 (20, 0, 40) 4)) (nI (W.1 (20, 0, 40) 4)) 0 t1 = some (1, τ') ∧ mR τ0 τ' (sReply 3 1 (sApp k (sFollow k W)).1 (sApp k (sFollow k W)).2) := fun q => by
        have := m_app_yes (k := k) (s := s) (Lf := Lf) h1 hHf aF (yEn_I (yEn_I (yEn_I hE (by simp) (by simp)) (by simp) (by simp)) (by simp) (by simp)) fB hN (by rw [e20]; exact hr) (by rw [e20]; exact h3) (by rw [e20]; exact h6) (by rw [e5, e8]; exact h5) (by rw [e7, e8]; exact h8) es (by rw [e20, e7]; omega) (fun e x1 x2 => by rw [e5] at x1; rw [e8] at x2; rw [sTm_follow]; exact hD (by omega) d2 e x1 x2) (fun j hj => by rw [e20] at hj; rw [fz _ _ (by simp), e20]; exact hL j hj)
        rw [e20] at this
        exact this
      unfold sLdr
      rw [e20, e20, e20, e5, e7, sTm_follow, if_neg (by omega), e1, z_bde, z_let, mh1.2.2.2.1, mo1.2.2.2.2.1, z_bde, e7]
      by_cases d3 : W.1 (10, 0, k) 7 < W.1 (20, 0, 40) 4
      · rw [if_pos (nI_lt d3 (by omega)), if_pos (Or.inl d3)]
        exact no (by omega)
      · rw [if_neg (nI_nlt (by omega) (by omega)), mo1.2.2.1, z_bde, e5]
        by_cases d4 : W.1 (20, 0, 40) 4 ≤ W.1 (10, 0, k) 5
        · rw [if_pos (nI_le d4 (by omega)), if_neg (by omega)]
          exact yes d3
        · have tb : sTm W k (W.1 (20, 0, 40) 4) < 40000 := by
            unfold sTm
            split
            · exact hB _ _
            · exact hB _ _
          have tm := m_termOf (e := W.1 (20, 0, 40) 4) h1 (fun z i => by have := fB z i; omega) hN (by rw [e5]; omega) (by rw [e7]; omega) (aF.2.1 k)
          rw [sTm_follow] at tm
          rw [if_neg (nI_ge (by omega) (by omega)), tm, z_bde, mh1.2.2.2.2.1]
          by_cases d5 : sTm W k (W.1 (20, 0, 40) 4) = W.1 (20, 0, 40) 5
          · rw [if_pos (by rw [d5]), if_neg (by omega)]
            exact yes d3
          · rw [if_neg (fun q => d5 ((nI_eq (by omega) (by omega)).mp q)), if_pos (Or.inr ⟨by omega, d5⟩)]
            exact no (by omega)
end mapp2
