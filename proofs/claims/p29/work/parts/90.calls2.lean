/-! about, good -/
section ycalls2
variable {τ0 τ : zS} {W : yW}
def sUp (W : yW) : Nat := z_cnt (fun i => decide (W.1 (10, 0, i) 1 = 0)) (W.1 (0, 0, 0) 3) 0
theorem x_countUp_4 (W : yW) (hN : W.1 (0, 0, 0) 3 ≤ 7) (hf : ∀ k, k < W.1 (0, 0, 0) 3 → W.1 (10, 0, k) 1 ≤ 1) : ∀ (m i n c : Nat), i + m = W.1 (0, 0, 0) 3 → m < n → fW_countUp_4 0 n (nI c) (nI i) (cE W) = some (nI (c + z_cnt (fun i => decide (W.1 (10, 0, i) 1 = 0)) m i), cE W) := by
  intro m
  induction m with
  | zero =>
    intro i n c hi hn
    obtain ⟨n, rfl⟩ : ∃ k, n = k + 1 := ⟨n - 1, by omega⟩
    rw [fW_countUp_4.eq_2]
    simp only [yRd]
    rw [if_pos (nI_le (by omega) (by omega))]
    rfl
  | succ m ih =>
    intro i n c hi hn
    obtain ⟨n, rfl⟩ : ∃ k, n = k + 1 := ⟨n - 1, by omega⟩
    rw [fW_countUp_4.eq_2]
    simp only [yRd]
    rw [if_neg (nI_ge (by omega) (by omega)), x_isUp W hN (by omega) (hf i (by omega)), z_bde, z_cnt]
    simp only [z_let, nI_1, y_add0]
    by_cases d : W.1 (10, 0, i) 1 = 0
    · rw [if_pos d, if_neg y_n10, ih (i + 1) n (c + 1) (by omega) (by omega)]
      simp only [d, decide_true, if_true, Nat.add_assoc]
    · rw [if_neg d, if_pos rfl, ih (i + 1) n c (by omega) (by omega)]
      simp only [d, decide_false, Bool.false_eq_true, if_false, Nat.zero_add]
theorem m_up_4 (h : mR τ0 τ W) (hf : ∀ k, k < W.1 (0, 0, 0) 3 → W.1 (10, 0, k) 1 ≤ 1) : ∀ (m i n c : Nat), i + m = W.1 (0, 0, 0) 3 → m < n → fM_up_4 n (nI c) (nI i) τ = some (nI (c + z_cnt (fun i => decide (W.1 (10, 0, i) 1 = 0)) m i), τ) := by
  have hN := mR_N h
  intro m
  induction m with
  | zero =>
    intro i n c hi hn
    obtain ⟨n, rfl⟩ : ∃ k, n = k + 1 := ⟨n - 1, by omega⟩
    rw [fM_up_4.eq_2, m_many h, z_bde, if_pos (nI_le (by omega) (by omega))]
    rfl
  | succ m ih =>
    intro i n c hi hn
    obtain ⟨n, rfl⟩ : ∃ k, n = k + 1 := ⟨n - 1, by omega⟩
    rw [fM_up_4.eq_2, m_many h, z_bde, if_neg (nI_ge (by omega) (by omega)), m_isUp h (by omega) (hf i (by omega)), z_bde, z_cnt]
    simp only [z_let, nI_1, y_add0]
    by_cases d : W.1 (10, 0, i) 1 = 0
    · rw [if_pos d, if_neg y_n10, ih (i + 1) n (c + 1) (by omega) (by omega)]
      simp only [d, decide_true, if_true, Nat.add_assoc]
    · rw [if_neg d, if_pos rfl, ih (i + 1) n c (by omega) (by omega)]
      simp only [d, decide_false, Bool.false_eq_true, if_false, Nat.zero_add]
theorem c_about (h : mR τ0 τ W) (hB : ∀ z i, W.1 z i < 50000) (hf : ∀ k, k < W.1 (0, 0, 0) 3 → W.1 (10, 0, k) 1 ≤ 1) (hT : (cE W).1 (31, 0, 0) 4 = τ.1 (100, 0, 0) 5) (hH : (cE W).1 (40, 0, 0) 7 = τ.1 (100, 0, 0) 26) (x : Int32) : ∃ r, fX_about x (cE W) = some (r, cE W) ∧ fM_about x τ = some (r, τ) := by
  have hN := mR_N h
  have hB' : ∀ z i, W.1 z i < 100000 := fun z i => by have := hB z i; omega
  have hv : W.1 (0, 0, 0) 4 ≤ 7 := by have := h.1.1.2.1; omega
  unfold fX_about fM_about
  rw [hT, hH]
  by_cases c0 : x = 0
  · rw [if_pos c0, if_pos c0, m_many h, z_bde]
    simp only [yRd]
    exact ⟨_, rfl, rfl⟩
  rw [if_neg c0, if_neg c0]
  by_cases c1 : x = 1
  · rw [if_pos c1, if_pos c1, m_voters h, z_bde]
    simp only [yRd]
    exact ⟨_, rfl, rfl⟩
  rw [if_neg c1, if_neg c1]
  by_cases c2 : x = 2
  · rw [if_pos c2, if_pos c2, m_most h, x_most W hv, z_bde, z_bde]
    exact ⟨_, rfl, rfl⟩
  rw [if_neg c2, if_neg c2]
  by_cases c3 : x = 3
  · rw [if_pos c3, if_pos c3, m_letters h hB, x_countFull W hB', z_bde, z_bde]
    exact ⟨_, rfl, rfl⟩
  rw [if_neg c3, if_neg c3]
  by_cases c4 : x = 4
  · rw [if_pos c4, if_pos c4]
    simp only [yRd]
    exact ⟨_, rfl, congrArg (fun x => some (x, τ)) h.2.1.2.2.1⟩
  rw [if_neg c4, if_neg c4]
  by_cases c5 : x = 5
  · rw [if_pos c5, if_pos c5]
    exact ⟨_, rfl, rfl⟩
  rw [if_neg c5, if_neg c5]
  by_cases c6 : x = 6
  · rw [if_pos c6, if_pos c6]
    exact ⟨_, rfl, rfl⟩
  rw [if_neg c6, if_neg c6]
  by_cases c7 : x = 7
  · rw [if_pos c7, if_pos c7]
    have q1 : fW_countUp 0 (cE W) = some (nI (sUp W), cE W) := by
      unfold fW_countUp
      obtain ⟨n, hz, ez⟩ := z_fu_ex
      rw [ez]
      have q := x_countUp_4 W hN hf (W.1 (0, 0, 0) 3) 0 n 0 (by omega) (by omega)
      rw [nI_0, Nat.zero_add] at q
      exact q
    have q2 : fM_up τ = some (nI (sUp W), τ) := by
      unfold fM_up
      obtain ⟨n, hz, ez⟩ := z_fu_ex
      rw [ez]
      have q := m_up_4 h hf (W.1 (0, 0, 0) 3) 0 n 0 (by omega) (by omega)
      rw [nI_0, Nat.zero_add] at q
      exact q
    rw [q1, q2, z_bde, z_bde]
    exact ⟨_, rfl, rfl⟩
  rw [if_neg c7, if_neg c7]
  exact ⟨_, rfl, rfl⟩
/-- how many have answered since -/
def sGood (k r : Nat) (W : yW) (m i : Nat) : Nat := z_cnt (fun i => decide (¬ W.1 (10, 0, i) 0 = 0) && (decide (i = k) || decide (r < W.1 (18, 0, k) i))) m i
theorem sGood_le (k r : Nat) (W : yW) (m i : Nat) : sGood k r W m i ≤ m := z_cnt_le _ m i
def sGoodH (k r : Nat) (W : yW) (m i : Nat) : Nat := z_cnt (fun i => decide (¬ W.1 (10, 0, i) 0 = 0) && (decide (i = k) || decide (r < W.1 (19, 0, k) i))) m i
theorem sGoodH_le (k r : Nat) (W : yW) (m i : Nat) : sGoodH k r W m i ≤ m := z_cnt_le _ m i
theorem x_isGood_46 {k j : Nat} (W : yW) (hN : W.1 (0, 0, 0) 3 ≤ 7) (hv : W.1 (0, 0, 0) 4 ≤ 7) (hB : ∀ z i, W.1 z i < 50000) (hk : k < 7) (hj : j < 40) : ∀ (m i n c : Nat), i + m = W.1 (0, 0, 0) 3 → c ≤ i → m < n → fW_isGood_46 0 n (nI j) (nI k) (nI c) (nI i) (cE W) = some (if sMost W ≤ c + sGoodH k (W.1 (8, 0, 0) j) W m i then 1 else 0, cE W) := by
  have hM := sMost_le hv
  have b8 := hB (8, 0, 0) j
  intro m
  induction m with
  | zero =>
    intro i n c hi hc hn
    obtain ⟨n, rfl⟩ : ∃ k, n = k + 1 := ⟨n - 1, by omega⟩
    rw [fW_isGood_46.eq_2, x_most W hv]
    simp only [yRd, z_bde]
    rw [if_pos (nI_le (by omega) (by omega))]
    show _ = some (if sMost W ≤ c + 0 then 1 else 0, cE W)
    by_cases d : sMost W ≤ c + 0
    · rw [if_pos d, if_neg (nI_nlt (by omega) (by omega))]
    · rw [if_neg d, if_pos (nI_lt (by omega) (by omega))]
  | succ m ih =>
    intro i n c hi hc hn
    obtain ⟨n, rfl⟩ : ∃ k, n = k + 1 := ⟨n - 1, by omega⟩
    have b0 := hB (10, 0, i) 0
    have b19 := hB (19, 0, k) i
    have ih1 := ih (i + 1) n c (by omega) (by omega) (by omega)
    have ih2 := ih (i + 1) n (c + 1) (by omega) (by omega) (by omega)
    have e1 : sGoodH k (W.1 (8, 0, 0) j) W (m + 1) i = (if (decide (¬ W.1 (10, 0, i) 0 = 0) && (decide (i = k) || decide (W.1 (8, 0, 0) j < W.1 (19, 0, k) i))) = true then 1 else 0) + sGoodH k (W.1 (8, 0, 0) j) W m (i + 1) := rfl
    rw [e1]
    by_cases c0 : W.1 (10, 0, i) 0 = 0
    · simp (disch := omega) only [fW_isGood_46, c0, ih1, Bool.false_and, decide_true, decide_false, Bool.false_eq_true, Nat.zero_add, z_let, z_bde, yRd, yWr, nI_1, nI_add, nI_pred, yCmp, yCq, nI_leI, nI_ltI, nI_eq, yQ, nI_clamp, nI_inz, if_pos, if_neg, yI_at, yCp_at, yRow_1, yR_1, Prod.mk.injEq, and_true, true_and, and_self, false_and, and_false, if_true, if_false, ne_eq, not_true_eq_false, not_false_eq_true, yLit, Nat.succ_ne_zero, reduceCtorEq, Nat.reduceEqDiff, ↓reduceIte]
    · by_cases c1 : i = k
      · subst c1
        simp (disch := omega) only [fW_isGood_46, c0, ih2, Bool.true_and, Bool.true_or, decide_true, decide_false, Nat.add_assoc, z_let, z_bde, yRd, yWr, nI_1, nI_add, nI_pred, yCmp, yCq, nI_leI, nI_ltI, nI_eq, yQ, nI_clamp, nI_inz, if_pos, if_neg, yI_at, yCp_at, yRow_1, yR_1, Prod.mk.injEq, and_true, true_and, and_self, false_and, and_false, if_true, if_false, ne_eq, not_true_eq_false, not_false_eq_true, yLit, Nat.succ_ne_zero, reduceCtorEq, Nat.reduceEqDiff, ↓reduceIte]
      · by_cases c2 : W.1 (8, 0, 0) j < W.1 (19, 0, k) i
        · simp (disch := omega) only [fW_isGood_46, c0, c1, c2, ih2, Bool.true_and, Bool.false_or, decide_true, decide_false, Nat.add_assoc, z_let, z_bde, yRd, yWr, nI_1, nI_add, nI_pred, yCmp, yCq, nI_leI, nI_ltI, nI_eq, yQ, nI_clamp, nI_inz, if_pos, if_neg, yI_at, yCp_at, yRow_1, yR_1, Prod.mk.injEq, and_true, true_and, and_self, false_and, and_false, if_true, if_false, ne_eq, not_true_eq_false, not_false_eq_true, yLit, Nat.succ_ne_zero, reduceCtorEq, Nat.reduceEqDiff, ↓reduceIte]
        · simp (disch := omega) only [fW_isGood_46, c0, c1, c2, ih1, Bool.true_and, Bool.false_or, decide_true, decide_false, Bool.false_eq_true, Nat.zero_add, z_let, z_bde, yRd, yWr, nI_1, nI_add, nI_pred, yCmp, yCq, nI_leI, nI_ltI, nI_eq, yQ, nI_clamp, nI_inz, if_pos, if_neg, yI_at, yCp_at, yRow_1, yR_1, Prod.mk.injEq, and_true, true_and, and_self, false_and, and_false, if_true, if_false, ne_eq, not_true_eq_false, not_false_eq_true, yLit, Nat.succ_ne_zero, reduceCtorEq, Nat.reduceEqDiff, ↓reduceIte]
theorem m_good_73 {k j c' : Nat} (h : mR τ0 τ W) (hB : ∀ z i, W.1 z i < 50000) (hk : k < W.1 (0, 0, 0) 3) (hr : W.1 (10, 0, k) 4 = 2) (hj : j < W.1 (4, 0, 0) 4) (h40 : W.1 (4, 0, 0) 4 ≤ 40) (hc' : W.1 (6, 0, 0) j = c') (h8 : c' < 8) : ∀ (m i n c : Nat), i + m = W.1 (0, 0, 0) 3 → c ≤ i → m < n → fM_good_73 n (nI j) (nI k) (nI c) (nI i) τ = some (if sMost W ≤ c + sGood k (W.1 (8, 0, 0) j) W m i then W.2.1 (15, 0, k) c' else -1000000, τ) := by
  have hN := mR_N h
  have hM := sMost_le (W := W) (by have := h.1.1.2.1; omega)
  have b8 := hB (8, 0, 0) j
  obtain ⟨d1, d2, d3, d4⟩ := h.2.1.2.2.2 j hj
  have g0 : (4800 : Int32) + 4 * nI j = nI (4800 + 4 * j) := by
    rw [show (4800 : Int32) = nI 4800 from by decide +kernel, show (4 : Int32) = nI 4 from by decide +kernel, pk_mul, nI_add]
  have g1 : (4800 : Int32) + 4 * nI j + 1 = nI (4800 + 4 * j + 1) := by rw [g0, nI_1]
  have g3 : (4800 : Int32) + 4 * nI j + 3 = nI (4800 + 4 * j + 3) := by rw [g0]; exact nI_lit _ (by decide +kernel)
  intro m
  induction m with
  | zero =>
    intro i n c hi hc hn
    obtain ⟨n, rfl⟩ : ∃ k, n = k + 1 := ⟨n - 1, by omega⟩
    rw [fM_good_73.eq_2, m_many h, z_bde, if_pos (nI_le (by omega) (by omega)), m_most h, z_bde]
    show _ = some (if sMost W ≤ c + 0 then W.2.1 (15, 0, k) c' else -1000000, τ)
    by_cases d : sMost W ≤ c + 0
    · rw [if_pos d, if_neg (nI_nlt (by omega) (by omega)), g1, if_pos (nI_inz (by omega) (by decide)), nI_clamp (by omega)]
      have e1 : τ.1 (103, 0, 0) (4800 + 4 * j + 1) = nI c' := by rw [← hc']; exact d2
      rw [e1, show (30 : Int32) + nI c' = nI (30 + c') from lit_nI c' (by decide +kernel), eM_of τ (by omega) (by omega), z_bde]
      have l := (h.2.1.1 k hk).2.2.2.2.2.1 c' h8
      rw [l, ← Nat.add_assoc]
    · rw [if_neg d, if_pos (nI_lt (by omega) (by omega))]
  | succ m ih =>
    intro i n c hi hc hn
    obtain ⟨n, rfl⟩ : ∃ k, n = k + 1 := ⟨n - 1, by omega⟩
    have b18 := hB (18, 0, k) i
    have ih1 := ih (i + 1) n c (by omega) (by omega) (by omega)
    have ih2 := ih (i + 1) n (c + 1) (by omega) (by omega) (by omega)
    have e1 : sGood k (W.1 (8, 0, 0) j) W (m + 1) i = (if (decide (¬ W.1 (10, 0, i) 0 = 0) && (decide (i = k) || decide (W.1 (8, 0, 0) j < W.1 (18, 0, k) i))) = true then 1 else 0) + sGood k (W.1 (8, 0, 0) j) W m (i + 1) := rfl
    rw [e1, fM_good_73.eq_2, m_many h, z_bde, if_neg (nI_ge (by omega) (by omega)), m_isVoter h (by omega), z_bde]
    simp only [z_let, nI_1, y_add0]
    by_cases c0 : W.1 (10, 0, i) 0 = 0
    · rw [if_pos c0, if_pos rfl, ih1]
      simp only [c0, not_true_eq_false, decide_false, Bool.false_and, Bool.false_eq_true, if_false, Nat.zero_add]
    · rw [if_neg c0, if_neg y_n10]
      by_cases c1 : i = k
      · subst c1
        rw [if_pos rfl, ih2]
        simp only [c0, not_false_eq_true, decide_true, Bool.true_and, Bool.true_or, if_true, Nat.add_assoc]
      · have nk : ¬ nI i = nI k := fun e => c1 ((nI_eq (by omega) (by omega)).mp e)
        rw [if_neg nk, show (64 : Int32) + nI i = nI (64 + i) from lit_nI i (by decide +kernel), ((m_of8 h hk hr).2 i (by omega)).2.2, z_bde, g3, if_pos (nI_inz (by omega) (by decide)), nI_clamp (by omega), show τ.1 (103, 0, 0) (4800 + 4 * j + 3) = nI (W.1 (8, 0, 0) j) from d4]
        by_cases c2 : W.1 (8, 0, 0) j < W.1 (18, 0, k) i
        · rw [if_neg (nI_ge c2 (by omega)), ih2]
          simp only [c0, c1, c2, not_false_eq_true, decide_true, decide_false, Bool.true_and, Bool.false_or, if_true, Nat.add_assoc]
        · rw [if_pos (nI_le (by omega) (by omega)), ih1]
          simp only [c0, c1, c2, not_false_eq_true, decide_true, decide_false, Bool.true_and, Bool.false_or, Bool.false_eq_true, if_false, Nat.zero_add]
theorem c_good (h : mR τ0 τ W) (hB : ∀ z i, W.1 z i < 50000) (hK : ∀ k, k < W.1 (0, 0, 0) 3 → yKo W k) (h40 : W.1 (4, 0, 0) 4 ≤ 40) (hc : ∀ j, j < W.1 (4, 0, 0) 4 → W.1 (6, 0, 0) j < 8) (x : Int32) : ∃ r r2, fX_good x (cE W) = some (r, cE W) ∧ fM_good x τ = some (r2, τ) ∧ (W.1 (4, 0, 0) 4 = 0 → r = r2) := by
  have hN := mR_N h
  have hv : W.1 (0, 0, 0) 4 ≤ 7 := by have := h.1.1.2.1; omega
  have md := h.2.1.2.2
  have r0 : τ.1 (103, 0, 0) 4960 = nI (W.1 (4, 0, 0) 4) := md.1
  rcases y_or7 (W.1 (4, 0, 0) 4) x with ⟨j, hj, rfl⟩ | hx
  · obtain ⟨d1, d2, d3, d4⟩ := md.2 j hj
    have th : fR_isThere 0 (nI j) (cE W) = some (1, cE W) := by
      simp (disch := omega) only [fR_isThere, z_let, z_bde, yRd, yWr, nI_1, nI_add, nI_pred, yCmp, yCq, nI_leI, nI_ltI, nI_eq, yQ, nI_clamp, nI_inz, if_pos, if_neg, yI_at, yCp_at, yRow_1, yR_1, Prod.mk.injEq, and_true, true_and, and_self, false_and, and_false, if_true, if_false, ne_eq, not_true_eq_false, not_false_eq_true, yLit, Nat.succ_ne_zero, reduceCtorEq, Nat.reduceEqDiff, ↓reduceIte]
    have ii : fM_isIn (nI j) 0 (nI (W.1 (4, 0, 0) 4) - 1) τ = some (1, τ) := by
      rw [y_sub1 (by omega)]
      exact m_isInY (n := W.1 (4, 0, 0) 4) τ rfl rfl (by omega) hj
    have g0 : (4800 : Int32) + 4 * nI j = nI (4800 + 4 * j) := by
      rw [show (4800 : Int32) = nI 4800 from by decide +kernel, show (4 : Int32) = nI 4 from by decide +kernel, pk_mul, nI_add]
    have g2 : nI (4800 + 4 * j) + 2 = nI (4800 + 4 * j + 2) := nI_lit _ (by decide +kernel)
    have z40 : z_in (nI j) 40 = true := nI_inz (by omega) (by decide)
    have ck : (nI j).toNatClampNeg = j := nI_clamp (by omega)
    unfold fX_good fM_good
    rw [th, z_bde, if_neg y_n10, r0, ii, z_bde, if_neg y_n10, g0, if_pos (nI_inz (by omega) (by decide)), nI_clamp (show 4800 + 4 * j < 2 ^ 31 by omega), z_let, show τ.1 (103, 0, 0) (4800 + 4 * j) = nI (W.1 (5, 0, 0) j) from d1]
    unfold fW_isGood fW_readCell
    rw [z40, ck]
    simp only [yRd, z_let, if_true]
    by_cases ck2 : W.1 (5, 0, 0) j < W.1 (0, 0, 0) 3
    · obtain ⟨k0, k1, k4, k9, k10, kf, k57⟩ := hK _ ck2
      rw [x_isLeading W hN ck2 k1 k4, m_doesLead h ck2 k1 k4, z_bde, z_bde]
      have z7 : z_in (nI (W.1 (5, 0, 0) j)) 7 = true := nI_inz (by omega) (by decide)
      have c7 : (nI (W.1 (5, 0, 0) j)).toNatClampNeg = W.1 (5, 0, 0) j := nI_clamp (by omega)
      by_cases c1 : W.1 (10, 0, W.1 (5, 0, 0) j) 1 = 0 ∧ W.1 (10, 0, W.1 (5, 0, 0) j) 4 = 2
      · rw [if_pos c1, if_neg y_n10, if_neg y_n10, z7, c7]
        simp only [yRd, if_true]
        have b2 := hB (10, 0, W.1 (5, 0, 0) j) 2
        have b7 := hB (7, 0, 0) j
        rw [(m_of h ck2).1, z_bde, g2, if_pos (nI_inz (by omega) (by decide)), nI_clamp (show 4800 + 4 * j + 2 < 2 ^ 31 by omega), show τ.1 (103, 0, 0) (4800 + 4 * j + 2) = nI (W.1 (7, 0, 0) j) from d3]
        by_cases c2 : nI (W.1 (10, 0, W.1 (5, 0, 0) j) 2) = nI (W.1 (7, 0, 0) j)
        · rw [if_pos c2, if_pos c2]
          obtain ⟨n, hz, ez⟩ := z_fu_ex
          rw [ez]
          have q1 := x_isGood_46 (k := W.1 (5, 0, 0) j) (j := j) W hN hv hB (by omega) (by omega) (W.1 (0, 0, 0) 3) 0 n 0 (by omega) (Nat.le_refl _) (by omega)
          have q2 := m_good_73 (k := W.1 (5, 0, 0) j) (j := j) (c' := W.1 (6, 0, 0) j) h hB ck2 c1.2 hj h40 rfl (hc j hj) (W.1 (0, 0, 0) 3) 0 n 0 (by omega) (Nat.le_refl _) (by omega)
          rw [nI_0] at q1 q2
          rw [q1, q2, z_bde]
          by_cases c3 : sMost W ≤ 0 + sGoodH (W.1 (5, 0, 0) j) (W.1 (8, 0, 0) j) W (W.1 (0, 0, 0) 3) 0
          · rw [if_pos c3, if_neg y_n10]
            unfold fS_cellAt
            simp only [yRd]
            rw [x_isKeeper W hN ck2, z_bde, if_neg y_n10, z7, c7]
            simp only [yRd, if_true]
            rw [eX_isCell (hc j hj), z_bde, if_neg y_n10, if_pos (nI_inz (by have := hc j hj; omega) (by decide)), nI_clamp (by have := hc j hj; omega), z_bde, z_bde]
            exact ⟨_, _, rfl, rfl, fun e => by omega⟩
          · rw [if_neg c3, if_pos rfl]
            exact ⟨_, _, rfl, rfl, fun e => by omega⟩
        · rw [if_neg c2, if_neg c2, z_bde, if_pos rfl]
          exact ⟨_, _, rfl, rfl, fun e => by omega⟩
      · rw [if_neg c1, if_pos rfl, if_pos rfl, z_bde, if_pos rfl]
        exact ⟨_, _, rfl, rfl, fun e => by omega⟩
    · have hx : ∀ k, k < W.1 (0, 0, 0) 3 → nI (W.1 (5, 0, 0) j) ≠ nI k := fun k hk e => by
        have b := hB (5, 0, 0) j
        have := (nI_eq (by omega) (by omega)).mp e
        omega
      rw [x_noLead W hN hx, m_noLead h hx, z_bde, z_bde, if_pos rfl, if_pos rfl, z_bde, if_pos rfl]
      exact ⟨_, _, rfl, rfl, fun e => by omega⟩
  · refine ⟨-1000000, -1000000, ?_, ?_, fun _ => rfl⟩
    · have th : fR_isThere 0 x (cE W) = some (0, cE W) := by
        unfold fR_isThere
        by_cases c0 : x < 0
        · rw [if_pos c0]
        · rw [if_neg c0]
          obtain ⟨j, hj, rfl⟩ := nI_of c0
          have : W.1 (4, 0, 0) 4 ≤ j := by
            by_cases e : j < W.1 (4, 0, 0) 4
            · exact absurd rfl (hx j e)
            · omega
          simp (disch := omega) only [z_let, z_bde, yRd, yWr, nI_1, nI_add, nI_pred, yCmp, yCq, nI_leI, nI_ltI, nI_eq, yQ, nI_clamp, nI_inz, if_pos, if_neg, yI_at, yCp_at, yRow_1, yR_1, Prod.mk.injEq, and_true, true_and, and_self, false_and, and_false, if_true, if_false, ne_eq, not_true_eq_false, not_false_eq_true, yLit, Nat.succ_ne_zero, reduceCtorEq, Nat.reduceEqDiff, ↓reduceIte]
      unfold fX_good
      rw [th, z_bde, if_pos rfl]
    · unfold fM_good
      have ii : fM_isIn x 0 (nI (W.1 (4, 0, 0) 4) - 1) τ = some (0, τ) := by
        by_cases e : W.1 (4, 0, 0) 4 = 0
        · rw [eM_isIn, e, if_neg]
          rintro ⟨q1, q2⟩
          have e2 : (nI 0 : Int32) - 1 = -1 := by decide +kernel
          rw [e2, Int32.le_iff_toInt_le] at q2
          rw [Int32.le_iff_toInt_le] at q1
          have e3 : (-1 : Int32).toInt = -1 := by decide +kernel
          have e4 : (0 : Int32).toInt = 0 := by decide +kernel
          omega
        · rw [y_sub1 (by omega)]
          exact m_isInO (n := W.1 (4, 0, 0) 4) τ rfl rfl (by omega) (by omega) hx
      rw [r0, ii, z_bde, if_pos rfl]
end ycalls2
