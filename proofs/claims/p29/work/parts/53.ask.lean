/-! ask, by numbers -/
theorem z_fu_ex : ∃ n, 100000 < n ∧ z_fu = n := ⟨z_fu, z_fu_big (by decide), rfl⟩
theorem yBd_I {W : yW} {z : zJ} {i v : Nat} (h : ∀ z i, W.1 z i < 100000) (hv : v < 100000) : ∀ z' i', (yI W z i v).1 z' i' < 100000 := fun z' i' => by
  rw [yI_at]
  split
  · exact hv
  · exact h z' i'
theorem sWrite_B {W : yW} {s kd a b t : Nat} (h : ∀ z i, W.1 z i < 100000) (h1 : kd < 10) (h2 : a < 100000) (h3 : b < 100000) (h4 : t < 100000) : ∀ z i, (sWrite s kd a b t W).1 z i < 100000 :=
  yBd_I (yBd_I (yBd_I (yBd_I (yBd_I (yBd_I (yBd_I (yBd_I (yBd_I (yBd_I h (by omega)) h2) h3) h4) (by decide)) (by decide)) (by decide)) (by decide)) (by decide)) h4
theorem yI_b0 {W : yW} {z : zJ} {i v b : Nat} (h : ∀ z i, W.1 z i < b) (hv : v < b) : ∀ z' i', (yI W z i v).1 z' i' < b := fun z' i' => by
  rw [yI_at]
  split
  · exact hv
  · exact h z' i'
theorem sWrite_b0 {W : yW} {s kd a c t b : Nat} (h : ∀ z i, W.1 z i < b) (h0 : kd + 1 < b) (h1 : a < b) (h2 : c < b) (h3 : t < b) : ∀ z i, (sWrite s kd a c t W).1 z i < b :=
  have h0' : 0 < b := Nat.lt_of_le_of_lt (Nat.zero_le _) h0
  yI_b0 (yI_b0 (yI_b0 (yI_b0 (yI_b0 (yI_b0 (yI_b0 (yI_b0 (yI_b0 (yI_b0 h h0) h1) h2) h3) h0') h0') h0') h0') h0') h3
theorem sTm_B {W : yW} {k e : Nat} (h : ∀ z i, W.1 z i < 100000) : sTm W k e < 100000 := by
  unfold sTm
  split
  · exact h _ _
  · exact h _ _
def sMost (W : yW) : Nat := if W.1 (0, 0, 0) 4 = 0 then 0 else W.1 (0, 0, 0) 4 / 2 + 1
theorem y_half : ∀ v, v < 8 → nI v / 2 = nI (v / 2) := by decide +kernel
theorem x_most (W : yW) (h : W.1 (0, 0, 0) 4 ≤ 7) : fW_most 0 (cE W) = some (nI (sMost W), cE W) := by
  by_cases c : W.1 (0, 0, 0) 4 = 0
  · simp (disch := omega) only [fW_most, sMost, c, nI_0, z_let, z_bde, yRd, yWr, nI_1, nI_add, nI_pred, yCmp, yCq, nI_leI, nI_ltI, nI_eq, yQ, nI_clamp, nI_inz, if_pos, if_neg, yI_at, yCp_at, yRow_1, yR_1, Prod.mk.injEq, and_true, true_and, and_self, false_and, and_false, if_true, if_false, ne_eq, not_true_eq_false, not_false_eq_true, yLit, Nat.succ_ne_zero, reduceCtorEq, Nat.reduceEqDiff, ↓reduceIte]
  · simp (disch := omega) only [fW_most, sMost, c, y_half _ (show W.1 (0, 0, 0) 4 < 8 by omega), z_let, z_bde, yRd, yWr, nI_1, nI_add, nI_pred, yCmp, yCq, nI_leI, nI_ltI, nI_eq, yQ, nI_clamp, nI_inz, if_pos, if_neg, yI_at, yCp_at, yRow_1, yR_1, Prod.mk.injEq, and_true, true_and, and_self, false_and, and_false, if_true, if_false, ne_eq, not_true_eq_false, not_false_eq_true, yLit, Nat.succ_ne_zero, reduceCtorEq, Nat.reduceEqDiff, ↓reduceIte]
/-- the numbers of one who begins to lead, from place i on -/
def sLd (k : Nat) : Nat → Nat → yW → yW
  | 0, _, W => W
  | m + 1, i, W => sLd k m (i + 1) (yI (yI (yI (yI W (16, 0, k) i (W.1 (10, 0, k) 7 + 1)) (17, 0, k) i 0) (18, 0, k) i 0) (19, 0, k) i 0)
theorem x_lead_12 (k : Nat) : ∀ (m i n : Nat) (W : yW), i + m = 7 → m < n → fK_lead_12 0 k n (nI i) (cE W) = some ((), cE (sLd k m i W)) := by
  intro m
  induction m with
  | zero =>
    intro i n W hi hn
    obtain ⟨n, rfl⟩ : ∃ k, n = k + 1 := ⟨n - 1, by omega⟩
    simp (disch := omega) only [fK_lead_12, sLd, z_let, z_bde, yRd, yWr, nI_1, nI_add, nI_pred, yCmp, yCq, nI_leI, nI_ltI, nI_eq, yQ, nI_clamp, nI_inz, if_pos, if_neg, yI_at, yCp_at, yRow_1, yR_1, Prod.mk.injEq, and_true, true_and, and_self, false_and, and_false, if_true, if_false, ne_eq, not_true_eq_false, not_false_eq_true, yLit, Nat.succ_ne_zero, reduceCtorEq, Nat.reduceEqDiff, ↓reduceIte]
  | succ m ih =>
    intro i n W hi hn
    obtain ⟨n, rfl⟩ : ∃ k, n = k + 1 := ⟨n - 1, by omega⟩
    simp (disch := omega) only [fK_lead_12, sLd, z_let, z_bde, yRd, yWr, nI_1, nI_add, nI_pred, yCmp, yCq, nI_leI, nI_ltI, nI_eq, yQ, nI_clamp, nI_inz, if_pos, if_neg, yI_at, yCp_at, yRow_1, yR_1, Prod.mk.injEq, and_true, true_and, and_self, false_and, and_false, if_true, if_false, ne_eq, not_true_eq_false, not_false_eq_true, yLit, Nat.succ_ne_zero, reduceCtorEq, Nat.reduceEqDiff, ↓reduceIte]
    exact ih (i + 1) n _ (by omega) (by omega)
def sLead (k : Nat) (W : yW) : yW := sLd k 7 0 (yI (yI W (10, 0, k) 4 2) (10, 0, k) 10 0)
theorem x_lead (k : Nat) (W : yW) : fK_lead 0 k (cE W) = some ((), cE (sLead k W)) := by
  unfold fK_lead sLead
  obtain ⟨n, hz, ez⟩ := z_fu_ex
  rw [ez]
  have h := x_lead_12 k 7 0 n (yI (yI W (10, 0, k) 4 2) (10, 0, k) 10 0) rfl (by omega)
  rw [nI_0] at h
  simp only [z_let, yWr, h]
/-- how many ballots -/
def sBits (b : Nat) : Nat := z_cnt (fun o => b.testBit o) 7 0
theorem y_bits : ∀ b, b < 128 → fJ_bitCount (nI b) = fun σ => some (nI (sBits b), σ) := by
  have h : ∀ b, b < 128 → (let x0 := nI b; let y1 := x0 - (((x0.toUInt32 >>> ((1 : Int32).toUInt32 &&& Int32.toUInt32 31)).toInt32) &&& 1431655765); let y2 := (y1 &&& 858993459) + (((y1.toUInt32 >>> ((2 : Int32).toUInt32 &&& Int32.toUInt32 31)).toInt32) &&& 858993459); let y3 := (y2 + ((y2.toUInt32 >>> ((4 : Int32).toUInt32 &&& Int32.toUInt32 31)).toInt32)) &&& 252645135; let y4 := y3 + ((y3.toUInt32 >>> ((8 : Int32).toUInt32 &&& Int32.toUInt32 31)).toInt32); let y5 := y4 + ((y4.toUInt32 >>> ((16 : Int32).toUInt32 &&& Int32.toUInt32 31)).toInt32); y5 &&& 63) = nI (sBits b) := by decide +kernel
  intro b hb
  funext σ
  have h1 := h b hb
  unfold fJ_bitCount
  simp only [z_let]
  rw [← h1]
def sChosen (k : Nat) (W : yW) : yW := if W.1 (10, 0, k) 4 = 1 ∧ sMost W ≤ sBits (W.1 (10, 0, k) 9) then sLead k W else W
theorem sMost_le {W : yW} (h : W.1 (0, 0, 0) 4 ≤ 7) : sMost W ≤ 4 := by
  unfold sMost
  split <;> omega
theorem sBits_le (b : Nat) : sBits b ≤ 7 := z_cnt_le _ 7 0
theorem x_chosen {k : Nat} (W : yW) (h : W.1 (0, 0, 0) 4 ≤ 7) (hb : W.1 (10, 0, k) 9 < 128) (hr : W.1 (10, 0, k) 4 ≤ 2) : fW_leadIfChosen 0 0 k (cE W) = some ((), cE (sChosen k W)) := by
  have q1 := sMost_le h
  have q2 := sBits_le (W.1 (10, 0, k) 9)
  have q3 := y_bits _ hb
  by_cases c : W.1 (10, 0, k) 4 = 1
  · by_cases c2 : sMost W ≤ sBits (W.1 (10, 0, k) 9)
    · simp (disch := omega) only [fW_leadIfChosen, sChosen, c, c2, q3, x_most W h, x_lead, z_let, z_bde, yRd, yWr, nI_1, nI_add, nI_pred, yCmp, yCq, nI_leI, nI_ltI, nI_eq, yQ, nI_clamp, nI_inz, if_pos, if_neg, yI_at, yCp_at, yRow_1, yR_1, Prod.mk.injEq, and_true, true_and, and_self, false_and, and_false, if_true, if_false, ne_eq, not_true_eq_false, not_false_eq_true, yLit, Nat.succ_ne_zero, reduceCtorEq, Nat.reduceEqDiff, ↓reduceIte]
    · simp (disch := omega) only [fW_leadIfChosen, sChosen, c, c2, q3, x_most W h, x_lead, z_let, z_bde, yRd, yWr, nI_1, nI_add, nI_pred, yCmp, yCq, nI_leI, nI_ltI, nI_eq, yQ, nI_clamp, nI_inz, if_pos, if_neg, yI_at, yCp_at, yRow_1, yR_1, Prod.mk.injEq, and_true, true_and, and_self, false_and, and_false, if_true, if_false, ne_eq, not_true_eq_false, not_false_eq_true, yLit, Nat.succ_ne_zero, reduceCtorEq, Nat.reduceEqDiff, ↓reduceIte]
  · simp (disch := omega) only [fW_leadIfChosen, sChosen, c, z_let, z_bde, yRd, yWr, nI_1, nI_add, nI_pred, yCmp, yCq, nI_leI, nI_ltI, nI_eq, yQ, nI_clamp, nI_inz, if_pos, if_neg, yI_at, yCp_at, yRow_1, yR_1, Prod.mk.injEq, and_true, true_and, and_self, false_and, and_false, if_true, if_false, ne_eq, not_true_eq_false, not_false_eq_true, yLit, Nat.succ_ne_zero, reduceCtorEq, Nat.reduceEqDiff, ↓reduceIte]
def sAsk1 (k i : Nat) (W : yW) : yW := match sEmp W with
  | none => W
  | some s => yI (yI (sWrite s 0 k i (W.1 (10, 0, k) 2) W) (20, 0, s) 4 (W.1 (10, 0, k) 7)) (20, 0, s) 5 (sTm W k (W.1 (10, 0, k) 7))
theorem sWrite_at {W : yW} {s kd a b t : Nat} {z : zJ} (i : Nat) (h : z ≠ (20, 0, s)) : (sWrite s kd a b t W).1 z i = W.1 z i := by
  unfold sWrite
  rw [yI_z _ _ h, yI_z _ _ h, yI_z _ _ h, yI_z _ _ h, yI_z _ _ h, yI_z _ _ h, yI_z _ _ h, yI_z _ _ h, yI_z _ _ h, yI_z _ _ h]
theorem sTm_w {W W' : yW} {k e : Nat} (h : ∀ i, W'.1 (10, 0, k) i = W.1 (10, 0, k) i) (h2 : ∀ i, W'.1 (11, 0, k) i = W.1 (11, 0, k) i) : sTm W' k e = sTm W k e := by
  unfold sTm
  rw [h, h, h2]
theorem x_sendAsk {k i : Nat} (W : yW) (hB : ∀ z i, W.1 z i < 100000) (hk : k < 7) (hi : i < 100000) (h1 : W.1 (10, 0, k) 5 ≤ W.1 (10, 0, k) 7) (h2 : W.1 (10, 0, k) 7 ≤ W.1 (10, 0, k) 5 + 40) : fW_sendAsk 0 (nI k) (nI i) (cE W) = some ((), cE (sAsk1 k i W)) := by
  unfold fW_sendAsk sAsk1
  cases hs : sEmp W with
  | none =>
    rw [x_sendN W hB hs]
    rfl
  | some s =>
    rw [show (0 : Int32) = nI 0 from by decide +kernel, x_send W hB hs hk, z_bde]
    show (if z_in (nI k) 7 = true then _ else none) = _
    have w1 : ∀ i, (sWrite s 0 k i (W.1 (10, 0, k) 2) W).1 (10, 0, k) 7 = W.1 (10, 0, k) 7 := fun i => sWrite_at 7 (by simp)
    have w2 : ∀ j, (yI (sWrite s 0 k i (W.1 (10, 0, k) 2) W) (20, 0, s) 4 (W.1 (10, 0, k) 7)).1 (10, 0, k) j = W.1 (10, 0, k) j := fun j => by
      rw [yI_z _ _ (by simp), sWrite_at _ (by simp)]
    have w3 : ∀ j, (yI (sWrite s 0 k i (W.1 (10, 0, k) 2) W) (20, 0, s) 4 (W.1 (10, 0, k) 7)).1 (11, 0, k) j = W.1 (11, 0, k) j := fun j => by
      rw [yI_z _ _ (by simp), sWrite_at _ (by simp)]
    · have hB' : ∀ z i', (yI (sWrite s 0 k i (W.1 (10, 0, k) 2) W) (20, 0, s) 4 (W.1 (10, 0, k) 7)).1 z i' < 100000 := yBd_I (sWrite_B hB (by decide) (by omega) hi (hB _ _)) (hB _ _)
      have t1 := x_term (k := k) (e := W.1 (10, 0, k) 7) _ hB' (by rw [w2]; exact h1) (by rw [w2]; omega) (by rw [w2]; exact h2)
      rw [sTm_w w2 w3] at t1
      simp (disch := omega) only [w1, w2, t1, z_let, z_bde, yRd, yWr, nI_clamp, nI_inz, if_true]
def sAskL (k : Nat) : Nat → Nat → yW → yW
  | 0, _, W => W
  | m + 1, i, W => if i = k ∨ W.1 (10, 0, i) 0 = 0 then sAskL k m (i + 1) W else sAskL k m (i + 1) (sAsk1 k i W)
theorem sAsk1_at {k i j : Nat} {W : yW} {z : zJ} (h : ∀ s, z ≠ (20, 0, s)) : (sAsk1 k i W).1 z j = W.1 z j := by
  unfold sAsk1
  split
  · rfl
  · rw [yI_z _ _ (h _), yI_z _ _ (h _), sWrite_at _ (h _)]
theorem sAsk1_B {k i : Nat} {W : yW} (h : ∀ z i, W.1 z i < 100000) (hk : k < 7) (hi : i < 7) : ∀ z j, (sAsk1 k i W).1 z j < 100000 := by
  unfold sAsk1
  split
  · exact h
  · exact yBd_I (yBd_I (sWrite_B h (by decide) (by omega) (by omega) (h _ _)) (h _ _)) (sTm_B h)
theorem x_askBy_82 {k : Nat} (hk : k < 7) : ∀ (m i n : Nat) (W : yW), (∀ z i, W.1 z i < 100000) → i + m = W.1 (0, 0, 0) 3 → W.1 (0, 0, 0) 3 ≤ 7 → W.1 (10, 0, k) 5 ≤ W.1 (10, 0, k) 7 → W.1 (10, 0, k) 7 ≤ W.1 (10, 0, k) 5 + 40 → W.1 (0, 0, 0) 4 ≤ 7 → W.1 (10, 0, k) 9 < 128 → W.1 (10, 0, k) 4 ≤ 2 → m < n → fW_askBy_82 0 n (nI k) k (nI i) (cE W) = some (nI ((sChosen k (sAskL k m i W)).1 (10, 0, k) 2), cE (sChosen k (sAskL k m i W))) := by
  intro m
  induction m with
  | zero =>
    intro i n W hB hi hN h1 h2 h3 h4 h5 hn
    obtain ⟨n, rfl⟩ : ∃ k, n = k + 1 := ⟨n - 1, by omega⟩
    simp (disch := omega) only [fW_askBy_82, sAskL, x_chosen W h3 h4 h5, z_let, z_bde, yRd, yWr, nI_1, nI_add, nI_pred, yCmp, yCq, nI_leI, nI_ltI, nI_eq, yQ, nI_clamp, nI_inz, if_pos, if_neg, yI_at, yCp_at, yRow_1, yR_1, Prod.mk.injEq, and_true, true_and, and_self, false_and, and_false, if_true, if_false, ne_eq, not_true_eq_false, not_false_eq_true, yLit, Nat.succ_ne_zero, reduceCtorEq, Nat.reduceEqDiff, ↓reduceIte]
  | succ m ih =>
    intro i n W hB hi hN h1 h2 h3 h4 h5 hn
    obtain ⟨n, rfl⟩ : ∃ k, n = k + 1 := ⟨n - 1, by omega⟩
    have b0 := hB (10, 0, i) 0
    by_cases c1 : i = k
    · subst c1
      simp (disch := omega) only [fW_askBy_82, sAskL, true_or, z_let, z_bde, yRd, yWr, nI_1, nI_add, nI_pred, yCmp, yCq, nI_leI, nI_ltI, nI_eq, yQ, nI_clamp, nI_inz, if_pos, if_neg, yI_at, yCp_at, yRow_1, yR_1, Prod.mk.injEq, and_true, true_and, and_self, false_and, and_false, if_true, if_false, ne_eq, not_true_eq_false, not_false_eq_true, yLit, Nat.succ_ne_zero, reduceCtorEq, Nat.reduceEqDiff, ↓reduceIte]
      exact ih (i + 1) n W hB (by omega) hN h1 h2 h3 h4 h5 (by omega)
    · by_cases c2 : W.1 (10, 0, i) 0 = 0
      · simp (disch := omega) only [fW_askBy_82, sAskL, c1, c2, or_true, z_let, z_bde, yRd, yWr, nI_1, nI_add, nI_pred, yCmp, yCq, nI_leI, nI_ltI, nI_eq, yQ, nI_clamp, nI_inz, if_pos, if_neg, yI_at, yCp_at, yRow_1, yR_1, Prod.mk.injEq, and_true, true_and, and_self, false_and, and_false, if_true, if_false, ne_eq, not_true_eq_false, not_false_eq_true, yLit, Nat.succ_ne_zero, reduceCtorEq, Nat.reduceEqDiff, ↓reduceIte]
        exact ih (i + 1) n W hB (by omega) hN h1 h2 h3 h4 h5 (by omega)
      · simp (disch := omega) only [fW_askBy_82, sAskL, c1, c2, or_false, x_sendAsk W hB hk (show i < 100000 by omega) h1 h2, z_let, z_bde, yRd, yWr, nI_1, nI_add, nI_pred, yCmp, yCq, nI_leI, nI_ltI, nI_eq, yQ, nI_clamp, nI_inz, if_pos, if_neg, yI_at, yCp_at, yRow_1, yR_1, Prod.mk.injEq, and_true, true_and, and_self, false_and, and_false, if_true, if_false, ne_eq, not_true_eq_false, not_false_eq_true, yLit, Nat.succ_ne_zero, reduceCtorEq, Nat.reduceEqDiff, ↓reduceIte]
        have e : ∀ (z : zJ) j, (∀ s, z ≠ (20, 0, s)) → (sAsk1 k i W).1 z j = W.1 z j := fun z j h => sAsk1_at h
        exact ih (i + 1) n _ (sAsk1_B hB hk (by omega)) (by rw [e _ _ (by simp)]; omega) (by rw [e _ _ (by simp)]; omega) (by rw [e _ _ (by simp), e _ _ (by simp)]; omega) (by rw [e _ _ (by simp), e _ _ (by simp)]; omega) (by rw [e _ _ (by simp)]; omega) (by rw [e _ _ (by simp)]; omega) (by rw [e _ _ (by simp)]; omega) (by omega)
def sStand (k : Nat) (W : yW) : yW := yI (yI (yI (sEnter k (W.1 (10, 0, k) 2 + 1) W) (10, 0, k) 3 (k + 1)) (10, 0, k) 4 1) (10, 0, k) 9 (2 ^ k)
def sAskC (k : Nat) (W : yW) : Prop := W.1 (10, 0, k) 1 = 0 ∧ W.1 (10, 0, k) 0 ≠ 0 ∧ W.1 (10, 0, k) 4 ≠ 2 ∧ W.1 (0, 0, 0) 4 ≤ 41 - sCnt W
def sAsk (k : Nat) (W : yW) : yW := sChosen k (sAskL k (W.1 (0, 0, 0) 3) 0 (sStand k W))
theorem sCnt_le (W : yW) : sCnt W ≤ 40 := z_cnt_le _ 40 0
theorem y_shl : ∀ k, k < 7 → (1 : Int32) <<< (nI k &&& 31) = nI (2 ^ k) := by decide +kernel
theorem y_pow : ∀ k, k < 7 → 2 ^ k < 128 := by decide +kernel
theorem y_40 {c : Nat} (h : c ≤ 40) : (40 : Int32) - nI c = nI (40 - c) := by
  rw [show (40 : Int32) = nI 40 from by decide +kernel, iI_nat, iI_nat, iI_nat, iI_sub]
  congr 1
  omega
theorem y_m1 (v : Nat) : nI v - 1 = iI ((v : Int) - 1) := by
  rw [iI_nat, show (1 : Int32) = iI 1 from by decide +kernel, iI_sub]
theorem y_m1le {v c : Nat} (h : v < 1000) (hc : c < 1000) : (iI ((v : Int) - 1) ≤ nI c) = (v ≤ c + 1) := by
  rw [iI_nat]
  refine propext ((iI_le (by omega) (by omega) (by omega) (by omega)).trans ?_)
  omega
theorem x_ask {k : Nat} (W : yW) (hB : ∀ z i, W.1 z i < 50000) (hN : W.1 (0, 0, 0) 3 ≤ 7) (hk : k < W.1 (0, 0, 0) 3) (h1 : W.1 (10, 0, k) 5 ≤ W.1 (10, 0, k) 7) (h2 : W.1 (10, 0, k) 7 ≤ W.1 (10, 0, k) 5 + 40) (h3 : W.1 (0, 0, 0) 4 ≤ 7) : (sAskC k W → fX_ask (nI k) (cE W) = some (nI ((sAsk k W).1 (10, 0, k) 2), cE (sAsk k W))) ∧ (¬ sAskC k W → fX_ask (nI k) (cE W) = some (-1, cE W)) := by
  have hB' : ∀ z i, W.1 z i < 100000 := fun z i => by have := hB z i; omega
  have q1 := sCnt_le W
  have q2 := y_40 q1
  have q3 := y_shl k (by omega)
  have b1 := hB (10, 0, k) 1
  have b0 := hB (10, 0, k) 0
  have b4 := hB (10, 0, k) 4
  have b2 := hB (10, 0, k) 2
  have q4 : ((iI ((W.1 (0, 0, 0) 4 : Int) - 1) ≤ nI (40 - sCnt W))) = (W.1 (0, 0, 0) 4 ≤ 41 - sCnt W) := by
    rw [y_m1le (by omega) (by omega)]
    exact propext (by omega)
  unfold fX_ask fW_askBy
  obtain ⟨n, hz, ez⟩ := z_fu_ex
  rw [ez]
  refine ⟨fun hc => ?_, fun hc => ?_⟩
  · obtain ⟨c1, c2, c3, c4⟩ := hc
    have hS : ∀ z i, (sStand k W).1 z i < 100000 := yBd_I (yBd_I (yBd_I (yBd_I (yBd_I (yBd_I (yBd_I (yBd_I hB' (by omega)) (by decide)) (by decide)) (by decide)) (by decide)) (by omega)) (by decide)) (by have := y_pow k (by omega); omega)
    have hL := x_askBy_82 (k := k) (by omega) (W.1 (0, 0, 0) 3) 0 n (sStand k W) hS
    simp (disch := omega) only [sStand, sEnter, sFollow, yI_at, yCp_at, yRow_1, yR_1, Prod.mk.injEq, and_true, true_and, and_self, false_and, and_false, if_true, if_false, ne_eq, not_true_eq_false, not_false_eq_true, yLit, Nat.succ_ne_zero, reduceCtorEq, Nat.reduceEqDiff, ↓reduceIte] at hL
    have hL := hL (by omega) hN h1 h2 h3 (y_pow k (by omega)) (by decide) (by omega)
    rw [nI_0] at hL
    simp (disch := omega) only [x_isKeeper W hN hk, x_countFull W hB', x_enter, q2, q3, y_m1, q4, c1, c2, c3, c4, hL, sAsk, sStand, sEnter, sFollow, z_let, z_bde, yRd, yWr, nI_1, nI_add, nI_pred, yCmp, yCq, nI_leI, nI_ltI, nI_eq, yQ, nI_clamp, nI_inz, if_pos, if_neg, yI_at, yCp_at, yRow_1, yR_1, Prod.mk.injEq, and_true, true_and, and_self, false_and, and_false, if_true, if_false, ne_eq, not_true_eq_false, not_false_eq_true, yLit, Nat.succ_ne_zero, reduceCtorEq, Nat.reduceEqDiff, ↓reduceIte]
  · by_cases c1 : W.1 (10, 0, k) 1 = 0
    · by_cases c2 : W.1 (10, 0, k) 0 = 0
      · simp (disch := omega) only [x_isKeeper W hN hk, x_countFull W hB', c1, c2, z_let, z_bde, yRd, yWr, nI_1, nI_add, nI_pred, yCmp, yCq, nI_leI, nI_ltI, nI_eq, yQ, nI_clamp, nI_inz, if_pos, if_neg, yI_at, yCp_at, yRow_1, yR_1, Prod.mk.injEq, and_true, true_and, and_self, false_and, and_false, if_true, if_false, ne_eq, not_true_eq_false, not_false_eq_true, yLit, Nat.succ_ne_zero, reduceCtorEq, Nat.reduceEqDiff, ↓reduceIte]
      · by_cases c3 : W.1 (10, 0, k) 4 = 2
        · simp (disch := omega) only [x_isKeeper W hN hk, x_countFull W hB', c1, c2, c3, z_let, z_bde, yRd, yWr, nI_1, nI_add, nI_pred, yCmp, yCq, nI_leI, nI_ltI, nI_eq, yQ, nI_clamp, nI_inz, if_pos, if_neg, yI_at, yCp_at, yRow_1, yR_1, Prod.mk.injEq, and_true, true_and, and_self, false_and, and_false, if_true, if_false, ne_eq, not_true_eq_false, not_false_eq_true, yLit, Nat.succ_ne_zero, reduceCtorEq, Nat.reduceEqDiff, ↓reduceIte]
        · have c4 : ¬ W.1 (0, 0, 0) 4 ≤ 41 - sCnt W := fun h => hc ⟨c1, c2, c3, h⟩
          simp (disch := omega) only [x_isKeeper W hN hk, x_countFull W hB', q2, y_m1, q4, c1, c2, c3, c4, z_let, z_bde, yRd, yWr, nI_1, nI_add, nI_pred, yCmp, yCq, nI_leI, nI_ltI, nI_eq, yQ, nI_clamp, nI_inz, if_pos, if_neg, yI_at, yCp_at, yRow_1, yR_1, Prod.mk.injEq, and_true, true_and, and_self, false_and, and_false, if_true, if_false, ne_eq, not_true_eq_false, not_false_eq_true, yLit, Nat.succ_ne_zero, reduceCtorEq, Nat.reduceEqDiff, ↓reduceIte]
    · simp (disch := omega) only [x_isKeeper W hN hk, x_countFull W hB', c1, z_let, z_bde, yRd, yWr, nI_1, nI_add, nI_pred, yCmp, yCq, nI_leI, nI_ltI, nI_eq, yQ, nI_clamp, nI_inz, if_pos, if_neg, yI_at, yCp_at, yRow_1, yR_1, Prod.mk.injEq, and_true, true_and, and_self, false_and, and_false, if_true, if_false, ne_eq, not_true_eq_false, not_false_eq_true, yLit, Nat.succ_ne_zero, reduceCtorEq, Nat.reduceEqDiff, ↓reduceIte]
