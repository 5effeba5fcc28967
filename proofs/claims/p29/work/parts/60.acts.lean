/-! the class's acts, by numbers -/
theorem sCopyN_at (w0 i0 w1 i1 : Nat) (W : yW) (z : zJ) (f : Nat) : (sCopyN w0 i0 w1 i1 W).1 z f = if z = (20, w0, i0) ∧ f < 10 then W.1 (20, w1, i1) f else W.1 z f := by
  unfold sCopyN
  by_cases h : z = (20, w0, i0)
  · subst h
    by_cases hf : f < 10
    · rw [if_pos ⟨rfl, hf⟩]
      rcases (show f = 0 ∨ f = 1 ∨ f = 2 ∨ f = 3 ∨ f = 4 ∨ f = 5 ∨ f = 6 ∨ f = 7 ∨ f = 8 ∨ f = 9 by omega) with rfl | rfl | rfl | rfl | rfl | rfl | rfl | rfl | rfl | rfl <;> simp only [yI_at, yCp_at, yRow_1, yR_1, Prod.mk.injEq, and_true, true_and, and_self, false_and, and_false, if_true, if_false, ne_eq, not_true_eq_false, not_false_eq_true, yLit, Nat.succ_ne_zero, reduceCtorEq, Nat.reduceEqDiff, ↓reduceIte]
    · rw [if_neg (fun e => hf e.2), yI_i _ _ (by omega), yI_i _ _ (by omega), yI_i _ _ (by omega), yI_i _ _ (by omega), yI_i _ _ (by omega), yI_i _ _ (by omega), yI_i _ _ (by omega), yI_i _ _ (by omega), yI_i _ _ (by omega), yI_i _ _ (by omega)]
  · rw [if_neg (fun e => h e.1), yI_z _ _ h, yI_z _ _ h, yI_z _ _ h, yI_z _ _ h, yI_z _ _ h, yI_z _ _ h, yI_z _ _ h, yI_z _ _ h, yI_z _ _ h, yI_z _ _ h]
theorem sCopyL_at (w0 i0 w1 i1 : Nat) (W : yW) (z : zJ) (f : Nat) : (sCopyL w0 i0 w1 i1 W).1 z f = if z = (20, w0, i0) ∧ f < 10 then W.1 (20, w1, i1) f else if z = (21, w0, i0) ∧ f < 30 then W.1 (21, w1, i1) f else if z = (23, w0, i0) ∧ f < 20 then W.1 (23, w1, i1) f else W.1 z f := by
  have e20 : ∀ x y f, (sCopyN w0 i0 w1 i1 W).1 (21, x, y) f = W.1 (21, x, y) f := fun x y f => by rw [sCopyN_at, if_neg (by simp)]
  have e23 : ∀ x y f, (sCopyN w0 i0 w1 i1 W).1 (23, x, y) f = W.1 (23, x, y) f := fun x y f => by rw [sCopyN_at, if_neg (by simp)]
  unfold sCopyL
  rw [yCp_at, yCp_at, yCp_at]
  simp only [Nat.zero_le, true_and, Nat.zero_add, Nat.sub_zero, e20, e23]
  by_cases h1 : z = (20, w0, i0)
  · subst h1
    simp only [Prod.mk.injEq, Nat.reduceEqDiff, false_and, if_false, sCopyN_at, true_and, and_self]
  · by_cases h2 : z = (21, w0, i0)
    · subst h2
      simp only [Prod.mk.injEq, Nat.reduceEqDiff, false_and, if_false, e20, true_and, and_self]
    · by_cases h3 : z = (23, w0, i0)
      · subst h3
        simp only [Prod.mk.injEq, Nat.reduceEqDiff, false_and, if_false, e23, true_and, and_self]
      · rw [if_neg (fun e => h3 e.1), if_neg (fun e => h2 e.1), if_neg (fun e => h1 e.1), if_neg (fun e => h2 e.1), if_neg (fun e => h3 e.1), sCopyN_at, if_neg (fun e => h1 e.1)]
theorem sOut_at (s : Nat) (W : yW) (z : zJ) (f : Nat) : (sOut s W).1 z f = if z = (20, 0, s) ∧ f = 0 then 0 else if z = (20, 0, 40) ∧ f < 10 then W.1 (20, 0, s) f else if z = (21, 0, 40) ∧ f < 30 then W.1 (21, 0, s) f else if z = (23, 0, 40) ∧ f < 20 then W.1 (23, 0, s) f else W.1 z f := by
  unfold sOut
  rw [yI_at, sCopyL_at]
/-- the letter is out of its slot; its receiver is at least in its term -/
def sDel1 (s : Nat) (W : yW) : yW := if W.1 (10, 0, W.1 (20, 0, s) 2) 2 < W.1 (20, 0, s) 3 then sEnter (W.1 (20, 0, s) 2) (W.1 (20, 0, s) 3) (sOut s W) else sOut s W
theorem sEnter_at (k t : Nat) (W : yW) (z : zJ) (f : Nat) : (sEnter k t W).1 z f = if z = (10, 0, k) ∧ f = 2 then t else if z = (10, 0, k) ∧ (f = 3 ∨ f = 4 ∨ f = 9 ∨ f = 10) then 0 else W.1 z f := by
  unfold sEnter sFollow
  by_cases h : z = (10, 0, k)
  · subst h
    rw [yI_at, yI_at, yI_at, yI_at, yI_at]
    grind
  · rw [yI_z _ _ h, yI_z _ _ h, yI_z _ _ h, yI_z _ _ h, yI_z _ _ h, if_neg (fun e => h e.1), if_neg (fun e => h e.1)]
theorem sDel1_at (s : Nat) (W : yW) (z : zJ) (f : Nat) : (sDel1 s W).1 z f = if W.1 (10, 0, W.1 (20, 0, s) 2) 2 < W.1 (20, 0, s) 3 ∧ z = (10, 0, W.1 (20, 0, s) 2) ∧ f = 2 then W.1 (20, 0, s) 3 else if W.1 (10, 0, W.1 (20, 0, s) 2) 2 < W.1 (20, 0, s) 3 ∧ z = (10, 0, W.1 (20, 0, s) 2) ∧ (f = 3 ∨ f = 4 ∨ f = 9 ∨ f = 10) then 0 else (sOut s W).1 z f := by
  unfold sDel1
  by_cases c : W.1 (10, 0, W.1 (20, 0, s) 2) 2 < W.1 (20, 0, s) 3
  · rw [if_pos c, sEnter_at]
    simp only [c, true_and]
  · rw [if_neg c]
    simp only [c, false_and, if_false]
theorem yEn_Cp0 {W : yW} {s : Nat} (h : yEn W) : yEn (sOut s W) := by
  have h1 : yEn (sCopyN 0 40 0 s W) := fun w k j => by
    rw [sCopyN_at, sCopyN_at, if_neg (by simp), if_neg (by simp)]
    exact h w k j
  exact yEn_I (yEn_Cs (yEn_Cp h1 (by simp) (by simp) (by omega) (by omega)) (by simp) (by simp)) (by simp) (by simp)
theorem yEn_E {W : yW} {k t : Nat} (h : yEn W) : yEn (sEnter k t W) := yEn_I (yEn_I (yEn_I (yEn_I (yEn_I h (by simp) (by simp)) (by simp) (by simp)) (by simp) (by simp)) (by simp) (by simp)) (by simp) (by simp)
theorem sOut_B {s b : Nat} {W : yW} (hB : ∀ z i, W.1 z i < b) : ∀ z i, (sOut s W).1 z i < b := fun z i => by
  have h0 := hB z i
  rw [sOut_at]
  split
  · omega
  · split
    · exact hB _ _
    · split
      · exact hB _ _
      · split
        · exact hB _ _
        · exact h0
theorem sDel1_B {s b : Nat} {W : yW} (hB : ∀ z i, W.1 z i < b) : ∀ z i, (sDel1 s W).1 z i < b := fun z i => by
  have h0 := hB z i
  rw [sDel1_at]
  split
  · exact hB _ _
  · split
    · omega
    · exact sOut_B hB z i
theorem sDel1_E {s : Nat} {W : yW} (h : yEn W) : yEn (sDel1 s W) := by
  unfold sDel1
  split
  · exact yEn_E (yEn_Cp0 h)
  · exact yEn_Cp0 h
theorem x_deliver {s : Nat} (W : yW) (hs : s < 40) (hB : ∀ z i, W.1 z i < 40000) (hE : yEn W) (hN : W.1 (0, 0, 0) 3 ≤ 7) (h4 : W.1 (0, 0, 0) 4 ≤ 7) (h0 : W.1 (20, 0, s) 0 ≠ 0) (h5 : W.1 (20, 0, s) 0 ≤ 5) (hr : W.1 (20, 0, s) 2 < W.1 (0, 0, 0) 3) (hf : W.1 (20, 0, s) 1 < W.1 (0, 0, 0) 3) (h6 : W.1 (20, 0, s) 6 ≤ 5)
    (hK : ∀ k, k < W.1 (0, 0, 0) 3 → W.1 (10, 0, k) 5 ≤ W.1 (10, 0, k) 8 ∧ W.1 (10, 0, k) 8 ≤ W.1 (10, 0, k) 7 ∧ W.1 (10, 0, k) 7 ≤ W.1 (10, 0, k) 5 + 40 ∧ W.1 (10, 0, k) 9 < 128 ∧ W.1 (10, 0, k) 1 ≤ 1 ∧ (W.1 (10, 0, k) 4 = 2 → ∀ o, o < W.1 (0, 0, 0) 3 → 1 ≤ W.1 (16, 0, k) o)) :
    fX_deliver (nI s) (cE W) = if W.1 (10, 0, W.1 (20, 0, s) 2) 1 = 0 then some (sGetsR (W.1 (20, 0, s) 2) (sDel1 s W), cE (sGets (W.1 (20, 0, s) 2) (sDel1 s W))) else some (0, cE (sOut s W)) := by
  have hB5 : ∀ z i, W.1 z i < 50000 := fun z i => by have := hB z i; omega
  have b0 := hB (20, 0, s) 0
  have b3 := hB (20, 0, s) 3
  obtain ⟨k1, k2, k3, k4, k5, k6⟩ := hK _ hr
  have b2 := hB (10, 0, W.1 (20, 0, s) 2) 2
  have o20 : ∀ f, f < 9 → (sOut s W).1 (20, 0, 40) f = W.1 (20, 0, s) f := fun f hf => by
    rw [sOut_at, if_neg (by simp; omega), if_pos ⟨rfl, Nat.lt_succ_of_lt hf⟩]
  have o10 : ∀ k f, (sOut s W).1 (10, 0, k) f = W.1 (10, 0, k) f := fun k f => by
    rw [sOut_at, if_neg (by simp), if_neg (by simp), if_neg (by simp), if_neg (by simp)]
  have oN : ∀ f, (sOut s W).1 (0, 0, 0) f = W.1 (0, 0, 0) f := fun f => by
    rw [sOut_at, if_neg (by simp), if_neg (by simp), if_neg (by simp), if_neg (by simp)]
  have up := x_isUp (k := W.1 (20, 0, s) 2) (sOut s W) (by rw [oN]; exact hN) (by rw [oN]; exact hr) (by rw [o10]; exact k5)
  rw [o10] at up
  have ke := x_isKeeper (k := W.1 (20, 0, s) 1) (sOut s W) (by rw [oN]; exact hN) (by rw [oN]; exact hf)
  have isf := x_isFull W hs hB5
  rw [if_neg h0] at isf
  by_cases cu : W.1 (10, 0, W.1 (20, 0, s) 2) 1 = 0
  · have d20 : ∀ f, f < 9 → (sDel1 s W).1 (20, 0, 40) f = W.1 (20, 0, s) f := fun f hf => by
      rw [sDel1_at, if_neg (by simp), if_neg (by simp), o20 f hf]
    have d10 : ∀ f, f = 5 ∨ f = 7 ∨ f = 8 → (sDel1 s W).1 (10, 0, W.1 (20, 0, s) 2) f = W.1 (10, 0, W.1 (20, 0, s) 2) f := fun f hf => by
      rw [sDel1_at, if_neg (by omega), if_neg (by omega), o10]
    have dN : ∀ f, (sDel1 s W).1 (0, 0, 0) f = W.1 (0, 0, 0) f := fun f => by
      rw [sDel1_at, if_neg (by simp), if_neg (by simp), oN]
    have g := x_gets (k := W.1 (20, 0, s) 2) (sDel1 s W) (by omega) (sDel1_B hB) (sDel1_E hE) (d20 2 (by decide)) (by rw [d20 1 (by decide)]; omega) (by rw [d10 5 (by omega), d10 8 (by omega)]; exact k1) (by rw [d10 7 (by omega), d10 8 (by omega)]; exact k2) (by rw [d10 7 (by omega), d10 5 (by omega)]; exact k3) (by rw [d20 6 (by decide)]; exact h6) (by
        rw [sDel1_at]
        split
        · rename_i h; exact absurd h.2.2 (by decide)
        · split
          · decide
          · rw [o10]; exact k4) (by rw [dN]; exact hN) (by rw [dN]; exact h4) (fun h => by
        rw [d20 1 (by decide), sDel1_at, if_neg (by simp), if_neg (by simp), sOut_at, if_neg (by simp), if_neg (by simp), if_neg (by simp), if_neg (by simp)]
        refine k6 ?_ _ hf
        rw [sDel1_at] at h
        split at h
        · rename_i h'; exact absurd h'.2.2 (by decide)
        · split at h
          · exact absurd h (by decide)
          · rw [o10] at h; exact h) (by rw [d20 0 (by decide)]; exact h0) (by rw [d20 0 (by decide)]; exact h5)
    rw [if_pos cu] at up ⊢
    by_cases cl : W.1 (10, 0, W.1 (20, 0, s) 2) 2 < W.1 (20, 0, s) 3
    · have ed : sDel1 s W = sEnter (W.1 (20, 0, s) 2) (W.1 (20, 0, s) 3) (sOut s W) := if_pos cl
      rw [ed] at g ⊢
      simp (disch := omega) only [fX_deliver, fW_deliverFrom, isf, x_takeOut W hs hB5 h0, z_om, o20, o10, up, ke, x_enter, g, z_let, z_bde, yRd, yWr, nI_1, nI_add, nI_pred, yCmp, yCq, nI_leI, nI_ltI, nI_eq, yQ, nI_clamp, nI_inz, if_pos, if_neg, yI_at, yCp_at, yRow_1, yR_1, Prod.mk.injEq, and_true, true_and, and_self, false_and, and_false, if_true, if_false, ne_eq, not_true_eq_false, not_false_eq_true, yLit, Nat.succ_ne_zero, reduceCtorEq, Nat.reduceEqDiff, ↓reduceIte]
    · have ed : sDel1 s W = sOut s W := if_neg cl
      rw [ed] at g ⊢
      simp (disch := omega) only [fX_deliver, fW_deliverFrom, isf, x_takeOut W hs hB5 h0, z_om, o20, o10, up, ke, x_enter, g, z_let, z_bde, yRd, yWr, nI_1, nI_add, nI_pred, yCmp, yCq, nI_leI, nI_ltI, nI_eq, yQ, nI_clamp, nI_inz, if_pos, if_neg, yI_at, yCp_at, yRow_1, yR_1, Prod.mk.injEq, and_true, true_and, and_self, false_and, and_false, if_true, if_false, ne_eq, not_true_eq_false, not_false_eq_true, yLit, Nat.succ_ne_zero, reduceCtorEq, Nat.reduceEqDiff, ↓reduceIte]
  · rw [if_neg cu] at up ⊢
    simp (disch := omega) only [fX_deliver, fW_deliverFrom, isf, x_takeOut W hs hB5 h0, z_om, o20, o10, up, ke, z_let, z_bde, yRd, yWr, nI_1, nI_add, nI_pred, yCmp, yCq, nI_leI, nI_ltI, nI_eq, yQ, nI_clamp, nI_inz, if_pos, if_neg, yI_at, yCp_at, yRow_1, yR_1, Prod.mk.injEq, and_true, true_and, and_self, false_and, and_false, if_true, if_false, ne_eq, not_true_eq_false, not_false_eq_true, yLit, Nat.succ_ne_zero, reduceCtorEq, Nat.reduceEqDiff, ↓reduceIte]
