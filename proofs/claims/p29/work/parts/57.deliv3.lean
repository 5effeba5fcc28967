/-! deliver, by numbers: ballots, answers, entries, folds -/
theorem y_or : ∀ b, b < 128 → ∀ k, k < 7 → nI b ||| ((1 : Int32) <<< (nI k &&& 31)) = nI (b ||| 2 ^ k) := by decide +kernel
theorem y_or_lt : ∀ b, b < 128 → ∀ k, k < 7 → b ||| 2 ^ k < 128 := by decide +kernel
def sBallot (k : Nat) (W : yW) : yW := if W.1 (10, 0, k) 4 = 1 ∧ W.1 (10, 0, k) 2 = W.1 (20, 0, 40) 3 ∧ W.1 (20, 0, 40) 4 = 1 then sChosen k (yI W (10, 0, k) 9 (W.1 (10, 0, k) 9 ||| 2 ^ W.1 (20, 0, 40) 1)) else W
theorem x_takeBallot {k : Nat} (W : yW) (hB : ∀ z i, W.1 z i < 50000) (h1 : W.1 (20, 0, 40) 1 < 7) (h9 : W.1 (10, 0, k) 9 < 128) (h4 : W.1 (0, 0, 0) 4 ≤ 7) : fW_takeBallot 0 0 k 0 40 (cE W) = some (0, cE (sBallot k W)) := by
  have b4 := hB (10, 0, k) 4
  have b2 := hB (10, 0, k) 2
  have b23 := hB (20, 0, 40) 3
  have b24 := hB (20, 0, 40) 4
  unfold sBallot
  by_cases c1 : W.1 (10, 0, k) 4 = 1
  · by_cases c2 : W.1 (10, 0, k) 2 = W.1 (20, 0, 40) 3
    · by_cases c3 : W.1 (20, 0, 40) 4 = 1
      · have ch := x_chosen (k := k) (yI W (10, 0, k) 9 (W.1 (10, 0, k) 9 ||| 2 ^ W.1 (20, 0, 40) 1))
        simp only [yI_at, yCp_at, yRow_1, yR_1, Prod.mk.injEq, and_true, true_and, and_self, false_and, and_false, if_true, if_false, ne_eq, not_true_eq_false, not_false_eq_true, yLit, Nat.succ_ne_zero, reduceCtorEq, Nat.reduceEqDiff, ↓reduceIte] at ch
        have ch := ch h4 (y_or_lt _ h9 _ h1) (by omega)
        simp (disch := omega) only [fW_takeBallot, c1, c2, c3, y_or _ h9 _ h1, ch, z_let, z_bde, yRd, yWr, nI_1, nI_add, nI_pred, yCmp, yCq, nI_leI, nI_ltI, nI_eq, yQ, nI_clamp, nI_inz, if_pos, if_neg, yI_at, yCp_at, yRow_1, yR_1, Prod.mk.injEq, and_true, true_and, and_self, false_and, and_false, if_true, if_false, ne_eq, not_true_eq_false, not_false_eq_true, yLit, Nat.succ_ne_zero, reduceCtorEq, Nat.reduceEqDiff, ↓reduceIte]
      · simp (disch := omega) only [fW_takeBallot, c1, c2, c3, z_let, z_bde, yRd, yWr, nI_1, nI_add, nI_pred, yCmp, yCq, nI_leI, nI_ltI, nI_eq, yQ, nI_clamp, nI_inz, if_pos, if_neg, yI_at, yCp_at, yRow_1, yR_1, Prod.mk.injEq, and_true, true_and, and_self, false_and, and_false, if_true, if_false, ne_eq, not_true_eq_false, not_false_eq_true, yLit, Nat.succ_ne_zero, reduceCtorEq, Nat.reduceEqDiff, ↓reduceIte]
    · simp (disch := omega) only [fW_takeBallot, c1, c2, z_let, z_bde, yRd, yWr, nI_1, nI_add, nI_pred, yCmp, yCq, nI_leI, nI_ltI, nI_eq, yQ, nI_clamp, nI_inz, if_pos, if_neg, yI_at, yCp_at, yRow_1, yR_1, Prod.mk.injEq, and_true, true_and, and_self, false_and, and_false, if_true, if_false, ne_eq, not_true_eq_false, not_false_eq_true, yLit, Nat.succ_ne_zero, reduceCtorEq, Nat.reduceEqDiff, ↓reduceIte]
  · simp (disch := omega) only [fW_takeBallot, c1, z_let, z_bde, yRd, yWr, nI_1, nI_add, nI_pred, yCmp, yCq, nI_leI, nI_ltI, nI_eq, yQ, nI_clamp, nI_inz, if_pos, if_neg, yI_at, yCp_at, yRow_1, yR_1, Prod.mk.injEq, and_true, true_and, and_self, false_and, and_false, if_true, if_false, ne_eq, not_true_eq_false, not_false_eq_true, yLit, Nat.succ_ne_zero, reduceCtorEq, Nat.reduceEqDiff, ↓reduceIte]
/-- what a leader notes of an answer, ahead of settling -/
def sAns (k : Nat) (W : yW) : yW :=
  let o := W.1 (20, 0, 40) 1
  let W1 := yI W (18, 0, k) o (max (W.1 (18, 0, k) o) (W.1 (20, 0, 40) 8))
  if W.1 (20, 0, 40) 4 = 1 then yI (yI W1 (17, 0, k) o (max (W.1 (17, 0, k) o) (W.1 (20, 0, 40) 5))) (16, 0, k) o (max (W.1 (17, 0, k) o) (W.1 (20, 0, 40) 5) + 1)
  else yI W1 (16, 0, k) o (max 1 (min (W.1 (16, 0, k) o - 1) (W.1 (20, 0, 40) 5 + 1)))
theorem y_max (a b : Nat) : (if a < b then nI b else nI a) = nI (max a b) := by
  by_cases c : a < b
  · rw [if_pos c, Nat.max_eq_right (by omega)]
  · rw [if_neg c, Nat.max_eq_left (by omega)]
theorem y_min (a b : Nat) : (if b < a then nI b else nI a) = nI (min a b) := by
  by_cases c : b < a
  · rw [if_pos c, Nat.min_eq_right (by omega)]
  · rw [if_neg c, Nat.min_eq_left (by omega)]
theorem y_sub1 {a : Nat} (h : 1 ≤ a) : nI a - 1 = nI (a - 1) := by
  obtain ⟨b, rfl⟩ : ∃ b, a = b + 1 := ⟨a - 1, by omega⟩
  rw [nI_pred]
  rfl
theorem y_max1 (b : Nat) : (if 1 < b then nI b else 1) = nI (max 1 b) := by
  rw [← y_max, show nI 1 = 1 from by decide +kernel]
theorem y_max0 (b : Nat) : (if 0 < b then nI b else 0) = nI b := by
  by_cases c : b = 0
  · subst c
    rw [nI_0]
    rfl
  · rw [if_pos (by omega)]
/-- the same but for what only good looks at -/
def yFr (W W' : yW) : Prop := W'.2 = W.2 ∧ ∀ (z : zJ) (i : Nat), z.1 ≠ 19 → (z.1 = 20 → i ≠ 9) → W'.1 z i = W.1 z i
theorem yFr_9 (W : yW) (w s v : Nat) : yFr W (yI W (20, w, s) 9 v) := ⟨rfl, fun z i _ h => yI_n _ _ (fun e => h (by rw [e.1]) e.2)⟩
theorem yFr_19 (W : yW) (w k i v : Nat) : yFr W (yI W (19, w, k) i v) := ⟨rfl, fun z i h _ => yI_n _ _ (fun e => h (by rw [e.1]))⟩
theorem yI_self (W : yW) (z : zJ) (i : Nat) : yI W z i (W.1 z i) = W := by
  refine Prod.ext (funext fun z' => funext fun i' => ?_) rfl
  rw [yI_at]
  split
  · rename_i e
    rw [e.1, e.2]
  · rfl
theorem yI_comm (W : yW) {z z' : zJ} {i i' : Nat} (v v' : Nat) (h : z ≠ z') : yI (yI W z i v) z' i' v' = yI (yI W z' i' v') z i v := by
  refine Prod.ext (funext fun y => funext fun j => ?_) rfl
  rw [yI_at, yI_at, yI_at, yI_at]
  by_cases c : y = z
  · have c' : y ≠ z' := fun e => h (c.symm.trans e)
    simp only [c', false_and, if_false]
  · simp only [c, false_and, if_false]
/-- rounds of the present term alone -/
def sHd (k : Nat) (W : yW) : yW := yI W (19, 0, k) (W.1 (20, 0, 40) 1) (if W.1 (20, 0, 40) 9 = W.1 (10, 0, k) 2 then max (W.1 (19, 0, k) (W.1 (20, 0, 40) 1)) (W.1 (20, 0, 40) 8) else W.1 (19, 0, k) (W.1 (20, 0, 40) 1))
theorem sHd_n (k : Nat) (W : yW) {z : zJ} (i : Nat) (h : z.1 ≠ 19) : (sHd k W).1 z i = W.1 z i := yI_z _ _ (fun e => h (by rw [e]))
theorem sHd_B {k b : Nat} {W : yW} (h : ∀ z i, W.1 z i < b) : ∀ z i, (sHd k W).1 z i < b := fun z i => by
  have h1 := h z i
  have h2 := h (19, 0, k) (W.1 (20, 0, 40) 1)
  have h3 := h (20, 0, 40) 8
  unfold sHd
  rw [yI_at]
  split
  · split
    · omega
    · omega
  · exact h1
theorem sHd_E {k : Nat} {W : yW} (h : yEn W) : yEn (sHd k W) := fun w j i => by
  rw [sHd_n k W i (by simp), sHd_n k W i (by simp)]
  exact h w j i
theorem x_ta75 {k : Nat} (W : yW) (hk : k < 7) (hB : ∀ z i, W.1 z i < 40000) (hE : yEn W) (hr : W.1 (20, 0, 40) 2 = k) (h1 : W.1 (20, 0, 40) 1 < 7) (g1 : W.1 (10, 0, k) 5 ≤ W.1 (10, 0, k) 8) (g2 : W.1 (10, 0, k) 8 ≤ W.1 (10, 0, k) 7) (g3 : W.1 (10, 0, k) 7 ≤ W.1 (10, 0, k) 5 + 40) (hN : W.1 (0, 0, 0) 3 ≤ 7) (h4 : W.1 (0, 0, 0) 4 ≤ 7) (hn : 1 ≤ W.1 (16, 0, k) (W.1 (20, 0, 40) 1)) : fW_takeAnswer_75 0 0 k 0 40 (nI (W.1 (20, 0, 40) 1)) (cE (yI W (18, 0, k) (W.1 (20, 0, 40) 1) (max (W.1 (18, 0, k) (W.1 (20, 0, 40) 1)) (W.1 (20, 0, 40) 8)))) = some (0, cE (sSettle k (sAns k W))) := by
  have b24 := hB (20, 0, 40) 4
  have b25 := hB (20, 0, 40) 5
  have b28 := hB (20, 0, 40) 8
  have b16 := hB (16, 0, k) (W.1 (20, 0, 40) 1)
  have b17 := hB (17, 0, k) (W.1 (20, 0, 40) 1)
  have b18 := hB (18, 0, k) (W.1 (20, 0, 40) 1)
  have s1 : ∀ (z : zJ) i, z.1 ≠ 16 → z.1 ≠ 17 → z.1 ≠ 18 → (sAns k W).1 z i = W.1 z i := fun z i z1 z2 z3 => by
    have n1 : z ≠ (16, 0, k) := fun e => z1 (by rw [e])
    have n2 : z ≠ (17, 0, k) := fun e => z2 (by rw [e])
    have n3 : z ≠ (18, 0, k) := fun e => z3 (by rw [e])
    unfold sAns
    dsimp only
    split
    · rw [yI_z _ _ n1, yI_z _ _ n2, yI_z _ _ n3]
    · rw [yI_z _ _ n1, yI_z _ _ n3]
  have hB1 : ∀ z i, (sAns k W).1 z i < 50000 := fun z i => by
    have hb := hB z i
    unfold sAns
    dsimp only
    split
    · rw [yI_at]
      split
      · omega
      · rw [yI_at]
        split
        · omega
        · rw [yI_at]
          split
          · omega
          · omega
    · rw [yI_at]
      split
      · omega
      · rw [yI_at]
        split
        · omega
        · omega
  have hE1 : yEn (sAns k W) := fun w j i => by
    rw [s1 (11, w, j) i (by simp) (by simp) (by simp), s1 (21, w, j) i (by simp) (by simp) (by simp)]
    exact hE w j i
  have se := x_settle (k := k) (sAns k W) hk hB1 hE1 (by rw [s1 _ _ (by simp) (by simp) (by simp), s1 _ _ (by simp) (by simp) (by simp)]; exact g1) (by rw [s1 _ _ (by simp) (by simp) (by simp), s1 _ _ (by simp) (by simp) (by simp)]; exact g2) (by rw [s1 _ _ (by simp) (by simp) (by simp), s1 _ _ (by simp) (by simp) (by simp)]; exact g3) (by rw [s1 _ _ (by simp) (by simp) (by simp)]; exact hN) (by rw [s1 _ _ (by simp) (by simp) (by simp)]; exact h4)
  by_cases c3 : W.1 (20, 0, 40) 4 = 1
  · have ea : sAns k W = yI (yI (yI W (18, 0, k) (W.1 (20, 0, 40) 1) (max (W.1 (18, 0, k) (W.1 (20, 0, 40) 1)) (W.1 (20, 0, 40) 8))) (17, 0, k) (W.1 (20, 0, 40) 1) (max (W.1 (17, 0, k) (W.1 (20, 0, 40) 1)) (W.1 (20, 0, 40) 5))) (16, 0, k) (W.1 (20, 0, 40) 1) (max (W.1 (17, 0, k) (W.1 (20, 0, 40) 1)) (W.1 (20, 0, 40) 5) + 1) := if_pos c3
    rw [ea] at se ⊢
    simp (disch := omega) only [fW_takeAnswer_75, fW_takeAnswer_146, c3, hr, y_max, se, z_let, z_bde, yRd, yWr, nI_1, nI_add, nI_pred, yCmp, yCq, nI_leI, nI_ltI, nI_eq, yQ, nI_clamp, nI_inz, if_pos, if_neg, yI_at, yCp_at, yRow_1, yR_1, Prod.mk.injEq, and_true, true_and, and_self, false_and, and_false, if_true, if_false, ne_eq, not_true_eq_false, not_false_eq_true, yLit, Nat.succ_ne_zero, reduceCtorEq, Nat.reduceEqDiff, ↓reduceIte]
  · have ea : sAns k W = yI (yI W (18, 0, k) (W.1 (20, 0, 40) 1) (max (W.1 (18, 0, k) (W.1 (20, 0, 40) 1)) (W.1 (20, 0, 40) 8))) (16, 0, k) (W.1 (20, 0, 40) 1) (max 1 (min (W.1 (16, 0, k) (W.1 (20, 0, 40) 1) - 1) (W.1 (20, 0, 40) 5 + 1))) := if_neg c3
    rw [ea] at se ⊢
    simp (disch := omega) only [fW_takeAnswer_75, fW_takeAnswer_146, c3, hr, y_max, y_sub1 hn, y_min, y_max1, se, z_let, z_bde, yRd, yWr, nI_1, nI_add, nI_pred, yCmp, yCq, nI_leI, nI_ltI, nI_eq, yQ, nI_clamp, nI_inz, if_pos, if_neg, yI_at, yCp_at, yRow_1, yR_1, Prod.mk.injEq, and_true, true_and, and_self, false_and, and_false, if_true, if_false, ne_eq, not_true_eq_false, not_false_eq_true, yLit, Nat.succ_ne_zero, reduceCtorEq, Nat.reduceEqDiff, ↓reduceIte]
theorem x_takeAnswer {k : Nat} (W : yW) (hk : k < 7) (hB : ∀ z i, W.1 z i < 40000) (hE : yEn W) (hr : W.1 (20, 0, 40) 2 = k) (h1 : W.1 (20, 0, 40) 1 < 7) (g1 : W.1 (10, 0, k) 5 ≤ W.1 (10, 0, k) 8) (g2 : W.1 (10, 0, k) 8 ≤ W.1 (10, 0, k) 7) (g3 : W.1 (10, 0, k) 7 ≤ W.1 (10, 0, k) 5 + 40) (hN : W.1 (0, 0, 0) 3 ≤ 7) (h4 : W.1 (0, 0, 0) 4 ≤ 7) (hn : W.1 (10, 0, k) 4 = 2 → 1 ≤ W.1 (16, 0, k) (W.1 (20, 0, 40) 1)) : fW_takeAnswer 0 0 k 0 40 (cE W) = some (0, cE (if W.1 (10, 0, k) 4 = 2 ∧ W.1 (10, 0, k) 2 = W.1 (20, 0, 40) 3 then sSettle k (sAns k (sHd k W)) else W)) := by
  have b4 := hB (10, 0, k) 4
  have b2 := hB (10, 0, k) 2
  have b23 := hB (20, 0, 40) 3
  have b28 := hB (20, 0, 40) 8
  have b29 := hB (20, 0, 40) 9
  have b18 := hB (18, 0, k) (W.1 (20, 0, 40) 1)
  have b19 := hB (19, 0, k) (W.1 (20, 0, 40) 1)
  by_cases c1 : W.1 (10, 0, k) 4 = 2
  · have hn := hn c1
    by_cases c2 : W.1 (10, 0, k) 2 = W.1 (20, 0, 40) 3
    · rw [if_pos ⟨c1, c2⟩]
      have n10 : ∀ i, (sHd k W).1 (10, 0, k) i = W.1 (10, 0, k) i := fun i => sHd_n k W i (by simp)
      have n20 : ∀ i, (sHd k W).1 (20, 0, 40) i = W.1 (20, 0, 40) i := fun i => sHd_n k W i (by simp)
      have n0 : ∀ i, (sHd k W).1 (0, 0, 0) i = W.1 (0, 0, 0) i := fun i => sHd_n k W i (by simp)
      have n16 : ∀ i, (sHd k W).1 (16, 0, k) i = W.1 (16, 0, k) i := fun i => sHd_n k W i (by simp)
      have n18 : ∀ i, (sHd k W).1 (18, 0, k) i = W.1 (18, 0, k) i := fun i => sHd_n k W i (by simp)
      have q := x_ta75 (sHd k W) hk (sHd_B hB) (sHd_E hE) (by rw [n20]; exact hr) (by rw [n20]; exact h1) (by rw [n10, n10]; exact g1) (by rw [n10, n10]; exact g2) (by rw [n10, n10]; exact g3) (by rw [n0]; exact hN) (by rw [n0]; exact h4) (by rw [n20, n16]; exact hn)
      simp only [n20, n18] at q
      by_cases c9 : W.1 (20, 0, 40) 9 = W.1 (10, 0, k) 2
      · have e : yI (sHd k W) (18, 0, k) (W.1 (20, 0, 40) 1) (max (W.1 (18, 0, k) (W.1 (20, 0, 40) 1)) (W.1 (20, 0, 40) 8)) = yI (yI W (18, 0, k) (W.1 (20, 0, 40) 1) (max (W.1 (18, 0, k) (W.1 (20, 0, 40) 1)) (W.1 (20, 0, 40) 8))) (19, 0, k) (W.1 (20, 0, 40) 1) (max (W.1 (19, 0, k) (W.1 (20, 0, 40) 1)) (W.1 (20, 0, 40) 8)) := by
          unfold sHd
          rw [if_pos c9]
          exact yI_comm _ _ _ (by simp)
        rw [e] at q
        simp (disch := omega) only [fW_takeAnswer, c1, c2, c9, y_max, q, z_let, z_bde, yRd, yWr, nI_1, nI_add, nI_pred, yCmp, yCq, nI_leI, nI_ltI, nI_eq, yQ, nI_clamp, nI_inz, if_pos, if_neg, yI_at, yCp_at, yRow_1, yR_1, Prod.mk.injEq, and_true, true_and, and_self, false_and, and_false, if_true, if_false, ne_eq, not_true_eq_false, not_false_eq_true, yLit, Nat.succ_ne_zero, reduceCtorEq, Nat.reduceEqDiff, ↓reduceIte]
      · have e : yI (sHd k W) (18, 0, k) (W.1 (20, 0, 40) 1) (max (W.1 (18, 0, k) (W.1 (20, 0, 40) 1)) (W.1 (20, 0, 40) 8)) = (yI W (18, 0, k) (W.1 (20, 0, 40) 1) (max (W.1 (18, 0, k) (W.1 (20, 0, 40) 1)) (W.1 (20, 0, 40) 8))) := by
          rw [show sHd k W = W by unfold sHd; rw [if_neg c9]; exact yI_self _ _ _]
        rw [e] at q
        have c9' : ¬ W.1 (20, 0, 40) 9 = W.1 (20, 0, 40) 3 := by omega
        simp (disch := omega) only [fW_takeAnswer, c1, c2, c9', y_max, q, z_let, z_bde, yRd, yWr, nI_1, nI_add, nI_pred, yCmp, yCq, nI_leI, nI_ltI, nI_eq, yQ, nI_clamp, nI_inz, if_pos, if_neg, yI_at, yCp_at, yRow_1, yR_1, Prod.mk.injEq, and_true, true_and, and_self, false_and, and_false, if_true, if_false, ne_eq, not_true_eq_false, not_false_eq_true, yLit, Nat.succ_ne_zero, reduceCtorEq, Nat.reduceEqDiff, ↓reduceIte]
    · rw [if_neg (fun h => c2 h.2)]
      simp (disch := omega) only [fW_takeAnswer, c1, c2, z_let, z_bde, yRd, yWr, nI_1, nI_add, nI_pred, yCmp, yCq, nI_leI, nI_ltI, nI_eq, yQ, nI_clamp, nI_inz, if_pos, if_neg, yI_at, yCp_at, yRow_1, yR_1, Prod.mk.injEq, and_true, true_and, and_self, false_and, and_false, if_true, if_false, ne_eq, not_true_eq_false, not_false_eq_true, yLit, Nat.succ_ne_zero, reduceCtorEq, Nat.reduceEqDiff, ↓reduceIte]
  · rw [if_neg (fun h => c1 h.1)]
    simp (disch := omega) only [fW_takeAnswer, c1, z_let, z_bde, yRd, yWr, nI_1, nI_add, nI_pred, yCmp, yCq, nI_leI, nI_ltI, nI_eq, yQ, nI_clamp, nI_inz, if_pos, if_neg, yI_at, yCp_at, yRow_1, yR_1, Prod.mk.injEq, and_true, true_and, and_self, false_and, and_false, if_true, if_false, ne_eq, not_true_eq_false, not_false_eq_true, yLit, Nat.succ_ne_zero, reduceCtorEq, Nat.reduceEqDiff, ↓reduceIte]
/-- entries up to e are folded away -/
def sForget (k e : Nat) (W : yW) : yW := if W.1 (10, 0, k) 5 < e ∧ e ≤ W.1 (10, 0, k) 7 then yI (yCp W (11, 0, k) (11, 0, k) (6 * (e - W.1 (10, 0, k) 5)) 0 (240 - 6 * (e - W.1 (10, 0, k) 5))) (10, 0, k) 5 e else yI (yI W (10, 0, k) 7 e) (10, 0, k) 5 e
theorem y_240 {a : Nat} (h : a ≤ 240) : (240 : Int32) - nI a = nI (240 - a) := by
  rw [show (240 : Int32) = nI 240 from by decide +kernel, iI_nat, iI_nat, iI_nat, iI_sub]
  congr 1
  omega
theorem y_cp {a b c n0 n1 : Nat} (h1 : a + c ≤ n0) (h2 : b + c ≤ n1) (h3 : n0 < 100000) (h4 : n1 < 100000) : z_cp (nI a) (nI b) (nI c) n0 n1 = true := by
  unfold z_cp
  rw [nI_clamp (by omega), nI_clamp (by omega), nI_clamp (by omega)]
  simp only [Bool.and_eq_true, decide_eq_true_eq]
  exact ⟨⟨⟨⟨nI_pos (by omega), nI_pos (by omega)⟩, nI_pos (by omega)⟩, h1⟩, h2⟩
theorem x_cp11 {p q m : Nat} (W : yW) {a b : zJ} (ha : a.1 = 11 ∨ a.1 = 21) (hb : b.1 = 11 ∨ b.1 = 21) (h1 : p % 6 = 0) (h2 : q % 6 = 0) (hp : p < 100000) (hq : q < 100000) (hm : m < 100000) : z_cpR (cE W) a b (nI p) (nI q) (nI m) = cE (yCp W a b p q m) := x_cpR W (nI_clamp (by omega)) (nI_clamp (by omega)) (nI_clamp (by omega)) (fun i h3 h4 => by
  have e : ∀ t j, (t = 11 ∨ t = 21) → ye t j = if j % 6 = 5 then 0 else 1 := fun t j h => by
    rcases h with rfl | rfl <;> rfl
  rw [e _ _ hb, e _ _ ha]
  by_cases c : i % 6 = 5
  · rw [if_pos c, if_pos (by omega)]
  · rw [if_neg c, if_neg (by omega)])
theorem x_forget {k e : Nat} (W : yW) (hB : ∀ z i, W.1 z i < 50000) (he : e < 50000) (h2 : W.1 (10, 0, k) 7 ≤ W.1 (10, 0, k) 5 + 40) : fK_forgetUpTo 0 k (nI e) (cE W) = some ((), cE (sForget k e W)) := by
  have hB' : ∀ z i, W.1 z i < 100000 := fun z i => by have := hB z i; omega
  unfold sForget
  by_cases c : W.1 (10, 0, k) 5 < e ∧ e ≤ W.1 (10, 0, k) 7
  · have e1 : nI (6 * (e - W.1 (10, 0, k) 5 - 1)) + 6 = nI (6 * (e - W.1 (10, 0, k) 5)) := by
      rw [nI_lit (a := 6) _ (by decide +kernel)]
      congr 1
      omega
    have e2 := y_240 (a := 6 * (e - W.1 (10, 0, k) 5)) (by omega)
    have e3 : z_cp (nI (6 * (e - W.1 (10, 0, k) 5))) 0 (nI (240 - 6 * (e - W.1 (10, 0, k) 5))) 240 240 = true := by
      rw [← nI_0]
      exact y_cp (by omega) (by omega) (by omega) (by omega)
    have e4 : z_cpR (cE W) (11, 0, k) (11, 0, k) (nI (6 * (e - W.1 (10, 0, k) 5))) 0 (nI (240 - 6 * (e - W.1 (10, 0, k) 5))) = cE (yCp W (11, 0, k) (11, 0, k) (6 * (e - W.1 (10, 0, k) 5)) 0 (240 - 6 * (e - W.1 (10, 0, k) 5))) := by
      rw [← nI_0]
      exact x_cp11 W (Or.inl rfl) (Or.inl rfl) (by omega) (by omega) (by omega) (by omega) (by omega)
    simp (disch := omega) only [fK_forgetUpTo, x_place W hB' c.1 c.2 (show e ≤ W.1 (10, 0, k) 5 + 40 by omega), e1, e2, e3, e4, c, z_let, z_bde, yRd, yWr, nI_1, nI_add, nI_pred, yCmp, yCq, nI_leI, nI_ltI, nI_eq, yQ, nI_clamp, nI_inz, if_pos, if_neg, yI_at, yCp_at, yRow_1, yR_1, Prod.mk.injEq, and_true, true_and, and_self, false_and, and_false, if_true, if_false, ne_eq, not_true_eq_false, not_false_eq_true, yLit, Nat.succ_ne_zero, reduceCtorEq, Nat.reduceEqDiff, ↓reduceIte]
  · simp (disch := omega) only [fK_forgetUpTo, x_placeN W hB' (show e < 100000 by omega) (show ¬ (W.1 (10, 0, k) 5 < e ∧ e ≤ W.1 (10, 0, k) 7 ∧ e ≤ W.1 (10, 0, k) 5 + 40) by omega), c, z_let, z_bde, yRd, yWr, nI_1, nI_add, nI_pred, yCmp, yCq, nI_leI, nI_ltI, nI_eq, yQ, nI_clamp, nI_inz, if_pos, if_neg, yI_at, yCp_at, yRow_1, yR_1, Prod.mk.injEq, and_true, true_and, and_self, false_and, and_false, if_true, if_false, ne_eq, not_true_eq_false, not_false_eq_true, yLit, Nat.succ_ne_zero, reduceCtorEq, Nat.reduceEqDiff, ↓reduceIte]
def sFits (k e t : Nat) (W : yW) : Prop := W.1 (10, 0, k) 5 < e ∧ e ≤ W.1 (10, 0, k) 7 ∧ sTm W k e = t
def sTakeF (k e t : Nat) (W : yW) : yW :=
  let W3 := yCp (yI (sForget k e W) (10, 0, k) 6 t) (23, 0, 40) (13, 0, k) 0 0 20
  yCp (yI W3 (10, 0, k) 8 e) (13, 0, k) (15, 0, k) 0 0 20
theorem sForget_5 (k e : Nat) (W : yW) : (sForget k e W).1 (10, 0, k) 5 = e := by
  unfold sForget
  split <;> simp only [yI_at, yCp_at, yRow_1, yR_1, Prod.mk.injEq, and_true, true_and, and_self, false_and, and_false, if_true, if_false, ne_eq, not_true_eq_false, not_false_eq_true, yLit, Nat.succ_ne_zero, reduceCtorEq, Nat.reduceEqDiff, ↓reduceIte]
theorem x_takeFold_26 {k e t : Nat} (W : yW) (hB : ∀ z i, W.1 z i < 50000) (he : e < 50000) (h2 : W.1 (10, 0, k) 7 ≤ W.1 (10, 0, k) 5 + 40) : fK_takeFold_26 0 k (22, 0, 40) (nI e) (nI t) (cE W) = some ((), cE (sTakeF k e t W)) := by
  have s1 := x_stateCopy (t := 12) (t' := 22) (w := 0) (k := k) (w' := 0) (k' := 40) (yI (sForget k e W) (10, 0, k) 6 t) (by simp) (by simp)
  have s2 := x_stateCopy (t := 14) (t' := 12) (w := 0) (k := k) (w' := 0) (k' := k) (yI (yCp (yI (sForget k e W) (10, 0, k) 6 t) (23, 0, 40) (13, 0, k) 0 0 20) (10, 0, k) 8 e) (by simp) (by simp)
  have s3 := sForget_5 k e W
  simp (disch := omega) only [fK_takeFold_26, x_forget W hB he h2, s1, s2, s3, sTakeF, z_let, z_bde, yRd, yWr, nI_1, nI_add, nI_pred, yI_at, yCp_at, yRow_1, yR_1, Prod.mk.injEq, and_true, true_and, and_self, false_and, and_false, if_true, if_false, ne_eq, not_true_eq_false, not_false_eq_true, yLit, Nat.succ_ne_zero, reduceCtorEq, Nat.reduceEqDiff, ↓reduceIte]
theorem x_takeFold {k e t : Nat} (W : yW) (hB : ∀ z i, W.1 z i < 50000) (he : e < 50000) (ht : t < 100000) (h1 : W.1 (10, 0, k) 5 ≤ W.1 (10, 0, k) 7) (h2 : W.1 (10, 0, k) 7 ≤ W.1 (10, 0, k) 5 + 40) : (sFits k e t W → fK_takeFold 0 k (nI e) (nI t) (22, 0, 40) (cE W) = some ((), cE (sTakeF k e t W))) ∧ (¬ sFits k e t W → fK_takeFold 0 k (nI e) (nI t) (22, 0, 40) (cE W) = some ((), cE (sTakeF k e t (yI W (10, 0, k) 7 (W.1 (10, 0, k) 5))))) := by
  have hB' : ∀ z i, W.1 z i < 100000 := fun z i => by have := hB z i; omega
  have f1 := x_takeFold_26 (k := k) (e := e) (t := t) W hB he h2
  have f2 := x_takeFold_26 (k := k) (e := e) (t := t) (yI W (10, 0, k) 7 (W.1 (10, 0, k) 5)) (fun z i => by
    rw [yI_at]
    split
    · exact hB _ _
    · exact hB z i) he (by simp only [yI_at, yCp_at, yRow_1, yR_1, Prod.mk.injEq, and_true, true_and, and_self, false_and, and_false, if_true, if_false, ne_eq, not_true_eq_false, not_false_eq_true, yLit, Nat.succ_ne_zero, reduceCtorEq, Nat.reduceEqDiff, ↓reduceIte]; omega)
  have tb := sTm_B (W := W) (k := k) (e := e) hB'
  unfold sFits
  refine ⟨fun h => ?_, fun h => ?_⟩
  · obtain ⟨c1, c2, c3⟩ := h
    simp (disch := omega) only [fK_takeFold, x_place W hB' c1 c2 (show e ≤ W.1 (10, 0, k) 5 + 40 by omega), x_term W hB' (show W.1 (10, 0, k) 5 ≤ e by omega) c2 (show e ≤ W.1 (10, 0, k) 5 + 40 by omega), c3, f1, z_let, z_bde, yRd, yWr, nI_1, nI_add, nI_pred, yCmp, yCq, nI_leI, nI_ltI, nI_eq, yQ, nI_clamp, nI_inz, if_pos, if_neg, yI_at, yCp_at, yRow_1, yR_1, Prod.mk.injEq, and_true, true_and, and_self, false_and, and_false, if_true, if_false, ne_eq, not_true_eq_false, not_false_eq_true, yLit, Nat.succ_ne_zero, reduceCtorEq, Nat.reduceEqDiff, ↓reduceIte]
  · by_cases c : W.1 (10, 0, k) 5 < e ∧ e ≤ W.1 (10, 0, k) 7
    · have c3 : sTm W k e ≠ t := fun c3 => h ⟨c.1, c.2, c3⟩
      simp (disch := omega) only [fK_takeFold, fK_takeFold_18, x_place W hB' c.1 c.2 (show e ≤ W.1 (10, 0, k) 5 + 40 by omega), x_term W hB' (show W.1 (10, 0, k) 5 ≤ e by omega) c.2 (show e ≤ W.1 (10, 0, k) 5 + 40 by omega), c3, f2, z_let, z_bde, yRd, yWr, nI_1, nI_add, nI_pred, yCmp, yCq, nI_leI, nI_ltI, nI_eq, yQ, nI_clamp, nI_inz, if_pos, if_neg, yI_at, yCp_at, yRow_1, yR_1, Prod.mk.injEq, and_true, true_and, and_self, false_and, and_false, if_true, if_false, ne_eq, not_true_eq_false, not_false_eq_true, yLit, Nat.succ_ne_zero, reduceCtorEq, Nat.reduceEqDiff, ↓reduceIte]
    · simp (disch := omega) only [fK_takeFold, fK_takeFold_18, x_placeN W hB' (show e < 100000 by omega) (show ¬ (W.1 (10, 0, k) 5 < e ∧ e ≤ W.1 (10, 0, k) 7 ∧ e ≤ W.1 (10, 0, k) 5 + 40) by omega), f2, z_let, z_bde, yRd, yWr, nI_1, nI_add, nI_pred, yCmp, yCq, nI_leI, nI_ltI, nI_eq, yQ, nI_clamp, nI_inz, if_pos, if_neg, yI_at, yCp_at, yRow_1, yR_1, Prod.mk.injEq, and_true, true_and, and_self, false_and, and_false, if_true, if_false, ne_eq, not_true_eq_false, not_false_eq_true, yLit, Nat.succ_ne_zero, reduceCtorEq, Nat.reduceEqDiff, ↓reduceIte]
