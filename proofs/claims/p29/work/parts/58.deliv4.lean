/-! deliver, by numbers: from the leader -/
theorem sForget_B {k e : Nat} {W : yW} {b : Nat} (hB : ∀ z i, W.1 z i < b) (he : e < b) : ∀ z i, (sForget k e W).1 z i < b := fun z i => by
  unfold sForget
  split
  · rw [yI_at]
    split
    · exact he
    · rw [yCp_at]
      split
      · exact hB _ _
      · exact hB _ _
  · rw [yI_at]
    split
    · exact he
    · rw [yI_at]
      split
      · exact he
      · exact hB _ _
theorem sTakeF_B {k e t : Nat} {W : yW} {b : Nat} (hB : ∀ z i, W.1 z i < b) (he : e < b) (ht : t < b) : ∀ z i, (sTakeF k e t W).1 z i < b := fun z i => by
  have h1 := sForget_B (k := k) hB he
  have h2 : ∀ z i, (yI (sForget k e W) (10, 0, k) 6 t).1 z i < b := fun z i => by
    rw [yI_at]
    split
    · exact ht
    · exact h1 _ _
  have h3 : ∀ z i, (yCp (yI (sForget k e W) (10, 0, k) 6 t) (23, 0, 40) (13, 0, k) 0 0 20).1 z i < b := fun z i => by
    rw [yCp_at]
    split
    · exact h2 _ _
    · exact h2 _ _
  have h4 : ∀ z i, (yI (yCp (yI (sForget k e W) (10, 0, k) 6 t) (23, 0, 40) (13, 0, k) 0 0 20) (10, 0, k) 8 e).1 z i < b := fun z i => by
    rw [yI_at]
    split
    · exact he
    · exact h3 _ _
  show (yCp (yI (yCp (yI (sForget k e W) (10, 0, k) 6 t) (23, 0, 40) (13, 0, k) 0 0 20) (10, 0, k) 8 e) (13, 0, k) (15, 0, k) 0 0 20).1 z i < b
  rw [yCp_at]
  split
  · exact h4 _ _
  · exact h4 _ _
theorem sTakeF_at {k e t : Nat} {W : yW} {z : zJ} {i : Nat} (h1 : z ≠ (10, 0, k)) (h2 : z ≠ (11, 0, k)) (h3 : z ≠ (13, 0, k)) (h4 : z ≠ (15, 0, k)) : (sTakeF k e t W).1 z i = W.1 z i := by
  have hf : (sForget k e W).1 z i = W.1 z i := by
    unfold sForget
    split
    · rw [yI_z _ _ h1, yCp_at, if_neg (fun h => h2 h.1)]
    · rw [yI_z _ _ h1, yI_z _ _ h1]
  show (yCp (yI (yCp (yI (sForget k e W) (10, 0, k) 6 t) (23, 0, 40) (13, 0, k) 0 0 20) (10, 0, k) 8 e) (13, 0, k) (15, 0, k) 0 0 20).1 z i = _
  rw [yCp_at, if_neg (fun h => h4 h.1), yI_z _ _ h1, yCp_at, if_neg (fun h => h3 h.1), yI_z _ _ h1, hf]
/-- the fold that is in hand is taken over, if it goes further -/
def sFold (k : Nat) (W : yW) : yW := if W.1 (20, 0, 40) 4 ≤ W.1 (10, 0, k) 8 then W else if W.1 (10, 0, k) 5 < W.1 (20, 0, 40) 4 ∧ W.1 (20, 0, 40) 4 ≤ W.1 (10, 0, k) 7 ∧ sTm W k (W.1 (20, 0, 40) 4) = W.1 (20, 0, 40) 5 then sTakeF k (W.1 (20, 0, 40) 4) (W.1 (20, 0, 40) 5) W else sTakeF k (W.1 (20, 0, 40) 4) (W.1 (20, 0, 40) 5) (yI W (10, 0, k) 7 (W.1 (10, 0, k) 5))
theorem sFold_at {k : Nat} {W : yW} {z : zJ} {i : Nat} (h1 : z ≠ (10, 0, k)) (h2 : z ≠ (11, 0, k)) (h3 : z ≠ (13, 0, k)) (h4 : z ≠ (15, 0, k)) : (sFold k W).1 z i = W.1 z i := by
  unfold sFold
  split
  · rfl
  · split
    · exact sTakeF_at h1 h2 h3 h4
    · rw [sTakeF_at h1 h2 h3 h4, yI_z _ _ h1]
theorem sFold_B {k : Nat} {W : yW} {b : Nat} (hB : ∀ z i, W.1 z i < b) : ∀ z i, (sFold k W).1 z i < b := by
  unfold sFold
  split
  · exact hB
  · split
    · exact sTakeF_B hB (hB _ _) (hB _ _)
    · exact sTakeF_B (fun z i => by
        rw [yI_at]
        split
        · exact hB _ _
        · exact hB _ _) (hB _ _) (hB _ _)
theorem x_takeFolding {k : Nat} (W : yW) (hk : k < 7) (hB : ∀ z i, W.1 z i < 50000) (hr : W.1 (20, 0, 40) 2 = k) (h1 : W.1 (10, 0, k) 5 ≤ W.1 (10, 0, k) 7) (h2 : W.1 (10, 0, k) 7 ≤ W.1 (10, 0, k) 5 + 40) : fW_takeFolding 0 0 k 0 40 (cE W) = some (if sEmp (sFold k W) = none then 0 else 1, cE (sReply 3 1 (W.1 (20, 0, 40) 4) (sFold k W))) := by
  have hB' : ∀ z i, W.1 z i < 100000 := fun z i => by have := hB z i; omega
  have b4 := hB (20, 0, 40) 4
  have b8 := hB (10, 0, k) 8
  have b5 := hB (20, 0, 40) 5
  have e4 : (sFold k W).1 (20, 0, 40) 4 = W.1 (20, 0, 40) 4 := sFold_at (by simp) (by simp) (by simp) (by simp)
  have re := x_reply (kd := 3) (y := 1) (n := W.1 (20, 0, 40) 4) (sFold k W) (fun z i => by have := sFold_B (k := k) hB z i; omega) (by rw [sFold_at (by simp) (by simp) (by simp) (by simp)]; omega) (by decide)
  rw [show nI 1 = 1 from by decide +kernel, show nI 3 = 3 from by decide +kernel] at re
  have tf := x_takeFold (k := k) (e := W.1 (20, 0, 40) 4) (t := W.1 (20, 0, 40) 5) W hB b4 (by omega) h1 h2
  unfold sFits at tf
  by_cases c : W.1 (20, 0, 40) 4 ≤ W.1 (10, 0, k) 8
  · have ef : sFold k W = W := if_pos c
    rw [ef] at re ⊢
    simp (disch := omega) only [fW_takeFolding, fW_takeFolding_27, c, re, z_let, z_bde, yRd, yWr, nI_1, nI_add, nI_pred, yCmp, yCq, nI_leI, nI_ltI, nI_eq, yQ, nI_clamp, nI_inz, if_pos, if_neg, yI_at, yCp_at, yRow_1, yR_1, Prod.mk.injEq, and_true, true_and, and_self, false_and, and_false, if_true, if_false, ne_eq, not_true_eq_false, not_false_eq_true, yLit, Nat.succ_ne_zero, reduceCtorEq, Nat.reduceEqDiff, ↓reduceIte]
  · by_cases c2 : W.1 (10, 0, k) 5 < W.1 (20, 0, 40) 4 ∧ W.1 (20, 0, 40) 4 ≤ W.1 (10, 0, k) 7 ∧ sTm W k (W.1 (20, 0, 40) 4) = W.1 (20, 0, 40) 5
    · have ef : sFold k W = sTakeF k (W.1 (20, 0, 40) 4) (W.1 (20, 0, 40) 5) W := (if_neg c).trans (if_pos c2)
      rw [ef] at re e4 ⊢
      simp (disch := omega) only [fW_takeFolding, fW_takeFolding_27, c, tf.1 c2, re, e4, z_let, z_bde, yRd, yWr, nI_1, nI_add, nI_pred, yCmp, yCq, nI_leI, nI_ltI, nI_eq, yQ, nI_clamp, nI_inz, if_pos, if_neg, yI_at, yCp_at, yRow_1, yR_1, Prod.mk.injEq, and_true, true_and, and_self, false_and, and_false, if_true, if_false, ne_eq, not_true_eq_false, not_false_eq_true, yLit, Nat.succ_ne_zero, reduceCtorEq, Nat.reduceEqDiff, ↓reduceIte]
    · have ef : sFold k W = sTakeF k (W.1 (20, 0, 40) 4) (W.1 (20, 0, 40) 5) (yI W (10, 0, k) 7 (W.1 (10, 0, k) 5)) := (if_neg c).trans (if_neg c2)
      rw [ef] at re e4 ⊢
      simp (disch := omega) only [fW_takeFolding, fW_takeFolding_27, c, tf.2 c2, re, e4, z_let, z_bde, yRd, yWr, nI_1, nI_add, nI_pred, yCmp, yCq, nI_leI, nI_ltI, nI_eq, yQ, nI_clamp, nI_inz, if_pos, if_neg, yI_at, yCp_at, yRow_1, yR_1, Prod.mk.injEq, and_true, true_and, and_self, false_and, and_false, if_true, if_false, ne_eq, not_true_eq_false, not_false_eq_true, yLit, Nat.succ_ne_zero, reduceCtorEq, Nat.reduceEqDiff, ↓reduceIte]
def sCut (k e : Nat) (W : yW) : yW := yI W (10, 0, k) 7 (min (W.1 (10, 0, k) 7) (max (e - 1) (W.1 (10, 0, k) 8)))
theorem x_cut {k e : Nat} (W : yW) (hB : ∀ z i, W.1 z i < 50000) (h1 : 1 ≤ e) (he : e < 100000) : fK_cutFrom 0 k (nI e) (cE W) = some ((), cE (sCut k e W)) := by
  have b7 := hB (10, 0, k) 7
  have b8 := hB (10, 0, k) 8
  unfold fK_cutFrom sCut
  simp (disch := omega) only [y_sub1 h1, y_max, y_min, z_let, yRd, nI_ltI]
  simp (disch := omega) only [y_max, y_min, nI_ltI, yWr]
theorem x_grow {k : Nat} (W : yW) (hB : ∀ z i, W.1 z i < 50000) (h1 : W.1 (10, 0, k) 5 ≤ W.1 (10, 0, k) 7) : (W.1 (10, 0, k) 7 < W.1 (10, 0, k) 5 + 40 → fK_grow 0 k (cE W) = some (nI (6 * (W.1 (10, 0, k) 7 - W.1 (10, 0, k) 5)), cE (yI W (10, 0, k) 7 (W.1 (10, 0, k) 7 + 1)))) ∧ (¬ W.1 (10, 0, k) 7 < W.1 (10, 0, k) 5 + 40 → fK_grow 0 k (cE W) = some (-1, cE W)) := by
  have b7 := hB (10, 0, k) 7
  have b5 := hB (10, 0, k) 5
  have e1 : nI (W.1 (10, 0, k) 7) - nI (W.1 (10, 0, k) 5) = nI (W.1 (10, 0, k) 7 - W.1 (10, 0, k) 5) := by
    rw [iI_nat, iI_nat, iI_nat, iI_sub]
    congr 1
    omega
  refine ⟨fun h => ?_, fun h => ?_⟩
  · have pl := x_place (k := k) (e := W.1 (10, 0, k) 7 + 1) (yI W (10, 0, k) 7 (W.1 (10, 0, k) 7 + 1)) (yBd_I (fun z i => by have := hB z i; omega) (by omega))
    simp only [yI_at, yCp_at, yRow_1, yR_1, Prod.mk.injEq, and_true, true_and, and_self, false_and, and_false, if_true, if_false, ne_eq, not_true_eq_false, not_false_eq_true, yLit, Nat.succ_ne_zero, reduceCtorEq, Nat.reduceEqDiff, ↓reduceIte] at pl
    have pl := pl (by omega) (by omega) (by omega)
    rw [show W.1 (10, 0, k) 7 + 1 - W.1 (10, 0, k) 5 - 1 = W.1 (10, 0, k) 7 - W.1 (10, 0, k) 5 by omega] at pl
    simp (disch := omega) only [fK_grow, fK_hasRoom, e1, pl, z_let, z_bde, yRd, yWr, nI_1, nI_add, nI_pred, yCmp, yCq, nI_leI, nI_ltI, nI_eq, yQ, nI_clamp, nI_inz, if_pos, if_neg, yI_at, yCp_at, yRow_1, yR_1, Prod.mk.injEq, and_true, true_and, and_self, false_and, and_false, if_true, if_false, ne_eq, not_true_eq_false, not_false_eq_true, yLit, Nat.succ_ne_zero, reduceCtorEq, Nat.reduceEqDiff, ↓reduceIte]
  · simp (disch := omega) only [fK_grow, fK_hasRoom, e1, z_let, z_bde, yRd, yWr, nI_1, nI_add, nI_pred, yCmp, yCq, nI_leI, nI_ltI, nI_eq, yQ, nI_clamp, nI_inz, if_pos, if_neg, yI_at, yCp_at, yRow_1, yR_1, Prod.mk.injEq, and_true, true_and, and_self, false_and, and_false, if_true, if_false, ne_eq, not_true_eq_false, not_false_eq_true, yLit, Nat.succ_ne_zero, reduceCtorEq, Nat.reduceEqDiff, ↓reduceIte]
/-- the letter's entries from the i-th on, m of them; r was reached -/
def sEnt (k : Nat) : Nat → Nat → Nat → yW → Nat × yW
  | 0, r, _, W => (r, W)
  | m + 1, r, i, W => if r + 1 ≤ W.1 (10, 0, k) 5 ∨ (r + 1 ≤ W.1 (10, 0, k) 7 ∧ sTm W k (r + 1) = W.1 (21, 0, 40) (6 * i)) then sEnt k m (r + 1) (i + 1) W
    else if (sCut k (r + 1) W).1 (10, 0, k) 7 < W.1 (10, 0, k) 5 + 40 then sEnt k m (r + 1) (i + 1) (yCp (yI (sCut k (r + 1) W) (10, 0, k) 7 ((sCut k (r + 1) W).1 (10, 0, k) 7 + 1)) (21, 0, 40) (11, 0, k) (6 * i) (6 * ((sCut k (r + 1) W).1 (10, 0, k) 7 - W.1 (10, 0, k) 5)) 6)
    else (r, sCut k (r + 1) W)
theorem sCut_at {k e : Nat} {W : yW} {z : zJ} {i : Nat} (h : ¬ (z = (10, 0, k) ∧ i = 7)) : (sCut k e W).1 z i = W.1 z i := yI_n _ _ h
theorem y_mul6 (i : Nat) : nI i * 6 = nI (6 * i) := by
  rw [show (6 : Int32) = nI 6 from by decide +kernel, pk_mul]
  congr 1
  omega
theorem y_add0 (i : Nat) : nI i + 0 = nI i := by
  rw [← nI_0, nI_add]
  rfl
theorem x_entries_8 {k : Nat} (hk : k < 7) : ∀ (m r i n b : Nat) (W : yW), (∀ z j, W.1 z j < b) → b + m ≤ 50000 → r + m < 50000 → W.1 (10, 0, k) 5 ≤ W.1 (10, 0, k) 8 → W.1 (10, 0, k) 8 ≤ W.1 (10, 0, k) 7 → W.1 (10, 0, k) 7 ≤ W.1 (10, 0, k) 5 + 40 → i + m = W.1 (20, 0, 40) 6 → W.1 (20, 0, 40) 6 ≤ 5 → m < n → fW_takeEntries_8 0 0 k 0 40 n (nI r) (nI i) (cE W) = some (nI (sEnt k m r i W).1, cE (sEnt k m r i W).2) := by
  intro m
  induction m with
  | zero =>
    intro r i n b W hB hb hr h1 h2 h3 hi h6 hn
    obtain ⟨n, rfl⟩ : ∃ k, n = k + 1 := ⟨n - 1, by omega⟩
    simp (disch := omega) only [fW_takeEntries_8, sEnt, z_let, z_bde, yRd, yWr, nI_1, nI_add, nI_pred, yCmp, yCq, nI_leI, nI_ltI, nI_eq, yQ, nI_clamp, nI_inz, if_pos, if_neg, yI_at, yCp_at, yRow_1, yR_1, Prod.mk.injEq, and_true, true_and, and_self, false_and, and_false, if_true, if_false, ne_eq, not_true_eq_false, not_false_eq_true, yLit, Nat.succ_ne_zero, reduceCtorEq, Nat.reduceEqDiff, ↓reduceIte]
  | succ m ih =>
    intro r i n b W hB hb hr h1 h2 h3 hi h6 hn
    obtain ⟨n, rfl⟩ : ∃ k, n = k + 1 := ⟨n - 1, by omega⟩
    have hB5 : ∀ z i, W.1 z i < 50000 := fun z i => by have := hB z i; omega
    have hB' : ∀ z i, W.1 z i < 100000 := fun z i => by have := hB z i; omega
    have b5 := hB5 (10, 0, k) 5
    have b7 := hB5 (10, 0, k) 7
    have b7' := hB (10, 0, k) 7
    have b8' := hB (10, 0, k) 8
    have b21 := hB5 (21, 0, 40) (6 * i)
    have ih1 := ih (r + 1) (i + 1) n b W hB (by omega) (by omega) h1 h2 h3 (by omega) h6 (by omega)
    have ta : fL_termAt 0 40 (nI i) (cE W) = some (nI (W.1 (21, 0, 40) (6 * i)), cE W) := by
      simp (disch := omega) only [fL_termAt, y_mul6, y_add0, c21_t, z_let, z_bde, yRd, yWr, nI_1, nI_add, nI_pred, yCmp, yCq, nI_leI, nI_ltI, nI_eq, yQ, nI_clamp, nI_inz, if_pos, if_neg, yI_at, yCp_at, yRow_1, yR_1, Prod.mk.injEq, and_true, true_and, and_self, false_and, and_false, if_true, if_false, ne_eq, not_true_eq_false, not_false_eq_true, yLit, Nat.succ_ne_zero, reduceCtorEq, Nat.reduceEqDiff, ↓reduceIte]
    by_cases c1 : r + 1 ≤ W.1 (10, 0, k) 5
    · simp (disch := omega) only [fW_takeEntries_8, sEnt, c1, true_or, ih1, z_let, z_bde, yRd, yWr, nI_1, nI_add, nI_pred, yCmp, yCq, nI_leI, nI_ltI, nI_eq, yQ, nI_clamp, nI_inz, if_pos, if_neg, yI_at, yCp_at, yRow_1, yR_1, Prod.mk.injEq, and_true, true_and, and_self, false_and, and_false, if_true, if_false, ne_eq, not_true_eq_false, not_false_eq_true, yLit, Nat.succ_ne_zero, reduceCtorEq, Nat.reduceEqDiff, ↓reduceIte]
    · by_cases c2 : r + 1 ≤ W.1 (10, 0, k) 7 ∧ sTm W k (r + 1) = W.1 (21, 0, 40) (6 * i)
      · have tm := x_term (k := k) (e := r + 1) W hB' (by omega) c2.1 (by omega)
        simp (disch := omega) only [fW_takeEntries_8, sEnt, c1, c2, false_or, tm, ta, ih1, z_let, z_bde, yRd, yWr, nI_1, nI_add, nI_pred, yCmp, yCq, nI_leI, nI_ltI, nI_eq, yQ, nI_clamp, nI_inz, if_pos, if_neg, yI_at, yCp_at, yRow_1, yR_1, Prod.mk.injEq, and_true, true_and, and_self, false_and, and_false, if_true, if_false, ne_eq, not_true_eq_false, not_false_eq_true, yLit, Nat.succ_ne_zero, reduceCtorEq, Nat.reduceEqDiff, ↓reduceIte]
      · -- another entry stands there, or none
        have go : fW_takeEntries_8 0 0 k 0 40 (n + 1) (nI r) (nI i) (cE W) = z_bd (fK_cutFrom 0 k (nI (r + 1)) (cE W)) (fun _ σ11 => z_bd (fK_grow 0 k σ11) (fun r12 σ12 => if r12 = -1 then some (nI r, σ12) else (if z_cp (nI i * 6) r12 6 30 240 = true then (z_let (z_cpR σ12 (21, 0, 40) (11, 0, k) (nI i * 6) r12 6) (fun σ15 => z_let (nI i + 1) (fun y16 => fW_takeEntries_8 0 0 k 0 40 n (nI (r + 1)) y16 σ15))) else none))) := by
          by_cases c3 : r + 1 ≤ W.1 (10, 0, k) 7
          · have tm := x_term (k := k) (e := r + 1) W hB' (by omega) c3 (by omega)
            have c4 : sTm W k (r + 1) ≠ W.1 (21, 0, 40) (6 * i) := fun h => c2 ⟨c3, h⟩
            have tb := sTm_B (W := W) (k := k) (e := r + 1) hB'
            simp (disch := omega) only [fW_takeEntries_8, c1, tm, ta, c4, z_let, z_bde, yRd, yWr, nI_1, nI_add, nI_pred, yCmp, yCq, nI_leI, nI_ltI, nI_eq, yQ, nI_clamp, nI_inz, if_pos, if_neg, yI_at, yCp_at, yRow_1, yR_1, Prod.mk.injEq, and_true, true_and, and_self, false_and, and_false, if_true, if_false, ne_eq, not_true_eq_false, not_false_eq_true, yLit, Nat.succ_ne_zero, reduceCtorEq, Nat.reduceEqDiff, ↓reduceIte]
          · have tm := x_termN (k := k) (e := r + 1) W hB' (by omega) (by omega)
            rw [if_neg (by omega)] at tm
            have nm : ¬ ((-1 : Int32) = nI (W.1 (21, 0, 40) (6 * i))) := fun h => by
              have := yM1 (a := W.1 (21, 0, 40) (6 * i)) (by omega)
              rw [← h] at this
              exact absurd rfl (by rw [this]; exact id)
            simp (disch := omega) only [fW_takeEntries_8, c1, tm, ta, nm, z_let, z_bde, yRd, yWr, nI_1, nI_add, nI_pred, yCmp, yCq, nI_leI, nI_ltI, nI_eq, yQ, nI_clamp, nI_inz, if_pos, if_neg, yI_at, yCp_at, yRow_1, yR_1, Prod.mk.injEq, and_true, true_and, and_self, false_and, and_false, if_true, if_false, ne_eq, not_true_eq_false, not_false_eq_true, yLit, Nat.succ_ne_zero, reduceCtorEq, Nat.reduceEqDiff, ↓reduceIte]
        have hBc : ∀ z i, (sCut k (r + 1) W).1 z i < b := fun z i => by
          unfold sCut
          rw [yI_at]
          split
          · omega
          · exact hB z i
        have c57 : (sCut k (r + 1) W).1 (10, 0, k) 5 = W.1 (10, 0, k) 5 := sCut_at (by omega)
        have c77 : (sCut k (r + 1) W).1 (10, 0, k) 7 = min (W.1 (10, 0, k) 7) (max r (W.1 (10, 0, k) 8)) := by
          unfold sCut
          rw [yI_s]
          rfl
        have gr := x_grow (k := k) (sCut k (r + 1) W) (fun z i => by have := hBc z i; omega) (by rw [c57, c77]; omega)
        rw [c57] at gr
        rw [go, x_cut W hB5 (by omega) (by omega), z_bde]
        have nc : ¬ (r + 1 ≤ W.1 (10, 0, k) 5 ∨ (r + 1 ≤ W.1 (10, 0, k) 7 ∧ sTm W k (r + 1) = W.1 (21, 0, 40) (6 * i))) := fun h => by
          rcases h with h | h
          · exact c1 h
          · exact c2 h
        by_cases c5 : (sCut k (r + 1) W).1 (10, 0, k) 7 < W.1 (10, 0, k) 5 + 40
        · have bc7 := hBc (10, 0, k) 7
          have hB2 : ∀ z j, (yCp (yI (sCut k (r + 1) W) (10, 0, k) 7 ((sCut k (r + 1) W).1 (10, 0, k) 7 + 1)) (21, 0, 40) (11, 0, k) (6 * i) (6 * ((sCut k (r + 1) W).1 (10, 0, k) 7 - W.1 (10, 0, k) 5)) 6).1 z j < b + 1 := fun z j => by
            have q : ∀ z j, (yI (sCut k (r + 1) W) (10, 0, k) 7 ((sCut k (r + 1) W).1 (10, 0, k) 7 + 1)).1 z j < b + 1 := fun z j => by
              rw [yI_at]
              split
              · omega
              · have := hBc z j
                omega
            rw [yCp_at]
            split
            · exact q _ _
            · exact q _ _
          have ih2 := ih (r + 1) (i + 1) n (b + 1) _ hB2 (by omega) (by omega) (by simp only [yI_at, yCp_at, yRow_1, yR_1, Prod.mk.injEq, and_true, true_and, and_self, false_and, and_false, if_true, if_false, ne_eq, not_true_eq_false, not_false_eq_true, yLit, Nat.succ_ne_zero, reduceCtorEq, Nat.reduceEqDiff, ↓reduceIte]; rw [c57, sCut_at (by omega)]; exact h1) (by simp only [yI_at, yCp_at, yRow_1, yR_1, Prod.mk.injEq, and_true, true_and, and_self, false_and, and_false, if_true, if_false, ne_eq, not_true_eq_false, not_false_eq_true, yLit, Nat.succ_ne_zero, reduceCtorEq, Nat.reduceEqDiff, ↓reduceIte]; rw [sCut_at (by omega), c77]; omega) (by simp only [yI_at, yCp_at, yRow_1, yR_1, Prod.mk.injEq, and_true, true_and, and_self, false_and, and_false, if_true, if_false, ne_eq, not_true_eq_false, not_false_eq_true, yLit, Nat.succ_ne_zero, reduceCtorEq, Nat.reduceEqDiff, ↓reduceIte]; rw [c57]; omega) (by simp only [yI_at, yCp_at, yRow_1, yR_1, Prod.mk.injEq, and_true, true_and, and_self, false_and, and_false, if_true, if_false, ne_eq, not_true_eq_false, not_false_eq_true, yLit, Nat.succ_ne_zero, reduceCtorEq, Nat.reduceEqDiff, ↓reduceIte]; rw [sCut_at (by simp)]; omega) (by simp only [yI_at, yCp_at, yRow_1, yR_1, Prod.mk.injEq, and_true, true_and, and_self, false_and, and_false, if_true, if_false, ne_eq, not_true_eq_false, not_false_eq_true, yLit, Nat.succ_ne_zero, reduceCtorEq, Nat.reduceEqDiff, ↓reduceIte]; rw [sCut_at (by simp)]; omega) (by omega)
          have e6 : (6 : Int32) = nI 6 := by decide +kernel
          have zc : z_cp (nI (6 * i)) (nI (6 * ((sCut k (r + 1) W).1 (10, 0, k) 7 - W.1 (10, 0, k) 5))) (nI 6) 30 240 = true := y_cp (by omega) (by omega) (by omega) (by omega)
          have cr := x_cp11 (p := 6 * i) (q := 6 * ((sCut k (r + 1) W).1 (10, 0, k) 7 - W.1 (10, 0, k) 5)) (m := 6) (yI (sCut k (r + 1) W) (10, 0, k) 7 ((sCut k (r + 1) W).1 (10, 0, k) 7 + 1)) (a := (21, 0, 40)) (b := (11, 0, k)) (Or.inr rfl) (Or.inl rfl) (by omega) (by omega) (by omega) (by omega) (by omega)
          rw [gr.1 c5, z_bde, if_neg (by rw [yM1 (by omega)]; exact id), y_mul6, e6, if_pos zc, cr, sEnt, if_neg nc, if_pos c5, ← ih2, nI_1]
          rfl
        · rw [gr.2 c5, z_bde, if_pos rfl, sEnt, if_neg nc, if_neg c5]
theorem x_entries {k b : Nat} (W : yW) (hk : k < 7) (hB : ∀ z j, W.1 z j < b) (hb : b + 5 ≤ 50000) (h1 : W.1 (10, 0, k) 5 ≤ W.1 (10, 0, k) 8) (h2 : W.1 (10, 0, k) 8 ≤ W.1 (10, 0, k) 7) (h3 : W.1 (10, 0, k) 7 ≤ W.1 (10, 0, k) 5 + 40) (h6 : W.1 (20, 0, 40) 6 ≤ 5) : fW_takeEntries 0 0 k 0 40 (cE W) = some (nI (sEnt k (W.1 (20, 0, 40) 6) (W.1 (20, 0, 40) 4) 0 W).1, cE (sEnt k (W.1 (20, 0, 40) 6) (W.1 (20, 0, 40) 4) 0 W).2) := by
  unfold fW_takeEntries
  obtain ⟨n, hz, ez⟩ := z_fu_ex
  rw [ez]
  have b4 := hB (20, 0, 40) 4
  have h := x_entries_8 hk (W.1 (20, 0, 40) 6) (W.1 (20, 0, 40) 4) 0 n b W hB (by omega) (by omega) h1 h2 h3 (by omega) h6 (by omega)
  rw [nI_0] at h
  simp only [z_let, yRd, h]
