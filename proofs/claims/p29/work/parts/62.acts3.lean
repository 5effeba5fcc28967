/-! the class's acts, by numbers: append, fold, read, good -/
/-- entries from x on go into the letter in slot s, m of them, from its i-th on -/
def sPut (k s x : Nat) : Nat → Nat → yW → yW
  | 0, _, W => W
  | m + 1, i, W => sPut k s x m (i + 1) (yI (yCp W (11, 0, k) (21, 0, s) (6 * (x + i - W.1 (10, 0, k) 5 - 1)) (6 * i) 6) (20, 0, s) 6 (i + 1))
theorem x_put_28 {k s x : Nat} (hx : x < 50000) : ∀ (m i n : Nat) (W : yW), (∀ z j, W.1 z j < 50000) → i ≤ 5 → W.1 (20, 0, s) 6 = i → W.1 (10, 0, k) 5 < x → W.1 (10, 0, k) 7 ≤ W.1 (10, 0, k) 5 + 40 → m = min 5 (W.1 (10, 0, k) 7 + 1 - x) - i → m < n → fL_takeEntries_28 0 s 0 k n (nI x) (nI i) (cE W) = some ((), cE (sPut k s x m i W)) := by
  intro m
  induction m with
  | zero =>
    intro i n W hB hi h6 h5 h7 hm hn
    obtain ⟨n, rfl⟩ : ∃ k, n = k + 1 := ⟨n - 1, by omega⟩
    by_cases c : 5 ≤ i
    · simp (disch := omega) only [fL_takeEntries_28, sPut, c, z_let, z_bde, yRd, yWr, nI_1, nI_add, nI_pred, yCmp, yCq, nI_leI, nI_ltI, nI_eq, yQ, nI_clamp, nI_inz, if_pos, if_neg, yI_at, yCp_at, yRow_1, yR_1, Prod.mk.injEq, and_true, true_and, and_self, false_and, and_false, if_true, if_false, ne_eq, not_true_eq_false, not_false_eq_true, yLit, Nat.succ_ne_zero, reduceCtorEq, Nat.reduceEqDiff, ↓reduceIte]
    · have pl := x_placeN (k := k) (e := x + i) W (fun z j => by have := hB z j; omega) (by omega) (by omega)
      simp (disch := omega) only [fL_takeEntries_28, sPut, c, pl, z_let, z_bde, yRd, yWr, nI_1, nI_add, nI_pred, yCmp, yCq, nI_leI, nI_ltI, nI_eq, yQ, nI_clamp, nI_inz, if_pos, if_neg, yI_at, yCp_at, yRow_1, yR_1, Prod.mk.injEq, and_true, true_and, and_self, false_and, and_false, if_true, if_false, ne_eq, not_true_eq_false, not_false_eq_true, yLit, Nat.succ_ne_zero, reduceCtorEq, Nat.reduceEqDiff, ↓reduceIte]
  | succ m ih =>
    intro i n W hB hi h6 h5 h7 hm hn
    obtain ⟨n, rfl⟩ : ∃ k, n = k + 1 := ⟨n - 1, by omega⟩
    have pl := x_place (k := k) (e := x + i) W (fun z j => by have := hB z j; omega) (by omega) (by omega) (by omega)
    have e6 : (6 : Int32) = nI 6 := by decide +kernel
    have zc : z_cp (nI (6 * (x + i - W.1 (10, 0, k) 5 - 1))) (nI (6 * i)) 6 240 30 = true := by
      rw [e6]
      exact y_cp (by omega) (by omega) (by omega) (by omega)
    have cr : z_cpR (cE W) (11, 0, k) (21, 0, s) (nI (6 * (x + i - W.1 (10, 0, k) 5 - 1))) (nI (6 * i)) 6 = cE (yCp W (11, 0, k) (21, 0, s) (6 * (x + i - W.1 (10, 0, k) 5 - 1)) (6 * i) 6) := by
      rw [e6]
      exact x_cp11 W (Or.inl rfl) (Or.inr rfl) (by omega) (by omega) (by omega) (by omega) (by omega)
    have ih1 := ih (i + 1) n (yI (yCp W (11, 0, k) (21, 0, s) (6 * (x + i - W.1 (10, 0, k) 5 - 1)) (6 * i) 6) (20, 0, s) 6 (i + 1)) (fun z j => by
      rw [yI_at]
      split
      · omega
      · rw [yCp_at]
        split
        · exact hB _ _
        · exact hB _ _) (by omega) (yI_s _ _ _ _) (by simp only [yI_at, yCp_at, yRow_1, yR_1, Prod.mk.injEq, and_true, true_and, and_self, false_and, and_false, if_true, if_false, ne_eq, not_true_eq_false, not_false_eq_true, yLit, Nat.succ_ne_zero, reduceCtorEq, Nat.reduceEqDiff, ↓reduceIte]; exact h5) (by simp only [yI_at, yCp_at, yRow_1, yR_1, Prod.mk.injEq, and_true, true_and, and_self, false_and, and_false, if_true, if_false, ne_eq, not_true_eq_false, not_false_eq_true, yLit, Nat.succ_ne_zero, reduceCtorEq, Nat.reduceEqDiff, ↓reduceIte]; exact h7) (by simp only [yI_at, yCp_at, yRow_1, yR_1, Prod.mk.injEq, and_true, true_and, and_self, false_and, and_false, if_true, if_false, ne_eq, not_true_eq_false, not_false_eq_true, yLit, Nat.succ_ne_zero, reduceCtorEq, Nat.reduceEqDiff, ↓reduceIte]; omega) (by omega)
    simp (disch := omega) only [fL_takeEntries_28, sPut, pl, h6, y_mul6, zc, cr, ih1, z_let, z_bde, yRd, yWr, nI_1, nI_add, nI_pred, yCmp, yCq, nI_leI, nI_ltI, nI_eq, yQ, nI_clamp, nI_inz, if_pos, if_neg, yI_at, yCp_at, yRow_1, yR_1, Prod.mk.injEq, and_true, true_and, and_self, false_and, and_false, if_true, if_false, ne_eq, not_true_eq_false, not_false_eq_true, yLit, Nat.succ_ne_zero, reduceCtorEq, Nat.reduceEqDiff, ↓reduceIte]
/-- the letter that a leader sends on, in slot s -/
def sSend (k o s : Nat) (W : yW) : yW :=
  if W.1 (16, 0, k) o ≤ W.1 (10, 0, k) 5 then
    yCp (yI (yI (yI (yI (sWrite s 4 k o (W.1 (10, 0, k) 2) W) (10, 0, k) 10 (W.1 (10, 0, k) 10 + 1)) (20, 0, s) 8 (W.1 (10, 0, k) 10 + 1)) (20, 0, s) 4 (W.1 (10, 0, k) 5)) (20, 0, s) 5 (W.1 (10, 0, k) 6)) (13, 0, k) (23, 0, s) 0 0 20
  else sPut k s (W.1 (16, 0, k) o) (min 5 (W.1 (10, 0, k) 7 + 1 - W.1 (16, 0, k) o)) 0
    (yI (yI (yI (yI (yI (sWrite s 2 k o (W.1 (10, 0, k) 2) W) (10, 0, k) 10 (W.1 (10, 0, k) 10 + 1)) (20, 0, s) 8 (W.1 (10, 0, k) 10 + 1)) (20, 0, s) 4 (W.1 (16, 0, k) o - 1)) (20, 0, s) 5 (sTm W k (W.1 (16, 0, k) o - 1))) (20, 0, s) 7 (W.1 (10, 0, k) 8))
theorem sWrite_s (s kd a b t : Nat) (W : yW) : (sWrite s kd a b t W).1 (20, 0, s) 0 = kd + 1 ∧ (sWrite s kd a b t W).1 (20, 0, s) 1 = a ∧ (sWrite s kd a b t W).1 (20, 0, s) 2 = b ∧ (sWrite s kd a b t W).1 (20, 0, s) 3 = t ∧ (sWrite s kd a b t W).1 (20, 0, s) 4 = 0 ∧ (sWrite s kd a b t W).1 (20, 0, s) 5 = 0 ∧ (sWrite s kd a b t W).1 (20, 0, s) 6 = 0 ∧ (sWrite s kd a b t W).1 (20, 0, s) 7 = 0 ∧ (sWrite s kd a b t W).1 (20, 0, s) 8 = 0 := by
  unfold sWrite
  simp only [yI_at, yCp_at, yRow_1, yR_1, Prod.mk.injEq, and_true, true_and, and_self, false_and, and_false, if_true, if_false, ne_eq, not_true_eq_false, not_false_eq_true, yLit, Nat.succ_ne_zero, reduceCtorEq, Nat.reduceEqDiff, ↓reduceIte]
theorem x_sendOn {k o s : Nat} (W : yW) (hk : k < 7) (ho : o < 7) (hB : ∀ z i, W.1 z i < 40000) (hs : sEmp W = some s) (h1 : W.1 (10, 0, k) 5 ≤ W.1 (10, 0, k) 7) (h3 : W.1 (10, 0, k) 7 ≤ W.1 (10, 0, k) 5 + 40) (h5 : W.1 (16, 0, k) o ≤ W.1 (10, 0, k) 7 + 1) : fW_sendOn 0 (nI k) (nI o) (cE W) = some (nI s, cE (sSend k o s W)) := by
  have hB' : ∀ z i, W.1 z i < 100000 := fun z i => by have := hB z i; omega
  have b16 := hB (16, 0, k) o
  have b5 := hB (10, 0, k) 5
  have b10 := hB (10, 0, k) 10
  have le : fP_leastEmpty 0 (cE W) = some (nI s, cE W) := by
    rw [x_leastEmpty W hB', hs]
    rfl
  have w10 : ∀ kd j, (sWrite s kd k o (W.1 (10, 0, k) 2) W).1 (10, 0, k) j = W.1 (10, 0, k) j := fun kd j => sWrite_at j (by simp)
  have w11 : ∀ kd j, (sWrite s kd k o (W.1 (10, 0, k) 2) W).1 (11, 0, k) j = W.1 (11, 0, k) j := fun kd j => sWrite_at j (by simp)
  have w16 : ∀ kd j, (sWrite s kd k o (W.1 (10, 0, k) 2) W).1 (16, 0, k) j = W.1 (16, 0, k) j := fun kd j => sWrite_at j (by simp)
  have w0 := fun kd => (sWrite_s s kd k o (W.1 (10, 0, k) 2) W).1
  have w6 := fun kd => (sWrite_s s kd k o (W.1 (10, 0, k) 2) W).2.2.2.2.2.2.1
  have wB : ∀ kd, kd < 10 → ∀ z i, (sWrite s kd k o (W.1 (10, 0, k) 2) W).1 z i < 100000 := fun kd h => sWrite_B hB' h (by omega) (by omega) (hB' _ _)
  by_cases c : W.1 (16, 0, k) o ≤ W.1 (10, 0, k) 5
  · have sd := x_send (s := s) (kd := 4) (a := k) (b := o) W hB' hs hk
    rw [show nI 4 = 4 from by decide +kernel] at sd
    have w04 := w0 4
    have sc := x_stateCopy (t := 22) (t' := 12) (w := 0) (k := s) (w' := 0) (k' := k) (yI (yI (yI (yI (sWrite s 4 k o (W.1 (10, 0, k) 2) W) (10, 0, k) 10 (W.1 (10, 0, k) 10 + 1)) (20, 0, s) 8 (W.1 (10, 0, k) 10 + 1)) (20, 0, s) 4 (W.1 (10, 0, k) 5)) (20, 0, s) 5 (W.1 (10, 0, k) 6)) (by simp) (by simp)
    unfold sSend
    rw [if_pos c]
    simp (disch := omega) only [fW_sendOn, fW_sendOn_35, fL_takeFold, le, sd, z_om, w10, w04, sc, yV3, z_let, z_bde, yRd, yWr, nI_1, nI_add, nI_pred, yCmp, yCq, nI_leI, nI_ltI, nI_eq, yQ, nI_clamp, nI_inz, if_pos, if_neg, yI_at, yCp_at, yRow_1, yR_1, Prod.mk.injEq, and_true, true_and, and_self, false_and, and_false, if_true, if_false, ne_eq, not_true_eq_false, not_false_eq_true, yLit, Nat.succ_ne_zero, reduceCtorEq, Nat.reduceEqDiff, ↓reduceIte]
  · have sd := x_send (s := s) (kd := 2) (a := k) (b := o) W hB' hs hk
    rw [show nI 2 = 2 from by decide +kernel] at sd
    have w02 := w0 2
    have w26 := w6 2
    unfold sSend
    rw [if_neg c]
    have t1 := x_term (k := k) (e := W.1 (16, 0, k) o - 1) (yI (yI (yI (sWrite s 2 k o (W.1 (10, 0, k) 2) W) (10, 0, k) 10 (W.1 (10, 0, k) 10 + 1)) (20, 0, s) 8 (W.1 (10, 0, k) 10 + 1)) (20, 0, s) 4 (W.1 (16, 0, k) o - 1)) (yBd_I (yBd_I (yBd_I (wB 2 (by decide)) (by omega)) (by omega)) (by omega))
    have et : sTm (yI (yI (yI (sWrite s 2 k o (W.1 (10, 0, k) 2) W) (10, 0, k) 10 (W.1 (10, 0, k) 10 + 1)) (20, 0, s) 8 (W.1 (10, 0, k) 10 + 1)) (20, 0, s) 4 (W.1 (16, 0, k) o - 1)) k (W.1 (16, 0, k) o - 1) = sTm W k (W.1 (16, 0, k) o - 1) := by
      unfold sTm
      simp only [w10, w11, yI_at, yCp_at, yRow_1, yR_1, Prod.mk.injEq, and_true, true_and, and_self, false_and, and_false, if_true, if_false, ne_eq, not_true_eq_false, not_false_eq_true, yLit, Nat.succ_ne_zero, reduceCtorEq, Nat.reduceEqDiff, ↓reduceIte]
    rw [et] at t1
    simp only [w10, yI_at, yCp_at, yRow_1, yR_1, Prod.mk.injEq, and_true, true_and, and_self, false_and, and_false, if_true, if_false, ne_eq, not_true_eq_false, not_false_eq_true, yLit, Nat.succ_ne_zero, reduceCtorEq, Nat.reduceEqDiff, ↓reduceIte] at t1
    have t1 := t1 (by omega) (by omega) (by omega)
    have tb := sTm_B (W := W) (k := k) (e := W.1 (16, 0, k) o - 1) hB'
    unfold fW_sendOn fW_sendOn_35 fL_takeEntries
    obtain ⟨n, hz, ez⟩ := z_fu_ex
    rw [ez]
    have tb2 : sTm W k (W.1 (16, 0, k) o - 1) < 50000 := by
      unfold sTm
      split
      · have := hB (10, 0, k) 6; omega
      · have := hB (11, 0, k) (6 * (W.1 (16, 0, k) o - 1 - W.1 (10, 0, k) 5 - 1)); omega
    have pu := x_put_28 (k := k) (s := s) (x := W.1 (16, 0, k) o) (by omega) (min 5 (W.1 (10, 0, k) 7 + 1 - W.1 (16, 0, k) o)) 0 n (yI (yI (yI (yI (yI (sWrite s 2 k o (W.1 (10, 0, k) 2) W) (10, 0, k) 10 (W.1 (10, 0, k) 10 + 1)) (20, 0, s) 8 (W.1 (10, 0, k) 10 + 1)) (20, 0, s) 4 (W.1 (16, 0, k) o - 1)) (20, 0, s) 5 (sTm W k (W.1 (16, 0, k) o - 1))) (20, 0, s) 7 (W.1 (10, 0, k) 8)) (fun z j => by
        have q : ∀ z j, (sWrite s 2 k o (W.1 (10, 0, k) 2) W).1 z j < 50000 := fun z j => by
          have b2 := hB (10, 0, k) 2
          have hz := hB z j
          unfold sWrite
          rw [yI_at]
          split
          · omega
          · rw [yI_at]
            split
            · omega
            · rw [yI_at]
              split
              · omega
              · rw [yI_at]
                split
                · omega
                · rw [yI_at]
                  split
                  · omega
                  · rw [yI_at]
                    split
                    · omega
                    · rw [yI_at]
                      split
                      · omega
                      · rw [yI_at]
                        split
                        · omega
                        · rw [yI_at]
                          split
                          · omega
                          · rw [yI_at]
                            split
                            · omega
                            · omega
        have b8 := hB (10, 0, k) 8
        have qz := q z j
        rw [yI_at]
        split
        · omega
        · rw [yI_at]
          split
          · omega
          · rw [yI_at]
            split
            · omega
            · rw [yI_at]
              split
              · omega
              · rw [yI_at]
                split
                · omega
                · omega) (by decide) (by simp only [w26, yI_at, yCp_at, yRow_1, yR_1, Prod.mk.injEq, and_true, true_and, and_self, false_and, and_false, if_true, if_false, ne_eq, not_true_eq_false, not_false_eq_true, yLit, Nat.succ_ne_zero, reduceCtorEq, Nat.reduceEqDiff, ↓reduceIte]) (by simp only [w10, yI_at, yCp_at, yRow_1, yR_1, Prod.mk.injEq, and_true, true_and, and_self, false_and, and_false, if_true, if_false, ne_eq, not_true_eq_false, not_false_eq_true, yLit, Nat.succ_ne_zero, reduceCtorEq, Nat.reduceEqDiff, ↓reduceIte]; omega) (by simp only [w10, yI_at, yCp_at, yRow_1, yR_1, Prod.mk.injEq, and_true, true_and, and_self, false_and, and_false, if_true, if_false, ne_eq, not_true_eq_false, not_false_eq_true, yLit, Nat.succ_ne_zero, reduceCtorEq, Nat.reduceEqDiff, ↓reduceIte]; omega) (by simp only [w10, yI_at, yCp_at, yRow_1, yR_1, Prod.mk.injEq, and_true, true_and, and_self, false_and, and_false, if_true, if_false, ne_eq, not_true_eq_false, not_false_eq_true, yLit, Nat.succ_ne_zero, reduceCtorEq, Nat.reduceEqDiff, ↓reduceIte]; omega) (by omega)
    rw [nI_0] at pu
    have s1 := y_sub1 (a := W.1 (16, 0, k) o) (by omega)
    simp (disch := omega) only [le, sd, z_om, w10, w16, w02, s1, t1, pu, yV3, z_let, z_bde, yRd, yWr, nI_1, nI_add, nI_pred, yCmp, yCq, nI_leI, nI_ltI, nI_eq, yQ, nI_clamp, nI_inz, if_pos, if_neg, yI_at, yCp_at, yRow_1, yR_1, Prod.mk.injEq, and_true, true_and, and_self, false_and, and_false, if_true, if_false, ne_eq, not_true_eq_false, not_false_eq_true, yLit, Nat.succ_ne_zero, reduceCtorEq, Nat.reduceEqDiff, ↓reduceIte]
