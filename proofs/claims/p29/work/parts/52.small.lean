/-! the class's small methods by numbers -/
def sFollow (k : Nat) (W : yW) : yW := yI (yI (yI W (10, 0, k) 4 0) (10, 0, k) 9 0) (10, 0, k) 10 0
def sEnter (k t : Nat) (W : yW) : yW := sFollow k (yI (yI W (10, 0, k) 2 t) (10, 0, k) 3 0)
theorem x_follow (k : Nat) (W : yW) : fK_follow 0 k (cE W) = some ((), cE (sFollow k W)) := by
  simp only [fK_follow, z_let, z_bde, yRd, yWr, nI_1, nI_add, nI_pred, sFollow]
theorem x_enter (k t : Nat) (W : yW) : fK_enterTerm 0 k (nI t) (cE W) = some ((), cE (sEnter k t W)) := by
  simp only [fK_enterTerm, z_let, z_bde, yRd, yWr, nI_1, nI_add, nI_pred, x_follow, sEnter]
theorem x_isKeeper {k : Nat} (W : yW) (hN : W.1 (0, 0, 0) 3 ≤ 7) (hk : k < W.1 (0, 0, 0) 3) : fW_isKeeper 0 (nI k) (cE W) = some (1, cE W) := by
  simp (disch := omega) only [fW_isKeeper, z_let, z_bde, yRd, yWr, nI_1, nI_add, nI_pred, yCmp, yCq, nI_leI, nI_ltI, nI_eq, yQ, nI_clamp, nI_inz, if_pos, if_neg, yI_at, yCp_at, yRow_1, yR_1, Prod.mk.injEq, and_true, true_and, and_self, false_and, and_false, if_true, if_false, ne_eq, not_true_eq_false, not_false_eq_true, yLit, Nat.succ_ne_zero, reduceCtorEq, Nat.reduceEqDiff, ↓reduceIte]
theorem x_isUp {k : Nat} (W : yW) (hN : W.1 (0, 0, 0) 3 ≤ 7) (hk : k < W.1 (0, 0, 0) 3) (hf : W.1 (10, 0, k) 1 ≤ 1) : fW_isUp 0 (nI k) (cE W) = some (if W.1 (10, 0, k) 1 = 0 then 1 else 0, cE W) := by
  by_cases h : W.1 (10, 0, k) 1 = 0
  · simp (disch := omega) only [fW_isUp, x_isKeeper W hN hk, h, z_let, z_bde, yRd, yWr, nI_1, nI_add, nI_pred, yCmp, yCq, nI_leI, nI_ltI, nI_eq, yQ, nI_clamp, nI_inz, if_pos, if_neg, yI_at, yCp_at, yRow_1, yR_1, Prod.mk.injEq, and_true, true_and, and_self, false_and, and_false, if_true, if_false, ne_eq, not_true_eq_false, not_false_eq_true, yLit, Nat.succ_ne_zero, reduceCtorEq, Nat.reduceEqDiff, ↓reduceIte]
  · simp (disch := omega) only [fW_isUp, x_isKeeper W hN hk, h, z_let, z_bde, yRd, yWr, nI_1, nI_add, nI_pred, yCmp, yCq, nI_leI, nI_ltI, nI_eq, yQ, nI_clamp, nI_inz, if_pos, if_neg, yI_at, yCp_at, yRow_1, yR_1, Prod.mk.injEq, and_true, true_and, and_self, false_and, and_false, if_true, if_false, ne_eq, not_true_eq_false, not_false_eq_true, yLit, Nat.succ_ne_zero, reduceCtorEq, Nat.reduceEqDiff, ↓reduceIte]
theorem x_isLeading {k : Nat} (W : yW) (hN : W.1 (0, 0, 0) 3 ≤ 7) (hk : k < W.1 (0, 0, 0) 3) (hf : W.1 (10, 0, k) 1 ≤ 1) (hr : W.1 (10, 0, k) 4 ≤ 2) : fW_isLeading 0 (nI k) (cE W) = some (if W.1 (10, 0, k) 1 = 0 ∧ W.1 (10, 0, k) 4 = 2 then 1 else 0, cE W) := by
  by_cases h : W.1 (10, 0, k) 1 = 0
  · by_cases h2 : W.1 (10, 0, k) 4 = 2
    · simp (disch := omega) only [fW_isLeading, x_isUp W hN hk hf, h, h2, z_let, z_bde, yRd, yWr, nI_1, nI_add, nI_pred, yCmp, yCq, nI_leI, nI_ltI, nI_eq, yQ, nI_clamp, nI_inz, if_pos, if_neg, yI_at, yCp_at, yRow_1, yR_1, Prod.mk.injEq, and_true, true_and, and_self, false_and, and_false, if_true, if_false, ne_eq, not_true_eq_false, not_false_eq_true, yLit, Nat.succ_ne_zero, reduceCtorEq, Nat.reduceEqDiff, ↓reduceIte]
    · simp (disch := omega) only [fW_isLeading, x_isUp W hN hk hf, h, h2, z_let, z_bde, yRd, yWr, nI_1, nI_add, nI_pred, yCmp, yCq, nI_leI, nI_ltI, nI_eq, yQ, nI_clamp, nI_inz, if_pos, if_neg, yI_at, yCp_at, yRow_1, yR_1, Prod.mk.injEq, and_true, true_and, and_self, false_and, and_false, if_true, if_false, ne_eq, not_true_eq_false, not_false_eq_true, yLit, Nat.succ_ne_zero, reduceCtorEq, Nat.reduceEqDiff, ↓reduceIte]
  · simp (disch := omega) only [fW_isLeading, x_isUp W hN hk hf, h, z_let, z_bde, yRd, yWr, nI_1, nI_add, nI_pred, yCmp, yCq, nI_leI, nI_ltI, nI_eq, yQ, nI_clamp, nI_inz, if_pos, if_neg, yI_at, yCp_at, yRow_1, yR_1, Prod.mk.injEq, and_true, true_and, and_self, false_and, and_false, if_true, if_false, ne_eq, not_true_eq_false, not_false_eq_true, yLit, Nat.succ_ne_zero, reduceCtorEq, Nat.reduceEqDiff, ↓reduceIte]
/-- no keeper -/
theorem x_noKeeper {x : Int32} (W : yW) (hN : W.1 (0, 0, 0) 3 ≤ 7) (h : ∀ k, k < W.1 (0, 0, 0) 3 → x ≠ nI k) : fW_isKeeper 0 x (cE W) = some (0, cE W) := by
  unfold fW_isKeeper
  by_cases h0 : x < 0
  · rw [if_pos h0]
  rw [if_neg h0]
  obtain ⟨j, hj, rfl⟩ := nI_of h0
  have h1 : W.1 (0, 0, 0) 3 ≤ j := by
    by_cases e : j < W.1 (0, 0, 0) 3
    · exact absurd rfl (h j e)
    · omega
  simp (disch := omega) only [z_let, z_bde, yRd, yWr, nI_1, nI_add, nI_pred, yCmp, yCq, nI_leI, nI_ltI, nI_eq, yQ, nI_clamp, nI_inz, if_pos, if_neg, yI_at, yCp_at, yRow_1, yR_1, Prod.mk.injEq, and_true, true_and, and_self, false_and, and_false, if_true, if_false, ne_eq, not_true_eq_false, not_false_eq_true, yLit, Nat.succ_ne_zero, reduceCtorEq, Nat.reduceEqDiff, ↓reduceIte]
theorem x_noUp {x : Int32} (W : yW) (hN : W.1 (0, 0, 0) 3 ≤ 7) (h : ∀ k, k < W.1 (0, 0, 0) 3 → x ≠ nI k) : fW_isUp 0 x (cE W) = some (0, cE W) := by
  simp only [fW_isUp, x_noKeeper W hN h, z_bde, if_true]
theorem x_noLead {x : Int32} (W : yW) (hN : W.1 (0, 0, 0) 3 ≤ 7) (h : ∀ k, k < W.1 (0, 0, 0) 3 → x ≠ nI k) : fW_isLeading 0 x (cE W) = some (0, cE W) := by
  simp only [fW_isLeading, x_noUp W hN h, z_bde, if_true]
/-- either a keeper or none -/
theorem x_orK (W : yW) (x : Int32) : (∃ k, k < W.1 (0, 0, 0) 3 ∧ x = nI k) ∨ ∀ k, k < W.1 (0, 0, 0) 3 → x ≠ nI k := by
  by_cases h : ∃ k, k < W.1 (0, 0, 0) 3 ∧ x = nI k
  · exact Or.inl h
  · exact Or.inr (fun k hk e => h ⟨k, hk, e⟩)
def sEmp (W : yW) : Option Nat := z_fst (fun s => decide (W.1 (20, 0, s) 0 = 0)) 40 0
def sCnt (W : yW) : Nat := z_cnt (fun s => decide (¬ W.1 (20, 0, s) 0 = 0)) 40 0
theorem x_leastEmpty (W : yW) (hB : ∀ z i, W.1 z i < 100000) : fP_leastEmpty 0 (cE W) = some (z_oI (sEmp W), cE W) := by
  have h : z_fst (fun s => decide ((cE W).1 (20, 0, s) 0 = -1)) 40 0 = sEmp W := z_fst_congr 40 0 (fun j _ _ => by
    have b1 := hB (20, 0, j) 0
    refine decide_eq_decide.mpr ?_
    rw [yRd.2.2.2.2.2.2.2.2.2.2.2.2.2.2.2.2.2.2.2.2.1, yV1 (by omega)])
  rw [eP_leastEmpty, h]
theorem x_countFull (W : yW) (hB : ∀ z i, W.1 z i < 100000) : fP_countFull 0 (cE W) = some (nI (sCnt W), cE W) := by
  have h : z_cnt (fun s => decide (¬ (cE W).1 (20, 0, s) 0 = -1)) 40 0 = sCnt W := z_cnt_congr 40 0 (fun j _ _ => by
    have b1 := hB (20, 0, j) 0
    refine decide_eq_decide.mpr ?_
    rw [yRd.2.2.2.2.2.2.2.2.2.2.2.2.2.2.2.2.2.2.2.2.1, yV1 (by omega)])
  rw [eP_countFull, h]
def sWrite (s kd a b t : Nat) (W : yW) : yW := yI (yI (yI (yI (yI (yI (yI (yI (yI (yI W (20, 0, s) 0 (kd + 1)) (20, 0, s) 1 a) (20, 0, s) 2 b) (20, 0, s) 3 t) (20, 0, s) 4 0) (20, 0, s) 5 0) (20, 0, s) 6 0) (20, 0, s) 7 0) (20, 0, s) 8 0) (20, 0, s) 9 t
theorem x_write (s kd a b t : Nat) (W : yW) : fL_write 0 s (nI kd) (nI a) (nI b) (nI t) (cE W) = some ((), cE (sWrite s kd a b t W)) := by
  simp only [fL_write, z_let, z_bde, yRd, yWr, nI_1, nI_add, nI_pred, sWrite]
theorem sEmp_lt {W : yW} {s : Nat} (h : sEmp W = some s) : s < 40 ∧ W.1 (20, 0, s) 0 = 0 := by
  obtain ⟨-, h2, h3, -⟩ := z_fst_some h
  exact ⟨by omega, of_decide_eq_true h3⟩
theorem x_send {s kd a b : Nat} (W : yW) (hB : ∀ z i, W.1 z i < 100000) (hs : sEmp W = some s) (ha : a < 7) : fW_send 0 (nI kd) (nI a) (nI b) (cE W) = some (some s, cE (sWrite s kd a b (W.1 (10, 0, a) 2) W)) := by
  have h1 := (sEmp_lt hs).1
  unfold fW_send
  rw [x_leastEmpty W hB, hs]
  show z_bd (some (nI s, cE W)) _ = _
  simp (disch := omega) only [x_write, z_let, z_bde, yRd, yWr, nI_1, nI_add, nI_pred, yCmp, yCq, nI_leI, nI_ltI, nI_eq, yQ, nI_clamp, nI_inz, if_pos, if_neg, yI_at, yCp_at, yRow_1, yR_1, Prod.mk.injEq, and_true, true_and, and_self, false_and, and_false, if_true, if_false, ne_eq, not_true_eq_false, not_false_eq_true, yLit, Nat.succ_ne_zero, reduceCtorEq, Nat.reduceEqDiff, ↓reduceIte]
theorem x_sendN {a b : Int32} {kd : Int32} (W : yW) (hB : ∀ z i, W.1 z i < 100000) (hs : sEmp W = none) : fW_send 0 kd a b (cE W) = some (none, cE W) := by
  unfold fW_send
  rw [x_leastEmpty W hB, hs]
  show z_bd (some (-1, cE W)) _ = _
  simp (disch := omega) only [z_let, z_bde, yRd, yWr, nI_1, nI_add, nI_pred, yCmp, yCq, nI_leI, nI_ltI, nI_eq, yQ, nI_clamp, nI_inz, if_pos, if_neg, yI_at, yCp_at, yRow_1, yR_1, Prod.mk.injEq, and_true, true_and, and_self, false_and, and_false, if_true, if_false, ne_eq, not_true_eq_false, not_false_eq_true, yLit, Nat.succ_ne_zero, reduceCtorEq, Nat.reduceEqDiff, ↓reduceIte]
theorem x_place {k e : Nat} (W : yW) (hB : ∀ z i, W.1 z i < 100000) (h1 : W.1 (10, 0, k) 5 < e) (h2 : e ≤ W.1 (10, 0, k) 7) (h3 : e ≤ W.1 (10, 0, k) 5 + 40) : fK_placeOf 0 k (nI e) (cE W) = some (nI (6 * (e - W.1 (10, 0, k) 5 - 1)), cE W) := by
  have b1 := hB (10, 0, k) 5
  have b2 := hB (10, 0, k) 7
  have e1 : nI e - nI (W.1 (10, 0, k) 5) = nI (e - W.1 (10, 0, k) 5) := by
    rw [iI_nat, iI_nat, iI_nat, iI_sub]
    congr 1
    omega
  have e2 : nI (e - W.1 (10, 0, k) 5) - 1 = nI (e - W.1 (10, 0, k) 5 - 1) := by
    rw [show e - W.1 (10, 0, k) 5 = (e - W.1 (10, 0, k) 5 - 1) + 1 by omega, nI_pred]
    congr 1
  have e3 : nI (e - W.1 (10, 0, k) 5 - 1) * 6 = nI (6 * (e - W.1 (10, 0, k) 5 - 1)) := by
    rw [show (6 : Int32) = nI 6 from by decide +kernel, pk_mul]
    congr 1
    omega
  simp (disch := omega) only [fK_placeOf, e1, e2, e3, z_let, z_bde, yRd, yWr, nI_1, nI_add, nI_pred, yCmp, yCq, nI_leI, nI_ltI, nI_eq, yQ, nI_clamp, nI_inz, if_pos, if_neg, yI_at, yCp_at, yRow_1, yR_1, Prod.mk.injEq, and_true, true_and, and_self, false_and, and_false, if_true, if_false, ne_eq, not_true_eq_false, not_false_eq_true, yLit, Nat.succ_ne_zero, reduceCtorEq, Nat.reduceEqDiff, ↓reduceIte]
theorem x_placeN {k e : Nat} (W : yW) (hB : ∀ z i, W.1 z i < 100000) (he : e < 100000) (h : ¬ (W.1 (10, 0, k) 5 < e ∧ e ≤ W.1 (10, 0, k) 7 ∧ e ≤ W.1 (10, 0, k) 5 + 40)) : fK_placeOf 0 k (nI e) (cE W) = some (-1, cE W) := by
  have b1 := hB (10, 0, k) 5
  have b2 := hB (10, 0, k) 7
  by_cases c1 : e ≤ W.1 (10, 0, k) 5
  · simp (disch := omega) only [fK_placeOf, z_let, z_bde, yRd, yWr, nI_1, nI_add, nI_pred, yCmp, yCq, nI_leI, nI_ltI, nI_eq, yQ, nI_clamp, nI_inz, if_pos, if_neg, yI_at, yCp_at, yRow_1, yR_1, Prod.mk.injEq, and_true, true_and, and_self, false_and, and_false, if_true, if_false, ne_eq, not_true_eq_false, not_false_eq_true, yLit, Nat.succ_ne_zero, reduceCtorEq, Nat.reduceEqDiff, ↓reduceIte]
  by_cases c2 : W.1 (10, 0, k) 7 < e
  · simp (disch := omega) only [fK_placeOf, z_let, z_bde, yRd, yWr, nI_1, nI_add, nI_pred, yCmp, yCq, nI_leI, nI_ltI, nI_eq, yQ, nI_clamp, nI_inz, if_pos, if_neg, yI_at, yCp_at, yRow_1, yR_1, Prod.mk.injEq, and_true, true_and, and_self, false_and, and_false, if_true, if_false, ne_eq, not_true_eq_false, not_false_eq_true, yLit, Nat.succ_ne_zero, reduceCtorEq, Nat.reduceEqDiff, ↓reduceIte]
  have e1 : nI e - nI (W.1 (10, 0, k) 5) = nI (e - W.1 (10, 0, k) 5) := by
    rw [iI_nat, iI_nat, iI_nat, iI_sub]
    congr 1
    omega
  simp (disch := omega) only [fK_placeOf, e1, z_let, z_bde, yRd, yWr, nI_1, nI_add, nI_pred, yCmp, yCq, nI_leI, nI_ltI, nI_eq, yQ, nI_clamp, nI_inz, if_pos, if_neg, yI_at, yCp_at, yRow_1, yR_1, Prod.mk.injEq, and_true, true_and, and_self, false_and, and_false, if_true, if_false, ne_eq, not_true_eq_false, not_false_eq_true, yLit, Nat.succ_ne_zero, reduceCtorEq, Nat.reduceEqDiff, ↓reduceIte]
/-- the term of entry e, from the last folded one on -/
def sTm (W : yW) (k e : Nat) : Nat := if e = W.1 (10, 0, k) 5 then W.1 (10, 0, k) 6 else W.1 (11, 0, k) (6 * (e - W.1 (10, 0, k) 5 - 1))
theorem c11_t (W : yW) (w k j : Nat) : (cE W).1 (11, w, k) (6 * j) = nI (W.1 (11, w, k) (6 * j)) := by
  refine cE_1 ?_
  show (if 6 * j % 6 = 5 then 0 else 1) = 1
  rw [if_neg (by omega)]
theorem c21_t (W : yW) (w k j : Nat) : (cE W).1 (21, w, k) (6 * j) = nI (W.1 (21, w, k) (6 * j)) := by
  refine cE_1 ?_
  show (if 6 * j % 6 = 5 then 0 else 1) = 1
  rw [if_neg (by omega)]
theorem x_term {k e : Nat} (W : yW) (hB : ∀ z i, W.1 z i < 100000) (h1 : W.1 (10, 0, k) 5 ≤ e) (h2 : e ≤ W.1 (10, 0, k) 7) (h3 : e ≤ W.1 (10, 0, k) 5 + 40) : fK_termOf 0 k (nI e) (cE W) = some (nI (sTm W k e), cE W) := by
  have b1 := hB (10, 0, k) 5
  have b2 := hB (10, 0, k) 7
  by_cases c : e = W.1 (10, 0, k) 5
  · simp (disch := omega) only [fK_termOf, sTm, c, z_let, z_bde, yRd, yWr, nI_1, nI_add, nI_pred, yCmp, yCq, nI_leI, nI_ltI, nI_eq, yQ, nI_clamp, nI_inz, if_pos, if_neg, yI_at, yCp_at, yRow_1, yR_1, Prod.mk.injEq, and_true, true_and, and_self, false_and, and_false, if_true, if_false, ne_eq, not_true_eq_false, not_false_eq_true, yLit, Nat.succ_ne_zero, reduceCtorEq, Nat.reduceEqDiff, ↓reduceIte]
  · have e4 : nI (6 * (e - W.1 (10, 0, k) 5 - 1)) + 0 = nI (6 * (e - W.1 (10, 0, k) 5 - 1)) := by
      rw [← nI_0, nI_add]; rfl
    have e5 := x_place W hB (k := k) (e := e) (by omega) h2 h3
    simp (disch := omega) only [fK_termOf, sTm, e5, e4, c11_t, z_let, z_bde, yRd, yWr, nI_1, nI_add, nI_pred, yCmp, yCq, nI_leI, nI_ltI, nI_eq, yQ, nI_clamp, nI_inz, if_pos, if_neg, yI_at, yCp_at, yRow_1, yR_1, Prod.mk.injEq, and_true, true_and, and_self, false_and, and_false, if_true, if_false, ne_eq, not_true_eq_false, not_false_eq_true, yLit, Nat.succ_ne_zero, reduceCtorEq, Nat.reduceEqDiff, ↓reduceIte]
theorem x_termN {k e : Nat} (W : yW) (hB : ∀ z i, W.1 z i < 100000) (he : e < 100000) (h : ¬ (W.1 (10, 0, k) 5 ≤ e ∧ e ≤ W.1 (10, 0, k) 7 ∧ e ≤ W.1 (10, 0, k) 5 + 40)) : fK_termOf 0 k (nI e) (cE W) = some ((if e = W.1 (10, 0, k) 5 then nI (W.1 (10, 0, k) 6) else -1), cE W) := by
  have b1 := hB (10, 0, k) 5
  by_cases c : e = W.1 (10, 0, k) 5
  · simp (disch := omega) only [fK_termOf, c, z_let, z_bde, yRd, yWr, nI_1, nI_add, nI_pred, yCmp, yCq, nI_leI, nI_ltI, nI_eq, yQ, nI_clamp, nI_inz, if_pos, if_neg, yI_at, yCp_at, yRow_1, yR_1, Prod.mk.injEq, and_true, true_and, and_self, false_and, and_false, if_true, if_false, ne_eq, not_true_eq_false, not_false_eq_true, yLit, Nat.succ_ne_zero, reduceCtorEq, Nat.reduceEqDiff, ↓reduceIte]
  · simp (disch := omega) only [fK_termOf, x_placeN W hB he (k := k) (by omega), z_let, z_bde, yRd, yWr, nI_1, nI_add, nI_pred, yCmp, yCq, nI_leI, nI_ltI, nI_eq, yQ, nI_clamp, nI_inz, if_pos, if_neg, yI_at, yCp_at, yRow_1, yR_1, Prod.mk.injEq, and_true, true_and, and_self, false_and, and_false, if_true, if_false, ne_eq, not_true_eq_false, not_false_eq_true, yLit, Nat.succ_ne_zero, reduceCtorEq, Nat.reduceEqDiff, ↓reduceIte]
