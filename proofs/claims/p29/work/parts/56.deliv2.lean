/-! deliver, by numbers: letters -/
theorem x_cpR {a b : zJ} {sp dp n : Int32} {p q m : Nat} (W : yW) (h1 : sp.toNatClampNeg = p) (h2 : dp.toNatClampNeg = q) (h3 : n.toNatClampNeg = m) (h : ∀ i, q ≤ i → i < q + m → ye b.1 i = ye a.1 (p + (i - q))) : z_cpR (cE W) a b sp dp n = cE (yCp W a b p q m) := by
  unfold z_cpR
  rw [h1, h2, h3]
  exact cCp h
theorem x_cp20 (W : yW) {a b : zJ} (ha : a.1 = 13 ∨ a.1 = 15 ∨ a.1 = 23) (hb : b.1 = 13 ∨ b.1 = 15 ∨ b.1 = 23) : z_cpR (cE W) a b 0 0 20 = cE (yCp W a b 0 0 20) := x_cpR W (by decide +kernel) (by decide +kernel) (by decide +kernel) (fun i _ _ => by
  rcases ha with h | h | h <;> rcases hb with h' | h' | h' <;> rw [h, h'] <;> rfl)
theorem x_cp30 (W : yW) (w1 i1 w0 i0 : Nat) : z_cpR (cE W) (21, w1, i1) (21, w0, i0) 0 0 30 = cE (yCp W (21, w1, i1) (21, w0, i0) 0 0 30) := x_cpR W (by decide +kernel) (by decide +kernel) (by decide +kernel) (fun i _ _ => by
  rw [Nat.zero_add, Nat.sub_zero])
theorem z_cp20 : z_cp 0 0 20 20 20 = true := by decide +kernel
theorem z_cp30 : z_cp 0 0 30 30 30 = true := by decide +kernel
theorem x_stateCopy {t t' w w' k k' : Nat} (W : yW) (h : t = 12 ∨ t = 14 ∨ t = 22) (h' : t' = 12 ∨ t' = 14 ∨ t' = 22) : fS_copyFrom (t, w, k) (t', w', k') (cE W) = some ((), cE (yCp W (t' + 1, w', k') (t + 1, w, k) 0 0 20)) := by
  unfold fS_copyFrom
  rw [if_pos z_cp20]
  show some ((), z_cpR (cE W) (t' + 1, w', k') (t + 1, w, k) 0 0 20) = _
  rw [x_cp20 W (by rcases h' with h | h | h <;> simp [h]) (by rcases h with h | h | h <;> simp [h])]
def sCopyN (w0 i0 w1 i1 : Nat) (W : yW) : yW := yI (yI (yI (yI (yI (yI (yI (yI (yI (yI W (20, w0, i0) 0 (W.1 (20, w1, i1) 0)) (20, w0, i0) 1 (W.1 (20, w1, i1) 1)) (20, w0, i0) 2 (W.1 (20, w1, i1) 2)) (20, w0, i0) 3 (W.1 (20, w1, i1) 3)) (20, w0, i0) 4 (W.1 (20, w1, i1) 4)) (20, w0, i0) 5 (W.1 (20, w1, i1) 5)) (20, w0, i0) 6 (W.1 (20, w1, i1) 6)) (20, w0, i0) 7 (W.1 (20, w1, i1) 7)) (20, w0, i0) 8 (W.1 (20, w1, i1) 8)) (20, w0, i0) 9 (W.1 (20, w1, i1) 9)
def sCopyL (w0 i0 w1 i1 : Nat) (W : yW) : yW := yCp (yCp (sCopyN w0 i0 w1 i1 W) (21, w1, i1) (21, w0, i0) 0 0 30) (23, w1, i1) (23, w0, i0) 0 0 20
theorem x_copyL (w0 i0 w1 i1 : Nat) (W : yW) : fL_copyFrom w0 i0 w1 i1 (cE W) = some ((), cE (sCopyL w0 i0 w1 i1 W)) := by
  have h := x_stateCopy (t := 22) (t' := 22) (w := w0) (k := i0) (w' := w1) (k' := i1) (yCp (sCopyN w0 i0 w1 i1 W) (21, w1, i1) (21, w0, i0) 0 0 30) (by simp) (by simp)
  unfold sCopyN at h
  simp only [fL_copyFrom, sCopyL, sCopyN, z_cp30, h, x_cp30, z_let, z_bde, yRd, yWr, nI_1, nI_add, nI_pred, yI_at, yCp_at, yRow_1, yR_1, Prod.mk.injEq, and_true, true_and, and_self, false_and, and_false, if_true, if_false, ne_eq, not_true_eq_false, not_false_eq_true, yLit, Nat.succ_ne_zero, reduceCtorEq, Nat.reduceEqDiff, ↓reduceIte]
theorem x_isFull {s : Nat} (W : yW) (hs : s < 40) (hB : ∀ z i, W.1 z i < 50000) : fP_isFull 0 (nI s) (cE W) = some (if W.1 (20, 0, s) 0 = 0 then 0 else 1, cE W) := by
  have b := hB (20, 0, s) 0
  by_cases c : W.1 (20, 0, s) 0 = 0
  · simp (disch := omega) only [fP_isFull, c, z_let, z_bde, yRd, yWr, nI_1, nI_add, nI_pred, yCmp, yCq, nI_leI, nI_ltI, nI_eq, yQ, nI_clamp, nI_inz, if_pos, if_neg, yI_at, yCp_at, yRow_1, yR_1, Prod.mk.injEq, and_true, true_and, and_self, false_and, and_false, if_true, if_false, ne_eq, not_true_eq_false, not_false_eq_true, yLit, Nat.succ_ne_zero, reduceCtorEq, Nat.reduceEqDiff, ↓reduceIte]
  · simp (disch := omega) only [fP_isFull, c, z_let, z_bde, yRd, yWr, nI_1, nI_add, nI_pred, yCmp, yCq, nI_leI, nI_ltI, nI_eq, yQ, nI_clamp, nI_inz, if_pos, if_neg, yI_at, yCp_at, yRow_1, yR_1, Prod.mk.injEq, and_true, true_and, and_self, false_and, and_false, if_true, if_false, ne_eq, not_true_eq_false, not_false_eq_true, yLit, Nat.succ_ne_zero, reduceCtorEq, Nat.reduceEqDiff, ↓reduceIte]
theorem x_noSlot {x : Int32} (W : yW) (h : ∀ s, s < 40 → x ≠ nI s) : fP_isFull 0 x (cE W) = some (0, cE W) := by
  unfold fP_isFull
  by_cases h0 : x < 0
  · rw [if_pos h0]
  rw [if_neg h0]
  obtain ⟨j, hj, rfl⟩ := nI_of h0
  have h1 : 40 ≤ j := by
    by_cases e : j < 40
    · exact absurd rfl (h j e)
    · omega
  simp (disch := omega) only [z_let, z_bde, yRd, yWr, nI_1, nI_add, nI_pred, yCmp, yCq, nI_leI, nI_ltI, nI_eq, yQ, nI_clamp, nI_inz, if_pos, if_neg, yI_at, yCp_at, yRow_1, yR_1, Prod.mk.injEq, and_true, true_and, and_self, false_and, and_false, if_true, if_false, ne_eq, not_true_eq_false, not_false_eq_true, yLit, Nat.succ_ne_zero, reduceCtorEq, Nat.reduceEqDiff, ↓reduceIte]
theorem x_orS (x : Int32) : (∃ s, s < 40 ∧ x = nI s) ∨ ∀ s, s < 40 → x ≠ nI s := by
  by_cases h : ∃ k, k < 40 ∧ x = nI k
  · exact Or.inl h
  · exact Or.inr (fun k hk e => h ⟨k, hk, e⟩)
def sOut (s : Nat) (W : yW) : yW := yI (sCopyL 0 40 0 s W) (20, 0, s) 0 0
theorem x_takeOut {s : Nat} (W : yW) (hs : s < 40) (hB : ∀ z i, W.1 z i < 50000) (h0 : W.1 (20, 0, s) 0 ≠ 0) : fP_takeOut 0 (nI s) (cE W) = some (some 40, cE (sOut s W)) := by
  have b := hB (20, 0, s) 0
  simp (disch := omega) only [fP_takeOut, x_isFull W hs hB, h0, x_copyL, sOut, z_let, z_bde, yRd, yWr, nI_1, nI_add, nI_pred, yCmp, yCq, nI_leI, nI_ltI, nI_eq, yQ, nI_clamp, nI_inz, if_pos, if_neg, yI_at, yCp_at, yRow_1, yR_1, Prod.mk.injEq, and_true, true_and, and_self, false_and, and_false, if_true, if_false, ne_eq, not_true_eq_false, not_false_eq_true, yLit, Nat.succ_ne_zero, reduceCtorEq, Nat.reduceEqDiff, ↓reduceIte]
/-- who has it goes further than who asks -/
def sAhead (k : Nat) (W : yW) : Prop := W.1 (20, 0, 40) 5 < sTm W k (W.1 (10, 0, k) 7) ∨ (sTm W k (W.1 (10, 0, k) 7) = W.1 (20, 0, 40) 5 ∧ W.1 (20, 0, 40) 4 < W.1 (10, 0, k) 7)
theorem x_isAhead {k : Nat} (W : yW) (hB : ∀ z i, W.1 z i < 50000) (h1 : W.1 (10, 0, k) 5 ≤ W.1 (10, 0, k) 7) (h2 : W.1 (10, 0, k) 7 ≤ W.1 (10, 0, k) 5 + 40) : (sAhead k W → fW_isAhead 0 0 k 0 40 (cE W) = some (1, cE W)) ∧ (¬ sAhead k W → fW_isAhead 0 0 k 0 40 (cE W) = some (0, cE W)) := by
  have hB' : ∀ z i, W.1 z i < 100000 := fun z i => by have := hB z i; omega
  have t1 := x_term (k := k) (e := W.1 (10, 0, k) 7) W hB' h1 (Nat.le_refl _) h2
  have tb := sTm_B (W := W) (k := k) (e := W.1 (10, 0, k) 7) hB'
  have b5 := hB (20, 0, 40) 5
  have b4 := hB (20, 0, 40) 4
  have b7 := hB (10, 0, k) 7
  unfold sAhead
  refine ⟨fun h => ?_, fun h => ?_⟩
  · by_cases c : W.1 (20, 0, 40) 5 < sTm W k (W.1 (10, 0, k) 7)
    · simp (disch := omega) only [fW_isAhead, t1, z_let, z_bde, yRd, yWr, nI_1, nI_add, nI_pred, yCmp, yCq, nI_leI, nI_ltI, nI_eq, yQ, nI_clamp, nI_inz, if_pos, if_neg, yI_at, yCp_at, yRow_1, yR_1, Prod.mk.injEq, and_true, true_and, and_self, false_and, and_false, if_true, if_false, ne_eq, not_true_eq_false, not_false_eq_true, yLit, Nat.succ_ne_zero, reduceCtorEq, Nat.reduceEqDiff, ↓reduceIte]
    · obtain ⟨d1, d2⟩ : sTm W k (W.1 (10, 0, k) 7) = W.1 (20, 0, 40) 5 ∧ W.1 (20, 0, 40) 4 < W.1 (10, 0, k) 7 := by omega
      simp (disch := omega) only [fW_isAhead, t1, z_let, z_bde, yRd, yWr, nI_1, nI_add, nI_pred, yCmp, yCq, nI_leI, nI_ltI, nI_eq, yQ, nI_clamp, nI_inz, if_pos, if_neg, yI_at, yCp_at, yRow_1, yR_1, Prod.mk.injEq, and_true, true_and, and_self, false_and, and_false, if_true, if_false, ne_eq, not_true_eq_false, not_false_eq_true, yLit, Nat.succ_ne_zero, reduceCtorEq, Nat.reduceEqDiff, ↓reduceIte]
  · by_cases d : sTm W k (W.1 (10, 0, k) 7) = W.1 (20, 0, 40) 5
    · simp (disch := omega) only [fW_isAhead, t1, z_let, z_bde, yRd, yWr, nI_1, nI_add, nI_pred, yCmp, yCq, nI_leI, nI_ltI, nI_eq, yQ, nI_clamp, nI_inz, if_pos, if_neg, yI_at, yCp_at, yRow_1, yR_1, Prod.mk.injEq, and_true, true_and, and_self, false_and, and_false, if_true, if_false, ne_eq, not_true_eq_false, not_false_eq_true, yLit, Nat.succ_ne_zero, reduceCtorEq, Nat.reduceEqDiff, ↓reduceIte]
    · simp (disch := omega) only [fW_isAhead, t1, z_let, z_bde, yRd, yWr, nI_1, nI_add, nI_pred, yCmp, yCq, nI_leI, nI_ltI, nI_eq, yQ, nI_clamp, nI_inz, if_pos, if_neg, yI_at, yCp_at, yRow_1, yR_1, Prod.mk.injEq, and_true, true_and, and_self, false_and, and_false, if_true, if_false, ne_eq, not_true_eq_false, not_false_eq_true, yLit, Nat.succ_ne_zero, reduceCtorEq, Nat.reduceEqDiff, ↓reduceIte]
/-- the answer to the letter in hand -/
def sReply (kd y n : Nat) (W : yW) : yW := match sEmp W with
  | none => W
  | some s => yI (yI (yI (yI (sWrite s kd (W.1 (20, 0, 40) 2) (W.1 (20, 0, 40) 1) (W.1 (10, 0, W.1 (20, 0, 40) 2) 2) W) (20, 0, s) 4 y) (20, 0, s) 5 n) (20, 0, s) 8 (W.1 (20, 0, 40) 8)) (20, 0, s) 9 (W.1 (20, 0, 40) 9)
theorem x_reply {kd y n : Nat} (W : yW) (hB' : ∀ z i, W.1 z i < 100000) (h2 : W.1 (20, 0, 40) 2 < 7) (hy : y ≤ 1) : fW_reply 0 0 40 (nI kd) (nI y) (nI n) (cE W) = some (if sEmp W = none then 0 else 1, cE (sReply kd y n W)) := by
  unfold fW_reply sReply
  cases hs : sEmp W with
  | none =>
    rw [x_sendN W hB' hs]
    rfl
  | some s =>
    have hs40 := (sEmp_lt hs).1
    simp only [yRd]
    rw [x_send W hB' hs h2, z_bde, if_neg (by simp)]
    have w8 : (sWrite s kd (W.1 (20, 0, 40) 2) (W.1 (20, 0, 40) 1) (W.1 (10, 0, W.1 (20, 0, 40) 2) 2) W).1 (20, 0, 40) 8 = W.1 (20, 0, 40) 8 := sWrite_at 8 (by simp; omega)
    have w9 : (sWrite s kd (W.1 (20, 0, 40) 2) (W.1 (20, 0, 40) 1) (W.1 (10, 0, W.1 (20, 0, 40) 2) 2) W).1 (20, 0, 40) 9 = W.1 (20, 0, 40) 9 := sWrite_at 9 (by simp; omega)
    have hne : ¬ (40 = s) := by omega
    show (if nI y = 0 then _ else _) = _
    by_cases c : y = 0
    · subst c
      simp (disch := omega) only [fW_reply_33, w8, w9, hne, z_let, z_bde, yRd, yWr, nI_1, nI_add, nI_pred, yCmp, yCq, nI_leI, nI_ltI, nI_eq, yQ, nI_clamp, nI_inz, if_pos, if_neg, yI_at, yCp_at, yRow_1, yR_1, Prod.mk.injEq, and_true, true_and, and_self, false_and, and_false, if_true, if_false, ne_eq, not_true_eq_false, not_false_eq_true, yLit, Nat.succ_ne_zero, reduceCtorEq, Nat.reduceEqDiff, ↓reduceIte]
    · have : y = 1 := by omega
      subst this
      simp (disch := omega) only [fW_reply_33, w8, w9, hne, z_let, z_bde, yRd, yWr, nI_1, nI_add, nI_pred, yCmp, yCq, nI_leI, nI_ltI, nI_eq, yQ, nI_clamp, nI_inz, if_pos, if_neg, yI_at, yCp_at, yRow_1, yR_1, Prod.mk.injEq, and_true, true_and, and_self, false_and, and_false, if_true, if_false, ne_eq, not_true_eq_false, not_false_eq_true, yLit, Nat.succ_ne_zero, reduceCtorEq, Nat.reduceEqDiff, ↓reduceIte]
def sVoteC (k : Nat) (W : yW) : Prop := (W.1 (10, 0, k) 3 = 0 ∨ W.1 (10, 0, k) 3 = W.1 (20, 0, 40) 1 + 1) ∧ W.1 (10, 0, k) 0 ≠ 0 ∧ W.1 (10, 0, k) 2 = W.1 (20, 0, 40) 3 ∧ ¬ sAhead k W
theorem x_takeAsk {k : Nat} (W : yW) (hB : ∀ z i, W.1 z i < 50000) (hr : W.1 (20, 0, 40) 2 < 7) (h1 : W.1 (10, 0, k) 5 ≤ W.1 (10, 0, k) 7) (h2 : W.1 (10, 0, k) 7 ≤ W.1 (10, 0, k) 5 + 40) : (sVoteC k W → fW_takeAsk 0 0 k 0 40 (cE W) = some (if sEmp W = none then 0 else 1, cE (sReply 1 1 0 (yI W (10, 0, k) 3 (W.1 (20, 0, 40) 1 + 1))))) ∧ (¬ sVoteC k W → fW_takeAsk 0 0 k 0 40 (cE W) = some (if sEmp W = none then 0 else 1, cE (sReply 1 0 0 W))) := by
  have b3 := hB (10, 0, k) 3
  have b1 := hB (20, 0, 40) 1
  have b0 := hB (10, 0, k) 0
  have b2 := hB (10, 0, k) 2
  have b23 := hB (20, 0, 40) 3
  have ra := x_isAhead (k := k) W hB h1 h2
  have r0 := x_reply (kd := 1) (y := 0) (n := 0) W (fun z i => by have := hB z i; omega) hr (by decide)
  rw [show nI 1 = 1 from by decide +kernel, nI_0] at r0
  have r1 := x_reply (kd := 1) (y := 1) (n := 0) (yI W (10, 0, k) 3 (W.1 (20, 0, 40) 1 + 1)) (fun z i => by
    rw [yI_at]
    split
    · omega
    · have := hB z i
      omega) (by simp only [yI_at, yCp_at, yRow_1, yR_1, Prod.mk.injEq, and_true, true_and, and_self, false_and, and_false, if_true, if_false, ne_eq, not_true_eq_false, not_false_eq_true, yLit, Nat.succ_ne_zero, reduceCtorEq, Nat.reduceEqDiff, ↓reduceIte]; exact hr) (by decide)
  rw [show nI 1 = 1 from by decide +kernel, nI_0] at r1
  have es : sEmp (yI W (10, 0, k) 3 (W.1 (20, 0, 40) 1 + 1)) = sEmp W := by
    unfold sEmp
    simp only [yI_at, yCp_at, yRow_1, yR_1, Prod.mk.injEq, and_true, true_and, and_self, false_and, and_false, if_true, if_false, ne_eq, not_true_eq_false, not_false_eq_true, yLit, Nat.succ_ne_zero, reduceCtorEq, Nat.reduceEqDiff, ↓reduceIte]
  rw [es] at r1
  have no : ∀ t0 : Int32, (W.1 (10, 0, k) 0 = 0 ∨ W.1 (10, 0, k) 2 ≠ W.1 (20, 0, 40) 3 ∨ t0 = 0 ∨ sAhead k W) → fW_takeAsk_24 0 0 k 0 40 t0 (cE W) = some (if sEmp W = none then 0 else 1, cE (sReply 1 0 0 W)) := fun t0 h => by
    by_cases c0 : W.1 (10, 0, k) 0 = 0
    · simp (disch := omega) only [fW_takeAsk_24, fW_takeAsk_60, fW_takeAsk_61, fW_takeAsk_76, c0, r0, z_let, z_bde, yRd, yWr, nI_1, nI_add, nI_pred, yCmp, yCq, nI_leI, nI_ltI, nI_eq, yQ, nI_clamp, nI_inz, if_pos, if_neg, yI_at, yCp_at, yRow_1, yR_1, Prod.mk.injEq, and_true, true_and, and_self, false_and, and_false, if_true, if_false, ne_eq, not_true_eq_false, not_false_eq_true, yLit, Nat.succ_ne_zero, reduceCtorEq, Nat.reduceEqDiff, ↓reduceIte]
    · by_cases c2 : W.1 (10, 0, k) 2 = W.1 (20, 0, 40) 3
      · by_cases ct : t0 = 0
        · simp (disch := omega) only [fW_takeAsk_24, fW_takeAsk_60, fW_takeAsk_61, fW_takeAsk_76, c0, c2, ct, r0, z_let, z_bde, yRd, yWr, nI_1, nI_add, nI_pred, yCmp, yCq, nI_leI, nI_ltI, nI_eq, yQ, nI_clamp, nI_inz, if_pos, if_neg, yI_at, yCp_at, yRow_1, yR_1, Prod.mk.injEq, and_true, true_and, and_self, false_and, and_false, if_true, if_false, ne_eq, not_true_eq_false, not_false_eq_true, yLit, Nat.succ_ne_zero, reduceCtorEq, Nat.reduceEqDiff, ↓reduceIte]
        · have ha : sAhead k W := by
            rcases h with h | h | h | h
            · exact absurd h c0
            · exact absurd c2 h
            · exact absurd h ct
            · exact h
          simp (disch := omega) only [fW_takeAsk_24, fW_takeAsk_60, fW_takeAsk_61, fW_takeAsk_76, c0, c2, ct, ra.1 ha, r0, z_let, z_bde, yRd, yWr, nI_1, nI_add, nI_pred, yCmp, yCq, nI_leI, nI_ltI, nI_eq, yQ, nI_clamp, nI_inz, if_pos, if_neg, yI_at, yCp_at, yRow_1, yR_1, Prod.mk.injEq, and_true, true_and, and_self, false_and, and_false, if_true, if_false, ne_eq, not_true_eq_false, not_false_eq_true, yLit, Nat.succ_ne_zero, reduceCtorEq, Nat.reduceEqDiff, ↓reduceIte]
      · simp (disch := omega) only [fW_takeAsk_24, fW_takeAsk_60, fW_takeAsk_61, fW_takeAsk_76, c0, c2, r0, z_let, z_bde, yRd, yWr, nI_1, nI_add, nI_pred, yCmp, yCq, nI_leI, nI_ltI, nI_eq, yQ, nI_clamp, nI_inz, if_pos, if_neg, yI_at, yCp_at, yRow_1, yR_1, Prod.mk.injEq, and_true, true_and, and_self, false_and, and_false, if_true, if_false, ne_eq, not_true_eq_false, not_false_eq_true, yLit, Nat.succ_ne_zero, reduceCtorEq, Nat.reduceEqDiff, ↓reduceIte]
  refine ⟨fun hc => ?_, fun hc => ?_⟩
  · obtain ⟨d1, d2, d3, d4⟩ := hc
    have go : fW_takeAsk_24 0 0 k 0 40 1 (cE W) = some (if sEmp W = none then 0 else 1, cE (sReply 1 1 0 (yI W (10, 0, k) 3 (W.1 (20, 0, 40) 1 + 1)))) := by
      simp (disch := omega) only [fW_takeAsk_24, fW_takeAsk_61, fW_takeAsk_76, d2, d3, ra.2 d4, r1, z_let, z_bde, yRd, yWr, nI_1, nI_add, nI_pred, yCmp, yCq, nI_leI, nI_ltI, nI_eq, yQ, nI_clamp, nI_inz, if_pos, if_neg, yI_at, yCp_at, yRow_1, yR_1, Prod.mk.injEq, and_true, true_and, and_self, false_and, and_false, if_true, if_false, ne_eq, not_true_eq_false, not_false_eq_true, yLit, Nat.succ_ne_zero, reduceCtorEq, Nat.reduceEqDiff, ↓reduceIte]
    by_cases c : W.1 (10, 0, k) 3 = 0
    · simp (disch := omega) only [fW_takeAsk, fW_takeAsk_19, c, z_let, z_bde, yRd, yWr, nI_1, nI_add, nI_pred, yCmp, yCq, nI_leI, nI_ltI, nI_eq, yQ, nI_clamp, nI_inz, if_pos, if_neg, yI_at, yCp_at, yRow_1, yR_1, Prod.mk.injEq, and_true, true_and, and_self, false_and, and_false, if_true, if_false, ne_eq, not_true_eq_false, not_false_eq_true, yLit, Nat.succ_ne_zero, reduceCtorEq, Nat.reduceEqDiff, ↓reduceIte]
      exact go
    · have c' : W.1 (10, 0, k) 3 = W.1 (20, 0, 40) 1 + 1 := by omega
      simp (disch := omega) only [fW_takeAsk, fW_takeAsk_19, c', z_let, z_bde, yRd, yWr, nI_1, nI_add, nI_pred, yCmp, yCq, nI_leI, nI_ltI, nI_eq, yQ, nI_clamp, nI_inz, if_pos, if_neg, yI_at, yCp_at, yRow_1, yR_1, Prod.mk.injEq, and_true, true_and, and_self, false_and, and_false, if_true, if_false, ne_eq, not_true_eq_false, not_false_eq_true, yLit, Nat.succ_ne_zero, reduceCtorEq, Nat.reduceEqDiff, ↓reduceIte]
      exact go
  · by_cases c : W.1 (10, 0, k) 3 = 0 ∨ W.1 (10, 0, k) 3 = W.1 (20, 0, 40) 1 + 1
    · have n1 := no 1 (by
        unfold sVoteC at hc
        by_cases e1 : W.1 (10, 0, k) 0 = 0
        · exact Or.inl e1
        · by_cases e2 : W.1 (10, 0, k) 2 = W.1 (20, 0, 40) 3
          · by_cases e3 : sAhead k W
            · exact Or.inr (Or.inr (Or.inr e3))
            · exact absurd ⟨c, e1, e2, e3⟩ hc
          · exact Or.inr (Or.inl e2))
      by_cases c0 : W.1 (10, 0, k) 3 = 0
      · simp (disch := omega) only [fW_takeAsk, fW_takeAsk_19, c0, z_let, z_bde, yRd, yWr, nI_1, nI_add, nI_pred, yCmp, yCq, nI_leI, nI_ltI, nI_eq, yQ, nI_clamp, nI_inz, if_pos, if_neg, yI_at, yCp_at, yRow_1, yR_1, Prod.mk.injEq, and_true, true_and, and_self, false_and, and_false, if_true, if_false, ne_eq, not_true_eq_false, not_false_eq_true, yLit, Nat.succ_ne_zero, reduceCtorEq, Nat.reduceEqDiff, ↓reduceIte]
        exact n1
      · have c' : W.1 (10, 0, k) 3 = W.1 (20, 0, 40) 1 + 1 := by omega
        simp (disch := omega) only [fW_takeAsk, fW_takeAsk_19, c', z_let, z_bde, yRd, yWr, nI_1, nI_add, nI_pred, yCmp, yCq, nI_leI, nI_ltI, nI_eq, yQ, nI_clamp, nI_inz, if_pos, if_neg, yI_at, yCp_at, yRow_1, yR_1, Prod.mk.injEq, and_true, true_and, and_self, false_and, and_false, if_true, if_false, ne_eq, not_true_eq_false, not_false_eq_true, yLit, Nat.succ_ne_zero, reduceCtorEq, Nat.reduceEqDiff, ↓reduceIte]
        exact n1
    · have n0 := no 0 (Or.inr (Or.inr (Or.inl rfl)))
      simp (disch := omega) only [fW_takeAsk, fW_takeAsk_19, z_let, z_bde, yRd, yWr, nI_1, nI_add, nI_pred, yCmp, yCq, nI_leI, nI_ltI, nI_eq, yQ, nI_clamp, nI_inz, if_pos, if_neg, yI_at, yCp_at, yRow_1, yR_1, Prod.mk.injEq, and_true, true_and, and_self, false_and, and_false, if_true, if_false, ne_eq, not_true_eq_false, not_false_eq_true, yLit, Nat.succ_ne_zero, reduceCtorEq, Nat.reduceEqDiff, ↓reduceIte]
      exact n0
