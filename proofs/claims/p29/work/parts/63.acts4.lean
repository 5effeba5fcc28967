/-! the class's acts, by numbers: command, append, fold, read, good -/
theorem x_append {k o : Nat} (W : yW) (hN : W.1 (0, 0, 0) 3 ≤ 7) (hk : k < W.1 (0, 0, 0) 3) (ho : o < W.1 (0, 0, 0) 3) (hB : ∀ z i, W.1 z i < 40000) (hf : W.1 (10, 0, k) 1 ≤ 1) (hr : W.1 (10, 0, k) 4 ≤ 2) (h1 : W.1 (10, 0, k) 5 ≤ W.1 (10, 0, k) 7) (h3 : W.1 (10, 0, k) 7 ≤ W.1 (10, 0, k) 5 + 40) (h5 : W.1 (10, 0, k) 4 = 2 → W.1 (16, 0, k) o ≤ W.1 (10, 0, k) 7 + 1) : fX_append (nI k) (nI o) (cE W) = if W.1 (10, 0, k) 1 = 0 ∧ W.1 (10, 0, k) 4 = 2 ∧ k ≠ o then (match sEmp W with | none => some (-1, cE W) | some s => some (nI s, cE (sSend k o s W))) else some (-1, cE W) := by
  have ld := x_isLeading W hN hk hf hr
  have ke := x_isKeeper W hN ho
  by_cases c1 : W.1 (10, 0, k) 1 = 0 ∧ W.1 (10, 0, k) 4 = 2
  · rw [if_pos c1] at ld
    by_cases c2 : k = o
    · subst c2
      rw [if_neg (fun h => h.2.2 rfl)]
      simp (disch := omega) only [fX_append, ld, ke, z_let, z_bde, yRd, yWr, nI_1, nI_add, nI_pred, yCmp, yCq, nI_leI, nI_ltI, nI_eq, yQ, nI_clamp, nI_inz, if_pos, if_neg, yI_at, yCp_at, yRow_1, yR_1, Prod.mk.injEq, and_true, true_and, and_self, false_and, and_false, if_true, if_false, ne_eq, not_true_eq_false, not_false_eq_true, yLit, Nat.succ_ne_zero, reduceCtorEq, Nat.reduceEqDiff, ↓reduceIte]
    · rw [if_pos ⟨c1.1, c1.2, c2⟩]
      cases hs : sEmp W with
      | some s =>
        have so := x_sendOn (k := k) (o := o) (s := s) W (by omega) (by omega) hB hs h1 h3 (h5 c1.2)
        simp (disch := omega) only [fX_append, ld, ke, so, z_let, z_bde, yRd, yWr, nI_1, nI_add, nI_pred, yCmp, yCq, nI_leI, nI_ltI, nI_eq, yQ, nI_clamp, nI_inz, if_pos, if_neg, yI_at, yCp_at, yRow_1, yR_1, Prod.mk.injEq, and_true, true_and, and_self, false_and, and_false, if_true, if_false, ne_eq, not_true_eq_false, not_false_eq_true, yLit, Nat.succ_ne_zero, reduceCtorEq, Nat.reduceEqDiff, ↓reduceIte]
      | none =>
        have hB' : ∀ z i, W.1 z i < 100000 := fun z i => by have := hB z i; omega
        have le : fP_leastEmpty 0 (cE W) = some (-1, cE W) := by
          rw [x_leastEmpty W hB', hs]
          rfl
        have b16 := hB (16, 0, k) o
        have b5 := hB (10, 0, k) 5
        by_cases c3 : W.1 (10, 0, k) 5 < W.1 (16, 0, k) o
        · simp (disch := omega) only [fX_append, fW_sendOn, fW_sendOn_35, ld, ke, le, x_sendN W hB' hs, z_om, c3, z_let, z_bde, yRd, yWr, nI_1, nI_add, nI_pred, yCmp, yCq, nI_leI, nI_ltI, nI_eq, yQ, nI_clamp, nI_inz, if_pos, if_neg, yI_at, yCp_at, yRow_1, yR_1, Prod.mk.injEq, and_true, true_and, and_self, false_and, and_false, if_true, if_false, ne_eq, not_true_eq_false, not_false_eq_true, yLit, Nat.succ_ne_zero, reduceCtorEq, Nat.reduceEqDiff, ↓reduceIte]
        · simp (disch := omega) only [fX_append, fW_sendOn, fW_sendOn_35, ld, ke, le, x_sendN W hB' hs, z_om, c3, z_let, z_bde, yRd, yWr, nI_1, nI_add, nI_pred, yCmp, yCq, nI_leI, nI_ltI, nI_eq, yQ, nI_clamp, nI_inz, if_pos, if_neg, yI_at, yCp_at, yRow_1, yR_1, Prod.mk.injEq, and_true, true_and, and_self, false_and, and_false, if_true, if_false, ne_eq, not_true_eq_false, not_false_eq_true, yLit, Nat.succ_ne_zero, reduceCtorEq, Nat.reduceEqDiff, ↓reduceIte]
  · rw [if_neg c1] at ld
    rw [if_neg (fun h => c1 ⟨h.1, h.2.1⟩)]
    simp (disch := omega) only [fX_append, ld, z_let, z_bde, yRd, yWr, nI_1, nI_add, nI_pred, yCmp, yCq, nI_leI, nI_ltI, nI_eq, yQ, nI_clamp, nI_inz, if_pos, if_neg, yI_at, yCp_at, yRow_1, yR_1, Prod.mk.injEq, and_true, true_and, and_self, false_and, and_false, if_true, if_false, ne_eq, not_true_eq_false, not_false_eq_true, yLit, Nat.succ_ne_zero, reduceCtorEq, Nat.reduceEqDiff, ↓reduceIte]
theorem x_appendN1 {x y : Int32} (W : yW) (hN : W.1 (0, 0, 0) 3 ≤ 7) (h : ∀ k, k < W.1 (0, 0, 0) 3 → x ≠ nI k) : fX_append x y (cE W) = some (-1, cE W) := by
  simp only [fX_append, x_noLead W hN h, z_bde, if_true]
theorem x_appendN2 {k : Nat} {y : Int32} (W : yW) (hN : W.1 (0, 0, 0) 3 ≤ 7) (hk : k < W.1 (0, 0, 0) 3) (hf : W.1 (10, 0, k) 1 ≤ 1) (hr : W.1 (10, 0, k) 4 ≤ 2) (h : ∀ k, k < W.1 (0, 0, 0) 3 → y ≠ nI k) : fX_append (nI k) y (cE W) = some (-1, cE W) := by
  have ld := x_isLeading W hN hk hf hr
  by_cases c1 : W.1 (10, 0, k) 1 = 0 ∧ W.1 (10, 0, k) 4 = 2
  · rw [if_pos c1] at ld
    simp (disch := omega) only [fX_append, ld, x_noKeeper W hN h, z_let, z_bde, yRd, yWr, nI_1, nI_add, nI_pred, yCmp, yCq, nI_leI, nI_ltI, nI_eq, yQ, nI_clamp, nI_inz, if_pos, if_neg, yI_at, yCp_at, yRow_1, yR_1, Prod.mk.injEq, and_true, true_and, and_self, false_and, and_false, if_true, if_false, ne_eq, not_true_eq_false, not_false_eq_true, yLit, Nat.succ_ne_zero, reduceCtorEq, Nat.reduceEqDiff, ↓reduceIte]
  · rw [if_neg c1] at ld
    simp (disch := omega) only [fX_append, ld, z_let, z_bde, yRd, yWr, nI_1, nI_add, nI_pred, yCmp, yCq, nI_leI, nI_ltI, nI_eq, yQ, nI_clamp, nI_inz, if_pos, if_neg, yI_at, yCp_at, yRow_1, yR_1, Prod.mk.injEq, and_true, true_and, and_self, false_and, and_false, if_true, if_false, ne_eq, not_true_eq_false, not_false_eq_true, yLit, Nat.succ_ne_zero, reduceCtorEq, Nat.reduceEqDiff, ↓reduceIte]
/-- entries from the i-th on are taken into the fold, m of them -/
def sFoldL (k : Nat) : Nat → Nat → yW → yW
  | 0, _, W => W
  | m + 1, i, W => sFoldL k m (i + 1) (sTake (13, 0, k) k (6 * (i - W.1 (10, 0, k) 5 - 1)) W)
theorem sFoldL_1 (k : Nat) : ∀ (m i : Nat) (W : yW), (sFoldL k m i W).1 = W.1 := by
  intro m
  induction m with
  | zero => intro i W; rfl
  | succ m ih => intro i W; rw [sFoldL, ih]; rfl
def sFoldTo (k e : Nat) (W : yW) : yW := yI (sForget k e (sFoldL k (e - W.1 (10, 0, k) 5) (W.1 (10, 0, k) 5 + 1) W)) (10, 0, k) 6 (sTm W k e)
theorem x_fold_13 {k e t : Nat} (he : e < 50000) : ∀ (m i n : Nat) (W : yW), (∀ z j, W.1 z j < 50000) → yEn W → W.1 (10, 0, k) 5 < i → i + m = e + 1 → e ≤ W.1 (10, 0, k) 7 → W.1 (10, 0, k) 7 ≤ W.1 (10, 0, k) 5 + 40 → m < n → fK_foldUpTo_13 0 k n (nI e) (nI t) (nI i) (cE W) = some ((), cE (yI (sForget k e (sFoldL k m i W)) (10, 0, k) 6 t)) := by
  intro m
  induction m with
  | zero =>
    intro i n W hB hE hi hm h7 h3 hn
    obtain ⟨n, rfl⟩ : ∃ k, n = k + 1 := ⟨n - 1, by omega⟩
    have fo := x_forget (k := k) (e := e) W hB he h3
    simp (disch := omega) only [fK_foldUpTo_13, fK_foldUpTo_48, sFoldL, fo, z_let, z_bde, yRd, yWr, nI_1, nI_add, nI_pred, yCmp, yCq, nI_leI, nI_ltI, nI_eq, yQ, nI_clamp, nI_inz, if_pos, if_neg, yI_at, yCp_at, yRow_1, yR_1, Prod.mk.injEq, and_true, true_and, and_self, false_and, and_false, if_true, if_false, ne_eq, not_true_eq_false, not_false_eq_true, yLit, Nat.succ_ne_zero, reduceCtorEq, Nat.reduceEqDiff, ↓reduceIte]
  | succ m ih =>
    intro i n W hB hE hi hm h7 h3 hn
    obtain ⟨n, rfl⟩ : ∃ k, n = k + 1 := ⟨n - 1, by omega⟩
    have b7 := hB (10, 0, k) 7
    have pl := x_place (k := k) (e := i) W (fun z j => by have := hB z j; omega) hi (by omega) (by omega)
    have tk := x_take (t := 12) (k := k) (P := 6 * (i - W.1 (10, 0, k) 5 - 1)) W (Or.inl rfl) hE (by omega) (by omega)
    have ih1 := ih (i + 1) n (sTake (13, 0, k) k (6 * (i - W.1 (10, 0, k) 5 - 1)) W) hB hE (by show W.1 (10, 0, k) 5 < i + 1; omega) (by omega) h7 h3 (by omega)
    simp (disch := omega) only [fK_foldUpTo_13, sFoldL, pl, tk, ih1, z_let, z_bde, yRd, yWr, nI_1, nI_add, nI_pred, yCmp, yCq, nI_leI, nI_ltI, nI_eq, yQ, nI_clamp, nI_inz, if_pos, if_neg, yI_at, yCp_at, yRow_1, yR_1, Prod.mk.injEq, and_true, true_and, and_self, false_and, and_false, if_true, if_false, ne_eq, not_true_eq_false, not_false_eq_true, yLit, Nat.succ_ne_zero, reduceCtorEq, Nat.reduceEqDiff, ↓reduceIte]
theorem x_fold {k e : Nat} (W : yW) (hN : W.1 (0, 0, 0) 3 ≤ 7) (hk : k < W.1 (0, 0, 0) 3) (hB : ∀ z i, W.1 z i < 40000) (hE : yEn W) (hf : W.1 (10, 0, k) 1 = 0) (h1 : W.1 (10, 0, k) 5 < e) (h2 : e ≤ W.1 (10, 0, k) 8) (h8 : W.1 (10, 0, k) 8 ≤ W.1 (10, 0, k) 7) (h3 : W.1 (10, 0, k) 7 ≤ W.1 (10, 0, k) 5 + 40) : fX_fold (nI k) (nI e) (cE W) = some (nI (W.1 (10, 0, k) 7 - e), cE (sFoldTo k e W)) := by
  have hB' : ∀ z i, W.1 z i < 100000 := fun z i => by have := hB z i; omega
  have up := x_isUp W hN hk (by omega)
  rw [if_pos hf] at up
  have b8 := hB (10, 0, k) 8
  have b5 := hB (10, 0, k) 5
  have b7 := hB (10, 0, k) 7
  have tm := x_term (k := k) (e := e) W hB' (by omega) (by omega) (by omega)
  unfold fX_fold fK_foldUpTo
  obtain ⟨n, hz, ez⟩ := z_fu_ex
  rw [ez]
  have fo := x_fold_13 (k := k) (e := e) (t := sTm W k e) (by omega) (e - W.1 (10, 0, k) 5) (W.1 (10, 0, k) 5 + 1) n W (fun z i => by have := hB z i; omega) hE (by omega) (by omega) (by omega) h3 (by omega)
  have e5 : (sFoldTo k e W).1 (10, 0, k) 5 = e := by
    unfold sFoldTo
    rw [yI_i _ _ (by decide), sForget_5]
  have e7 : (sFoldTo k e W).1 (10, 0, k) 7 = W.1 (10, 0, k) 7 := by
    unfold sFoldTo sForget
    simp only [sFoldL_1]
    rw [if_pos ⟨h1, by omega⟩]
    simp only [sFoldL_1, yI_at, yCp_at, yRow_1, yR_1, Prod.mk.injEq, and_true, true_and, and_self, false_and, and_false, if_true, if_false, ne_eq, not_true_eq_false, not_false_eq_true, yLit, Nat.succ_ne_zero, reduceCtorEq, Nat.reduceEqDiff, ↓reduceIte]
  have es : nI (W.1 (10, 0, k) 7) - nI e = nI (W.1 (10, 0, k) 7 - e) := by
    rw [iI_nat, iI_nat, iI_nat, iI_sub]
    congr 1
    omega
  unfold sFoldTo at e5 e7 ⊢
  simp (disch := omega) only [up, tm, fo, e5, e7, es, z_let, z_bde, yRd, yWr, nI_1, nI_add, nI_pred, yCmp, yCq, nI_leI, nI_ltI, nI_eq, yQ, nI_clamp, nI_inz, if_pos, if_neg, yI_at, yCp_at, yRow_1, yR_1, Prod.mk.injEq, and_true, true_and, and_self, false_and, and_false, if_true, if_false, ne_eq, not_true_eq_false, not_false_eq_true, yLit, Nat.succ_ne_zero, reduceCtorEq, Nat.reduceEqDiff, ↓reduceIte]
theorem x_foldN {k : Nat} {x : Int32} (W : yW) (hN : W.1 (0, 0, 0) 3 ≤ 7) (hk : k < W.1 (0, 0, 0) 3) (hB : ∀ z i, W.1 z i < 40000) (hf : W.1 (10, 0, k) 1 ≤ 1) (h : W.1 (10, 0, k) 1 ≠ 0 ∨ ∀ e, W.1 (10, 0, k) 5 < e → e ≤ W.1 (10, 0, k) 8 → x ≠ nI e) : fX_fold (nI k) x (cE W) = some (-1, cE W) := by
  have up := x_isUp W hN hk hf
  have b8 := hB (10, 0, k) 8
  have b5 := hB (10, 0, k) 5
  by_cases c : W.1 (10, 0, k) 1 = 0
  · rw [if_pos c] at up
    unfold fX_fold
    rw [up, z_bde, if_neg (by decide)]
    simp only [yRd, nI_clamp (show k < 2147483648 by omega), nI_inz (show k < 7 by omega) (by decide), if_true]
    by_cases g1 : x ≤ nI (W.1 (10, 0, k) 5)
    · rw [if_pos g1]
    · rw [if_neg g1]
      have p : ¬ x < 0 := fun hx => by
        have h0 : (0 : Int32) ≤ nI (W.1 (10, 0, k) 5) := nI_pos' (by omega)
        rw [Int32.lt_iff_toInt_lt] at hx
        rw [Int32.le_iff_toInt_le] at h0 g1
        omega
      obtain ⟨j, hj, rfl⟩ := nI_of p
      have g1' : ¬ j ≤ W.1 (10, 0, k) 5 := fun hh => g1 ((nI_leI hj (by omega)).mpr hh)
      rw [if_neg]
      intro g2
      have g2' := (nI_leI hj (by omega)).mp g2
      rcases h with h | h
      · exact h c
      · exact h j (by omega) g2' rfl
  · rw [if_neg c] at up
    simp (disch := omega) only [fX_fold, up, z_let, z_bde, yRd, yWr, nI_1, nI_add, nI_pred, yCmp, yCq, nI_leI, nI_ltI, nI_eq, yQ, nI_clamp, nI_inz, if_pos, if_neg, yI_at, yCp_at, yRow_1, yR_1, Prod.mk.injEq, and_true, true_and, and_self, false_and, and_false, if_true, if_false, ne_eq, not_true_eq_false, not_false_eq_true, yLit, Nat.succ_ne_zero, reduceCtorEq, Nat.reduceEqDiff, ↓reduceIte]
theorem x_foldN1 {x y : Int32} (W : yW) (hN : W.1 (0, 0, 0) 3 ≤ 7) (h : ∀ k, k < W.1 (0, 0, 0) 3 → x ≠ nI k) : fX_fold x y (cE W) = some (-1, cE W) := by
  simp only [fX_fold, x_noUp W hN h, z_bde, if_true]
def sRead (k c : Nat) (W : yW) : yW := yI (yI (yI (yI (yI W (5, 0, 0) (W.1 (4, 0, 0) 4) k) (6, 0, 0) (W.1 (4, 0, 0) 4) c) (7, 0, 0) (W.1 (4, 0, 0) 4) (W.1 (10, 0, k) 2)) (8, 0, 0) (W.1 (4, 0, 0) 4) (W.1 (10, 0, k) 10)) (4, 0, 0) 4 (W.1 (4, 0, 0) 4 + 1)
theorem x_read {k c : Nat} (W : yW) (hN : W.1 (0, 0, 0) 3 ≤ 7) (hk : k < W.1 (0, 0, 0) 3) (hB : ∀ z i, W.1 z i < 40000) (hf : W.1 (10, 0, k) 1 ≤ 1) (hr : W.1 (10, 0, k) 4 ≤ 2) (h1 : W.1 (10, 0, k) 5 ≤ W.1 (10, 0, k) 8) (h2 : W.1 (10, 0, k) 8 ≤ W.1 (10, 0, k) 7) (h3 : W.1 (10, 0, k) 7 ≤ W.1 (10, 0, k) 5 + 40) (hc : c < 8) : fX_read (nI k) (nI c) (cE W) = if W.1 (10, 0, k) 1 = 0 ∧ W.1 (10, 0, k) 4 = 2 ∧ sTm W k (W.1 (10, 0, k) 8) = W.1 (10, 0, k) 2 ∧ W.1 (4, 0, 0) 4 < 40 then some (nI (W.1 (4, 0, 0) 4), cE (sRead k c W)) else some (-1, cE W) := by
  have hB' : ∀ z i, W.1 z i < 100000 := fun z i => by have := hB z i; omega
  have ld := x_isLeading W hN hk hf hr
  have tm := x_term (k := k) (e := W.1 (10, 0, k) 8) W hB' h1 h2 (by omega)
  have tb := sTm_B (W := W) (k := k) (e := W.1 (10, 0, k) 8) hB'
  have b2 := hB (10, 0, k) 2
  have b4 := hB (4, 0, 0) 4
  by_cases c1 : W.1 (10, 0, k) 1 = 0 ∧ W.1 (10, 0, k) 4 = 2
  · rw [if_pos c1] at ld
    by_cases c2 : sTm W k (W.1 (10, 0, k) 8) = W.1 (10, 0, k) 2
    · by_cases c3 : W.1 (4, 0, 0) 4 < 40
      · rw [if_pos ⟨c1.1, c1.2, c2, c3⟩]
        simp (disch := omega) only [fX_read, fW_beginRead, fR_add, ld, eX_isCell hc, tm, c2, c3, sRead, z_let, z_bde, yRd, yWr, nI_1, nI_add, nI_pred, yCmp, yCq, nI_leI, nI_ltI, nI_eq, yQ, nI_clamp, nI_inz, if_pos, if_neg, yI_at, yCp_at, yRow_1, yR_1, Prod.mk.injEq, and_true, true_and, and_self, false_and, and_false, if_true, if_false, ne_eq, not_true_eq_false, not_false_eq_true, yLit, Nat.succ_ne_zero, reduceCtorEq, Nat.reduceEqDiff, ↓reduceIte]
      · rw [if_neg (fun h => c3 h.2.2.2)]
        simp (disch := omega) only [fX_read, fW_beginRead, fR_add, ld, eX_isCell hc, tm, c2, c3, z_let, z_bde, yRd, yWr, nI_1, nI_add, nI_pred, yCmp, yCq, nI_leI, nI_ltI, nI_eq, yQ, nI_clamp, nI_inz, if_pos, if_neg, yI_at, yCp_at, yRow_1, yR_1, Prod.mk.injEq, and_true, true_and, and_self, false_and, and_false, if_true, if_false, ne_eq, not_true_eq_false, not_false_eq_true, yLit, Nat.succ_ne_zero, reduceCtorEq, Nat.reduceEqDiff, ↓reduceIte]
    · rw [if_neg (fun h => c2 h.2.2.1)]
      simp (disch := omega) only [fX_read, fW_beginRead, ld, eX_isCell hc, tm, c2, z_let, z_bde, yRd, yWr, nI_1, nI_add, nI_pred, yCmp, yCq, nI_leI, nI_ltI, nI_eq, yQ, nI_clamp, nI_inz, if_pos, if_neg, yI_at, yCp_at, yRow_1, yR_1, Prod.mk.injEq, and_true, true_and, and_self, false_and, and_false, if_true, if_false, ne_eq, not_true_eq_false, not_false_eq_true, yLit, Nat.succ_ne_zero, reduceCtorEq, Nat.reduceEqDiff, ↓reduceIte]
  · rw [if_neg c1] at ld
    rw [if_neg (fun h => c1 ⟨h.1, h.2.1⟩)]
    simp (disch := omega) only [fX_read, ld, z_let, z_bde, yRd, yWr, nI_1, nI_add, nI_pred, yCmp, yCq, nI_leI, nI_ltI, nI_eq, yQ, nI_clamp, nI_inz, if_pos, if_neg, yI_at, yCp_at, yRow_1, yR_1, Prod.mk.injEq, and_true, true_and, and_self, false_and, and_false, if_true, if_false, ne_eq, not_true_eq_false, not_false_eq_true, yLit, Nat.succ_ne_zero, reduceCtorEq, Nat.reduceEqDiff, ↓reduceIte]
theorem x_isCellN {x : Int32} (h : ∀ c, c < 8 → x ≠ nI c) (σ : zS) : fX_isCell x σ = some (0, σ) := by
  unfold fX_isCell
  by_cases h0 : x < 0
  · rw [if_pos h0]
  rw [if_neg h0]
  obtain ⟨j, hj, rfl⟩ := nI_of h0
  have h1 : 8 ≤ j := by
    by_cases e : j < 8
    · exact absurd rfl (h j e)
    · omega
  simp (disch := omega) only [z_let, z_bde, yRd, yWr, nI_1, nI_add, nI_pred, yCmp, yCq, nI_leI, nI_ltI, nI_eq, yQ, nI_clamp, nI_inz, if_pos, if_neg, yI_at, yCp_at, yRow_1, yR_1, Prod.mk.injEq, and_true, true_and, and_self, false_and, and_false, if_true, if_false, ne_eq, not_true_eq_false, not_false_eq_true, yLit, Nat.succ_ne_zero, reduceCtorEq, Nat.reduceEqDiff, ↓reduceIte]
theorem x_isClientN {x : Int32} (h : ∀ c, c < 6 → x ≠ nI c) (σ : zS) : fX_isClient x σ = some (0, σ) := by
  unfold fX_isClient
  by_cases h0 : x < 0
  · rw [if_pos h0]
  rw [if_neg h0]
  obtain ⟨j, hj, rfl⟩ := nI_of h0
  have h1 : 6 ≤ j := by
    by_cases e : j < 6
    · exact absurd rfl (h j e)
    · omega
  simp (disch := omega) only [z_let, z_bde, yRd, yWr, nI_1, nI_add, nI_pred, yCmp, yCq, nI_leI, nI_ltI, nI_eq, yQ, nI_clamp, nI_inz, if_pos, if_neg, yI_at, yCp_at, yRow_1, yR_1, Prod.mk.injEq, and_true, true_and, and_self, false_and, and_false, if_true, if_false, ne_eq, not_true_eq_false, not_false_eq_true, yLit, Nat.succ_ne_zero, reduceCtorEq, Nat.reduceEqDiff, ↓reduceIte]
theorem y_or7 (n : Nat) (x : Int32) : (∃ k, k < n ∧ x = nI k) ∨ ∀ k, k < n → x ≠ nI k := by
  by_cases h : ∃ k, k < n ∧ x = nI k
  · exact Or.inl h
  · exact Or.inr (fun k hk e => h ⟨k, hk, e⟩)
theorem x_readN1 {x y : Int32} (W : yW) (hN : W.1 (0, 0, 0) 3 ≤ 7) (h : ∀ k, k < W.1 (0, 0, 0) 3 → x ≠ nI k) : fX_read x y (cE W) = some (-1, cE W) := by
  simp only [fX_read, x_noLead W hN h, z_bde, if_true]
theorem x_readN2 {k : Nat} {y : Int32} (W : yW) (hN : W.1 (0, 0, 0) 3 ≤ 7) (hk : k < W.1 (0, 0, 0) 3) (hf : W.1 (10, 0, k) 1 ≤ 1) (hr : W.1 (10, 0, k) 4 ≤ 2) (h : ∀ c, c < 8 → y ≠ nI c) : fX_read (nI k) y (cE W) = some (-1, cE W) := by
  have ld := x_isLeading W hN hk hf hr
  by_cases c1 : W.1 (10, 0, k) 1 = 0 ∧ W.1 (10, 0, k) 4 = 2
  · rw [if_pos c1] at ld
    simp (disch := omega) only [fX_read, ld, x_isCellN h, z_let, z_bde, yRd, yWr, nI_1, nI_add, nI_pred, yCmp, yCq, nI_leI, nI_ltI, nI_eq, yQ, nI_clamp, nI_inz, if_pos, if_neg, yI_at, yCp_at, yRow_1, yR_1, Prod.mk.injEq, and_true, true_and, and_self, false_and, and_false, if_true, if_false, ne_eq, not_true_eq_false, not_false_eq_true, yLit, Nat.succ_ne_zero, reduceCtorEq, Nat.reduceEqDiff, ↓reduceIte]
  · rw [if_neg c1] at ld
    simp (disch := omega) only [fX_read, ld, z_let, z_bde, yRd, yWr, nI_1, nI_add, nI_pred, yCmp, yCq, nI_leI, nI_ltI, nI_eq, yQ, nI_clamp, nI_inz, if_pos, if_neg, yI_at, yCp_at, yRow_1, yR_1, Prod.mk.injEq, and_true, true_and, and_self, false_and, and_false, if_true, if_false, ne_eq, not_true_eq_false, not_false_eq_true, yLit, Nat.succ_ne_zero, reduceCtorEq, Nat.reduceEqDiff, ↓reduceIte]
/-- a command's parts are such -/
theorem x_canBe {c n h e : Nat} (σ : zS) (hc : c < 6) (h1 : 1 ≤ n) (h2 : n ≤ 99) (hh : h ≤ 3) (he : e < 8) : fX_canBe (nI c) (nI n) (nI h) (nI e) σ = some (1, σ) := by
  have w : fX_isWhat (nI h) σ = some (1, σ) := by
    simp (disch := omega) only [fX_isWhat, z_let, z_bde, yRd, yWr, nI_1, nI_add, nI_pred, yCmp, yCq, nI_leI, nI_ltI, nI_eq, yQ, nI_clamp, nI_inz, if_pos, if_neg, yI_at, yCp_at, yRow_1, yR_1, Prod.mk.injEq, and_true, true_and, and_self, false_and, and_false, if_true, if_false, ne_eq, not_true_eq_false, not_false_eq_true, yLit, Nat.succ_ne_zero, reduceCtorEq, Nat.reduceEqDiff, ↓reduceIte]
  simp (disch := omega) only [fX_canBe, eX_isClient hc, eX_isCell he, w, z_let, z_bde, yRd, yWr, nI_1, nI_add, nI_pred, yCmp, yCq, nI_leI, nI_ltI, nI_eq, yQ, nI_clamp, nI_inz, if_pos, if_neg, yI_at, yCp_at, yRow_1, yR_1, Prod.mk.injEq, and_true, true_and, and_self, false_and, and_false, if_true, if_false, ne_eq, not_true_eq_false, not_false_eq_true, yLit, Nat.succ_ne_zero, reduceCtorEq, Nat.reduceEqDiff, ↓reduceIte]
theorem x_command {k c n h e : Nat} {v : Int32} (W : yW) (hN : W.1 (0, 0, 0) 3 ≤ 7) (hk : k < W.1 (0, 0, 0) 3) (hB : ∀ z i, W.1 z i < 40000) (hE : yEn W) (hf : W.1 (10, 0, k) 1 ≤ 1) (hr : W.1 (10, 0, k) 4 ≤ 2) (h4 : W.1 (0, 0, 0) 4 ≤ 7) (g1 : W.1 (10, 0, k) 5 ≤ W.1 (10, 0, k) 8) (g2 : W.1 (10, 0, k) 8 ≤ W.1 (10, 0, k) 7) (g3 : W.1 (10, 0, k) 7 ≤ W.1 (10, 0, k) 5 + 40) (hc : c < 6) (h1 : 1 ≤ n) (h2 : n ≤ 99) (hh : h ≤ 3) (he : e < 8) : fX_command (nI k) (nI c) (nI n) (nI h) (nI e) v (cE W) = if W.1 (10, 0, k) 1 = 0 ∧ W.1 (10, 0, k) 4 = 2 ∧ W.1 (10, 0, k) 7 < W.1 (10, 0, k) 5 + 40 then some (nI (W.1 (10, 0, k) 7 + 1), cE (sSettle k (sCmd k c n h e v W))) else some (-1, cE W) := by
  have ld := x_isLeading W hN hk hf hr
  have ac := x_addCommand (k := k) (c := c) (n := n) (h := h) (e := e) (v := v) W (by omega) hB hE hN h4 g1 g2 g3 hc (by omega) (by omega) he
  by_cases c1 : W.1 (10, 0, k) 1 = 0 ∧ W.1 (10, 0, k) 4 = 2
  · rw [if_pos c1] at ld
    by_cases c3 : W.1 (10, 0, k) 7 < W.1 (10, 0, k) 5 + 40
    · rw [if_pos c3] at ac
      rw [if_pos ⟨c1.1, c1.2, c3⟩]
      simp (disch := omega) only [fX_command, ld, x_canBe _ hc h1 h2 hh he, ac, z_let, z_bde, yRd, yWr, nI_1, nI_add, nI_pred, yCmp, yCq, nI_leI, nI_ltI, nI_eq, yQ, nI_clamp, nI_inz, if_pos, if_neg, yI_at, yCp_at, yRow_1, yR_1, Prod.mk.injEq, and_true, true_and, and_self, false_and, and_false, if_true, if_false, ne_eq, not_true_eq_false, not_false_eq_true, yLit, Nat.succ_ne_zero, reduceCtorEq, Nat.reduceEqDiff, ↓reduceIte]
    · rw [if_neg c3] at ac
      rw [if_neg (fun h => c3 h.2.2)]
      simp (disch := omega) only [fX_command, ld, x_canBe _ hc h1 h2 hh he, ac, z_let, z_bde, yRd, yWr, nI_1, nI_add, nI_pred, yCmp, yCq, nI_leI, nI_ltI, nI_eq, yQ, nI_clamp, nI_inz, if_pos, if_neg, yI_at, yCp_at, yRow_1, yR_1, Prod.mk.injEq, and_true, true_and, and_self, false_and, and_false, if_true, if_false, ne_eq, not_true_eq_false, not_false_eq_true, yLit, Nat.succ_ne_zero, reduceCtorEq, Nat.reduceEqDiff, ↓reduceIte]
  · rw [if_neg c1] at ld
    rw [if_neg (fun h => c1 ⟨h.1, h.2.1⟩)]
    simp (disch := omega) only [fX_command, ld, z_let, z_bde, yRd, yWr, nI_1, nI_add, nI_pred, yCmp, yCq, nI_leI, nI_ltI, nI_eq, yQ, nI_clamp, nI_inz, if_pos, if_neg, yI_at, yCp_at, yRow_1, yR_1, Prod.mk.injEq, and_true, true_and, and_self, false_and, and_false, if_true, if_false, ne_eq, not_true_eq_false, not_false_eq_true, yLit, Nat.succ_ne_zero, reduceCtorEq, Nat.reduceEqDiff, ↓reduceIte]
/-- a command's parts: such, or not -/
def yCan (a b c d : Int32) : Prop := ∃ n1 n2 n3 n4 : Nat, a = nI n1 ∧ b = nI n2 ∧ c = nI n3 ∧ d = nI n4 ∧ n1 < 6 ∧ 1 ≤ n2 ∧ n2 ≤ 99 ∧ n3 ≤ 3 ∧ n4 < 8
theorem x_canBeN {a b c d : Int32} (σ : zS) (h : ¬ yCan a b c d) : fX_canBe a b c d σ = some (0, σ) := by
  unfold fX_canBe
  rcases y_or7 6 a with ⟨n1, h1, rfl⟩ | h1
  · rw [eX_isClient h1, z_bde, if_neg (by decide)]
    by_cases g1 : b < 1
    · rw [if_pos g1]
    rw [if_neg g1]
    by_cases g2 : 99 < b
    · rw [if_pos g2]
    rw [if_neg g2]
    have g0 : ¬ b < 0 := fun g0 => g1 (by
      rw [Int32.lt_iff_toInt_lt] at g0 ⊢
      have e0 : (0 : Int32).toInt = 0 := by decide +kernel
      have e1 : (1 : Int32).toInt = 1 := by decide +kernel
      omega)
    obtain ⟨n2, h2, rfl⟩ := nI_of g0
    have q1 : ¬ n2 < 1 := fun hh => g1 (by rw [show (1 : Int32) = nI 1 from by decide +kernel]; exact nI_lt hh (by decide))
    have q2 : ¬ 99 < n2 := fun hh => g2 (by rw [show (99 : Int32) = nI 99 from by decide +kernel]; exact nI_lt hh (by omega))
    rcases y_or7 4 c with ⟨n3, h3, rfl⟩ | h3
    · have w : fX_isWhat (nI n3) σ = some (1, σ) := by
        simp (disch := omega) only [fX_isWhat, z_let, z_bde, yRd, yWr, nI_1, nI_add, nI_pred, yCmp, yCq, nI_leI, nI_ltI, nI_eq, yQ, nI_clamp, nI_inz, if_pos, if_neg, yI_at, yCp_at, yRow_1, yR_1, Prod.mk.injEq, and_true, true_and, and_self, false_and, and_false, if_true, if_false, ne_eq, not_true_eq_false, not_false_eq_true, yLit, Nat.succ_ne_zero, reduceCtorEq, Nat.reduceEqDiff, ↓reduceIte]
      rw [w, z_bde, if_neg (by decide)]
      rcases y_or7 8 d with ⟨n4, h4, rfl⟩ | h4
      · exact absurd ⟨n1, n2, n3, n4, rfl, rfl, rfl, rfl, h1, by omega, by omega, by omega, h4⟩ h
      · rw [x_isCellN h4, z_bde, if_pos rfl]
    · have w : fX_isWhat c σ = some (0, σ) := by
        unfold fX_isWhat
        by_cases e : c < 0
        · rw [if_pos e]
        rw [if_neg e]
        obtain ⟨j, hj, rfl⟩ := nI_of e
        have : ¬ j < 4 := fun hh => h3 j hh rfl
        simp (disch := omega) only [z_let, z_bde, yRd, yWr, nI_1, nI_add, nI_pred, yCmp, yCq, nI_leI, nI_ltI, nI_eq, yQ, nI_clamp, nI_inz, if_pos, if_neg, yI_at, yCp_at, yRow_1, yR_1, Prod.mk.injEq, and_true, true_and, and_self, false_and, and_false, if_true, if_false, ne_eq, not_true_eq_false, not_false_eq_true, yLit, Nat.succ_ne_zero, reduceCtorEq, Nat.reduceEqDiff, ↓reduceIte]
      rw [w, z_bde, if_pos rfl]
  · rw [x_isClientN h1, z_bde, if_pos rfl]
theorem x_commandN {k : Nat} {a b c d v : Int32} (W : yW) (hN : W.1 (0, 0, 0) 3 ≤ 7) (hk : k < W.1 (0, 0, 0) 3) (hf : W.1 (10, 0, k) 1 ≤ 1) (hr : W.1 (10, 0, k) 4 ≤ 2) (h : ¬ yCan a b c d) : fX_command (nI k) a b c d v (cE W) = some (-1, cE W) := by
  have ld := x_isLeading W hN hk hf hr
  by_cases c1 : W.1 (10, 0, k) 1 = 0 ∧ W.1 (10, 0, k) 4 = 2
  · rw [if_pos c1] at ld
    simp (disch := omega) only [fX_command, ld, x_canBeN _ h, z_let, z_bde, yRd, yWr, nI_1, nI_add, nI_pred, yCmp, yCq, nI_leI, nI_ltI, nI_eq, yQ, nI_clamp, nI_inz, if_pos, if_neg, yI_at, yCp_at, yRow_1, yR_1, Prod.mk.injEq, and_true, true_and, and_self, false_and, and_false, if_true, if_false, ne_eq, not_true_eq_false, not_false_eq_true, yLit, Nat.succ_ne_zero, reduceCtorEq, Nat.reduceEqDiff, ↓reduceIte]
  · rw [if_neg c1] at ld
    simp (disch := omega) only [fX_command, ld, z_let, z_bde, yRd, yWr, nI_1, nI_add, nI_pred, yCmp, yCq, nI_leI, nI_ltI, nI_eq, yQ, nI_clamp, nI_inz, if_pos, if_neg, yI_at, yCp_at, yRow_1, yR_1, Prod.mk.injEq, and_true, true_and, and_self, false_and, and_false, if_true, if_false, ne_eq, not_true_eq_false, not_false_eq_true, yLit, Nat.succ_ne_zero, reduceCtorEq, Nat.reduceEqDiff, ↓reduceIte]
theorem x_commandN1 {x a b c d v : Int32} (W : yW) (hN : W.1 (0, 0, 0) 3 ≤ 7) (h : ∀ k, k < W.1 (0, 0, 0) 3 → x ≠ nI k) : fX_command x a b c d v (cE W) = some (-1, cE W) := by
  simp only [fX_command, x_noLead W hN h, z_bde, if_true]
