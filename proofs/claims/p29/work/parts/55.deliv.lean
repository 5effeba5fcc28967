/-! deliver, by numbers: settle -/
theorem c11_r {W : yW} {w k P q : Nat} (hP : P % 6 = 0) (hq : q < 5) : (cE W).1 (11, w, k) (P + q) = nI (W.1 (11, w, k) (P + q)) := by
  refine cE_1 ?_
  show (if (P + q) % 6 = 5 then 0 else 1) = 1
  rw [if_neg (by omega)]
/-- client and cell of every entry are such -/
def yEn (W : yW) : Prop := ∀ w k i, (i % 6 = 1 → W.1 (11, w, k) i < 6 ∧ W.1 (21, w, k) i < 6) ∧ (i % 6 = 4 → W.1 (11, w, k) i < 8 ∧ W.1 (21, w, k) i < 8)
def sTake (z : zJ) (k P : Nat) (W : yW) : yW := yRow W z (cTake (W.2.1 z) (fun q => (cE W).1 (11, 0, k) (P + q)) (W.1 (11, 0, k) (P + 1)) (W.1 (11, 0, k) (P + 4)))
theorem x_take {t k P : Nat} (W : yW) (ht : t = 12 ∨ t = 14) (hE : yEn W) (hP : P % 6 = 0) (h2 : P + 6 ≤ 240) : fS_take (t, 0, k) 0 k (nI P) (cE W) = some ((), cE (sTake (t + 1, 0, k) k P W)) := by
  have e1 := ((hE 0 k (P + 1)).1 (by omega)).1
  have e4 := ((hE 0 k (P + 4)).2 (by omega)).1
  rw [eS_takeF (a0 := (t, 0, k)) (w := 0) (i := k) (P := P) (cE W) (by rcases ht with rfl | rfl <;> simp [z_nx]) h2 e1 e4 (c11_r hP (by decide)) (c11_r hP (by decide))]
  have z1 : ∀ i, ye (t + 1) i = 0 := fun i => by rcases ht with rfl | rfl <;> rfl
  show some ((), z_upR (cE W) (t + 1, 0, k) _) = _
  have z2 : (cE W).1 (t + 1, 0, k) = W.2.1 (t + 1, 0, k) := funext fun i => cE_0 (z1 i)
  rw [cUr (fun i => z1 i)]
  unfold sTake z_nx
  rw [z2]
def sAdv1 (k : Nat) (W : yW) : yW := sTake (15, 0, k) k (6 * (W.1 (10, 0, k) 8 - W.1 (10, 0, k) 5)) (yI W (10, 0, k) 8 (W.1 (10, 0, k) 8 + 1))
def sAdv (k : Nat) : Nat → yW → yW
  | 0, W => W
  | m + 1, W => sAdv k m (sAdv1 k W)
theorem sAdv1_1 (k : Nat) (W : yW) : (sAdv1 k W).1 = (yI W (10, 0, k) 8 (W.1 (10, 0, k) 8 + 1)).1 := rfl
theorem x_adv_0 {k e : Nat} (he : e < 100000) : ∀ (m n : Nat) (W : yW), (∀ z i, W.1 z i < 50000) → yEn W → W.1 (10, 0, k) 5 ≤ W.1 (10, 0, k) 8 → W.1 (10, 0, k) 8 ≤ W.1 (10, 0, k) 7 → W.1 (10, 0, k) 7 ≤ W.1 (10, 0, k) 5 + 40 → m = min e (W.1 (10, 0, k) 7) - W.1 (10, 0, k) 8 → m < n → fK_advanceTo_0 0 k n (nI e) (cE W) = some ((), cE (sAdv k m W)) := by
  intro m
  induction m with
  | zero =>
    intro n W hB hE h1 h2 h3 hm hn
    obtain ⟨n, rfl⟩ : ∃ k, n = k + 1 := ⟨n - 1, by omega⟩
    have b7 := hB (10, 0, k) 7
    have b8 := hB (10, 0, k) 8
    by_cases c : e ≤ W.1 (10, 0, k) 8
    · simp (disch := omega) only [fK_advanceTo_0, sAdv, z_let, z_bde, yRd, yWr, nI_1, nI_add, nI_pred, yCmp, yCq, nI_leI, nI_ltI, nI_eq, yQ, nI_clamp, nI_inz, if_pos, if_neg, yI_at, yCp_at, yRow_1, yR_1, Prod.mk.injEq, and_true, true_and, and_self, false_and, and_false, if_true, if_false, ne_eq, not_true_eq_false, not_false_eq_true, yLit, Nat.succ_ne_zero, reduceCtorEq, Nat.reduceEqDiff, ↓reduceIte]
    · have c2 : W.1 (10, 0, k) 7 ≤ W.1 (10, 0, k) 8 := by omega
      simp (disch := omega) only [fK_advanceTo_0, sAdv, z_let, z_bde, yRd, yWr, nI_1, nI_add, nI_pred, yCmp, yCq, nI_leI, nI_ltI, nI_eq, yQ, nI_clamp, nI_inz, if_pos, if_neg, yI_at, yCp_at, yRow_1, yR_1, Prod.mk.injEq, and_true, true_and, and_self, false_and, and_false, if_true, if_false, ne_eq, not_true_eq_false, not_false_eq_true, yLit, Nat.succ_ne_zero, reduceCtorEq, Nat.reduceEqDiff, ↓reduceIte]
  | succ m ih =>
    intro n W hB hE h1 h2 h3 hm hn
    obtain ⟨n, rfl⟩ : ∃ k, n = k + 1 := ⟨n - 1, by omega⟩
    have b7 := hB (10, 0, k) 7
    have b8 := hB (10, 0, k) 8
    have b5 := hB (10, 0, k) 5
    have c1 : ¬ e ≤ W.1 (10, 0, k) 8 := by omega
    have c2 : ¬ W.1 (10, 0, k) 7 ≤ W.1 (10, 0, k) 8 := by omega
    have hB1 : ∀ z i, (yI W (10, 0, k) 8 (W.1 (10, 0, k) 8 + 1)).1 z i < 50000 := fun z i => by
      rw [yI_at]
      split
      · omega
      · exact hB z i
    have pl := x_place (k := k) (e := W.1 (10, 0, k) 8 + 1) (yI W (10, 0, k) 8 (W.1 (10, 0, k) 8 + 1)) (fun z i => by have := hB1 z i; omega)
    simp only [yI_at, yCp_at, yRow_1, yR_1, Prod.mk.injEq, and_true, true_and, and_self, false_and, and_false, if_true, if_false, ne_eq, not_true_eq_false, not_false_eq_true, yLit, Nat.succ_ne_zero, reduceCtorEq, Nat.reduceEqDiff, ↓reduceIte] at pl
    have pl := pl (by omega) (by omega) (by omega)
    rw [show W.1 (10, 0, k) 8 + 1 - W.1 (10, 0, k) 5 - 1 = W.1 (10, 0, k) 8 - W.1 (10, 0, k) 5 by omega] at pl
    have hE1 : yEn (yI W (10, 0, k) 8 (W.1 (10, 0, k) 8 + 1)) := fun w j i => by
      have := hE w j i
      simp only [yI_at, yCp_at, yRow_1, yR_1, Prod.mk.injEq, and_true, true_and, and_self, false_and, and_false, if_true, if_false, ne_eq, not_true_eq_false, not_false_eq_true, yLit, Nat.succ_ne_zero, reduceCtorEq, Nat.reduceEqDiff, ↓reduceIte]
      exact this
    have tk := x_take (t := 14) (k := k) (P := 6 * (W.1 (10, 0, k) 8 - W.1 (10, 0, k) 5)) (yI W (10, 0, k) 8 (W.1 (10, 0, k) 8 + 1)) (Or.inr rfl) hE1 (by omega) (by omega)
    simp (disch := omega) only [fK_advanceTo_0, sAdv, pl, tk, z_let, z_bde, yRd, yWr, nI_1, nI_add, nI_pred, yCmp, yCq, nI_leI, nI_ltI, nI_eq, yQ, nI_clamp, nI_inz, if_pos, if_neg, yI_at, yCp_at, yRow_1, yR_1, Prod.mk.injEq, and_true, true_and, and_self, false_and, and_false, if_true, if_false, ne_eq, not_true_eq_false, not_false_eq_true, yLit, Nat.succ_ne_zero, reduceCtorEq, Nat.reduceEqDiff, ↓reduceIte]
    exact ih n (sAdv1 k W) hB1 hE1 (by rw [sAdv1_1]; simp only [yI_at, yCp_at, yRow_1, yR_1, Prod.mk.injEq, and_true, true_and, and_self, false_and, and_false, if_true, if_false, ne_eq, not_true_eq_false, not_false_eq_true, yLit, Nat.succ_ne_zero, reduceCtorEq, Nat.reduceEqDiff, ↓reduceIte]; omega) (by rw [sAdv1_1]; simp only [yI_at, yCp_at, yRow_1, yR_1, Prod.mk.injEq, and_true, true_and, and_self, false_and, and_false, if_true, if_false, ne_eq, not_true_eq_false, not_false_eq_true, yLit, Nat.succ_ne_zero, reduceCtorEq, Nat.reduceEqDiff, ↓reduceIte]; omega) (by rw [sAdv1_1]; simp only [yI_at, yCp_at, yRow_1, yR_1, Prod.mk.injEq, and_true, true_and, and_self, false_and, and_false, if_true, if_false, ne_eq, not_true_eq_false, not_false_eq_true, yLit, Nat.succ_ne_zero, reduceCtorEq, Nat.reduceEqDiff, ↓reduceIte]; omega) (by rw [sAdv1_1]; simp only [yI_at, yCp_at, yRow_1, yR_1, Prod.mk.injEq, and_true, true_and, and_self, false_and, and_false, if_true, if_false, ne_eq, not_true_eq_false, not_false_eq_true, yLit, Nat.succ_ne_zero, reduceCtorEq, Nat.reduceEqDiff, ↓reduceIte]; omega) (by omega)
theorem x_adv {k e : Nat} (W : yW) (he : e < 100000) (hB : ∀ z i, W.1 z i < 50000) (hE : yEn W) (h1 : W.1 (10, 0, k) 5 ≤ W.1 (10, 0, k) 8) (h2 : W.1 (10, 0, k) 8 ≤ W.1 (10, 0, k) 7) (h3 : W.1 (10, 0, k) 7 ≤ W.1 (10, 0, k) 5 + 40) : fK_advanceTo 0 k (nI e) (cE W) = some ((), cE (sAdv k (min e (W.1 (10, 0, k) 7) - W.1 (10, 0, k) 8) W)) := by
  unfold fK_advanceTo
  obtain ⟨n, hz, ez⟩ := z_fu_ex
  rw [ez]
  have b7 := hB (10, 0, k) 7
  exact x_adv_0 he _ n W hB hE h1 h2 h3 rfl (by omega)
def sSure (k e : Nat) (W : yW) : Nat := z_cnt (fun i => decide (¬ W.1 (10, 0, i) 0 = 0) && (decide (i = k) || decide (e ≤ W.1 (17, 0, k) i))) (W.1 (0, 0, 0) 3) 0
theorem x_sure_5 {k e : Nat} (W : yW) (he : e < 100000) (hB : ∀ z i, W.1 z i < 50000) (hN : W.1 (0, 0, 0) 3 ≤ 7) (hk : k < 7) : ∀ (m i n c : Nat), i + m = W.1 (0, 0, 0) 3 → m < n → fW_countSure_5 0 n (nI k) (nI e) (nI c) (nI i) (cE W) = some (nI (c + z_cnt (fun i => decide (¬ W.1 (10, 0, i) 0 = 0) && (decide (i = k) || decide (e ≤ W.1 (17, 0, k) i))) m i), cE W) := by
  intro m
  induction m with
  | zero =>
    intro i n c hi hn
    obtain ⟨n, rfl⟩ : ∃ k, n = k + 1 := ⟨n - 1, by omega⟩
    simp (disch := omega) only [fW_countSure_5, z_cnt, z_let, z_bde, yRd, yWr, nI_1, nI_add, nI_pred, yCmp, yCq, nI_leI, nI_ltI, nI_eq, yQ, nI_clamp, nI_inz, if_pos, if_neg, yI_at, yCp_at, yRow_1, yR_1, Prod.mk.injEq, and_true, true_and, and_self, false_and, and_false, if_true, if_false, ne_eq, not_true_eq_false, not_false_eq_true, yLit, Nat.succ_ne_zero, reduceCtorEq, Nat.reduceEqDiff, ↓reduceIte]
    rfl
  | succ m ih =>
    intro i n c hi hn
    obtain ⟨n, rfl⟩ : ∃ k, n = k + 1 := ⟨n - 1, by omega⟩
    have b0 := hB (10, 0, i) 0
    have b1 := hB (17, 0, k) i
    have ih1 := ih (i + 1) n c (by omega) (by omega)
    have ih2 := ih (i + 1) n (c + 1) (by omega) (by omega)
    by_cases c0 : W.1 (10, 0, i) 0 = 0
    · simp (disch := omega) only [fW_countSure_5, z_cnt, c0, ih1, Bool.false_and, decide_true, decide_false, Bool.false_eq_true, Nat.zero_add, z_let, z_bde, yRd, yWr, nI_1, nI_add, nI_pred, yCmp, yCq, nI_leI, nI_ltI, nI_eq, yQ, nI_clamp, nI_inz, if_pos, if_neg, yI_at, yCp_at, yRow_1, yR_1, Prod.mk.injEq, and_true, true_and, and_self, false_and, and_false, if_true, if_false, ne_eq, not_true_eq_false, not_false_eq_true, yLit, Nat.succ_ne_zero, reduceCtorEq, Nat.reduceEqDiff, ↓reduceIte]
    · by_cases c1 : i = k
      · subst c1
        simp (disch := omega) only [fW_countSure_5, z_cnt, c0, ih2, Bool.true_and, Bool.true_or, decide_true, decide_false, z_let, z_bde, yRd, yWr, nI_1, nI_add, nI_pred, yCmp, yCq, nI_leI, nI_ltI, nI_eq, yQ, nI_clamp, nI_inz, if_pos, if_neg, yI_at, yCp_at, yRow_1, yR_1, Prod.mk.injEq, and_true, true_and, and_self, false_and, and_false, if_true, if_false, ne_eq, not_true_eq_false, not_false_eq_true, yLit, Nat.succ_ne_zero, reduceCtorEq, Nat.reduceEqDiff, ↓reduceIte]
        rw [Nat.add_assoc]
      · by_cases c2 : e ≤ W.1 (17, 0, k) i
        · simp (disch := omega) only [fW_countSure_5, z_cnt, c0, c1, c2, ih2, Bool.true_and, Bool.false_or, decide_true, decide_false, z_let, z_bde, yRd, yWr, nI_1, nI_add, nI_pred, yCmp, yCq, nI_leI, nI_ltI, nI_eq, yQ, nI_clamp, nI_inz, if_pos, if_neg, yI_at, yCp_at, yRow_1, yR_1, Prod.mk.injEq, and_true, true_and, and_self, false_and, and_false, if_true, if_false, ne_eq, not_true_eq_false, not_false_eq_true, yLit, Nat.succ_ne_zero, reduceCtorEq, Nat.reduceEqDiff, ↓reduceIte]
          rw [Nat.add_assoc]
        · simp (disch := omega) only [fW_countSure_5, z_cnt, c0, c1, c2, ih1, Bool.true_and, Bool.false_or, decide_true, decide_false, Bool.false_eq_true, Nat.zero_add, z_let, z_bde, yRd, yWr, nI_1, nI_add, nI_pred, yCmp, yCq, nI_leI, nI_ltI, nI_eq, yQ, nI_clamp, nI_inz, if_pos, if_neg, yI_at, yCp_at, yRow_1, yR_1, Prod.mk.injEq, and_true, true_and, and_self, false_and, and_false, if_true, if_false, ne_eq, not_true_eq_false, not_false_eq_true, yLit, Nat.succ_ne_zero, reduceCtorEq, Nat.reduceEqDiff, ↓reduceIte]
theorem x_sure {k e : Nat} (W : yW) (he : e < 100000) (hB : ∀ z i, W.1 z i < 50000) (hN : W.1 (0, 0, 0) 3 ≤ 7) (hk : k < 7) : fW_countSure 0 (nI k) (nI e) (cE W) = some (nI (sSure k e W), cE W) := by
  unfold fW_countSure
  obtain ⟨n, hz, ez⟩ := z_fu_ex
  rw [ez]
  have h := x_sure_5 W he hB hN hk (W.1 (0, 0, 0) 3) 0 n 0 (by omega) (by omega)
  rw [nI_0, Nat.zero_add] at h
  exact h
theorem sSure_le (k e : Nat) (W : yW) : sSure k e W ≤ W.1 (0, 0, 0) 3 := z_cnt_le _ _ _
/-- the greatest place above lo, and at most the given one, that P is true of -/
def sFind (P : Nat → Bool) (lo : Nat) : Nat → Option Nat
  | 0 => none
  | e + 1 => if e + 1 ≤ lo then none else if P (e + 1) = true then some (e + 1) else sFind P lo e
def sSetP (k : Nat) (W : yW) (e : Nat) : Bool := decide (sTm W k e = W.1 (10, 0, k) 2) && decide (sMost W ≤ sSure k e W)
def sSettle (k : Nat) (W : yW) : yW := match sFind (sSetP k W) (W.1 (10, 0, k) 8) (W.1 (10, 0, k) 7) with
  | none => W
  | some e => sAdv k (e - W.1 (10, 0, k) 8) W
theorem x_settle_12 {k : Nat} (W : yW) (hk : k < 7) (hB : ∀ z i, W.1 z i < 50000) (hE : yEn W) (h1 : W.1 (10, 0, k) 5 ≤ W.1 (10, 0, k) 8) (h2 : W.1 (10, 0, k) 8 ≤ W.1 (10, 0, k) 7) (h3 : W.1 (10, 0, k) 7 ≤ W.1 (10, 0, k) 5 + 40) (hN : W.1 (0, 0, 0) 3 ≤ 7) (h4 : W.1 (0, 0, 0) 4 ≤ 7) : ∀ (e n : Nat), e ≤ W.1 (10, 0, k) 7 → e < n → fW_settle_12 0 n (nI k) k (nI e) (cE W) = some ((), cE (match sFind (sSetP k W) (W.1 (10, 0, k) 8) e with | none => W | some e => sAdv k (e - W.1 (10, 0, k) 8) W)) := by
  intro e
  have b2 := hB (10, 0, k) 2
  have b7 := hB (10, 0, k) 7
  have b8 := hB (10, 0, k) 8
  induction e with
  | zero =>
    intro n _ hn
    obtain ⟨n, rfl⟩ : ∃ k, n = k + 1 := ⟨n - 1, by omega⟩
    simp (disch := omega) only [fW_settle_12, sFind, z_let, z_bde, yRd, yWr, nI_1, nI_add, nI_pred, yCmp, yCq, nI_leI, nI_ltI, nI_eq, yQ, nI_clamp, nI_inz, if_pos, if_neg, yI_at, yCp_at, yRow_1, yR_1, Prod.mk.injEq, and_true, true_and, and_self, false_and, and_false, if_true, if_false, ne_eq, not_true_eq_false, not_false_eq_true, yLit, Nat.succ_ne_zero, reduceCtorEq, Nat.reduceEqDiff, ↓reduceIte]
  | succ e ih =>
    intro n hle hn
    obtain ⟨n, rfl⟩ : ∃ k, n = k + 1 := ⟨n - 1, by omega⟩
    by_cases c0 : e + 1 ≤ W.1 (10, 0, k) 8
    · simp (disch := omega) only [fW_settle_12, sFind, c0, z_let, z_bde, yRd, yWr, nI_1, nI_add, nI_pred, yCmp, yCq, nI_leI, nI_ltI, nI_eq, yQ, nI_clamp, nI_inz, if_pos, if_neg, yI_at, yCp_at, yRow_1, yR_1, Prod.mk.injEq, and_true, true_and, and_self, false_and, and_false, if_true, if_false, ne_eq, not_true_eq_false, not_false_eq_true, yLit, Nat.succ_ne_zero, reduceCtorEq, Nat.reduceEqDiff, ↓reduceIte]
    · have tm := x_term (k := k) (e := e + 1) W (fun z i => by have := hB z i; omega) (by omega) hle (by omega)
      have tb := sTm_B (W := W) (k := k) (e := e + 1) (fun z i => by have := hB z i; omega)
      have su := x_sure (k := k) (e := e + 1) W (by omega) hB hN hk
      have sl := sSure_le k (e + 1) W
      have ml := sMost_le h4
      have ih1 := ih n (by omega) (by omega)
      have em : nI (e + 1) + (-1) = nI e := by
        rw [show nI (e + 1) + (-1 : Int32) = nI (e + 1) - 1 from by rw [show (-1 : Int32) = iI (-1) from by decide +kernel, iI_nat, iI_add, show (1 : Int32) = iI 1 from by decide +kernel, iI_sub]; rfl, nI_pred]
      by_cases c1 : sTm W k (e + 1) = W.1 (10, 0, k) 2
      · by_cases c2 : sMost W ≤ sSure k (e + 1) W
        · have ad := x_adv (k := k) (e := e + 1) W (by omega) hB hE h1 h2 h3
          rw [show min (e + 1) (W.1 (10, 0, k) 7) = e + 1 by omega] at ad
          rw [sFind, if_neg c0, if_pos (by unfold sSetP; rw [decide_eq_true c1, decide_eq_true c2]; rfl)]
          simp (disch := omega) only [fW_settle_12, c0, tm, c1, su, x_most W h4, ad, z_let, z_bde, yRd, yWr, nI_1, nI_add, nI_pred, yCmp, yCq, nI_leI, nI_ltI, nI_eq, yQ, nI_clamp, nI_inz, if_pos, if_neg, yI_at, yCp_at, yRow_1, yR_1, Prod.mk.injEq, and_true, true_and, and_self, false_and, and_false, if_true, if_false, ne_eq, not_true_eq_false, not_false_eq_true, yLit, Nat.succ_ne_zero, reduceCtorEq, Nat.reduceEqDiff, ↓reduceIte]
        · rw [sFind, if_neg c0, if_neg (by unfold sSetP; rw [decide_eq_false c2, Bool.and_false]; decide)]
          simp (disch := omega) only [fW_settle_12, c0, tm, c1, su, x_most W h4, em, z_let, z_bde, yRd, yWr, nI_1, nI_add, nI_pred, yCmp, yCq, nI_leI, nI_ltI, nI_eq, yQ, nI_clamp, nI_inz, if_pos, if_neg, yI_at, yCp_at, yRow_1, yR_1, Prod.mk.injEq, and_true, true_and, and_self, false_and, and_false, if_true, if_false, ne_eq, not_true_eq_false, not_false_eq_true, yLit, Nat.succ_ne_zero, reduceCtorEq, Nat.reduceEqDiff, ↓reduceIte]
          exact ih1
      · rw [sFind, if_neg c0, if_neg (by unfold sSetP; rw [decide_eq_false c1, Bool.false_and]; decide)]
        simp (disch := omega) only [fW_settle_12, c0, tm, c1, em, z_let, z_bde, yRd, yWr, nI_1, nI_add, nI_pred, yCmp, yCq, nI_leI, nI_ltI, nI_eq, yQ, nI_clamp, nI_inz, if_pos, if_neg, yI_at, yCp_at, yRow_1, yR_1, Prod.mk.injEq, and_true, true_and, and_self, false_and, and_false, if_true, if_false, ne_eq, not_true_eq_false, not_false_eq_true, yLit, Nat.succ_ne_zero, reduceCtorEq, Nat.reduceEqDiff, ↓reduceIte]
        exact ih1
theorem x_settle {k : Nat} (W : yW) (hk : k < 7) (hB : ∀ z i, W.1 z i < 50000) (hE : yEn W) (h1 : W.1 (10, 0, k) 5 ≤ W.1 (10, 0, k) 8) (h2 : W.1 (10, 0, k) 8 ≤ W.1 (10, 0, k) 7) (h3 : W.1 (10, 0, k) 7 ≤ W.1 (10, 0, k) 5 + 40) (hN : W.1 (0, 0, 0) 3 ≤ 7) (h4 : W.1 (0, 0, 0) 4 ≤ 7) : fW_settle 0 (nI k) (cE W) = some ((), cE (sSettle k W)) := by
  unfold fW_settle
  obtain ⟨n, hz, ez⟩ := z_fu_ex
  rw [ez]
  have b7 := hB (10, 0, k) 7
  have h := x_settle_12 W hk hB hE h1 h2 h3 hN h4 (W.1 (10, 0, k) 7) n (Nat.le_refl _) (by omega)
  simp (disch := omega) only [z_let, yRd, nI_clamp, nI_inz, if_true, h]
  rfl
