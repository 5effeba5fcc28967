/-! the class's acts, by numbers: drop, twice, fall, rise, command, append, fold, read -/
theorem x_drop {s : Nat} (W : yW) (hs : s < 40) (hB : ∀ z i, W.1 z i < 50000) : fX_drop (nI s) (cE W) = if W.1 (20, 0, s) 0 = 0 then some (-1, cE W) else some (iI ((W.1 (20, 0, s) 0 : Int) - 1), cE (yI W (20, 0, s) 0 0)) := by
  have b := hB (20, 0, s) 0
  by_cases c : W.1 (20, 0, s) 0 = 0
  · simp (disch := omega) only [fX_drop, x_isFull W hs hB, c, z_let, z_bde, yRd, yWr, nI_1, nI_add, nI_pred, yCmp, yCq, nI_leI, nI_ltI, nI_eq, yQ, nI_clamp, nI_inz, if_pos, if_neg, yI_at, yCp_at, yRow_1, yR_1, Prod.mk.injEq, and_true, true_and, and_self, false_and, and_false, if_true, if_false, ne_eq, not_true_eq_false, not_false_eq_true, yLit, Nat.succ_ne_zero, reduceCtorEq, Nat.reduceEqDiff, ↓reduceIte]
  · simp (disch := omega) only [fX_drop, x_isFull W hs hB, c, z_let, z_bde, yRd, yWr, nI_1, nI_add, nI_pred, yCmp, yCq, nI_leI, nI_ltI, nI_eq, yQ, nI_clamp, nI_inz, if_pos, if_neg, yI_at, yCp_at, yRow_1, yR_1, Prod.mk.injEq, and_true, true_and, and_self, false_and, and_false, if_true, if_false, ne_eq, not_true_eq_false, not_false_eq_true, yLit, Nat.succ_ne_zero, reduceCtorEq, Nat.reduceEqDiff, ↓reduceIte]
theorem x_dropN {x : Int32} (W : yW) (h : ∀ s, s < 40 → x ≠ nI s) : fX_drop x (cE W) = some (-1, cE W) := by
  simp only [fX_drop, x_noSlot W h, z_bde, if_true]
theorem x_twice {s : Nat} (W : yW) (hs : s < 40) (hB : ∀ z i, W.1 z i < 50000) : fX_twice (nI s) (cE W) = match sEmp W with
    | none => some (-1, cE W)
    | some e => if W.1 (20, 0, s) 0 = 0 then some (-1, cE W) else some (nI e, cE (sCopyL 0 e 0 s W)) := by
  have hB' : ∀ z i, W.1 z i < 100000 := fun z i => by have := hB z i; omega
  have le := x_leastEmpty W hB'
  cases he : sEmp W with
  | none =>
    rw [he] at le
    have le : fP_leastEmpty 0 (cE W) = some (-1, cE W) := le
    by_cases c : W.1 (20, 0, s) 0 = 0
    · simp (disch := omega) only [fX_twice, le, x_isFull W hs hB, c, z_let, z_bde, yRd, yWr, nI_1, nI_add, nI_pred, yCmp, yCq, nI_leI, nI_ltI, nI_eq, yQ, nI_clamp, nI_inz, if_pos, if_neg, yI_at, yCp_at, yRow_1, yR_1, Prod.mk.injEq, and_true, true_and, and_self, false_and, and_false, if_true, if_false, ne_eq, not_true_eq_false, not_false_eq_true, yLit, Nat.succ_ne_zero, reduceCtorEq, Nat.reduceEqDiff, ↓reduceIte]
    · simp (disch := omega) only [fX_twice, le, x_isFull W hs hB, c, z_let, z_bde, yRd, yWr, nI_1, nI_add, nI_pred, yCmp, yCq, nI_leI, nI_ltI, nI_eq, yQ, nI_clamp, nI_inz, if_pos, if_neg, yI_at, yCp_at, yRow_1, yR_1, Prod.mk.injEq, and_true, true_and, and_self, false_and, and_false, if_true, if_false, ne_eq, not_true_eq_false, not_false_eq_true, yLit, Nat.succ_ne_zero, reduceCtorEq, Nat.reduceEqDiff, ↓reduceIte]
  | some e =>
    rw [he] at le
    have le : fP_leastEmpty 0 (cE W) = some (nI e, cE W) := le
    have := (sEmp_lt he).1
    by_cases c : W.1 (20, 0, s) 0 = 0
    · simp (disch := omega) only [fX_twice, le, x_isFull W hs hB, c, z_let, z_bde, yRd, yWr, nI_1, nI_add, nI_pred, yCmp, yCq, nI_leI, nI_ltI, nI_eq, yQ, nI_clamp, nI_inz, if_pos, if_neg, yI_at, yCp_at, yRow_1, yR_1, Prod.mk.injEq, and_true, true_and, and_self, false_and, and_false, if_true, if_false, ne_eq, not_true_eq_false, not_false_eq_true, yLit, Nat.succ_ne_zero, reduceCtorEq, Nat.reduceEqDiff, ↓reduceIte]
    · simp (disch := omega) only [fX_twice, le, x_isFull W hs hB, c, x_copyL, z_let, z_bde, yRd, yWr, nI_1, nI_add, nI_pred, yCmp, yCq, nI_leI, nI_ltI, nI_eq, yQ, nI_clamp, nI_inz, if_pos, if_neg, yI_at, yCp_at, yRow_1, yR_1, Prod.mk.injEq, and_true, true_and, and_self, false_and, and_false, if_true, if_false, ne_eq, not_true_eq_false, not_false_eq_true, yLit, Nat.succ_ne_zero, reduceCtorEq, Nat.reduceEqDiff, ↓reduceIte]
theorem x_twiceN {x : Int32} (W : yW) (hB : ∀ z i, W.1 z i < 100000) (h : ∀ s, s < 40 → x ≠ nI s) : fX_twice x (cE W) = some (-1, cE W) := by
  simp only [fX_twice, x_leastEmpty W hB, x_noSlot W h, z_bde, if_true]
def sFall (k : Nat) (W : yW) : yW := yCp (yI (sFollow k (yI W (10, 0, k) 1 1)) (10, 0, k) 8 (W.1 (10, 0, k) 5)) (13, 0, k) (15, 0, k) 0 0 20
theorem x_fall {k : Nat} (W : yW) (hN : W.1 (0, 0, 0) 3 ≤ 7) (hk : k < W.1 (0, 0, 0) 3) (hf : W.1 (10, 0, k) 1 ≤ 1) : fX_fall (nI k) (cE W) = if W.1 (10, 0, k) 1 = 0 then some (1, cE (sFall k W)) else some (0, cE W) := by
  have up := x_isUp W hN hk hf
  have s2 := x_stateCopy (t := 14) (t' := 12) (w := 0) (k := k) (w' := 0) (k' := k) (yI (sFollow k (yI W (10, 0, k) 1 1)) (10, 0, k) 8 (W.1 (10, 0, k) 5)) (by simp) (by simp)
  have s3 : (sFollow k (yI W (10, 0, k) 1 1)).1 (10, 0, k) 5 = W.1 (10, 0, k) 5 := by
    unfold sFollow
    simp only [yI_at, yCp_at, yRow_1, yR_1, Prod.mk.injEq, and_true, true_and, and_self, false_and, and_false, if_true, if_false, ne_eq, not_true_eq_false, not_false_eq_true, yLit, Nat.succ_ne_zero, reduceCtorEq, Nat.reduceEqDiff, ↓reduceIte]
  by_cases c : W.1 (10, 0, k) 1 = 0
  · rw [if_pos c] at up ⊢
    simp (disch := omega) only [fX_fall, fK_goDown, up, x_follow, s2, s3, sFall, z_let, z_bde, yRd, yWr, nI_1, nI_add, nI_pred, yCmp, yCq, nI_leI, nI_ltI, nI_eq, yQ, nI_clamp, nI_inz, if_pos, if_neg, yI_at, yCp_at, yRow_1, yR_1, Prod.mk.injEq, and_true, true_and, and_self, false_and, and_false, if_true, if_false, ne_eq, not_true_eq_false, not_false_eq_true, yLit, Nat.succ_ne_zero, reduceCtorEq, Nat.reduceEqDiff, ↓reduceIte]
  · rw [if_neg c] at up ⊢
    simp (disch := omega) only [fX_fall, up, z_let, z_bde, yRd, yWr, nI_1, nI_add, nI_pred, yCmp, yCq, nI_leI, nI_ltI, nI_eq, yQ, nI_clamp, nI_inz, if_pos, if_neg, yI_at, yCp_at, yRow_1, yR_1, Prod.mk.injEq, and_true, true_and, and_self, false_and, and_false, if_true, if_false, ne_eq, not_true_eq_false, not_false_eq_true, yLit, Nat.succ_ne_zero, reduceCtorEq, Nat.reduceEqDiff, ↓reduceIte]
theorem x_rise {k : Nat} (W : yW) (hN : W.1 (0, 0, 0) 3 ≤ 7) (hk : k < W.1 (0, 0, 0) 3) (hf : W.1 (10, 0, k) 1 ≤ 1) : fX_rise (nI k) (cE W) = if W.1 (10, 0, k) 1 = 0 then some (0, cE W) else some (1, cE (yI W (10, 0, k) 1 0)) := by
  have ke := x_isKeeper W hN hk
  by_cases c : W.1 (10, 0, k) 1 = 0
  · simp (disch := omega) only [fX_rise, ke, c, z_let, z_bde, yRd, yWr, nI_1, nI_add, nI_pred, yCmp, yCq, nI_leI, nI_ltI, nI_eq, yQ, nI_clamp, nI_inz, if_pos, if_neg, yI_at, yCp_at, yRow_1, yR_1, Prod.mk.injEq, and_true, true_and, and_self, false_and, and_false, if_true, if_false, ne_eq, not_true_eq_false, not_false_eq_true, yLit, Nat.succ_ne_zero, reduceCtorEq, Nat.reduceEqDiff, ↓reduceIte]
  · simp (disch := omega) only [fX_rise, ke, c, z_let, z_bde, yRd, yWr, nI_1, nI_add, nI_pred, yCmp, yCq, nI_leI, nI_ltI, nI_eq, yQ, nI_clamp, nI_inz, if_pos, if_neg, yI_at, yCp_at, yRow_1, yR_1, Prod.mk.injEq, and_true, true_and, and_self, false_and, and_false, if_true, if_false, ne_eq, not_true_eq_false, not_false_eq_true, yLit, Nat.succ_ne_zero, reduceCtorEq, Nat.reduceEqDiff, ↓reduceIte]
/-- the entry that a leader takes, ahead of settling -/
def sCmd (k c n h e : Nat) (v : Int32) (W : yW) : yW :=
  let p := 6 * (W.1 (10, 0, k) 7 - W.1 (10, 0, k) 5)
  yR (yI (yI (yI (yI (yI (yI W (10, 0, k) 7 (W.1 (10, 0, k) 7 + 1)) (11, 0, k) p (W.1 (10, 0, k) 2)) (11, 0, k) (p + 1) c) (11, 0, k) (p + 2) n) (11, 0, k) (p + 3) h) (11, 0, k) (p + 4) e) (11, 0, k) (p + 5) v
theorem u11 {W : yW} {k p q v : Nat} (hp : p % 6 = 0) (hq : q < 5) : z_up (cE W) (11, 0, k) (p + q) (nI v) = cE (yI W (11, 0, k) (p + q) v) := cU1 (by
  show (if (p + q) % 6 = 5 then 0 else 1) = 1
  rw [if_neg (by omega)])
theorem u11_5 {W : yW} {k p : Nat} {x : Int32} (hp : p % 6 = 0) : z_up (cE W) (11, 0, k) (p + 5) x = cE (yR W (11, 0, k) (p + 5) x) := cU0 (by
  show (if (p + 5) % 6 = 5 then 0 else 1) = 0
  rw [if_pos (by omega)])
theorem x_addCommand {k c n h e : Nat} {v : Int32} (W : yW) (hk : k < 7) (hB : ∀ z i, W.1 z i < 40000) (hE : yEn W) (hN : W.1 (0, 0, 0) 3 ≤ 7) (h4 : W.1 (0, 0, 0) 4 ≤ 7) (h1 : W.1 (10, 0, k) 5 ≤ W.1 (10, 0, k) 8) (h2 : W.1 (10, 0, k) 8 ≤ W.1 (10, 0, k) 7) (h3 : W.1 (10, 0, k) 7 ≤ W.1 (10, 0, k) 5 + 40) (hc : c < 6) (hn : n < 40000) (hh : h < 40000) (he : e < 8) :
    fW_addCommand 0 (nI k) (nI c) (nI n) (nI h) (nI e) v (cE W) = if W.1 (10, 0, k) 7 < W.1 (10, 0, k) 5 + 40 then some (nI (W.1 (10, 0, k) 7 + 1), cE (sSettle k (sCmd k c n h e v W))) else some (-1, cE W) := by
  have hB5 : ∀ z i, W.1 z i < 50000 := fun z i => by have := hB z i; omega
  have gr := x_grow (k := k) W hB5 (by omega)
  by_cases c0 : W.1 (10, 0, k) 7 < W.1 (10, 0, k) 5 + 40
  · rw [if_pos c0]
    have b7 := hB (10, 0, k) 7
    have b2 := hB (10, 0, k) 2
    obtain ⟨p, ep⟩ : ∃ p, p = 6 * (W.1 (10, 0, k) 7 - W.1 (10, 0, k) 5) := ⟨_, rfl⟩
    have gr1 := gr.1 c0
    rw [← ep] at gr1
    have p6 : p % 6 = 0 := by omega
    have p240 : p + 5 < 240 := by omega
    have a0 : nI p + 0 = nI (p + 0) := y_add0 p
    have a1 : nI p + 1 = nI (p + 1) := nI_1 p
    have a2 : nI p + 2 = nI (p + 2) := nI_lit p (by decide +kernel)
    have a3 : nI p + 3 = nI (p + 3) := nI_lit p (by decide +kernel)
    have a4 : nI p + 4 = nI (p + 4) := nI_lit p (by decide +kernel)
    have a5 : nI p + 5 = nI (p + 5) := nI_lit p (by decide +kernel)
    have u0 := fun (V : yW) (v : Nat) => u11 (W := V) (k := k) (p := p) (q := 0) (v := v) p6 (by decide)
    have u1 := fun (V : yW) (v : Nat) => u11 (W := V) (k := k) (p := p) (q := 1) (v := v) p6 (by decide)
    have u2 := fun (V : yW) (v : Nat) => u11 (W := V) (k := k) (p := p) (q := 2) (v := v) p6 (by decide)
    have u3 := fun (V : yW) (v : Nat) => u11 (W := V) (k := k) (p := p) (q := 3) (v := v) p6 (by decide)
    have u4 := fun (V : yW) (v : Nat) => u11 (W := V) (k := k) (p := p) (q := 4) (v := v) p6 (by decide)
    have u5 := fun (V : yW) (x : Int32) => u11_5 (W := V) (k := k) (p := p) (x := x) p6
    have eC : sCmd k c n h e v W = yR (yI (yI (yI (yI (yI (yI W (10, 0, k) 7 (W.1 (10, 0, k) 7 + 1)) (11, 0, k) (p + 0) (W.1 (10, 0, k) 2)) (11, 0, k) (p + 1) c) (11, 0, k) (p + 2) n) (11, 0, k) (p + 3) h) (11, 0, k) (p + 4) e) (11, 0, k) (p + 5) v := by
      unfold sCmd
      dsimp only
      rw [← ep]
      rfl
    have cB : ∀ z i, (sCmd k c n h e v W).1 z i < 50000 := fun z i => by
      have hb := hB z i
      rw [eC, yR_1, yI_at]
      split
      · omega
      · rw [yI_at]
        split
        · omega
        · rw [yI_at]
          split
          · omega
          · rw [yI_at]
            split
            · omega
            · rw [yI_at]
              split
              · omega
              · rw [yI_at]
                split
                · omega
                · omega
    have c10 : ∀ f, f ≠ 7 → (sCmd k c n h e v W).1 (10, 0, k) f = W.1 (10, 0, k) f := fun f hf => by
      rw [eC, yR_1, yI_z _ _ (by simp), yI_z _ _ (by simp), yI_z _ _ (by simp), yI_z _ _ (by simp), yI_z _ _ (by simp), yI_i _ _ hf]
    have c7 : (sCmd k c n h e v W).1 (10, 0, k) 7 = W.1 (10, 0, k) 7 + 1 := by
      rw [eC, yR_1, yI_z _ _ (by simp), yI_z _ _ (by simp), yI_z _ _ (by simp), yI_z _ _ (by simp), yI_z _ _ (by simp), yI_s]
    have cN : ∀ f, (sCmd k c n h e v W).1 (0, 0, 0) f = W.1 (0, 0, 0) f := fun f => by
      rw [eC, yR_1, yI_z _ _ (by simp), yI_z _ _ (by simp), yI_z _ _ (by simp), yI_z _ _ (by simp), yI_z _ _ (by simp), yI_z _ _ (by simp)]
    have cE' : yEn (sCmd k c n h e v W) := fun w j i => by
      have hw := hE w j i
      rw [eC, yR_1]
      refine ⟨fun hi => ?_, fun hi => ?_⟩
      · refine ⟨?_, ?_⟩
        · rw [yI_i _ _ (by omega), yI_i _ _ (by omega), yI_i _ _ (by omega), yI_at]
          split
          · exact hc
          · rw [yI_i _ _ (by omega), yI_z _ _ (by simp)]
            exact (hw.1 hi).1
        · rw [yI_z _ _ (by simp), yI_z _ _ (by simp), yI_z _ _ (by simp), yI_z _ _ (by simp), yI_z _ _ (by simp), yI_z _ _ (by simp)]
          exact (hw.1 hi).2
      · refine ⟨?_, ?_⟩
        · rw [yI_at]
          split
          · exact he
          · rw [yI_i _ _ (by omega), yI_i _ _ (by omega), yI_i _ _ (by omega), yI_i _ _ (by omega), yI_z _ _ (by simp)]
            exact (hw.2 hi).1
        · rw [yI_z _ _ (by simp), yI_z _ _ (by simp), yI_z _ _ (by simp), yI_z _ _ (by simp), yI_z _ _ (by simp), yI_z _ _ (by simp)]
          exact (hw.2 hi).2
    have se := x_settle (k := k) (sCmd k c n h e v W) hk cB cE' (by rw [c10 5 (by decide), c10 8 (by decide)]; exact h1) (by rw [c10 8 (by decide), c7]; omega) (by rw [c10 5 (by decide), c7]; omega) (by rw [cN]; exact hN) (by rw [cN]; exact h4)
    have s7 : (sSettle k (sCmd k c n h e v W)).1 (10, 0, k) 7 = W.1 (10, 0, k) 7 + 1 := by
      unfold sSettle
      split
      · exact c7
      · rw [sAdv_1, if_neg (by simp), c7]
    rw [eC] at se s7 ⊢
    simp (disch := omega) only [fW_addCommand, gr1, a0, a1, a2, a3, a4, a5, u0, u1, u2, u3, u4, u5, se, s7, z_let, z_bde, yRd, yI_z, yI_at, Prod.mk.injEq, Nat.reduceEqDiff, false_and, if_false, and_false, nI_clamp, nI_inz, if_true, if_pos, if_neg, yM1]
  · rw [if_neg c0]
    simp (disch := omega) only [fW_addCommand, gr.2 c0, z_let, z_bde, yRd, yWr, nI_1, nI_add, nI_pred, yCmp, yCq, nI_leI, nI_ltI, nI_eq, yQ, nI_clamp, nI_inz, if_pos, if_neg, yI_at, yCp_at, yRow_1, yR_1, Prod.mk.injEq, and_true, true_and, and_self, false_and, and_false, if_true, if_false, ne_eq, not_true_eq_false, not_false_eq_true, yLit, Nat.succ_ne_zero, reduceCtorEq, Nat.reduceEqDiff, ↓reduceIte]
