/-! deliver, by numbers: append, and all of it -/
theorem yEn_I {W : yW} {z : zJ} {i v : Nat} (h : yEn W) (h1 : z.1 ≠ 11) (h2 : z.1 ≠ 21) : yEn (yI W z i v) := fun w k j => by
  rw [yI_z _ _ (fun e => h1 (by rw [← e])), yI_z _ _ (fun e => h2 (by rw [← e]))]
  exact h w k j
theorem yEn_Cp {W : yW} {a b : zJ} {p q n : Nat} (h : yEn W) (ha : a.1 = 11 ∨ a.1 = 21) (hb : b.1 = 11 ∨ b.1 = 21) (h1 : p % 6 = 0) (h2 : q % 6 = 0) : yEn (yCp W a b p q n) := fun w k j => by
  have g : ∀ (t : Nat), (t = 11 ∨ t = 21) → ∀ i, (i % 6 = 1 → (W.1 (t, a.2.1, a.2.2) i < 6)) ∧ (i % 6 = 4 → (W.1 (t, a.2.1, a.2.2) i < 8)) := fun t ht i => by
    rcases ht with rfl | rfl
    · exact ⟨fun e => ((h _ _ i).1 e).1, fun e => ((h _ _ i).2 e).1⟩
    · exact ⟨fun e => ((h _ _ i).1 e).2, fun e => ((h _ _ i).2 e).2⟩
  have ga := g a.1 ha
  have hj := h w k j
  have key : ∀ z : zJ, (q ≤ j ∧ j < q + n → (j % 6 = 1 → W.1 a (p + (j - q)) < 6) ∧ (j % 6 = 4 → W.1 a (p + (j - q)) < 8)) := fun z hq => ⟨fun e => (ga _).1 (by omega), fun e => (ga _).2 (by omega)⟩
  refine ⟨fun e => ⟨?_, ?_⟩, fun e => ⟨?_, ?_⟩⟩ <;> rw [yCp_at] <;> split
  · rename_i c; exact (key b c.2).1 e
  · exact (hj.1 e).1
  · rename_i c; exact (key b c.2).1 e
  · exact (hj.1 e).2
  · rename_i c; exact (key b c.2).2 e
  · exact (hj.2 e).1
  · rename_i c; exact (key b c.2).2 e
  · exact (hj.2 e).2
theorem yEn_Cs {W : yW} {a b : zJ} {p q n : Nat} (h : yEn W) (h1 : b.1 ≠ 11) (h2 : b.1 ≠ 21) : yEn (yCp W a b p q n) := fun w k j => by
  rw [yCp_at, yCp_at, if_neg (fun e => h1 (by rw [← e.1])), if_neg (fun e => h2 (by rw [← e.1]))]
  exact h w k j
theorem sEnt_inv (k : Nat) : ∀ (m r i b : Nat) (W : yW), (∀ z j, W.1 z j < b) → yEn W → W.1 (10, 0, k) 8 ≤ W.1 (10, 0, k) 7 → W.1 (10, 0, k) 7 ≤ W.1 (10, 0, k) 5 + 40 →
    (∀ z j, (sEnt k m r i W).2.1 z j < b + m) ∧ yEn (sEnt k m r i W).2 ∧ (∀ (z : zJ) j, z ≠ (11, 0, k) → ¬ (z = (10, 0, k) ∧ j = 7) → (sEnt k m r i W).2.1 z j = W.1 z j) ∧ W.1 (10, 0, k) 8 ≤ (sEnt k m r i W).2.1 (10, 0, k) 7 ∧ (sEnt k m r i W).2.1 (10, 0, k) 7 ≤ W.1 (10, 0, k) 5 + 40 ∧ r ≤ (sEnt k m r i W).1 ∧ (sEnt k m r i W).1 ≤ r + m ∧ (sEnt k m r i W).2.2 = (sEnt k m r i W).2.2 := by
  intro m
  induction m with
  | zero => intro r i b W hB hE h1 h2; exact ⟨hB, hE, fun _ _ _ _ => rfl, h1, h2, Nat.le_refl _, Nat.le_refl _, rfl⟩
  | succ m ih =>
    intro r i b W hB hE h1 h2
    rw [sEnt]
    split
    · obtain ⟨a1, a2, a3, a4, a5, a6, a7, -⟩ := ih (r + 1) (i + 1) b W hB hE h1 h2
      exact ⟨fun z j => by have := a1 z j; omega, a2, a3, a4, a5, by omega, by omega, rfl⟩
    · have b7 := hB (10, 0, k) 7
      have hBc : ∀ z i, (sCut k (r + 1) W).1 z i < b := fun z i => by
        unfold sCut
        rw [yI_at]
        split
        · omega
        · exact hB z i
      have hEc : yEn (sCut k (r + 1) W) := yEn_I hE (by simp) (by simp)
      have c77 : (sCut k (r + 1) W).1 (10, 0, k) 7 = min (W.1 (10, 0, k) 7) (max r (W.1 (10, 0, k) 8)) := by
        unfold sCut
        rw [yI_s]
        rfl
      have c88 : (sCut k (r + 1) W).1 (10, 0, k) 8 = W.1 (10, 0, k) 8 := sCut_at (by omega)
      have c55 : (sCut k (r + 1) W).1 (10, 0, k) 5 = W.1 (10, 0, k) 5 := sCut_at (by omega)
      split
      · rename_i hlt
        have bc7 := hBc (10, 0, k) 7
        obtain ⟨a1, a2, a3, a4, a5, a6, a7, -⟩ := ih (r + 1) (i + 1) (b + 1) (yCp (yI (sCut k (r + 1) W) (10, 0, k) 7 ((sCut k (r + 1) W).1 (10, 0, k) 7 + 1)) (21, 0, 40) (11, 0, k) (6 * i) (6 * ((sCut k (r + 1) W).1 (10, 0, k) 7 - W.1 (10, 0, k) 5)) 6) (fun z j => by
          have q : ∀ z j, (yI (sCut k (r + 1) W) (10, 0, k) 7 ((sCut k (r + 1) W).1 (10, 0, k) 7 + 1)).1 z j < b + 1 := fun z j => by
            rw [yI_at]
            split
            · omega
            · have := hBc z j
              omega
          rw [yCp_at]
          split
          · exact q _ _
          · exact q _ _) (yEn_Cp (yEn_I hEc (by simp) (by simp)) (by simp) (by simp) (by omega) (by omega)) (by simp only [yI_at, yCp_at, yRow_1, yR_1, Prod.mk.injEq, and_true, true_and, and_self, false_and, and_false, if_true, if_false, ne_eq, not_true_eq_false, not_false_eq_true, yLit, Nat.succ_ne_zero, reduceCtorEq, Nat.reduceEqDiff, ↓reduceIte]; rw [c88, c77]; omega) (by simp only [yI_at, yCp_at, yRow_1, yR_1, Prod.mk.injEq, and_true, true_and, and_self, false_and, and_false, if_true, if_false, ne_eq, not_true_eq_false, not_false_eq_true, yLit, Nat.succ_ne_zero, reduceCtorEq, Nat.reduceEqDiff, ↓reduceIte]; rw [c55]; omega)
        simp only [yI_at, yCp_at, yRow_1, yR_1, Prod.mk.injEq, and_true, true_and, and_self, false_and, and_false, if_true, if_false, ne_eq, not_true_eq_false, not_false_eq_true, yLit, Nat.succ_ne_zero, reduceCtorEq, Nat.reduceEqDiff, ↓reduceIte] at a4 a5
        rw [c88] at a4
        rw [c55] at a5
        refine ⟨fun z j => by have := a1 z j; omega, a2, fun z j z1 z2 => ?_, a4, a5, by omega, by omega, rfl⟩
        rw [a3 z j z1 z2, yCp_at, if_neg (fun e => z1 e.1), yI_n _ _ z2, sCut_at z2]
      · exact ⟨fun z j => by have := hBc z j; show (sCut k (r + 1) W).1 z j < _; omega, hEc, fun z j z1 z2 => sCut_at z2, by show W.1 (10, 0, k) 8 ≤ (sCut k (r + 1) W).1 (10, 0, k) 7; rw [c77]; omega, by show (sCut k (r + 1) W).1 (10, 0, k) 7 ≤ _; rw [c77]; omega, Nat.le_refl _, by show r ≤ _; omega, rfl⟩
theorem sAdv_1 (k : Nat) : ∀ (m : Nat) (W : yW) (z : zJ) (i : Nat), (sAdv k m W).1 z i = if z = (10, 0, k) ∧ i = 8 then W.1 (10, 0, k) 8 + m else W.1 z i := by
  intro m
  induction m with
  | zero =>
    intro W z i
    show W.1 z i = _
    split
    · rename_i h; rw [h.1, h.2]; rfl
    · rfl
  | succ m ih =>
    intro W z i
    rw [sAdv, ih, sAdv1_1]
    by_cases c : z = (10, 0, k) ∧ i = 8
    · rw [if_pos c, if_pos c, yI_s]
      omega
    · rw [if_neg c, if_neg c, yI_n _ _ c]
def sNo (k : Nat) (W : yW) : Prop := W.1 (10, 0, k) 7 < W.1 (20, 0, 40) 4 ∨ (W.1 (10, 0, k) 5 < W.1 (20, 0, 40) 4 ∧ sTm W k (W.1 (20, 0, 40) 4) ≠ W.1 (20, 0, 40) 5)
/-- entries, and what is done by them; how far -/
def sApp (k : Nat) (W : yW) : Nat × yW :=
  let p := sEnt k (W.1 (20, 0, 40) 6) (W.1 (20, 0, 40) 4) 0 W
  (p.1, sAdv k (min (min (W.1 (20, 0, 40) 7) p.1) (p.2.1 (10, 0, k) 7) - W.1 (10, 0, k) 8) p.2)
theorem sEmp_c {W W' : yW} (h : ∀ s, W'.1 (20, 0, s) 0 = W.1 (20, 0, s) 0) : sEmp W' = sEmp W := by
  unfold sEmp
  simp only [h]
theorem x_takeAppend {k : Nat} (W : yW) (hk : k < 7) (hB : ∀ z i, W.1 z i < 40000) (hE : yEn W) (hr : W.1 (20, 0, 40) 2 = k) (h1 : W.1 (10, 0, k) 5 ≤ W.1 (10, 0, k) 8) (h2 : W.1 (10, 0, k) 8 ≤ W.1 (10, 0, k) 7) (h3 : W.1 (10, 0, k) 7 ≤ W.1 (10, 0, k) 5 + 40) (h6 : W.1 (20, 0, 40) 6 ≤ 5) :
    (sNo k W → fW_takeAppend 0 0 k 0 40 (cE W) = some (if sEmp W = none then 0 else 1, cE (sReply 3 0 (min ((sCut k (W.1 (20, 0, 40) 4) W).1 (10, 0, k) 7) (W.1 (20, 0, 40) 4 - 1)) (sCut k (W.1 (20, 0, 40) 4) W)))) ∧
    (¬ sNo k W → fW_takeAppend 0 0 k 0 40 (cE W) = some (if sEmp W = none then 0 else 1, cE (sReply 3 1 (sApp k W).1 (sApp k W).2))) := by
  have hB5 : ∀ z i, W.1 z i < 50000 := fun z i => by have := hB z i; omega
  have hB' : ∀ z i, W.1 z i < 100000 := fun z i => by have := hB z i; omega
  have b4 := hB (20, 0, 40) 4
  have b5 := hB (20, 0, 40) 5
  have b27 := hB (20, 0, 40) 7
  have b7 := hB (10, 0, k) 7
  have b8 := hB (10, 0, k) 8
  have b55 := hB (10, 0, k) 5
  -- no
  have no : 1 ≤ W.1 (20, 0, 40) 4 → fW_takeAppend_33 0 0 k 0 40 (nI (W.1 (20, 0, 40) 4)) (cE W) = some (if sEmp W = none then 0 else 1, cE (sReply 3 0 (min ((sCut k (W.1 (20, 0, 40) 4) W).1 (10, 0, k) 7) (W.1 (20, 0, 40) 4 - 1)) (sCut k (W.1 (20, 0, 40) 4) W))) := fun hp => by
    have hBc : ∀ z i, (sCut k (W.1 (20, 0, 40) 4) W).1 z i < 50000 := fun z i => by
      unfold sCut
      rw [yI_at]
      split
      · omega
      · exact hB5 z i
    have bc7 := hBc (10, 0, k) 7
    have re := x_reply (kd := 3) (y := 0) (n := min ((sCut k (W.1 (20, 0, 40) 4) W).1 (10, 0, k) 7) (W.1 (20, 0, 40) 4 - 1)) (sCut k (W.1 (20, 0, 40) 4) W) (fun z i => by have := hBc z i; omega) (by rw [sCut_at (by simp)]; omega) (by decide)
    rw [show nI 3 = 3 from by decide +kernel, nI_0, sEmp_c (fun s => sCut_at (by simp))] at re
    simp (disch := omega) only [fW_takeAppend_33, x_cut W hB5 hp (show W.1 (20, 0, 40) 4 < 100000 by omega), y_sub1 hp, z_bde, yRd, nI_ltI, y_min, yCmp, y_max0, re]
  have yes : fW_takeAppend_60 0 0 k 0 40 (cE W) = some (if sEmp W = none then 0 else 1, cE (sReply 3 1 (sApp k W).1 (sApp k W).2)) := by
    have en := x_entries (k := k) (b := 40000) W hk hB (by decide) h1 h2 h3 h6
    obtain ⟨a1, a2, a3, a4, a5, a6, a7, -⟩ := sEnt_inv k (W.1 (20, 0, 40) 6) (W.1 (20, 0, 40) 4) 0 40000 W hB hE h2 h3
    unfold sApp
    dsimp only
    generalize sEnt k (W.1 (20, 0, 40) 6) (W.1 (20, 0, 40) 4) 0 W = p at en a1 a2 a3 a4 a5 a6 a7 ⊢
    have p20 : ∀ s j, p.2.1 (20, 0, s) j = W.1 (20, 0, s) j := fun s j => a3 _ _ (by simp) (by simp)
    have p5 : p.2.1 (10, 0, k) 5 = W.1 (10, 0, k) 5 := a3 _ _ (by simp) (by simp)
    have p8 : p.2.1 (10, 0, k) 8 = W.1 (10, 0, k) 8 := a3 _ _ (by simp) (by simp)
    have hBp : ∀ z j, p.2.1 z j < 50000 := fun z j => by have := a1 z j; omega
    have ad := x_adv (k := k) (e := min (W.1 (20, 0, 40) 7) p.1) p.2 (by omega) hBp a2 (by rw [p5, p8]; exact h1) (by rw [p8]; exact a4) (by rw [p5]; exact a5)
    rw [p8] at ad
    have hBa : ∀ z j, (sAdv k (min (min (W.1 (20, 0, 40) 7) p.1) (p.2.1 (10, 0, k) 7) - W.1 (10, 0, k) 8) p.2).1 z j < 100000 := fun z j => by
      rw [sAdv_1]
      have := hBp z j
      split
      · rw [p8]; omega
      · omega
    have re := x_reply (kd := 3) (y := 1) (n := p.1) (sAdv k (min (min (W.1 (20, 0, 40) 7) p.1) (p.2.1 (10, 0, k) 7) - W.1 (10, 0, k) 8) p.2) hBa (by rw [sAdv_1, if_neg (by simp), p20]; omega) (by decide)
    rw [show nI 1 = 1 from by decide +kernel, show nI 3 = 3 from by decide +kernel, sEmp_c (W := W) (fun s => by rw [sAdv_1, if_neg (by simp), p20])] at re
    simp (disch := omega) only [fW_takeAppend_60, en, z_bde, yRd, p20, nI_ltI, y_min, ad, re]
  unfold sNo
  refine ⟨fun h => ?_, fun h => ?_⟩
  · by_cases c : W.1 (10, 0, k) 7 < W.1 (20, 0, 40) 4
    · simp (disch := omega) only [fW_takeAppend, c, no (show 1 ≤ W.1 (20, 0, 40) 4 by omega), z_let, z_bde, yRd, yWr, nI_1, nI_add, nI_pred, yCmp, yCq, nI_leI, nI_ltI, nI_eq, yQ, nI_clamp, nI_inz, if_pos, if_neg, yI_at, yCp_at, yRow_1, yR_1, Prod.mk.injEq, and_true, true_and, and_self, false_and, and_false, if_true, if_false, ne_eq, not_true_eq_false, not_false_eq_true, yLit, Nat.succ_ne_zero, reduceCtorEq, Nat.reduceEqDiff, ↓reduceIte]
    · have c2 : W.1 (10, 0, k) 5 < W.1 (20, 0, 40) 4 ∧ sTm W k (W.1 (20, 0, 40) 4) ≠ W.1 (20, 0, 40) 5 := by
        rcases h with h | h
        · exact absurd h c
        · exact h
      have tm := x_term (k := k) (e := W.1 (20, 0, 40) 4) W hB' (by omega) (by omega) (by omega)
      have tb := sTm_B (W := W) (k := k) (e := W.1 (20, 0, 40) 4) hB'
      simp (disch := omega) only [fW_takeAppend, c, c2.2, tm, no (show 1 ≤ W.1 (20, 0, 40) 4 by omega), z_let, z_bde, yRd, yWr, nI_1, nI_add, nI_pred, yCmp, yCq, nI_leI, nI_ltI, nI_eq, yQ, nI_clamp, nI_inz, if_pos, if_neg, yI_at, yCp_at, yRow_1, yR_1, Prod.mk.injEq, and_true, true_and, and_self, false_and, and_false, if_true, if_false, ne_eq, not_true_eq_false, not_false_eq_true, yLit, Nat.succ_ne_zero, reduceCtorEq, Nat.reduceEqDiff, ↓reduceIte]
  · have c : ¬ W.1 (10, 0, k) 7 < W.1 (20, 0, 40) 4 := fun c => h (Or.inl c)
    by_cases c2 : W.1 (20, 0, 40) 4 ≤ W.1 (10, 0, k) 5
    · simp (disch := omega) only [fW_takeAppend, c, c2, yes, z_let, z_bde, yRd, yWr, nI_1, nI_add, nI_pred, yCmp, yCq, nI_leI, nI_ltI, nI_eq, yQ, nI_clamp, nI_inz, if_pos, if_neg, yI_at, yCp_at, yRow_1, yR_1, Prod.mk.injEq, and_true, true_and, and_self, false_and, and_false, if_true, if_false, ne_eq, not_true_eq_false, not_false_eq_true, yLit, Nat.succ_ne_zero, reduceCtorEq, Nat.reduceEqDiff, ↓reduceIte]
    · have c3 : sTm W k (W.1 (20, 0, 40) 4) = W.1 (20, 0, 40) 5 := by
        by_cases e : sTm W k (W.1 (20, 0, 40) 4) = W.1 (20, 0, 40) 5
        · exact e
        · exact absurd (Or.inr ⟨by omega, e⟩) h
      have tm := x_term (k := k) (e := W.1 (20, 0, 40) 4) W hB' (by omega) (by omega) (by omega)
      simp (disch := omega) only [fW_takeAppend, c, c2, c3, tm, yes, z_let, z_bde, yRd, yWr, nI_1, nI_add, nI_pred, yCmp, yCq, nI_leI, nI_ltI, nI_eq, yQ, nI_clamp, nI_inz, if_pos, if_neg, yI_at, yCp_at, yRow_1, yR_1, Prod.mk.injEq, and_true, true_and, and_self, false_and, and_false, if_true, if_false, ne_eq, not_true_eq_false, not_false_eq_true, yLit, Nat.succ_ne_zero, reduceCtorEq, Nat.reduceEqDiff, ↓reduceIte]
def sLdr (k : Nat) (W : yW) : yW := if W.1 (20, 0, 40) 0 = 5 then sReply 3 1 (W.1 (20, 0, 40) 4) (sFold k W) else if W.1 (10, 0, k) 7 < W.1 (20, 0, 40) 4 ∨ (W.1 (10, 0, k) 5 < W.1 (20, 0, 40) 4 ∧ sTm W k (W.1 (20, 0, 40) 4) ≠ W.1 (20, 0, 40) 5) then sReply 3 0 (min ((sCut k (W.1 (20, 0, 40) 4) W).1 (10, 0, k) 7) (W.1 (20, 0, 40) 4 - 1)) (sCut k (W.1 (20, 0, 40) 4) W) else sReply 3 1 (sApp k W).1 (sApp k W).2
def sFromL (k : Nat) (W : yW) : yW := if W.1 (20, 0, 40) 3 < W.1 (10, 0, k) 2 then sReply 3 0 0 W else if W.1 (10, 0, k) 4 = 2 then W else sLdr k (sFollow k W)
theorem x_fromLeader {k : Nat} (W : yW) (hk : k < 7) (hB : ∀ z i, W.1 z i < 40000) (hE : yEn W) (hr : W.1 (20, 0, 40) 2 = k) (h1 : W.1 (10, 0, k) 5 ≤ W.1 (10, 0, k) 8) (h2 : W.1 (10, 0, k) 8 ≤ W.1 (10, 0, k) 7) (h3 : W.1 (10, 0, k) 7 ≤ W.1 (10, 0, k) 5 + 40) (h6 : W.1 (20, 0, 40) 6 ≤ 5) : fW_takeFromLeader 0 0 k 0 40 (cE W) = some (if W.1 (20, 0, 40) 3 < W.1 (10, 0, k) 2 ∨ W.1 (10, 0, k) 4 ≠ 2 then (if sEmp W = none then 0 else 1) else 0, cE (sFromL k W)) := by
  have b3 := hB (20, 0, 40) 3
  have b2 := hB (10, 0, k) 2
  have b4 := hB (10, 0, k) 4
  have b0 := hB (20, 0, 40) 0
  unfold sFromL
  by_cases c1 : W.1 (20, 0, 40) 3 < W.1 (10, 0, k) 2
  · have re := x_reply (kd := 3) (y := 0) (n := 0) W (fun z i => by have := hB z i; omega) (by omega) (by decide)
    rw [show nI 3 = 3 from by decide +kernel, nI_0] at re
    simp (disch := omega) only [fW_takeFromLeader, c1, re, true_or, z_let, z_bde, yRd, yWr, nI_1, nI_add, nI_pred, yCmp, yCq, nI_leI, nI_ltI, nI_eq, yQ, nI_clamp, nI_inz, if_pos, if_neg, yI_at, yCp_at, yRow_1, yR_1, Prod.mk.injEq, and_true, true_and, and_self, false_and, and_false, if_true, if_false, ne_eq, not_true_eq_false, not_false_eq_true, yLit, Nat.succ_ne_zero, reduceCtorEq, Nat.reduceEqDiff, ↓reduceIte]
  · by_cases c2 : W.1 (10, 0, k) 4 = 2
    · simp (disch := omega) only [fW_takeFromLeader, c1, c2, false_or, z_let, z_bde, yRd, yWr, nI_1, nI_add, nI_pred, yCmp, yCq, nI_leI, nI_ltI, nI_eq, yQ, nI_clamp, nI_inz, if_pos, if_neg, yI_at, yCp_at, yRow_1, yR_1, Prod.mk.injEq, and_true, true_and, and_self, false_and, and_false, if_true, if_false, ne_eq, not_true_eq_false, not_false_eq_true, yLit, Nat.succ_ne_zero, reduceCtorEq, Nat.reduceEqDiff, ↓reduceIte]
    · have fB : ∀ z i, (sFollow k W).1 z i < 40000 := fun z i => by
        unfold sFollow
        rw [yI_at]
        split
        · decide
        · rw [yI_at]
          split
          · decide
          · rw [yI_at]
            split
            · decide
            · exact hB z i
      have f20 : ∀ s j, (sFollow k W).1 (20, 0, s) j = W.1 (20, 0, s) j := fun s j => by
        unfold sFollow
        simp only [yI_at, yCp_at, yRow_1, yR_1, Prod.mk.injEq, and_true, true_and, and_self, false_and, and_false, if_true, if_false, ne_eq, not_true_eq_false, not_false_eq_true, yLit, Nat.succ_ne_zero, reduceCtorEq, Nat.reduceEqDiff, ↓reduceIte]
      have f10 : ∀ j, j = 5 ∨ j = 7 ∨ j = 8 → (sFollow k W).1 (10, 0, k) j = W.1 (10, 0, k) j := fun j hj => by
        unfold sFollow
        rw [yI_i _ _ (by omega), yI_i _ _ (by omega), yI_i _ _ (by omega)]
      have fE : yEn (sFollow k W) := yEn_I (yEn_I (yEn_I hE (by simp) (by simp)) (by simp) (by simp)) (by simp) (by simp)
      have fS : sEmp (sFollow k W) = sEmp W := sEmp_c (W := W) (fun s => f20 s 0)
      have e1 := f10 5 (by omega)
      have e2 := f10 7 (by omega)
      have e3 := f10 8 (by omega)
      have ap := x_takeAppend (k := k) (sFollow k W) hk fB fE (by rw [f20]; exact hr) (by omega) (by omega) (by omega) (by rw [f20]; exact h6)
      have fo := x_takeFolding (k := k) (sFollow k W) hk (fun z i => by have := fB z i; omega) (by rw [f20]; exact hr) (by omega) (by omega)
      rw [sEmp_c (W := W) (W' := sFold k (sFollow k W)) (fun s => by rw [sFold_at (by simp) (by simp) (by simp) (by simp), f20])] at fo
      rw [fS] at ap
      unfold sNo at ap
      rw [if_neg c1, if_neg c2, if_pos (Or.inr c2)]
      by_cases c3 : W.1 (20, 0, 40) 0 = 5
      · have el : sLdr k (sFollow k W) = sReply 3 1 ((sFollow k W).1 (20, 0, 40) 4) (sFold k (sFollow k W)) := if_pos (by rw [f20]; exact c3)
        rw [el]
        simp (disch := omega) only [fW_takeFromLeader, c1, c2, c3, x_follow, fo, f20, yV3, z_let, z_bde, yRd, yWr, nI_1, nI_add, nI_pred, yCmp, yCq, nI_leI, nI_ltI, nI_eq, yQ, nI_clamp, nI_inz, if_pos, if_neg, yI_at, yCp_at, yRow_1, yR_1, Prod.mk.injEq, and_true, true_and, and_self, false_and, and_false, if_true, if_false, ne_eq, not_true_eq_false, not_false_eq_true, yLit, Nat.succ_ne_zero, reduceCtorEq, Nat.reduceEqDiff, ↓reduceIte]
      · by_cases c4 : (sFollow k W).1 (10, 0, k) 7 < (sFollow k W).1 (20, 0, 40) 4 ∨ ((sFollow k W).1 (10, 0, k) 5 < (sFollow k W).1 (20, 0, 40) 4 ∧ sTm (sFollow k W) k ((sFollow k W).1 (20, 0, 40) 4) ≠ (sFollow k W).1 (20, 0, 40) 5)
        · rw [show sLdr k (sFollow k W) = sReply 3 0 (min ((sCut k ((sFollow k W).1 (20, 0, 40) 4) (sFollow k W)).1 (10, 0, k) 7) ((sFollow k W).1 (20, 0, 40) 4 - 1)) (sCut k ((sFollow k W).1 (20, 0, 40) 4) (sFollow k W)) from (if_neg (show ¬ (sFollow k W).1 (20, 0, 40) 0 = 5 by rw [f20]; exact c3)).trans (if_pos c4)]
          have q := ap.1 c4
          simp only [f20] at q
          simp (disch := omega) only [fW_takeFromLeader, c1, c2, c3, x_follow, q, f20, yV3, z_let, z_bde, yRd, yWr, nI_1, nI_add, nI_pred, yCmp, yCq, nI_leI, nI_ltI, nI_eq, yQ, nI_clamp, nI_inz, if_pos, if_neg, yI_at, yCp_at, yRow_1, yR_1, Prod.mk.injEq, and_true, true_and, and_self, false_and, and_false, if_true, if_false, ne_eq, not_true_eq_false, not_false_eq_true, yLit, Nat.succ_ne_zero, reduceCtorEq, Nat.reduceEqDiff, ↓reduceIte]
        · rw [show sLdr k (sFollow k W) = sReply 3 1 (sApp k (sFollow k W)).1 (sApp k (sFollow k W)).2 from (if_neg (show ¬ (sFollow k W).1 (20, 0, 40) 0 = 5 by rw [f20]; exact c3)).trans (if_neg c4)]
          have q := ap.2 c4
          simp (disch := omega) only [fW_takeFromLeader, c1, c2, c3, x_follow, q, f20, yV3, z_let, z_bde, yRd, yWr, nI_1, nI_add, nI_pred, yCmp, yCq, nI_leI, nI_ltI, nI_eq, yQ, nI_clamp, nI_inz, if_pos, if_neg, yI_at, yCp_at, yRow_1, yR_1, Prod.mk.injEq, and_true, true_and, and_self, false_and, and_false, if_true, if_false, ne_eq, not_true_eq_false, not_false_eq_true, yLit, Nat.succ_ne_zero, reduceCtorEq, Nat.reduceEqDiff, ↓reduceIte]
/-- a letter in hand comes to keeper k, whose term is not below the letter's; what k answers -/
def sGets (k : Nat) (W : yW) : yW :=
  if W.1 (20, 0, 40) 0 = 1 then (if (W.1 (10, 0, k) 3 = 0 ∨ W.1 (10, 0, k) 3 = W.1 (20, 0, 40) 1 + 1) ∧ W.1 (10, 0, k) 0 ≠ 0 ∧ W.1 (10, 0, k) 2 = W.1 (20, 0, 40) 3 ∧ ¬ (W.1 (20, 0, 40) 5 < sTm W k (W.1 (10, 0, k) 7) ∨ (sTm W k (W.1 (10, 0, k) 7) = W.1 (20, 0, 40) 5 ∧ W.1 (20, 0, 40) 4 < W.1 (10, 0, k) 7)) then sReply 1 1 0 (yI W (10, 0, k) 3 (W.1 (20, 0, 40) 1 + 1)) else sReply 1 0 0 W)
  else if W.1 (20, 0, 40) 0 = 2 then sBallot k W
  else if W.1 (20, 0, 40) 0 = 4 then (if W.1 (10, 0, k) 4 = 2 ∧ W.1 (10, 0, k) 2 = W.1 (20, 0, 40) 3 then sSettle k (sAns k (sHd k W)) else W)
  else sFromL k W
def sGetsR (k : Nat) (W : yW) : Int32 :=
  if W.1 (20, 0, 40) 0 = 1 then (if sEmp W = none then 0 else 1)
  else if W.1 (20, 0, 40) 0 = 2 ∨ W.1 (20, 0, 40) 0 = 4 then 0
  else if W.1 (20, 0, 40) 3 < W.1 (10, 0, k) 2 ∨ W.1 (10, 0, k) 4 ≠ 2 then (if sEmp W = none then 0 else 1) else 0
theorem x_gets {k : Nat} (W : yW) (hk : k < 7) (hB : ∀ z i, W.1 z i < 40000) (hE : yEn W) (hr : W.1 (20, 0, 40) 2 = k) (hs : W.1 (20, 0, 40) 1 < 7) (h1 : W.1 (10, 0, k) 5 ≤ W.1 (10, 0, k) 8) (h2 : W.1 (10, 0, k) 8 ≤ W.1 (10, 0, k) 7) (h3 : W.1 (10, 0, k) 7 ≤ W.1 (10, 0, k) 5 + 40) (h6 : W.1 (20, 0, 40) 6 ≤ 5) (h9 : W.1 (10, 0, k) 9 < 128) (hN : W.1 (0, 0, 0) 3 ≤ 7) (h4 : W.1 (0, 0, 0) 4 ≤ 7) (hn : W.1 (10, 0, k) 4 = 2 → 1 ≤ W.1 (16, 0, k) (W.1 (20, 0, 40) 1)) (h0 : W.1 (20, 0, 40) 0 ≠ 0) (h5 : W.1 (20, 0, 40) 0 ≤ 5) : fW_deliverFrom_62 0 40 k (cE W) = some (sGetsR k W, cE (sGets k W)) := by
  have hB5 : ∀ z i, W.1 z i < 50000 := fun z i => by have := hB z i; omega
  have ta := x_takeAsk (k := k) W hB5 (by omega) (by omega) h3
  have tb := x_takeBallot (k := k) W hB5 hs h9 h4
  have tn := x_takeAnswer (k := k) W hk hB hE hr hs h1 h2 h3 hN h4 hn
  have tl := x_fromLeader (k := k) W hk hB hE hr h1 h2 h3 h6
  unfold sVoteC sAhead at ta
  unfold sGets sGetsR
  by_cases c1 : W.1 (20, 0, 40) 0 = 1
  · by_cases c : (W.1 (10, 0, k) 3 = 0 ∨ W.1 (10, 0, k) 3 = W.1 (20, 0, 40) 1 + 1) ∧ W.1 (10, 0, k) 0 ≠ 0 ∧ W.1 (10, 0, k) 2 = W.1 (20, 0, 40) 3 ∧ ¬ (W.1 (20, 0, 40) 5 < sTm W k (W.1 (10, 0, k) 7) ∨ (sTm W k (W.1 (10, 0, k) 7) = W.1 (20, 0, 40) 5 ∧ W.1 (20, 0, 40) 4 < W.1 (10, 0, k) 7))
    · rw [if_pos c1, if_pos c1, if_pos c]
      simp (disch := omega) only [fW_deliverFrom_62, c1, ta.1 c, yV3, z_let, z_bde, yRd, yWr, nI_1, nI_add, nI_pred, yI_at, yCp_at, yRow_1, yR_1, Prod.mk.injEq, and_true, true_and, and_self, false_and, and_false, if_true, if_false, ne_eq, not_true_eq_false, not_false_eq_true, yLit, Nat.succ_ne_zero, reduceCtorEq, Nat.reduceEqDiff, ↓reduceIte]
    · rw [if_pos c1, if_pos c1, if_neg c]
      simp (disch := omega) only [fW_deliverFrom_62, c1, ta.2 c, yV3, z_let, z_bde, yRd, yWr, nI_1, nI_add, nI_pred, yI_at, yCp_at, yRow_1, yR_1, Prod.mk.injEq, and_true, true_and, and_self, false_and, and_false, if_true, if_false, ne_eq, not_true_eq_false, not_false_eq_true, yLit, Nat.succ_ne_zero, reduceCtorEq, Nat.reduceEqDiff, ↓reduceIte]
  rw [if_neg c1, if_neg c1]
  by_cases c2 : W.1 (20, 0, 40) 0 = 2
  · rw [if_pos c2, if_pos (Or.inl c2)]
    simp (disch := omega) only [fW_deliverFrom_62, c2, tb, yV3, z_let, z_bde, yRd, yWr, nI_1, nI_add, nI_pred, yI_at, yCp_at, yRow_1, yR_1, Prod.mk.injEq, and_true, true_and, and_self, false_and, and_false, if_true, if_false, ne_eq, not_true_eq_false, not_false_eq_true, yLit, Nat.succ_ne_zero, reduceCtorEq, Nat.reduceEqDiff, ↓reduceIte]
  rw [if_neg c2]
  by_cases c4 : W.1 (20, 0, 40) 0 = 4
  · rw [if_pos c4, if_pos (Or.inr c4)]
    simp (disch := omega) only [fW_deliverFrom_62, c4, tn, yV3, z_let, z_bde, yRd, yWr, nI_1, nI_add, nI_pred, yI_at, yCp_at, yRow_1, yR_1, Prod.mk.injEq, and_true, true_and, and_self, false_and, and_false, if_true, if_false, ne_eq, not_true_eq_false, not_false_eq_true, yLit, Nat.succ_ne_zero, reduceCtorEq, Nat.reduceEqDiff, ↓reduceIte]
  rw [if_neg c4, if_neg (fun h => by rcases h with h | h <;> contradiction)]
  by_cases c3 : W.1 (20, 0, 40) 0 = 3
  · simp (disch := omega) only [fW_deliverFrom_62, c3, tl, yV3, z_let, z_bde, yRd, yWr, nI_1, nI_add, nI_pred, yI_at, yCp_at, yRow_1, yR_1, Prod.mk.injEq, and_true, true_and, and_self, false_and, and_false, if_true, if_false, ne_eq, not_true_eq_false, not_false_eq_true, yLit, Nat.succ_ne_zero, reduceCtorEq, Nat.reduceEqDiff, ↓reduceIte]
  · have c5 : W.1 (20, 0, 40) 0 = 5 := by omega
    simp (disch := omega) only [fW_deliverFrom_62, c5, tl, yV3, z_let, z_bde, yRd, yWr, nI_1, nI_add, nI_pred, yI_at, yCp_at, yRow_1, yR_1, Prod.mk.injEq, and_true, true_and, and_self, false_and, and_false, if_true, if_false, ne_eq, not_true_eq_false, not_false_eq_true, yLit, Nat.succ_ne_zero, reduceCtorEq, Nat.reduceEqDiff, ↓reduceIte]
