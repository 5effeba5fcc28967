/-! what the model writes, by numbers -/
theorem yc_I11 (W : yW) (w k f v : Nat) (j : Nat) : (cE (yI W (10, w, k) f v)).1 (11, w, k) j = (cE W).1 (11, w, k) j := by
  rw [cE_at, cE_at, yI_z _ _ (by simp)]
  rfl
theorem mK_put {B : Nat → Int32} {W : yW} {w k g f v : Nat} {x : Int32} (h : mK B W w k) (hp : (g = 0 ∧ f = 2 ∧ x = nI v) ∨ (g = 1 ∧ f = 3 ∧ x = iI ((v : Int) - 1)) ∨ (g = 3 ∧ f = 6 ∧ x = nI v) ∨ (g = 6 ∧ f = 8 ∧ x = nI v) ∨ (g = 9 ∧ f = 1 ∧ x = nI v) ∨ (g = 8 ∧ f = 10 ∧ x = nI v) ∨ (g = 7 ∧ f = 9 ∧ x = nI v)) : mK (upd B (320 * k + g) x) (yI W (10, w, k) f v) w k := by
  obtain ⟨⟨a1, a2, a3, a4, a5, a6, a7, a8⟩, b1, b2, b3, b4, b5⟩ := h
  have u : ∀ i, i ≠ 320 * k + g → upd B (320 * k + g) x i = B i := fun i hi => upd_n _ _ hi
  have us : upd B (320 * k + g) x (320 * k + g) = x := upd_s _ _ _
  have g10 : g < 10 := by omega
  have L1 : zl_lay (fun q => upd B (320 * k + g) x (320 * k + 10 + q)) (W.2.1 (13, w, k)) := zl_lay_c (fun q hq => u _ (by omega)) b4
  have L2 : zl_lay (fun q => upd B (320 * k + g) x (320 * k + 30 + q)) (W.2.1 (15, w, k)) := zl_lay_c (fun q hq => u _ (by omega)) b5
  have E1 : ∀ j, j < 6 * (W.1 (10, w, k) 7 - W.1 (10, w, k) 5) → upd B (320 * k + g) x (320 * k + 80 + j) = (cE W).1 (11, w, k) j := fun j hj => by rw [u _ (by omega)]; exact b3 j hj
  have R1 : W.1 (10, w, k) 4 = 2 → ∀ o, o < 7 → upd B (320 * k + g) x (320 * k + (50 + o)) = nI (W.1 (16, w, k) o) ∧ upd B (320 * k + g) x (320 * k + (57 + o)) = nI (W.1 (17, w, k) o) ∧ upd B (320 * k + g) x (320 * k + (64 + o)) = nI (W.1 (18, w, k) o) := fun e o ho => by
    rw [u _ (by omega), u _ (by omega), u _ (by omega)]
    exact (b2 e).2 o ho
  unfold mK
  simp only [yc_I11, yI_r]
  rcases hp with ⟨rfl, rfl, rfl⟩ | ⟨rfl, rfl, rfl⟩ | ⟨rfl, rfl, rfl⟩ | ⟨rfl, rfl, rfl⟩ | ⟨rfl, rfl, rfl⟩ | ⟨rfl, rfl, rfl⟩ | ⟨rfl, rfl, rfl⟩ <;> simp only [yI_at, yCp_at, yRow_1, yR_1, Prod.mk.injEq, and_true, true_and, and_self, false_and, and_false, if_true, if_false, ne_eq, not_true_eq_false, not_false_eq_true, yLit, Nat.succ_ne_zero, reduceCtorEq, Nat.reduceEqDiff, ↓reduceIte] <;> refine ⟨⟨?_, ?_, ?_, ?_, ?_, ?_, ?_, ?_⟩, fun e => ?_, fun e => ⟨?_, R1 e⟩, E1, L1, L2⟩ <;> first | exact us | (rw [u _ (by omega)]; first | assumption | exact b1 e | exact (b2 e).1)
theorem mK_role {B : Nat → Int32} {W : yW} {w k v : Nat} (h : mK B W w k) (h1 : v ≠ 0 → B (320 * k + 7) = nI (W.1 (10, w, k) 9)) (h2 : v ≠ 2) : mK (upd B (320 * k + 5) (nI v)) (yI W (10, w, k) 4 v) w k := by
  obtain ⟨⟨a1, a2, a3, a4, a5, a6, a7, a8⟩, b1, b2, b3, b4, b5⟩ := h
  have u : ∀ i, i ≠ 320 * k + 5 → upd B (320 * k + 5) (nI v) i = B i := fun i hi => upd_n _ _ hi
  unfold mK
  simp only [yc_I11, yI_r, yI_at, yCp_at, yRow_1, yR_1, Prod.mk.injEq, and_true, true_and, and_self, false_and, and_false, if_true, if_false, ne_eq, not_true_eq_false, not_false_eq_true, yLit, Nat.succ_ne_zero, reduceCtorEq, Nat.reduceEqDiff, ↓reduceIte]
  refine ⟨⟨?_, ?_, ?_, ?_, ?_, upd_s _ _ _, ?_, ?_⟩, fun e => ?_, fun e => absurd e h2, fun j hj => ?_, zl_lay_c (fun q hq => u _ (by omega)) b4, zl_lay_c (fun q hq => u _ (by omega)) b5⟩
  · rw [u _ (by omega)]; exact a1
  · rw [u _ (by omega)]; exact a2
  · rw [u _ (by omega)]; exact a3
  · rw [u _ (by omega)]; exact a4
  · rw [u _ (by omega)]; exact a5
  · rw [u _ (by omega)]; exact a7
  · rw [u _ (by omega)]; exact a8
  · rw [u _ (by omega)]; exact h1 e
  · rw [u _ (by omega)]; exact b3 j hj
theorem mK_last {B : Nat → Int32} {W : yW} {w k v : Nat} (h : mK B W w k) (h1 : ∀ j, j < 6 * (v - W.1 (10, w, k) 5) → B (320 * k + 80 + j) = (cE W).1 (11, w, k) j) : mK (upd B (320 * k + 4) (nI v)) (yI W (10, w, k) 7 v) w k := by
  obtain ⟨⟨a1, a2, a3, a4, a5, a6, a7, a8⟩, b1, b2, b3, b4, b5⟩ := h
  have u : ∀ i, i ≠ 320 * k + 4 → upd B (320 * k + 4) (nI v) i = B i := fun i hi => upd_n _ _ hi
  unfold mK
  simp only [yc_I11, yI_r, yI_at, yCp_at, yRow_1, yR_1, Prod.mk.injEq, and_true, true_and, and_self, false_and, and_false, if_true, if_false, ne_eq, not_true_eq_false, not_false_eq_true, yLit, Nat.succ_ne_zero, reduceCtorEq, Nat.reduceEqDiff, ↓reduceIte]
  refine ⟨⟨?_, ?_, ?_, ?_, upd_s _ _ _, ?_, ?_, ?_⟩, fun e => ?_, fun e => ⟨?_, fun o ho => ⟨?_, ?_, ?_⟩⟩, fun j hj => ?_, zl_lay_c (fun q hq => u _ (by omega)) b4, zl_lay_c (fun q hq => u _ (by omega)) b5⟩
  · rw [u _ (by omega)]; exact a1
  · rw [u _ (by omega)]; exact a2
  · rw [u _ (by omega)]; exact a3
  · rw [u _ (by omega)]; exact a4
  · rw [u _ (by omega)]; exact a6
  · rw [u _ (by omega)]; exact a7
  · rw [u _ (by omega)]; exact a8
  · rw [u _ (by omega)]; exact b1 e
  · rw [u _ (by omega)]; exact (b2 e).1
  · rw [u _ (by omega)]; exact ((b2 e).2 o ho).1
  · rw [u _ (by omega)]; exact ((b2 e).2 o ho).2.1
  · rw [u _ (by omega)]; exact ((b2 e).2 o ho).2.2
  · rw [u _ (by omega)]; exact h1 j hj
/-- what the model does not hold: ballots of one who follows, round of one who does not lead -/
theorem mK_gh {B : Nat → Int32} {W : yW} {w k f v : Nat} (h : mK B W w k) (hp : (f = 9 ∧ W.1 (10, w, k) 4 = 0) ∨ (f = 10 ∧ W.1 (10, w, k) 4 ≠ 2)) : mK B (yI W (10, w, k) f v) w k := by
  obtain ⟨⟨a1, a2, a3, a4, a5, a6, a7, a8⟩, b1, b2, b3, b4, b5⟩ := h
  unfold mK
  simp only [yc_I11, yI_r]
  rcases hp with ⟨rfl, e0⟩ | ⟨rfl, e0⟩
  · simp only [yI_at, yCp_at, yRow_1, yR_1, Prod.mk.injEq, and_true, true_and, and_self, false_and, and_false, if_true, if_false, ne_eq, not_true_eq_false, not_false_eq_true, yLit, Nat.succ_ne_zero, reduceCtorEq, Nat.reduceEqDiff, ↓reduceIte]
    exact ⟨⟨a1, a2, a3, a4, a5, a6, a7, a8⟩, fun e => absurd e0 e, b2, b3, b4, b5⟩
  · simp only [yI_at, yCp_at, yRow_1, yR_1, Prod.mk.injEq, and_true, true_and, and_self, false_and, and_false, if_true, if_false, ne_eq, not_true_eq_false, not_false_eq_true, yLit, Nat.succ_ne_zero, reduceCtorEq, Nat.reduceEqDiff, ↓reduceIte]
    exact ⟨⟨a1, a2, a3, a4, a5, a6, a7, a8⟩, b1, fun e => absurd e e0, b3, b4, b5⟩
section mwrite
variable {τ0 τ : zS} {W : yW} {k : Nat}
/-- keeper k's piece of the row is written -/
theorem mR_k {W' : yW} {r : Nat → Int32} (h : mR τ0 τ W) (a : yA W 0) (hk : k < W.1 (0, 0, 0) 3) (h1 : ∀ i, i < 320 * k ∨ 320 * k + 320 ≤ i → r i = al τ i) (h2 : ∀ z i, (z.2.2 ≠ k ∨ z.1 < 10 ∨ 20 ≤ z.1) → W'.1 z i = W.1 z i) (h3 : ∀ z : zJ, (z.2.2 ≠ k ∨ z.1 < 10 ∨ 20 ≤ z.1) → W'.2.1 z = W.2.1 z) (h0 : W'.1 (10, 0, k) 0 = W.1 (10, 0, k) 0) (hK : mK r W' 0 k) : mR τ0 (z_upR τ (103, 0, 0) r) W' := by
  have e1 : al (z_upR τ (103, 0, 0) r) = r := z_upR_s
  refine ⟨mS_c h.1 (fun z hz => (z_upR_o z hz).1) (fun f => h2 _ _ (by simp)) (fun j => ?_), ?_, fun z hz => ?_, h.2.2.2⟩
  · by_cases e : j = k
    · subst e; exact h0
    · exact h2 _ _ (by simp [e])
  · have : (fun i => al (z_upR τ (103, 0, 0) r) i) = r := e1
    show mW (z_upR τ (103, 0, 0) r |>.1 (103, 0, 0)) W' 0
    rw [show (z_upR τ (103, 0, 0) r).1 (103, 0, 0) = r from z_upR_s]
    exact mW_k h.2.1 a (by have := h.1.1.1; omega) h1 h2 h3 (fun _ => hK)
  · rw [(z_upR_o z hz).1]
    exact h.2.2.1 z hz
theorem mw {g f v : Nat} {x gi : Int32} (h : mR τ0 τ W) (a : yA W 0) (hk : k < W.1 (0, 0, 0) 3) (hg : gi = nI g) (hg2 : g < 320) (hf : f ≠ 0) (hK : mK (upd (al τ) (320 * k + g) x) (yI W (10, 0, k) f v) 0 k) : ∃ τ', fM_put (nI k) gi x τ = some ((), τ') ∧ mR τ0 τ' (yI W (10, 0, k) f v) := by
  have k7 : k < 7 := by have := h.1.1.1; omega
  rw [hg, eM_put τ x k7 hg2]
  refine ⟨_, rfl, mR_k h a hk (fun i hi => upd_n _ _ (by omega)) (fun z i hz => yI_z _ _ (fun e => by rw [e] at hz; simp at hz)) (fun z _ => rfl) (yI_i _ _ (fun e => hf e.symm)) hK⟩
theorem mw_term {v : Nat} (h : mR τ0 τ W) (a : yA W 0) (hk : k < W.1 (0, 0, 0) 3) : ∃ τ', fM_put (nI k) 0 (nI v) τ = some ((), τ') ∧ mR τ0 τ' (yI W (10, 0, k) 2 v) := mw h a hk (g := 0) (by decide +kernel) (by decide) (by decide) (mK_put (h.2.1.1 k hk) (by simp))
theorem mw_vote {v : Nat} {x : Int32} (h : mR τ0 τ W) (a : yA W 0) (hk : k < W.1 (0, 0, 0) 3) (hx : x = iI ((v : Int) - 1)) : ∃ τ', fM_put (nI k) 1 x τ = some ((), τ') ∧ mR τ0 τ' (yI W (10, 0, k) 3 v) := mw h a hk (g := 1) (by decide +kernel) (by decide) (by decide) (mK_put (h.2.1.1 k hk) (by simp [hx]))
theorem mw_ft {v : Nat} (h : mR τ0 τ W) (a : yA W 0) (hk : k < W.1 (0, 0, 0) 3) : ∃ τ', fM_put (nI k) 3 (nI v) τ = some ((), τ') ∧ mR τ0 τ' (yI W (10, 0, k) 6 v) := mw h a hk (g := 3) (by decide +kernel) (by decide) (by decide) (mK_put (h.2.1.1 k hk) (by simp))
theorem mw_done {v : Nat} (h : mR τ0 τ W) (a : yA W 0) (hk : k < W.1 (0, 0, 0) 3) : ∃ τ', fM_put (nI k) 6 (nI v) τ = some ((), τ') ∧ mR τ0 τ' (yI W (10, 0, k) 8 v) := mw h a hk (g := 6) (by decide +kernel) (by decide) (by decide) (mK_put (h.2.1.1 k hk) (by simp))
theorem mw_fallen {v : Nat} {x : Int32} (h : mR τ0 τ W) (a : yA W 0) (hk : k < W.1 (0, 0, 0) 3) (hx : x = nI v) : ∃ τ', fM_put (nI k) 9 x τ = some ((), τ') ∧ mR τ0 τ' (yI W (10, 0, k) 1 v) := mw h a hk (g := 9) (by decide +kernel) (by decide) (by decide) (mK_put (h.2.1.1 k hk) (by simp [hx]))
theorem mw_round {v : Nat} (h : mR τ0 τ W) (a : yA W 0) (hk : k < W.1 (0, 0, 0) 3) : ∃ τ', fM_put (nI k) 8 (nI v) τ = some ((), τ') ∧ mR τ0 τ' (yI W (10, 0, k) 10 v) := mw h a hk (g := 8) (by decide +kernel) (by decide) (by decide) (mK_put (h.2.1.1 k hk) (by simp))
theorem mw_ballots {v : Nat} (h : mR τ0 τ W) (a : yA W 0) (hk : k < W.1 (0, 0, 0) 3) : ∃ τ', fM_put (nI k) 7 (nI v) τ = some ((), τ') ∧ mR τ0 τ' (yI W (10, 0, k) 9 v) := mw h a hk (g := 7) (by decide +kernel) (by decide) (by decide) (mK_put (h.2.1.1 k hk) (by simp))
theorem mw_role0 (h : mR τ0 τ W) (a : yA W 0) (hk : k < W.1 (0, 0, 0) 3) : ∃ τ', fM_put (nI k) 5 0 τ = some ((), τ') ∧ mR τ0 τ' (yI W (10, 0, k) 4 0) := by
  have q := mw h a hk (k := k) (g := 5) (f := 4) (v := 0) (x := nI 0) (gi := 5) (by decide +kernel) (by decide) (by decide) (mK_role (h.2.1.1 k hk) (fun e => absurd rfl e) (by decide))
  rw [nI_0] at q
  exact q
theorem mw_last {v : Nat} (h : mR τ0 τ W) (a : yA W 0) (hk : k < W.1 (0, 0, 0) 3) (h1 : ∀ j, j < 6 * (v - W.1 (10, 0, k) 5) → al τ (320 * k + 80 + j) = (cE W).1 (11, 0, k) j) : ∃ τ', fM_put (nI k) 4 (nI v) τ = some ((), τ') ∧ mR τ0 τ' (yI W (10, 0, k) 7 v) := mw h a hk (g := 4) (by decide +kernel) (by decide) (by decide) (mK_last (h.2.1.1 k hk) h1)
/-- numbers that the model does not hold -/
theorem mR_gh {f v : Nat} (h : mR τ0 τ W) (a : yA W 0) (hk : k < W.1 (0, 0, 0) 3) (hp : (f = 9 ∧ W.1 (10, 0, k) 4 = 0) ∨ (f = 10 ∧ W.1 (10, 0, k) 4 ≠ 2)) : mR τ0 τ (yI W (10, 0, k) f v) := by
  have q := mR_k (W' := yI W (10, 0, k) f v) (r := al τ) h a hk (fun i hi => rfl) (fun z i hz => yI_z _ _ (fun e => by rw [e] at hz; simp at hz)) (fun z _ => rfl) (yI_i _ _ (by omega)) (mK_gh (h.2.1.1 k hk) hp)
  rw [show z_upR τ (103, 0, 0) (al τ) = τ from z_upR_id τ (103, 0, 0)] at q
  exact q
theorem yA_I {z : zJ} {i v : Nat} (a : yA W 0) (h : ¬ (z.1 = 0) ∧ ¬ (z.1 = 10 ∧ (i = 5 ∨ i = 7)) ∧ ¬ (z.1 = 20 ∧ (i = 0 ∨ i = 6)) ∧ ¬ (z.1 = 4)) : yA (yI W z i v) 0 := by
  obtain ⟨a1, a2, a3, a4⟩ := a
  obtain ⟨h1, h2, h3, h4⟩ := h
  refine ⟨?_, fun j => ?_, fun s => ?_, ?_⟩
  · rw [yI_z _ _ (fun e => h1 (by rw [← e]))]; exact a1
  · rw [yI_n _ _ (fun e => h2 ⟨by rw [← e.1], by omega⟩), yI_n _ _ (fun e => h2 ⟨by rw [← e.1], by omega⟩)]; exact a2 j
  · rw [yI_n _ _ (fun e => h3 ⟨by rw [← e.1], by omega⟩), yI_n _ _ (fun e => h3 ⟨by rw [← e.1], by omega⟩)]; exact a3 s
  · rw [yI_z _ _ (fun e => h4 (by rw [← e]))]; exact a4
theorem m_follow (h : mR τ0 τ W) (a : yA W 0) (hk : k < W.1 (0, 0, 0) 3) : ∃ τ', fM_put (nI k) 5 0 τ = some ((), τ') ∧ mR τ0 τ' (sFollow k W) := by
  obtain ⟨t1, e1, h1⟩ := mw_role0 h a hk
  refine ⟨t1, e1, ?_⟩
  have a1 : yA (yI W (10, 0, k) 4 0) 0 := yA_I a (by simp)
  have h2 := mR_gh (f := 9) (v := 0) h1 a1 (by rw [yI_z _ _ (by simp)]; exact hk) (Or.inl ⟨rfl, yI_s _ _ _ _⟩)
  have a2 : yA (yI (yI W (10, 0, k) 4 0) (10, 0, k) 9 0) 0 := yA_I a1 (by simp)
  exact mR_gh (f := 10) (v := 0) h2 a2 (by rw [yI_z _ _ (by simp), yI_z _ _ (by simp)]; exact hk) (Or.inr ⟨rfl, by rw [yI_i _ _ (by decide), yI_s]; decide⟩)
end mwrite
