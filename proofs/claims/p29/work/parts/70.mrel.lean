/-! the model's row and the world by numbers -/
def mK (B : Nat → Int32) (W : yW) (w k : Nat) : Prop :=
  (B (320 * k + 0) = nI (W.1 (10, w, k) 2) ∧ B (320 * k + 1) = iI ((W.1 (10, w, k) 3 : Int) - 1) ∧ B (320 * k + 2) = nI (W.1 (10, w, k) 5) ∧ B (320 * k + 3) = nI (W.1 (10, w, k) 6) ∧ B (320 * k + 4) = nI (W.1 (10, w, k) 7) ∧ B (320 * k + 5) = nI (W.1 (10, w, k) 4) ∧ B (320 * k + 6) = nI (W.1 (10, w, k) 8) ∧ B (320 * k + 9) = nI (W.1 (10, w, k) 1)) ∧
  (W.1 (10, w, k) 4 ≠ 0 → B (320 * k + 7) = nI (W.1 (10, w, k) 9)) ∧
  (W.1 (10, w, k) 4 = 2 → B (320 * k + 8) = nI (W.1 (10, w, k) 10) ∧ ∀ o, o < 7 → B (320 * k + (50 + o)) = nI (W.1 (16, w, k) o) ∧ B (320 * k + (57 + o)) = nI (W.1 (17, w, k) o) ∧ B (320 * k + (64 + o)) = nI (W.1 (18, w, k) o)) ∧
  (∀ j, j < 6 * (W.1 (10, w, k) 7 - W.1 (10, w, k) 5) → B (320 * k + 80 + j) = (cE W).1 (11, w, k) j) ∧
  zl_lay (fun q => B (320 * k + 10 + q)) (W.2.1 (13, w, k)) ∧ zl_lay (fun q => B (320 * k + 30 + q)) (W.2.1 (15, w, k))
def mL (B : Nat → Int32) (W : yW) (w s : Nat) : Prop :=
  B (2240 + 64 * s) = iI ((W.1 (20, w, s) 0 : Int) - 1) ∧ (W.1 (20, w, s) 0 ≠ 0 → (∀ f, 1 ≤ f → f < 9 → B (2240 + 64 * s + f) = nI (W.1 (20, w, s) f)) ∧
    (W.1 (20, w, s) 0 = 3 → ∀ j, j < 6 * W.1 (20, w, s) 6 → B (2240 + 64 * s + 10 + j) = (cE W).1 (21, w, s) j) ∧
    (W.1 (20, w, s) 0 = 5 → zl_lay (fun q => B (2240 + 64 * s + 10 + q)) (W.2.1 (23, w, s))))
def mD (B : Nat → Int32) (W : yW) (w : Nat) : Prop := B 4960 = nI (W.1 (4, w, 0) 4) ∧ ∀ i, i < W.1 (4, w, 0) 4 → B (4800 + 4 * i) = nI (W.1 (5, w, 0) i) ∧ B (4800 + 4 * i + 1) = nI (W.1 (6, w, 0) i) ∧ B (4800 + 4 * i + 2) = nI (W.1 (7, w, 0) i) ∧ B (4800 + 4 * i + 3) = nI (W.1 (8, w, 0) i)
def mW (B : Nat → Int32) (W : yW) (w : Nat) : Prop := (∀ k, k < W.1 (0, w, 0) 3 → mK B W w k) ∧ (∀ s, s < 40 → mL B W w s) ∧ mD B W w
/-- how many keepers, and who votes -/
def mS (τ : zS) (W : yW) : Prop := (W.1 (0, 0, 0) 3 ≤ 7 ∧ W.1 (0, 0, 0) 4 ≤ W.1 (0, 0, 0) 3 ∧ (W.1 (0, 0, 0) 4 = 0 → W.1 (0, 0, 0) 3 = 0)) ∧ ∃ b s : Nat, b < 2 ∧ s < 128 ∧ τ.1 (100, 0, 0) 12 = nI b ∧ τ.1 (106, 0, 0) b = nI (W.1 (0, 0, 0) 3) ∧ τ.1 (107, 0, 0) b = nI s ∧ (∀ k, k < W.1 (0, 0, 0) 3 → (W.1 (10, 0, k) 0 = 0 ↔ s.testBit k = true)) ∧ sBits s + W.1 (0, 0, 0) 4 = W.1 (0, 0, 0) 3
def mR (τ0 τ : zS) (W : yW) : Prop := mS τ W ∧ mW (al τ) W 0 ∧ (∀ z : zJ, z ≠ (103, 0, 0) → τ.1 z = τ0.1 z) ∧ τ.2 = τ0.2
theorem mS_c {τ τ' : zS} {W W' : yW} (h : mS τ W) (h1 : ∀ z : zJ, z ≠ (103, 0, 0) → τ'.1 z = τ.1 z) (h2 : ∀ f, W'.1 (0, 0, 0) f = W.1 (0, 0, 0) f) (h3 : ∀ k, W'.1 (10, 0, k) 0 = W.1 (10, 0, k) 0) : mS τ' W' := by
  unfold mS at h ⊢
  rw [h1 (100, 0, 0) (by decide), h1 (106, 0, 0) (by decide), h1 (107, 0, 0) (by decide), h2, h2]
  simp only [h3]
  exact h
theorem zl_lay_c {g g' h : Nat → Int32} (e : ∀ q, q < 20 → g' q = g q) (a : zl_lay g h) : zl_lay g' h := ⟨fun q hq => by rw [e q (by omega)]; exact a.1 q hq, fun k hk => by rw [e _ (by omega), e _ (by omega)]; exact a.2 k hk⟩
theorem mK_c {B B' : Nat → Int32} {W W' : yW} {w k : Nat} (h : mK B W w k) (h1 : ∀ i, 320 * k ≤ i → i < 320 * k + 320 → B' i = B i) (hk : W.1 (10, w, k) 7 ≤ W.1 (10, w, k) 5 + 40) (h2 : ∀ t i, (t = 10 ∨ t = 11 ∨ t = 16 ∨ t = 17 ∨ t = 18) → W'.1 (t, w, k) i = W.1 (t, w, k) i) (h3 : ∀ t, (t = 11 ∨ t = 13 ∨ t = 15) → W'.2.1 (t, w, k) = W.2.1 (t, w, k)) : mK B' W' w k := by
  obtain ⟨⟨a1, a2, a3, a4, a5, a6, a7, a8⟩, b1, b2, b3, b4, b5⟩ := h
  have e10 : ∀ i, W'.1 (10, w, k) i = W.1 (10, w, k) i := fun i => h2 10 i (by omega)
  have e16 : ∀ i, W'.1 (16, w, k) i = W.1 (16, w, k) i := fun i => h2 16 i (by omega)
  have e17 : ∀ i, W'.1 (17, w, k) i = W.1 (17, w, k) i := fun i => h2 17 i (by omega)
  have e18 : ∀ i, W'.1 (18, w, k) i = W.1 (18, w, k) i := fun i => h2 18 i (by omega)
  have e11 : ∀ j, (cE W').1 (11, w, k) j = (cE W).1 (11, w, k) j := fun j => by
    rw [cE_at, cE_at, h2 11 j (by omega), h3 11 (by omega)]
  unfold mK
  simp only [e10, e16, e17, e18, e11, h3 13 (by omega), h3 15 (by omega)]
  refine ⟨⟨?_, ?_, ?_, ?_, ?_, ?_, ?_, ?_⟩, fun h => ?_, fun h => ?_, fun j hj => ?_, zl_lay_c (fun q hq => h1 _ (by omega) (by omega)) b4, zl_lay_c (fun q hq => h1 _ (by omega) (by omega)) b5⟩
  · rw [h1 _ (by omega) (by omega)]; exact a1
  · rw [h1 _ (by omega) (by omega)]; exact a2
  · rw [h1 _ (by omega) (by omega)]; exact a3
  · rw [h1 _ (by omega) (by omega)]; exact a4
  · rw [h1 _ (by omega) (by omega)]; exact a5
  · rw [h1 _ (by omega) (by omega)]; exact a6
  · rw [h1 _ (by omega) (by omega)]; exact a7
  · rw [h1 _ (by omega) (by omega)]; exact a8
  · rw [h1 _ (by omega) (by omega)]; exact b1 h
  · refine ⟨?_, fun o ho => ⟨?_, ?_, ?_⟩⟩
    · rw [h1 _ (by omega) (by omega)]; exact (b2 h).1
    · rw [h1 _ (by omega) (by omega)]; exact ((b2 h).2 o ho).1
    · rw [h1 _ (by omega) (by omega)]; exact ((b2 h).2 o ho).2.1
    · rw [h1 _ (by omega) (by omega)]; exact ((b2 h).2 o ho).2.2
  · rw [h1 _ (by omega) (by omega)]; exact b3 j hj
theorem mL_c {B B' : Nat → Int32} {W W' : yW} {w s : Nat} (h : mL B W w s) (h1 : ∀ i, 2240 + 64 * s ≤ i → i < 2240 + 64 * s + 64 → B' i = B i) (h6 : W.1 (20, w, s) 0 = 3 → W.1 (20, w, s) 6 ≤ 5) (h2 : ∀ t i, (t = 20 ∨ t = 21) → W'.1 (t, w, s) i = W.1 (t, w, s) i) (h3 : ∀ t, (t = 21 ∨ t = 23) → W'.2.1 (t, w, s) = W.2.1 (t, w, s)) : mL B' W' w s := by
  obtain ⟨a1, a2⟩ := h
  have e20 : ∀ i, W'.1 (20, w, s) i = W.1 (20, w, s) i := fun i => h2 20 i (by omega)
  have e21 : ∀ j, (cE W').1 (21, w, s) j = (cE W).1 (21, w, s) j := fun j => by
    rw [cE_at, cE_at, h2 21 j (by omega), h3 21 (by omega)]
  unfold mL
  simp only [e20, e21, h3 23 (by omega)]
  refine ⟨by rw [h1 _ (by omega) (by omega)]; exact a1, fun h => ?_⟩
  obtain ⟨b1, b2, b3⟩ := a2 h
  refine ⟨fun f f1 f2 => ?_, fun e j hj => ?_, fun e => zl_lay_c (fun q hq => h1 _ (by omega) (by omega)) (b3 e)⟩
  · rw [h1 _ (by omega) (by omega)]; exact b1 f f1 f2
  · have := h6 e
    rw [h1 _ (by omega) (by omega)]; exact b2 e j hj
theorem mD_c {B B' : Nat → Int32} {W W' : yW} {w : Nat} (h : mD B W w) (h1 : ∀ i, 4800 ≤ i → i < 5000 → B' i = B i) (h4 : W.1 (4, w, 0) 4 ≤ 40) (h2 : ∀ t i, (t = 4 ∨ t = 5 ∨ t = 6 ∨ t = 7 ∨ t = 8) → W'.1 (t, w, 0) i = W.1 (t, w, 0) i) : mD B' W' w := by
  unfold mD at h ⊢
  rw [h2 4 4 (by omega), h1 _ (by omega) (by omega)]
  refine ⟨h.1, fun i hi => ?_⟩
  rw [h2 5 i (by omega), h2 6 i (by omega), h2 7 i (by omega), h2 8 i (by omega), h1 _ (by omega) (by omega), h1 _ (by omega) (by omega), h1 _ (by omega) (by omega), h1 _ (by omega) (by omega)]
  exact h.2 i hi
/-- what the world must be for its pieces to stay apart -/
def yA (W : yW) (w : Nat) : Prop := W.1 (0, w, 0) 3 ≤ 7 ∧ (∀ k, W.1 (10, w, k) 7 ≤ W.1 (10, w, k) 5 + 40) ∧ (∀ s, W.1 (20, w, s) 0 = 3 → W.1 (20, w, s) 6 ≤ 5) ∧ W.1 (4, w, 0) 4 ≤ 40
/-- only keeper k is changed -/
theorem mW_k {B B' : Nat → Int32} {W W' : yW} {w k : Nat} (h : mW B W w) (a : yA W w) (hk : k < 7) (h1 : ∀ i, i < 320 * k ∨ 320 * k + 320 ≤ i → B' i = B i) (h2 : ∀ z i, (z.2.2 ≠ k ∨ z.1 < 10 ∨ 20 ≤ z.1) → W'.1 z i = W.1 z i) (h3 : ∀ z : zJ, (z.2.2 ≠ k ∨ z.1 < 10 ∨ 20 ≤ z.1) → W'.2.1 z = W.2.1 z) (hK : k < W.1 (0, w, 0) 3 → mK B' W' w k) : mW B' W' w := by
  obtain ⟨m1, m2, m3⟩ := h
  obtain ⟨a1, a2, a3, a4⟩ := a
  refine ⟨fun j hj => ?_, fun s hs => ?_, ?_⟩
  · rw [h2 _ _ (by simp)] at hj
    by_cases e : j = k
    · subst e; exact hK hj
    · exact mK_c (m1 j hj) (fun i i1 i2 => h1 i (by omega)) (a2 j) (fun t i _ => h2 _ _ (by simp [e])) (fun t _ => h3 _ (by simp [e]))
  · exact mL_c (m2 s hs) (fun i i1 i2 => h1 i (by omega)) (a3 s) (fun t i ht => h2 _ _ (by rcases ht with rfl | rfl <;> simp)) (fun t ht => h3 _ (by rcases ht with rfl | rfl <;> simp))
  · exact mD_c m3 (fun i i1 i2 => h1 i (by omega)) a4 (fun t i ht => h2 _ _ (by rcases ht with rfl | rfl | rfl | rfl | rfl <;> simp))
/-- only slot s is changed -/
theorem mW_s {B B' : Nat → Int32} {W W' : yW} {w s : Nat} (h : mW B W w) (a : yA W w) (hs : s < 40) (h1 : ∀ i, i < 2240 + 64 * s ∨ 2240 + 64 * s + 64 ≤ i → B' i = B i) (h2 : ∀ z i, (z.2.2 ≠ s ∨ z.1 < 20) → W'.1 z i = W.1 z i) (h3 : ∀ z : zJ, (z.2.2 ≠ s ∨ z.1 < 20) → W'.2.1 z = W.2.1 z) (hK : mL B' W' w s) : mW B' W' w := by
  obtain ⟨m1, m2, m3⟩ := h
  obtain ⟨a1, a2, a3, a4⟩ := a
  refine ⟨fun j hj => ?_, fun s' hs' => ?_, ?_⟩
  · rw [h2 _ _ (by simp)] at hj
    exact mK_c (m1 j hj) (fun i i1 i2 => h1 i (by omega)) (a2 j) (fun t i ht => h2 _ _ (by rcases ht with rfl | rfl | rfl | rfl | rfl <;> simp)) (fun t ht => h3 _ (by rcases ht with rfl | rfl | rfl <;> simp))
  · by_cases e : s' = s
    · subst e; exact hK
    · exact mL_c (m2 s' hs') (fun i i1 i2 => h1 i (by omega)) (a3 s') (fun t i _ => h2 _ _ (by simp [e])) (fun t _ => h3 _ (by simp [e]))
  · exact mD_c m3 (fun i i1 i2 => h1 i (by omega)) a4 (fun t i ht => h2 _ _ (by rcases ht with rfl | rfl | rfl | rfl | rfl <;> simp))
