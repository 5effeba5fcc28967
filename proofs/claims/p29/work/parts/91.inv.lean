/-! what holds of a world: X t i j is the number at (t, w, i) j -/
def xTm (X : Nat → Nat → Nat → Nat) (k e : Nat) : Nat := if e = X 10 k 5 then X 10 k 6 else X 11 k (6 * (e - X 10 k 5 - 1))
def xMost (X : Nat → Nat → Nat → Nat) : Nat := if X 0 0 4 = 0 then 0 else X 0 0 4 / 2 + 1
def xSure (X : Nat → Nat → Nat → Nat) (k e : Nat) : Nat := z_cnt (fun i => decide (¬ X 10 i 0 = 0) && (decide (i = k) || decide (e ≤ X 17 k i))) (X 0 0 3) 0
def xV (W : yW) (w : Nat) : Nat → Nat → Nat → Nat := fun t i j => W.1 (t, w, i) j
theorem xTm_W (W : yW) (k e : Nat) : xTm (xV W 0) k e = sTm W k e := rfl
theorem xMost_W (W : yW) : xMost (xV W 0) = sMost W := rfl
theorem xSure_W (W : yW) (k e : Nat) : xSure (xV W 0) k e = sSure k e W := rfl
/-- of keeper v, beside the logs -/
def xLoc (X : Nat → Nat → Nat → Nat) (v : Nat) : Prop :=
  (X 10 v 0 ≤ 1 ∧ X 10 v 1 ≤ 1 ∧ X 10 v 4 ≤ 2 ∧ X 10 v 9 < 128 ∧ (X 10 v 4 = 1 → 1 ≤ X 10 v 2)) ∧ (X 10 v 4 = 0 → X 10 v 9 = 0) ∧ (X 10 v 4 ≠ 2 → X 10 v 10 = 0) ∧ (X 10 v 1 ≠ 0 → X 10 v 4 = 0) ∧
  (∀ j, (X 10 v 9).testBit j = true → j < X 0 0 3 ∧ X 10 j 0 ≠ 0) ∧
  (X 10 v 4 = 2 → (∀ o, o < X 0 0 3 → 1 ≤ X 16 v o ∧ X 16 v o ≤ X 10 v 7 + 1) ∧ ∀ e, X 10 v 8 < e → e ≤ X 10 v 7 → xTm X v e = X 10 v 2 → xSure X v e < xMost X)
/-- the logs with their ghosts; the keepers; the letters; the reads -/
def xG (X : Nat → Nat → Nat → Nat) (L : Nat → Nat → Nat) (len lead : Nat → Nat) (E V : Nat → Nat → Nat) (C : Nat → Nat → Nat → Nat) (cl ack G : Nat → Nat → Nat) : Prop :=
  ySf (X 0 0 3) (X 10) L len lead E V C cl ack ∧ (∀ v, v < X 0 0 3 → ySk (X 0 0 3) (X 10) (X 17) L len lead E V C cl ack G v) ∧ (∀ s, s < 40 → yLt (X 0 0 3) (X 10) L len lead V C cl ack (X 20 s) (fun i => X 21 s (6 * i))) ∧ (∀ v, v < X 0 0 3 → ∀ e, X 10 v 5 ≤ e → e ≤ X 10 v 7 → xTm X v e = G v e)
def xInv (X : Nat → Nat → Nat → Nat) : Prop :=
  (X 0 0 3 ≤ 7 ∧ X 0 0 4 = yVot (X 0 0 3) (X 10) ∧ (X 0 0 4 = 0 → X 0 0 3 = 0)) ∧ (∀ v, v < X 0 0 3 → xLoc X v) ∧ (∀ s, s < 40 → X 20 s 0 = 1 → X 20 s 8 = 0) ∧ (∀ i, i < X 4 0 4 → X 6 0 i < 8) ∧ ∃ L len lead E V C cl ack G, xG X L len lead E V C cl ack G
/-- only letters are other: each is one that was, or none -/
theorem xG_let {X X' : Nat → Nat → Nat → Nat} {L : Nat → Nat → Nat} {len lead : Nat → Nat} {E V : Nat → Nat → Nat} {C : Nat → Nat → Nat → Nat} {cl ack G : Nat → Nat → Nat} (h : xG X L len lead E V C cl ack G) (h0 : X' 0 0 3 = X 0 0 3) (h10 : X' 10 = X 10) (h11 : X' 11 = X 11) (h17 : X' 17 = X 17) (hl : ∀ s, s < 40 → yLt (X 0 0 3) (X 10) L len lead V C cl ack (X' 20 s) (fun i => X' 21 s (6 * i))) : xG X' L len lead E V C cl ack G := by
  obtain ⟨f, a, l, k⟩ := h
  unfold xG
  rw [h0, h10, h17]
  refine ⟨f, a, hl, fun v hv e e1 e2 => ?_⟩
  have : xTm X' v e = xTm X v e := by
    unfold xTm
    rw [h10, h11]
  rw [this]
  exact k v hv e e1 e2
theorem xLoc_c {X X' : Nat → Nat → Nat → Nat} {v : Nat} (h : xLoc X v) (h0 : X' 0 = X 0) (h10 : X' 10 = X 10) (h11 : X' 11 = X 11) (h16 : X' 16 = X 16) (h17 : X' 17 = X 17) : xLoc X' v := by
  unfold xLoc xTm xSure xMost at h ⊢
  rw [h0, h10, h11, h16, h17]
  exact h
/-- drop, twice, read: only letters and reads are other -/
theorem xInv_let {X X' : Nat → Nat → Nat → Nat} (h : xInv X) (h0 : X' 0 = X 0) (h10 : X' 10 = X 10) (h11 : X' 11 = X 11) (h16 : X' 16 = X 16) (h17 : X' 17 = X 17) (hs : ∀ s, s < 40 → X' 20 s 0 = 0 ∨ ∃ s', s' < 40 ∧ (∀ f, f < 9 → X' 20 s f = X 20 s' f) ∧ (∀ i, i < 5 → X' 21 s (6 * i) = X 21 s' (6 * i))) (h6 : ∀ i, i < X' 4 0 4 → X' 6 0 i < 8) : xInv X' := by
  obtain ⟨n, l, r, d, L, len, lead, E, V, C, cl, ack, G, g⟩ := h
  refine ⟨by rw [h0, h10]; exact n, fun v hv => ?_, fun s hs' e => ?_, h6, L, len, lead, E, V, C, cl, ack, G, xG_let g (by rw [h0]) h10 h11 h17 (fun s hs' => ?_)⟩
  · rw [h0] at hv
    exact xLoc_c (l v hv) h0 h10 h11 h16 h17
  · rcases hs s hs' with q | ⟨s', q1, q2, q3⟩
    · omega
    · rw [q2 8 (by decide)]
      exact r s' q1 (by rw [← q2 0 (by decide)]; exact e)
  · rcases hs s hs' with q | ⟨s', q1, q2, q3⟩
    · exact ⟨by omega, fun e => absurd q e, fun e => by omega, fun e => by omega, fun e => by omega, fun e => by omega, fun e => by omega⟩
    · have z := g.2.2.1 s' q1
      unfold yLt at z ⊢
      rw [q2 0 (by decide), q2 1 (by decide), q2 2 (by decide), q2 3 (by decide), q2 4 (by decide), q2 5 (by decide), q2 6 (by decide), q2 7 (by decide)]
      obtain ⟨z0, z1, z2, z3, z4, z5, z6⟩ := z
      refine ⟨z0, z1, z2, z3, fun e => ?_, z5, z6⟩
      obtain ⟨y1, y2, y3, y4, y5, y6⟩ := z4 e
      exact ⟨y1, y2, y3, y4, fun i hi => (q3 i (by omega)).trans (y5 i hi), y6⟩
theorem i_drop {W : yW} {s : Nat} (h : xInv (xV W 0)) : xInv (xV (yI W (20, 0, s) 0 0) 0) := by
  have n : ∀ t i j, t ≠ 20 → (yI W (20, 0, s) 0 0).1 (t, 0, i) j = W.1 (t, 0, i) j := fun t i j ht => yI_z _ _ (by simp [ht])
  have e : ∀ t, t ≠ 20 → xV (yI W (20, 0, s) 0 0) 0 t = xV W 0 t := fun t ht => funext fun i => funext fun j => n t i j ht
  refine xInv_let h (e 0 (by decide)) (e 10 (by decide)) (e 11 (by decide)) (e 16 (by decide)) (e 17 (by decide)) (fun s' hs' => ?_) (by rw [e 4 (by decide), e 6 (by decide)]; exact h.2.2.2.1)
  by_cases c : s' = s
  · left
    show (yI W (20, 0, s) 0 0).1 (20, 0, s') 0 = 0
    rw [c, yI_s]
  · right
    refine ⟨s', hs', fun f _ => ?_, fun i _ => n 21 s' _ (by decide)⟩
    show (yI W (20, 0, s) 0 0).1 (20, 0, s') f = _
    rw [yI_z _ _ (by simp [c])]
    rfl
theorem i_twice {W : yW} {s e' : Nat} (hs : s < 40) (h : xInv (xV W 0)) : xInv (xV (sCopyL 0 e' 0 s W) 0) := by
  have n : ∀ t i j, t ≠ 20 → t ≠ 21 → t ≠ 23 → (sCopyL 0 e' 0 s W).1 (t, 0, i) j = W.1 (t, 0, i) j := fun t i j h1 h2 h3 => by
    rw [sCopyL_at, if_neg (by simp [h1]), if_neg (by simp [h2]), if_neg (by simp [h3])]
  have e : ∀ t, t ≠ 20 → t ≠ 21 → t ≠ 23 → xV (sCopyL 0 e' 0 s W) 0 t = xV W 0 t := fun t h1 h2 h3 => funext fun i => funext fun j => n t i j h1 h2 h3
  refine xInv_let h (e 0 (by decide) (by decide) (by decide)) (e 10 (by decide) (by decide) (by decide)) (e 11 (by decide) (by decide) (by decide)) (e 16 (by decide) (by decide) (by decide)) (e 17 (by decide) (by decide) (by decide)) (fun s' hs' => Or.inr ?_) (by rw [e 4 (by decide) (by decide) (by decide), e 6 (by decide) (by decide) (by decide)]; exact h.2.2.2.1)
  by_cases c : s' = e'
  · refine ⟨s, hs, fun f hf => ?_, fun i hi => ?_⟩
    · show (sCopyL 0 e' 0 s W).1 (20, 0, s') f = _
      rw [c, sCopyL_at, if_pos ⟨rfl, Nat.lt_succ_of_lt hf⟩]
      rfl
    · show (sCopyL 0 e' 0 s W).1 (21, 0, s') (6 * i) = _
      rw [c, sCopyL_at, if_neg (by simp), if_pos ⟨rfl, by omega⟩]
      rfl
  · refine ⟨s', hs', fun f hf => ?_, fun i hi => ?_⟩
    · show (sCopyL 0 e' 0 s W).1 (20, 0, s') f = _
      rw [sCopyL_at, if_neg (by simp [c]), if_neg (by simp), if_neg (by simp)]
      rfl
    · show (sCopyL 0 e' 0 s W).1 (21, 0, s') (6 * i) = _
      rw [sCopyL_at, if_neg (by simp), if_neg (by simp [c]), if_neg (by simp)]
      rfl
theorem i_read {W : yW} {k c : Nat} (hc : c < 8) (h : xInv (xV W 0)) : xInv (xV (sRead k c W) 0) := by
  have n : ∀ t i j, (t = 0 ∨ 9 ≤ t) → (sRead k c W).1 (t, 0, i) j = W.1 (t, 0, i) j := fun t i j ht => by
    unfold sRead
    rw [yI_z _ _ (by simp; omega), yI_z _ _ (by simp; omega), yI_z _ _ (by simp; omega), yI_z _ _ (by simp; omega), yI_z _ _ (by simp; omega)]
  have e : ∀ t, (t = 0 ∨ 9 ≤ t) → xV (sRead k c W) 0 t = xV W 0 t := fun t ht => funext fun i => funext fun j => n t i j ht
  refine xInv_let h (e 0 (by omega)) (e 10 (by omega)) (e 11 (by omega)) (e 16 (by omega)) (e 17 (by omega)) (fun s' hs' => Or.inr ⟨s', hs', fun f _ => n 20 s' f (by omega), fun i _ => n 21 s' _ (by omega)⟩) (fun i hi => ?_)
  have hi : i < (sRead k c W).1 (4, 0, 0) 4 := hi
  show (sRead k c W).1 (6, 0, 0) i < 8
  unfold sRead at hi ⊢
  rw [yI_s] at hi
  simp only [yI_at, Prod.mk.injEq, Nat.reduceEqDiff, false_and, and_false, if_false, true_and, and_true]
  by_cases c1 : i = W.1 (4, 0, 0) 4
  · rw [if_pos c1]; exact hc
  · rw [if_neg c1]; exact h.2.2.2.1 i (by show i < W.1 (4, 0, 0) 4; omega)
