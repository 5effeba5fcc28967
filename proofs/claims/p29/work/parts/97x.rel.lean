/-! the relation of both, kept by every call -/
def yInv (n : Nat) (W : yW) : Prop := (∀ z i, W.1 z i < 200 + 20 * n) ∧ yEn W ∧ (∀ w, yA W w) ∧ (∀ w k, W.1 (10, w, k) 0 ≤ 1 ∧ W.1 (10, w, k) 1 ≤ 1 ∧ W.1 (20, w, k) 6 ≤ 5) ∧ xInv (xV W 0)
def yBox (W : yW) (τ : zS) (b : Nat) : Prop := mW (fun j => τ.1 (104, 0, 0) (5000 * b + j)) W (b + 1) ∧ xInv (xV W (b + 1)) ∧ (W.1 (0, b + 1, 0) 3 = W.1 (0, 0, 0) 3 ∧ W.1 (0, b + 1, 0) 4 = W.1 (0, 0, 0) 4) ∧ ∀ k, k < 7 → W.1 (10, b + 1, k) 0 = W.1 (10, 0, k) 0
def yRc (bl : Nat → Bool) (W : yW) (τ : zS) (n : Nat) : Prop := yInv n W ∧ mR τ τ W ∧ (zT_r (cE W) τ ∧ zH_r (cE W) τ ∧ yhJ (cE W)) ∧ ∀ b, b < 3 → τ.1 (105, 0, 0) b = (cE W).1 (37, 0, 0) b ∧ ((cE W).1 (37, 0, 0) b = 0 ∨ ((cE W).1 (37, 0, 0) b = 1 ∧ bl b = true ∧ yBox W τ b))
def yREL (bl : Nat → Bool) (σ τ : zS) (n : Nat) : Prop := ∃ W : yW, σ = cE W ∧ yRc bl W τ n
theorem yREL_mono {bl : Nat → Bool} {σ τ : zS} {n : Nat} (h : yREL bl σ τ n) : yREL bl σ τ (n + 1) := by
  obtain ⟨W, e, ⟨i1, i2⟩, r⟩ := h
  exact ⟨W, e, ⟨fun z i => by have := i1 z i; omega, i2⟩, r⟩
theorem yRc_m {bl : Nat → Bool} {W : yW} {τ : zS} {n : Nat} (h : yRc bl W τ n) : yREL bl (cE W) τ (n + 1) := yREL_mono ⟨W, rfl, h⟩
theorem yKp_self {n b : Nat} {W : yW} (h : yInv n W) (hb : 200 + 20 * n ≤ b) : yKp b W W := ⟨fun z i => by have := h.1 z i; omega, h.2.1, h.2.2.1 0, fun _ _ => ⟨rfl, rfl⟩, rfl, rfl, fun k => ⟨rfl, (h.2.2.2.1 0 k).2⟩⟩
theorem cE_fr {W W' : yW} {z : zJ} (h1 : W'.1 z = W.1 z) (h2 : W'.2.1 z = W.2.1 z) : (cE W').1 z = (cE W).1 z := by
  funext i
  rw [cE_at, cE_at, h1, h2]
theorem yAg_eq {W W' : yW} {w : Nat} (h : ∀ z : zJ, z.2.1 = w → z.1 < 30 → W'.1 z = W.1 z ∧ W'.2.1 z = W.2.1 z) : yAg W W' w w := by
  have e1 : ∀ t k i, t < 30 → W'.1 (t, w, k) i = W.1 (t, w, k) i := fun t k i ht => by rw [(h (t, w, k) rfl ht).1]
  have e2 : ∀ t k i, t < 30 → W'.2.1 (t, w, k) i = W.2.1 (t, w, k) i := fun t k i ht => by rw [(h (t, w, k) rfl ht).2]
  exact ⟨⟨e1 _ _ _ (by decide), e1 _ _ _ (by decide), e1 _ _ _ (by decide)⟩, fun _ _ _ _ => e1 _ _ _ (by decide), fun _ _ _ _ => ⟨e1 _ _ _ (by decide), e2 _ _ _ (by decide)⟩, fun _ _ _ _ => ⟨e2 _ _ _ (by decide), e2 _ _ _ (by decide)⟩, fun _ _ _ _ => ⟨e1 _ _ _ (by decide), e1 _ _ _ (by decide), e1 _ _ _ (by decide)⟩, fun _ _ _ _ => e1 _ _ _ (by decide), fun _ _ _ _ => ⟨e1 _ _ _ (by decide), e2 _ _ _ (by decide)⟩, fun _ _ _ _ => e2 _ _ _ (by decide), fun _ _ => ⟨e1 _ _ _ (by decide), e1 _ _ _ (by decide), e1 _ _ _ (by decide), e1 _ _ _ (by decide)⟩⟩
theorem yAg_tr {W V U : yW} {w v u : Nat} (a : yAg W V w v) (a0 : yAg V U v u) : yAg W U w u := by
  obtain ⟨⟨p1, p2, p3⟩, p4, p5, p6, p7, p8, p9, p10, p11⟩ := a0
  obtain ⟨⟨q1, q2, q3⟩, q4, q5, q6, q7, q8, q9, q10, q11⟩ := a
  exact ⟨⟨p1.trans q1, p2.trans q2, p3.trans q3⟩, fun k i x y => (p4 k i x y).trans (q4 k i x y), fun k i x y => ⟨(p5 k i x y).1.trans (q5 k i x y).1, (p5 k i x y).2.trans (q5 k i x y).2⟩, fun k i x y => ⟨(p6 k i x y).1.trans (q6 k i x y).1, (p6 k i x y).2.trans (q6 k i x y).2⟩, fun k i x y => ⟨(p7 k i x y).1.trans (q7 k i x y).1, (p7 k i x y).2.1.trans (q7 k i x y).2.1, (p7 k i x y).2.2.trans (q7 k i x y).2.2⟩, fun k i x y => (p8 k i x y).trans (q8 k i x y), fun k i x y => ⟨(p9 k i x y).1.trans (q9 k i x y).1, (p9 k i x y).2.trans (q9 k i x y).2⟩, fun k i x y => (p10 k i x y).trans (q10 k i x y), fun i x => ⟨(p11 i x).1.trans (q11 i x).1, (p11 i x).2.1.trans (q11 i x).2.1, (p11 i x).2.2.1.trans (q11 i x).2.2.1, (p11 i x).2.2.2.trans (q11 i x).2.2.2⟩⟩
theorem yA_c {W W' : yW} {w : Nat} (h : ∀ z : zJ, z.2.1 = w → W'.1 z = W.1 z) (a : yA W w) : yA W' w := by
  unfold yA at a ⊢
  simp only [h (0, w, 0) rfl, h (4, w, 0) rfl, fun k => h (10, w, k) rfl, fun k => h (20, w, k) rfl]
  exact a
theorem xV_c {W W' : yW} {w : Nat} (h : ∀ z : zJ, z.2.1 = w → W'.1 z = W.1 z) : xV W' w = xV W w := by
  funext t i j
  show W'.1 (t, w, i) j = W.1 (t, w, i) j
  rw [h (t, w, i) rfl]
/-- a box stays -/
theorem yBox_c {W W' : yW} {τ τ' : zS} {b : Nat} (h : yBox W τ b) (ha : yA W (b + 1)) (h1 : ∀ z : zJ, z.2.1 = b + 1 → W'.1 z = W.1 z ∧ W'.2.1 z = W.2.1 z) (h2 : τ'.1 (104, 0, 0) = τ.1 (104, 0, 0)) (h3 : W'.1 (0, 0, 0) = W.1 (0, 0, 0)) (h4 : ∀ k, W'.1 (10, 0, k) 0 = W.1 (10, 0, k) 0) : yBox W' τ' b := by
  obtain ⟨b1, b2, b3, b4⟩ := h
  refine ⟨mW_w b1 ha (yAg_eq (fun z hz _ => h1 z hz)) (fun i _ => by rw [h2]), by rw [xV_c (fun z hz => (h1 z hz).1)]; exact b2, ?_, fun k hk => ?_⟩
  · rw [(h1 (0, b + 1, 0) rfl).1, h3]; exact b3
  · rw [(h1 (10, b + 1, k) rfl).1, h4]; exact b4 k hk
/-- an act -/
theorem yR_act {bl : Nat → Bool} {W W' : yW} {τ τ' : zS} {n b : Nat} (R : yRc bl W τ n) (q : yKp b W W') (hb : b ≤ 200 + 20 * (n + 1)) (hx : xInv (xV W' 0)) (hm : mS τ' W' ∧ mW (al τ') W' 0) (hf : ∀ z : zJ, z ≠ (103, 0, 0) → z ≠ (109, 0, 0) → τ'.1 z = τ.1 z) : yREL bl (cE W') τ' (n + 1) := by
  obtain ⟨⟨I1, I2, I3, I4, I5⟩, m, ⟨T, H, J⟩, B⟩ := R
  obtain ⟨q1, q2, q3, q4, q5, q6, q7⟩ := q
  have fr : ∀ z : zJ, (z.2.1 ≠ 0 ∨ 24 ≤ z.1) → (cE W').1 z = (cE W).1 z := fun z hz => cE_fr (q4 z hz).1 (q4 z hz).2
  refine ⟨W', rfl, ⟨fun z i => by have := q1 z i; omega, q2, fun w => ?_, fun w k => ?_, hx⟩, ⟨hm.1, hm.2, fun _ _ => rfl, rfl⟩, ⟨?_, ?_, ?_⟩, fun b' hb' => ?_⟩
  · by_cases c : w = 0
    · rw [c]; exact q3
    · exact yA_c (fun z hz => (q4 z (Or.inl (by omega))).1) (I3 w)
  · by_cases c : w = 0
    · rw [c, (q7 k).1]; exact ⟨(I4 0 k).1, (q7 k).2⟩
    · rw [(q4 (10, w, k) (Or.inl c)).1, (q4 (20, w, k) (Or.inl c)).1]; exact I4 w k
  · unfold zT_r at T ⊢
    rw [fr (31, 0, 0) (Or.inr (by decide)), fr (32, 0, 0) (Or.inr (by decide)), hf (100, 0, 0) (by decide) (by decide), hf (101, 0, 0) (by decide) (by decide)]
    exact T
  · unfold zH_r at H ⊢
    rw [fr (40, 0, 0) (Or.inr (by decide)), fr (41, 0, 0) (Or.inr (by decide)), fr (42, 0, 0) (Or.inr (by decide)), fr (43, 0, 0) (Or.inr (by decide)), fr (44, 0, 0) (Or.inr (by decide)), fr (45, 0, 0) (Or.inr (by decide)), hf (100, 0, 0) (by decide) (by decide), hf (110, 0, 0) (by decide) (by decide), hf (111, 0, 0) (by decide) (by decide), hf (112, 0, 0) (by decide) (by decide), hf (113, 0, 0) (by decide) (by decide), hf (114, 0, 0) (by decide) (by decide)]
    exact H
  · unfold yhJ yhD at J ⊢
    rw [yhHs_c (fun z z1 _ => fr z (Or.inr (by omega))), fr (40, 0, 0) (Or.inr (by decide)), fr (46, 0, 0) (Or.inr (by decide))]
    exact J
  · obtain ⟨b1, b2⟩ := B b' hb'
    rw [fr (37, 0, 0) (Or.inr (by decide)), hf (105, 0, 0) (by decide) (by decide)]
    exact ⟨b1, b2.imp id (fun x => ⟨x.1, x.2.1, yBox_c x.2.2 (I3 _) (fun z hz => q4 z (Or.inl (by omega))) (hf _ (by decide) (by decide)) q6 (fun k => (q7 k).1)⟩)⟩
theorem yR_act' {bl : Nat → Bool} {W W' : yW} {τ τ' : zS} {n b : Nat} (R : yRc bl W τ n) (q : yKp b W W') (hb : b ≤ 200 + 20 * (n + 1)) (hx : xInv (xV W' 0)) (hm : mR τ τ' W') : yREL bl (cE W') τ' (n + 1) := yR_act R q hb hx ⟨hm.1, hm.2.1⟩ (fun z z1 _ => hm.2.2.1 z z1)
/-- a call that leaves the worlds as they are -/
theorem yR_io0 {bl : Nat → Bool} {W : yW} {τ σ' τ' : zS} {n : Nat} (R : yRc bl W τ n) (hs : ∀ z : zJ, z.1 < 30 ∨ z = (37, 0, 0) → σ'.1 z = (cE W).1 z) (ht : ∀ z : zJ, 103 ≤ z.1 → z.1 ≤ 105 → τ'.1 z = τ.1 z) (m1 : mS τ' (W.1, σ')) (T : zT_r σ' τ') (H : zH_r σ' τ') (J : yhJ σ') : yREL bl σ' τ' (n + 1) := by
  obtain ⟨⟨I1, I2, I3, I4, I5⟩, m, -, B⟩ := R
  have e0 : σ' = cE (W.1, σ') := cE_re (fun z hz => hs z (Or.inl hz))
  have e2 : ∀ z : zJ, z.1 < 30 → (cE (W.1, σ')).1 z = (cE W).1 z := fun z hz => by rw [← e0]; exact hs z (Or.inl hz)
  have e37 : (cE (W.1, σ')).1 (37, 0, 0) = (cE W).1 (37, 0, 0) := by rw [← e0]; exact hs _ (Or.inr rfl)
  have r2 : ∀ t w k i, ye t i = 0 → t < 30 → (W.1, σ').2.1 (t, w, k) i = W.2.1 (t, w, k) i := fun t w k i hy ht' => by
    have := congrFun (e2 (t, w, k) ht') i
    rw [cE_0 hy, cE_0 hy] at this
    exact this
  have ag : ∀ w B B', (∀ i, B' i = B i) → mW B W w → mW B' (W.1, σ') w := fun w B B' hB h => by
    obtain ⟨h1, h2, h3⟩ := h
    have eB : B' = B := funext hB
    rw [eB]
    refine ⟨fun k hk => ?_, fun s hs => ?_, h3⟩
    · obtain ⟨c0, c1, c2, c3, c4, c5⟩ := h1 k hk
      exact ⟨c0, c1, c2, fun j hj => by rw [e2 (11, w, k) (show (11 : Nat) < 30 by decide)]; exact c3 j hj, zl_lay_h (fun _ _ => rfl) (fun q _ => r2 13 w k q rfl (by decide)) c4, zl_lay_h (fun _ _ => rfl) (fun q _ => r2 15 w k q rfl (by decide)) c5⟩
    · obtain ⟨c0, c1⟩ := h2 s hs
      refine ⟨c0, fun q => ?_⟩
      obtain ⟨c2, c3, c4⟩ := c1 q
      exact ⟨c2, fun q2 j hj => by rw [e2 (21, w, s) (show (21 : Nat) < 30 by decide)]; exact c3 q2 j hj, fun q2 => zl_lay_h (fun _ _ => rfl) (fun q _ => r2 23 w s q rfl (by decide)) (c4 q2)⟩
  refine ⟨(W.1, σ'), e0, ⟨fun z i => by have := I1 z i; show W.1 z i < _; omega, I2, I3, I4, I5⟩, ⟨m1, ag 0 _ _ (fun i => by show τ'.1 (103, 0, 0) i = τ.1 (103, 0, 0) i; rw [ht (103, 0, 0) (by decide) (by decide)]) m.2.1, fun _ _ => rfl, rfl⟩, by rw [← e0]; exact ⟨T, H, J⟩, fun b hb => ?_⟩
  obtain ⟨b1, b2⟩ := B b hb
  rw [e37, ht (105, 0, 0) (by decide) (by decide)]
  refine ⟨b1, b2.imp id (fun x => ⟨x.1, x.2.1, ?_⟩)⟩
  obtain ⟨y1, y2, y3, y4⟩ := x.2.2
  exact ⟨ag (b + 1) _ _ (fun i => by rw [ht (104, 0, 0) (by decide) (by decide)]) y1, y2, y3, y4⟩
theorem yR_io {bl : Nat → Bool} {W : yW} {τ σ' τ' : zS} {n : Nat} (R : yRc bl W τ n) (hs : ∀ z : zJ, z.1 < 30 ∨ z = (37, 0, 0) → σ'.1 z = (cE W).1 z) (ht : ∀ z : zJ, 103 ≤ z.1 → z.1 ≤ 107 → τ'.1 z = τ.1 z) (h12 : τ'.1 (100, 0, 0) 12 = τ.1 (100, 0, 0) 12) (T : zT_r σ' τ') (H : zH_r σ' τ') (J : yhJ σ') : yREL bl σ' τ' (n + 1) := by
  refine yR_io0 R hs (fun z z1 z2 => ht z z1 (by omega)) ?_ T H J
  have := R.2.1.1
  unfold mS at this ⊢
  rw [h12, ht (106, 0, 0) (by decide) (by decide), ht (107, 0, 0) (by decide) (by decide)]
  exact this
/-- what is known of a keeper -/
theorem yFk {n k : Nat} {W : yW} (h : yInv n W) (hk : k < W.1 (0, 0, 0) 3) : k < 7 ∧ W.1 (0, 0, 0) 3 ≤ 7 ∧ W.1 (0, 0, 0) 4 ≤ 7 ∧ W.1 (10, 0, k) 5 ≤ W.1 (10, 0, k) 8 ∧ W.1 (10, 0, k) 8 ≤ W.1 (10, 0, k) 7 ∧ W.1 (10, 0, k) 7 ≤ W.1 (10, 0, k) 5 + 40 ∧ W.1 (10, 0, k) 9 < 128 ∧ W.1 (10, 0, k) 1 ≤ 1 ∧ W.1 (10, 0, k) 4 ≤ 2 ∧ (W.1 (10, 0, k) 4 = 2 → (∀ o, o < W.1 (0, 0, 0) 3 → 1 ≤ W.1 (16, 0, k) o ∧ W.1 (16, 0, k) o ≤ W.1 (10, 0, k) 7 + 1) ∧ ∀ x, W.1 (10, 0, k) 8 < x → x ≤ W.1 (10, 0, k) 7 → sSetP k W x = false) ∧ (W.1 (10, 0, k) 4 = 1 → ∀ e, W.1 (10, 0, k) 8 < e → e ≤ W.1 (10, 0, k) 7 → sTm W k e ≠ W.1 (10, 0, k) 2) ∧ (∀ e, W.1 (10, 0, k) 8 < e → e ≤ W.1 (10, 0, k) 7 → sTm W k e ≤ W.1 (10, 0, k) 2) ∧ yKo W k := by
  obtain ⟨I1, I2, I3, I4, ⟨⟨n1, n2, n3⟩, l, r, d, L, len, lead, E, V, C, cl, ack, G, F, A, T, Q⟩⟩ := h
  have n1 : W.1 (0, 0, 0) 3 ≤ 7 := n1
  have n2 : W.1 (0, 0, 0) 4 = yVot (W.1 (0, 0, 0) 3) (xV W 0 10) := n2
  have nv : yVot (W.1 (0, 0, 0) 3) (xV W 0 10) ≤ W.1 (0, 0, 0) 3 := z_cnt_le _ _ _
  obtain ⟨⟨l1, l2, l3, l4, l5⟩, l6, l7, l8, l9, l10⟩ := l k hk
  obtain ⟨⟨k1, k2, -⟩, k3, k4, k5, k6, -⟩ := A k hk
  have k1 : W.1 (10, 0, k) 5 ≤ W.1 (10, 0, k) 8 := k1
  have k2 : W.1 (10, 0, k) 8 ≤ W.1 (10, 0, k) 7 := k2
  have tm : ∀ e, W.1 (10, 0, k) 8 < e → e ≤ W.1 (10, 0, k) 7 → sTm W k e = G k e := fun e e1 e2 => Q k hk e (by show W.1 (10, 0, k) 5 ≤ e; omega) e2
  refine ⟨by omega, n1, by omega, k1, k2, (I3 0).2.1 k, l4, l2, l3, fun q => ⟨(l10 q).1, fun x x1 x2 => ?_⟩, fun q e e1 e2 => ?_, fun e e1 e2 => ?_, l1, l2, l3, l6, l7, l8, by omega⟩
  · unfold sSetP
    by_cases c : sTm W k x = W.1 (10, 0, k) 2
    · have h1 : xSure (xV W 0) k x < xMost (xV W 0) := (l10 q).2 x x1 x2 c
      have h2 : ¬ sMost W ≤ sSure k x W := Nat.not_le.mpr h1
      rw [decide_eq_false h2, Bool.and_false]
    · rw [decide_eq_false c, Bool.false_and]
  · rw [tm e e1 e2]
    obtain ⟨c1, c2, c3, -⟩ := k5 q
    have c2 : cl (W.1 (10, 0, k) 2) k = W.1 (10, 0, k) 7 + 1 := c2
    have c3 := c3 e e2
    have t1 := l5 q
    obtain ⟨-, -, c4⟩ := F.2.2.2.2.1 (W.1 (10, 0, k) 2) k (by rw [c2]; omega)
    have c5 := (c4 e (by omega) (by rw [c2]; omega)).2.1
    intro q2
    have c3 : C (W.1 (10, 0, k) 2) k e = G k e := c3
    have t1 : 1 ≤ W.1 (10, 0, k) 2 := t1
    omega
  · rw [tm e e1 e2]
    exact (k3 e (by omega) e2).2.1
theorem yFN {bl : Nat → Bool} {W : yW} {τ : zS} {n : Nat} (R : yRc bl W τ n) : W.1 (0, 0, 0) 3 ≤ 7 := (R.1.2.2.1 0).1
theorem yFB {bl : Nat → Bool} {W : yW} {τ : zS} {n : Nat} (hn : n < 512) (R : yRc bl W τ n) : ∀ z i, W.1 z i < 30000 := fun z i => by have := R.1.1 z i; omega
