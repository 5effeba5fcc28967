/-! what holds of a world holds of its copy; the model's boxes -/
def xAg (X X' : Nat → Nat → Nat → Nat) : Prop := (X' 0 0 3 = X 0 0 3 ∧ X' 0 0 4 = X 0 0 4 ∧ X' 4 0 4 = X 4 0 4) ∧ (∀ k i, k < 7 → i ≤ 10 → X' 10 k i = X 10 k i) ∧ (∀ k i, k < 7 → i < 240 → X' 11 k i = X 11 k i) ∧ (∀ k i, k < 7 → i < 7 → X' 16 k i = X 16 k i ∧ X' 17 k i = X 17 k i) ∧ (∀ s i, s < 40 → i ≤ 8 → X' 20 s i = X 20 s i) ∧ (∀ s i, s < 40 → i < 30 → X' 21 s i = X 21 s i) ∧ ∀ i, i < 40 → X' 6 0 i = X 6 0 i
set_option maxHeartbeats 1000000 in
theorem xInv_cg {X X' : Nat → Nat → Nat → Nat} (h : xInv X) (a : xAg X X') (h40 : ∀ v, v < X 0 0 3 → X 10 v 7 ≤ X 10 v 5 + 40) (hr : X 4 0 4 ≤ 40) : xInv X' := by
  obtain ⟨⟨a3, a4, a44⟩, a10, a11, a16, a20, a21, a6⟩ := a
  obtain ⟨⟨n1, n2, n3⟩, l, r, d, L, len, lead, E, V, C, cl, ack, G, F, A, T, Q⟩ := h
  obtain ⟨N, eN⟩ : ∃ N, N = X 0 0 3 := ⟨_, rfl⟩
  rw [← eN] at n1 n2 n3 a3 l F A T Q h40
  have k0 : ∀ v, v < N → X' 10 v 0 = X 10 v 0 := fun v hv => a10 v 0 (by omega) (by decide)
  have eV : yVot N (X' 10) = yVot N (X 10) := by
    unfold yVot
    exact z_cnt_congr N 0 (fun j _ hj => by rw [k0 j (by omega)])
  have eM : yMost N (X' 10) = yMost N (X 10) := by
    funext P
    unfold yMost
    rw [eV, z_cnt_congr (P := fun o => decide (X' 10 o 0 ≠ 0) && P o) (P' := fun o => decide (X 10 o 0 ≠ 0) && P o) N 0 (fun j _ hj => by
      show (decide (X' 10 j 0 ≠ 0) && P j) = (decide (X 10 j 0 ≠ 0) && P j)
      rw [k0 j (by omega)])]
  have eCP : ∀ L len ack Y t n, yCP N (X' 10) L len ack Y t n = yCP N (X 10) L len ack Y t n := fun L len ack Y t n => by
    unfold yCP
    rw [eM]
  have eT : ∀ v e, v < N → X 10 v 5 ≤ e → e ≤ X 10 v 7 → xTm X' v e = xTm X v e := fun v e hv h1 h2 => by
    unfold xTm
    rw [a10 v 5 (by omega) (by decide), a10 v 6 (by omega) (by decide)]
    by_cases c : e = X 10 v 5
    · rw [if_pos c, if_pos c]
    · rw [if_neg c, if_neg c]
      have := h40 v hv
      exact a11 v _ (by omega) (by omega)
  have eS : ∀ v e, v < N → xSure X' v e = xSure X v e := fun v e hv => by
    unfold xSure
    rw [a3, ← eN]
    refine z_cnt_congr N 0 (fun j _ hj => ?_)
    show (decide (¬ X' 10 j 0 = 0) && (decide (j = v) || decide (e ≤ X' 17 v j))) = (decide (¬ X 10 j 0 = 0) && (decide (j = v) || decide (e ≤ X 17 v j)))
    rw [k0 j (by omega), (a16 v j (by omega) (by omega)).2]
  have eMo : xMost X' = xMost X := by
    unfold xMost
    rw [a4]
  refine ⟨⟨by rw [a3]; exact n1, by rw [a3, a4, eV]; exact n2, by rw [a3, a4]; exact n3⟩, fun v hv => ?_, fun s hs e => ?_, fun i hi => ?_, L, len, lead, E, V, C, cl, ack, G, ?_, fun v hv => ?_, fun s hs => ?_, fun v hv e e1 e2 => ?_⟩
  · rw [a3] at hv
    have kk := ((A v hv).1)
    obtain ⟨⟨l1, l2, l3, l4, l5⟩, l6, l7, l8, l9, l10⟩ := l v hv
    have v7 : v < 7 := by omega
    unfold xLoc
    rw [a10 v 0 v7 (by decide), a10 v 1 v7 (by decide), a10 v 2 v7 (by decide), a10 v 4 v7 (by decide), a10 v 7 v7 (by decide), a10 v 8 v7 (by decide), a10 v 9 v7 (by decide), a10 v 10 v7 (by decide), eMo, a3]
    refine ⟨⟨l1, l2, l3, l4, l5⟩, l6, l7, l8, fun j q => ?_, fun q => ⟨fun o ho => ?_, fun e q1 q2 q3 => ?_⟩⟩
    · obtain ⟨j1, j2⟩ := l9 j q
      rw [← eN] at j1
      exact ⟨j1, by rw [k0 j j1]; exact j2⟩
    · rw [(a16 v o v7 (by omega)).1]
      rw [eN] at ho
      exact (l10 q).1 o ho
    · rw [eS v e hv]
      rw [eT v e hv (by omega) q2] at q3
      exact (l10 q).2 e q1 q2 q3
  · rw [a20 s 0 hs (by decide)] at e
    rw [a20 s 8 hs (by decide)]
    exact r s hs e
  · rw [a44] at hi
    rw [a6 i (by omega)]
    exact d i hi
  · rw [a3]
    obtain ⟨F1, F2, F3, F4, F5, F6, F7⟩ := F
    refine ⟨F1, F2, F3, fun t c q => ?_, fun t c q => ?_, fun t v c hv q => ?_, fun v T hv => ?_⟩
    · obtain ⟨⟨c1, c2, c3, c4, c5⟩, c6, c7, c8⟩ := F4 t c q
      exact ⟨⟨c1, c2, by rw [a10 c 2 (by omega) (by decide)]; exact c3, c4, c5⟩, c6, by rw [eM]; exact c7, c8⟩
    · obtain ⟨c1, c2, c3⟩ := F5 t c q
      exact ⟨c1, by rw [a10 c 2 (by omega) (by decide)]; exact c2, c3⟩
    · obtain ⟨c1, c2⟩ := F6 t v c hv q
      exact ⟨c1, by rw [k0 v hv]; exact c2⟩
    · obtain ⟨c1, c2⟩ := F7 v T hv
      exact ⟨c1, fun q => by rw [a10 v 2 (by omega) (by decide)]; exact c2 q⟩
  · rw [a3] at hv ⊢
    have v7 : v < 7 := by omega
    obtain ⟨k1, k2, k3, k4, k5, k6, k7, k8⟩ := A v hv
    unfold ySk
    rw [a10 v 5 v7 (by decide), a10 v 8 v7 (by decide), a10 v 7 v7 (by decide), a10 v 2 v7 (by decide), a10 v 3 v7 (by decide), a10 v 4 v7 (by decide), a10 v 9 v7 (by decide), eCP]
    refine ⟨k1, k2, k3, k4, fun q => ?_, k6, k7, k8⟩
    obtain ⟨c1, c2, c3, c4, c5⟩ := k5 q
    exact ⟨c1, c2, c3, c4, fun o ho => by rw [(a16 v o v7 (by omega)).2]; exact c5 o ho⟩
  · rw [a3]
    obtain ⟨t0, t1, t2, t3, t4, t5, t6⟩ := T s hs
    unfold yLt
    rw [a20 s 0 hs (by decide), a20 s 1 hs (by decide), a20 s 2 hs (by decide), a20 s 3 hs (by decide), a20 s 4 hs (by decide), a20 s 5 hs (by decide), a20 s 6 hs (by decide), a20 s 7 hs (by decide)]
    refine ⟨t0, t1, t2, t3, fun q => ?_, t5, fun q => ?_⟩
    · obtain ⟨c1, c2, c3, c4, c5, c6⟩ := t4 q
      exact ⟨c1, c2, c3, c4, fun i hi => (a21 s (6 * i) hs (by omega)).trans (c5 i hi), by rw [eCP]; exact c6⟩
    · obtain ⟨c1, c2, c3, c4⟩ := t6 q
      exact ⟨c1, c2, c3, by rw [eCP]; exact c4⟩
  · rw [a3] at hv
    rw [a10 v 5 (by omega) (by decide)] at e1
    rw [a10 v 7 (by omega) (by decide)] at e2
    rw [eT v e hv e1 e2]
    exact Q v hv e e1 e2
theorem zl_lay_h {g g' h h' : Nat → Int32} (e : ∀ q, q < 20 → g' q = g q) (e' : ∀ q, q < 20 → h' q = h q) (a : zl_lay g h) : zl_lay g' h' := ⟨fun q hq => by rw [e q (by omega), e' q (by omega)]; exact a.1 q hq, fun k hk => by rw [e _ (by omega), e _ (by omega), e' _ (by omega), e' _ (by omega)]; exact a.2 k hk⟩
/-- the cells of a world, of another -/
def yAg (W W' : yW) (w w' : Nat) : Prop := (W'.1 (0, w', 0) 3 = W.1 (0, w, 0) 3 ∧ W'.1 (0, w', 0) 4 = W.1 (0, w, 0) 4 ∧ W'.1 (4, w', 0) 4 = W.1 (4, w, 0) 4) ∧ (∀ k i, k < 7 → i ≤ 10 → W'.1 (10, w', k) i = W.1 (10, w, k) i) ∧ (∀ k i, k < 7 → i < 240 → W'.1 (11, w', k) i = W.1 (11, w, k) i ∧ W'.2.1 (11, w', k) i = W.2.1 (11, w, k) i) ∧ (∀ k i, k < 7 → i < 20 → W'.2.1 (13, w', k) i = W.2.1 (13, w, k) i ∧ W'.2.1 (15, w', k) i = W.2.1 (15, w, k) i) ∧ (∀ k i, k < 7 → i < 7 → W'.1 (16, w', k) i = W.1 (16, w, k) i ∧ W'.1 (17, w', k) i = W.1 (17, w, k) i ∧ W'.1 (18, w', k) i = W.1 (18, w, k) i) ∧ (∀ s i, s < 40 → i ≤ 8 → W'.1 (20, w', s) i = W.1 (20, w, s) i) ∧ (∀ s i, s < 40 → i < 30 → W'.1 (21, w', s) i = W.1 (21, w, s) i ∧ W'.2.1 (21, w', s) i = W.2.1 (21, w, s) i) ∧ (∀ s i, s < 40 → i < 20 → W'.2.1 (23, w', s) i = W.2.1 (23, w, s) i) ∧ ∀ i, i < 40 → W'.1 (5, w', 0) i = W.1 (5, w, 0) i ∧ W'.1 (6, w', 0) i = W.1 (6, w, 0) i ∧ W'.1 (7, w', 0) i = W.1 (7, w, 0) i ∧ W'.1 (8, w', 0) i = W.1 (8, w, 0) i
theorem yAg_x {W W' : yW} {w w' : Nat} (a : yAg W W' w w') : xAg (xV W w) (xV W' w') := by
  obtain ⟨a0, a10, a11, a13, a16, a20, a21, a23, a5⟩ := a
  exact ⟨a0, a10, fun k i hk hi => (a11 k i hk hi).1, fun k i hk hi => ⟨(a16 k i hk hi).1, (a16 k i hk hi).2.1⟩, a20, fun s i hs hi => (a21 s i hs hi).1, fun i hi => (a5 i hi).2.1⟩
set_option maxHeartbeats 1000000 in
theorem mW_w {B B' : Nat → Int32} {W W' : yW} {w w' : Nat} (h : mW B W w) (hA : yA W w) (a : yAg W W' w w') (hB : ∀ i, i < 5000 → B' i = B i) : mW B' W' w' := by
  obtain ⟨⟨a3, a4, a44⟩, a10, a11, a13, a16, a20, a21, a23, a5⟩ := a
  obtain ⟨h1, h2, h3⟩ := h
  obtain ⟨A1, A2, A3, A4⟩ := hA
  refine ⟨fun k hk => ?_, fun s hs => ?_, ?_⟩
  · rw [a3] at hk
    have k7 : k < 7 := by omega
    obtain ⟨⟨b1, b2, b3, b4, b5, b6, b7, b8⟩, c1, c2, c3, c4, c5⟩ := h1 k hk
    have h40 := A2 k
    unfold mK
    rw [a10 k 1 k7 (by decide), a10 k 2 k7 (by decide), a10 k 3 k7 (by decide), a10 k 4 k7 (by decide), a10 k 5 k7 (by decide), a10 k 6 k7 (by decide), a10 k 7 k7 (by decide), a10 k 8 k7 (by decide), a10 k 9 k7 (by decide), a10 k 10 k7 (by decide)]
    refine ⟨⟨?_, ?_, ?_, ?_, ?_, ?_, ?_, ?_⟩, fun q => ?_, fun q => ⟨?_, fun o ho => ?_⟩, fun j hj => ?_, zl_lay_h (fun q hq => hB _ (by omega)) (fun q hq => (a13 k q k7 hq).1) c4, zl_lay_h (fun q hq => hB _ (by omega)) (fun q hq => (a13 k q k7 hq).2) c5⟩
    · rw [hB _ (by omega)]; exact b1
    · rw [hB _ (by omega)]; exact b2
    · rw [hB _ (by omega)]; exact b3
    · rw [hB _ (by omega)]; exact b4
    · rw [hB _ (by omega)]; exact b5
    · rw [hB _ (by omega)]; exact b6
    · rw [hB _ (by omega)]; exact b7
    · rw [hB _ (by omega)]; exact b8
    · rw [hB _ (by omega)]; exact c1 q
    · rw [hB _ (by omega)]; exact (c2 q).1
    · rw [hB _ (by omega), hB _ (by omega), hB _ (by omega), (a16 k o k7 ho).1, (a16 k o k7 ho).2.1, (a16 k o k7 ho).2.2]
      exact (c2 q).2 o ho
    · rw [hB _ (by omega), cE_at, (a11 k j k7 (by omega)).1, (a11 k j k7 (by omega)).2]
      exact c3 j hj
  · obtain ⟨b1, b2⟩ := h2 s hs
    unfold mL
    rw [a20 s 0 hs (by decide), a20 s 6 hs (by decide)]
    refine ⟨by rw [hB _ (by omega)]; exact b1, fun q => ?_⟩
    obtain ⟨c1, c2, c3⟩ := b2 q
    refine ⟨fun f f1 f2 => ?_, fun q2 j hj => ?_, fun q2 => zl_lay_h (fun q hq => hB _ (by omega)) (fun q hq => a23 s q hs hq) (c3 q2)⟩
    · rw [hB _ (by omega), a20 s f hs (by omega)]; exact c1 f f1 f2
    · have := A3 s q2
      rw [hB _ (by omega), cE_at, (a21 s j hs (by omega)).1, (a21 s j hs (by omega)).2]
      exact c2 q2 j hj
  · unfold mD
    rw [a44, hB _ (by omega)]
    refine ⟨h3.1, fun i hi => ?_⟩
    obtain ⟨d1, d2, d3, d4⟩ := a5 i (by omega)
    rw [d1, d2, d3, d4, hB _ (by omega), hB _ (by omega), hB _ (by omega), hB _ (by omega)]
    exact h3.2 i hi
theorem yCs_ag {w0 w1 : Nat} (hw : w0 ≠ w1) (W : yW) : yAg W (yCs pWd w0 w1 W) w1 w0 := by
  obtain ⟨⟨t1, t2, t3⟩, t10, t11, t13, t16, t20, t21, t23, t5⟩ := pWd_t
  have e1 : ∀ t k i, pWd t k i = true → (yCs pWd w0 w1 W).1 (t, w0, k) i = W.1 (t, w1, k) i := fun t k i h => if_pos ⟨rfl, h⟩
  have e2 : ∀ t k i, pWd t k i = true → (yCs pWd w0 w1 W).2.1 (t, w0, k) i = W.2.1 (t, w1, k) i := fun t k i h => if_pos ⟨rfl, h⟩
  exact ⟨⟨e1 _ _ _ t1, e1 _ _ _ t2, e1 _ _ _ t3⟩, fun k i hk hi => e1 _ _ _ (t10 k i hk hi), fun k i hk hi => ⟨e1 _ _ _ (t11 k i hk hi), e2 _ _ _ (t11 k i hk hi)⟩, fun k i hk hi => ⟨e2 _ _ _ (t13 k i hk hi).1, e2 _ _ _ (t13 k i hk hi).2⟩, fun k i hk hi => ⟨e1 _ _ _ (t16 k i hk hi).1, e1 _ _ _ (t16 k i hk hi).2.1, e1 _ _ _ (t16 k i hk hi).2.2⟩, fun k i hk hi => e1 _ _ _ (t20 k i hk hi), fun k i hk hi => ⟨e1 _ _ _ (t21 k i hk hi), e2 _ _ _ (t21 k i hk hi)⟩, fun k i hk hi => e2 _ _ _ (t23 k i hk hi), fun i hi => ⟨e1 _ _ _ (t5 i hi).1, e1 _ _ _ (t5 i hi).2.1, e1 _ _ _ (t5 i hi).2.2.1, e1 _ _ _ (t5 i hi).2.2.2⟩⟩
theorem yCs_o {P : Nat → Nat → Nat → Bool} {w0 w1 : Nat} (W : yW) {z : zJ} (hz : z.2.1 ≠ w0) : (yCs P w0 w1 W).1 z = W.1 z ∧ (yCs P w0 w1 W).2.1 z = W.2.1 z := ⟨funext fun i => if_neg (fun q => hz q.1), funext fun i => if_neg (fun q => hz q.1)⟩
theorem yCs_or {P : Nat → Nat → Nat → Bool} {w0 w1 : Nat} (W : yW) (z : zJ) (i : Nat) : (yCs P w0 w1 W).1 z i = W.1 z i ∨ (yCs P w0 w1 W).1 z i = W.1 (z.1, w1, z.2.2) i := by
  show (if z.2.1 = w0 ∧ P z.1 z.2.2 i = true then W.1 (z.1, w1, z.2.2) i else W.1 z i) = _ ∨ _
  by_cases c : z.2.1 = w0 ∧ P z.1 z.2.2 i = true
  · exact Or.inr (if_pos c)
  · exact Or.inl (if_neg c)
/-! the model's image and back -/
theorem m_b5 (b i : Nat) : (5000 : Int32) * nI b + nI i = nI (5000 * b + i) := by
  rw [show (5000 : Int32) = nI 5000 from by decide +kernel, pk_mul, nI_add]
theorem m_image_13 {b : Nat} (hb : b < 3) : ∀ (m i F : Nat) (τ : zS), i + m = 5000 → m < F → ∃ τ1, fM_image_13 F (nI b) (nI i) τ = z_bd (fM_letters (z_up τ1 (105, 0, 0) b 1)) (fun r s => some (r, s)) ∧ (∀ j, i ≤ j → j < 5000 → τ1.1 (104, 0, 0) (5000 * b + j) = τ.1 (103, 0, 0) j) ∧ (∀ q, q < 5000 * b + i ∨ 5000 * b + 5000 ≤ q → τ1.1 (104, 0, 0) q = τ.1 (104, 0, 0) q) ∧ (∀ z : zJ, z ≠ (104, 0, 0) → τ1.1 z = τ.1 z) ∧ τ1.2 = τ.2 := by
  intro m
  induction m with
  | zero =>
    intro i F τ hi hF
    obtain ⟨F, rfl⟩ : ∃ k, F = k + 1 := ⟨F - 1, by omega⟩
    rw [fM_image_13.eq_2, if_pos ((nI_le_lit (a := 5000) (by decide +kernel) (by decide) (by omega)).mpr (by omega)), if_pos (nI_inz hb (by decide)), nI_clamp (by omega), show vp_nar .boolean 1 = 1 from by decide +kernel]
    exact ⟨τ, rfl, fun j h1 h2 => by omega, fun _ _ => rfl, fun _ _ => rfl, rfl⟩
  | succ m ih =>
    intro i F τ hi hF
    obtain ⟨F, rfl⟩ : ∃ k, F = k + 1 := ⟨F - 1, by omega⟩
    rw [fM_image_13.eq_2, if_neg (fun hh => by have := (nI_le_lit (a := 5000) (by decide +kernel) (by decide) (by omega)).mp hh; omega), m_b5, if_pos (nI_inz (by omega) (by decide)), if_pos (nI_inz (by omega) (by decide)), nI_clamp (by omega), nI_clamp (by omega)]
    obtain ⟨τ1, e1, e2, e3, e4, e5⟩ := ih (i + 1) F (z_up τ (104, 0, 0) (5000 * b + i) (τ.1 (103, 0, 0) i)) (by omega) (by omega)
    refine ⟨τ1, ?_, fun j h1 h2 => ?_, fun q hq => ?_, fun z hz => by rw [e4 z hz, z_up_n _ _ _ hz], e5⟩
    · show fM_image_13 F (nI b) (nI i + 1) _ = _
      rw [nI_1]
      exact e1
    · by_cases c : j = i
      · rw [c, e3 _ (Or.inl (by omega)), z_up_s, upd_s]
      · rw [e2 j (by omega) h2, z_up_n _ _ _ (by decide)]
    · rw [e3 q (by omega), z_up_s, upd_n _ _ (by omega)]
theorem m_back_22 {b : Nat} (hb : b < 3) : ∀ (m i F : Nat) (τ : zS), i + m = 5000 → m < F → ∃ τ1, fM_back_22 F (nI b) (nI i) τ = z_bd (fM_letters τ1) (fun r s => some (r, s)) ∧ (∀ j, i ≤ j → j < 5000 → τ1.1 (103, 0, 0) j = τ.1 (104, 0, 0) (5000 * b + j)) ∧ (∀ j, j < i → τ1.1 (103, 0, 0) j = τ.1 (103, 0, 0) j) ∧ (∀ z : zJ, z ≠ (103, 0, 0) → τ1.1 z = τ.1 z) ∧ τ1.2 = τ.2 := by
  intro m
  induction m with
  | zero =>
    intro i F τ hi hF
    obtain ⟨F, rfl⟩ : ∃ k, F = k + 1 := ⟨F - 1, by omega⟩
    rw [fM_back_22.eq_2, if_pos ((nI_le_lit (a := 5000) (by decide +kernel) (by decide) (by omega)).mpr (by omega))]
    exact ⟨τ, rfl, fun j h1 h2 => by omega, fun _ _ => rfl, fun _ _ => rfl, rfl⟩
  | succ m ih =>
    intro i F τ hi hF
    obtain ⟨F, rfl⟩ : ∃ k, F = k + 1 := ⟨F - 1, by omega⟩
    rw [fM_back_22.eq_2, if_neg (fun hh => by have := (nI_le_lit (a := 5000) (by decide +kernel) (by decide) (by omega)).mp hh; omega), m_b5, if_pos (nI_inz (by omega) (by decide)), if_pos (nI_inz (by omega) (by decide)), nI_clamp (by omega), nI_clamp (by omega)]
    obtain ⟨τ1, e1, e2, e3, e4, e5⟩ := ih (i + 1) F (z_up τ (103, 0, 0) i (τ.1 (104, 0, 0) (5000 * b + i))) (by omega) (by omega)
    refine ⟨τ1, ?_, fun j h1 h2 => ?_, fun j hj => ?_, fun z hz => by rw [e4 z hz, z_up_n _ _ _ hz], e5⟩
    · show fM_back_22 F (nI b) (nI i + 1) _ = _
      rw [nI_1]
      exact e1
    · by_cases c : j = i
      · rw [c, e3 _ (by omega), z_up_s, upd_s]
      · rw [e2 j (by omega) h2, z_up_n _ _ _ (by decide)]
    · rw [e3 j (by omega), z_up_s, upd_n _ _ (by omega)]
