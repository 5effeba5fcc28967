/-! what holds of a world: letters are sent -/
section inv5
variable {X X' : Nat → Nat → Nat → Nat} {k : Nat} {L : Nat → Nat → Nat} {len lead : Nat → Nat} {E V : Nat → Nat → Nat} {C : Nat → Nat → Nat → Nat} {cl ack G : Nat → Nat → Nat}
/-- a letter more, in slot s -/
theorem xInv_add {s : Nat} (h : xInv X) (g : xG X L len lead E V C cl ack G) (h0 : X' 0 = X 0) (h4 : X' 4 = X 4) (h6 : X' 6 = X 6) (h10 : X' 10 = X 10) (h11 : X' 11 = X 11) (h16 : X' 16 = X 16) (h17 : X' 17 = X 17) (h20 : ∀ s', s' < 40 → s' ≠ s → ∀ f, f < 9 → X' 20 s' f = X 20 s' f) (h21 : ∀ s', s' < 40 → s' ≠ s → ∀ i, i < 5 → X' 21 s' (6 * i) = X 21 s' (6 * i)) (h8 : X' 20 s 0 = 1 → X' 20 s 8 = 0) (hl : yLt (X 0 0 3) (X 10) L len lead V C cl ack (X' 20 s) (fun i => X' 21 s (6 * i))) : xInv X' ∧ xG X' L len lead E V C cl ack G := by
  have g' : xG X' L len lead E V C cl ack G := xG_let g (by rw [h0]) h10 h11 h17 (fun s' hs' => by
    by_cases c : s' = s
    · rw [c]; exact hl
    · have z := g.2.2.1 s' hs'
      have q2 := h20 s' hs' c
      have q3 := h21 s' hs' c
      unfold yLt at z ⊢
      rw [q2 0 (by decide), q2 1 (by decide), q2 2 (by decide), q2 3 (by decide), q2 4 (by decide), q2 5 (by decide), q2 6 (by decide), q2 7 (by decide)]
      obtain ⟨z0, z1, z2, z3, z4, z5, z6⟩ := z
      refine ⟨z0, z1, z2, z3, fun e => ?_, z5, z6⟩
      obtain ⟨y1, y2, y3, y4, y5, y6⟩ := z4 e
      exact ⟨y1, y2, y3, y4, fun i hi => (q3 i (by omega)).trans (y5 i hi), y6⟩)
  obtain ⟨n, l, r, d, -⟩ := h
  refine ⟨⟨by rw [h0, h10]; exact n, fun v hv => ?_, fun s' hs' e => ?_, by rw [h4, h6]; exact d, L, len, lead, E, V, C, cl, ack, G, g'⟩, g'⟩
  · rw [h0] at hv
    exact xLoc_c (l v hv) h0 h10 h11 h16 h17
  · by_cases c : s' = s
    · rw [c] at e ⊢; exact h8 e
    · rw [h20 s' hs' c 0 (by decide)] at e
      rw [h20 s' hs' c 8 (by decide)]
      exact r s' hs' e
end inv5
/-- a leader's round goes on -/
theorem i_round {W : yW} {k r : Nat} {L : Nat → Nat → Nat} {len lead : Nat → Nat} {E V : Nat → Nat → Nat} {C : Nat → Nat → Nat → Nat} {cl ack G : Nat → Nat → Nat} (hk : k < W.1 (0, 0, 0) 3) (hr : W.1 (10, 0, k) 4 = 2) (h : xInv (xV W 0)) (g : xG (xV W 0) L len lead E V C cl ack G) : xInv (xV (yI W (10, 0, k) 10 r) 0) ∧ xG (xV (yI W (10, 0, k) 10 r) 0) L len lead E V C cl ack G := by
  have n : ∀ t i j, ¬ (t = 10 ∧ i = k ∧ j = 10) → xV (yI W (10, 0, k) 10 r) 0 t i j = xV W 0 t i j := fun t i j ht => by
    show (yI W (10, 0, k) 10 r).1 (t, 0, i) j = _
    rw [yI_n _ _ (fun e => ht (by simp at e; omega))]
    rfl
  have n10 : ∀ u f, f ≠ 10 → xV (yI W (10, 0, k) 10 r) 0 10 u f = xV W 0 10 u f := fun u f hf => n _ _ _ (by omega)
  have nt : ∀ t, t ≠ 10 → xV (yI W (10, 0, k) 10 r) 0 t = xV W 0 t := fun t ht => funext fun i => funext fun j => n _ _ _ (by omega)
  have lc := h.2.1 k hk
  have lk : ∀ v, v < xV W 0 0 0 3 → ∀ e, xV W 0 10 v 5 ≤ e → e ≤ xV W 0 10 v 7 → xTm (xV (yI W (10, 0, k) 10 r) 0) v e = G v e := fun v hv e e1 e2 => by
    have t : xTm (xV (yI W (10, 0, k) 10 r) 0) v e = xTm (xV W 0) v e := by
      unfold xTm
      rw [n10 v 5 (by decide), n10 v 6 (by decide), nt 11 (by decide)]
    rw [t]
    exact g.2.2.2 v hv e e1 e2
  obtain ⟨F, A⟩ := yQuiet (K' := xV (yI W (10, 0, k) 10 r) 0 10) (v := k) g.1 g.2.1 (fun u f hu => n _ _ _ (by omega)) (fun f hf => n10 k f (by omega)) (Or.inr ⟨n10 k 4 (by decide), n10 k 9 (by decide)⟩) (by
    rw [n10 k 5 (by decide), n10 k 8 (by decide)]
    exact (g.2.1 k hk).1.1) (by rw [n10 k 8 (by decide)]; exact Nat.le_refl _)
  refine ⟨xInv_step (k := k) h g (nt 0 (by decide)) (nt 4 (by decide)) (nt 6 (by decide)) (fun o => n10 o 0 (by decide)) (fun t v ht hv => funext fun j => n _ _ _ (by omega)) (fun s _ f _ => n _ _ _ (by omega)) (fun s _ i _ => n _ _ _ (by omega)) F (by rw [nt 17 (by decide)]; exact A) yExt_rfl (fun _ _ _ => rfl) (fun _ e e1 e2 => ?_) (fun _ => ?_), ?_⟩
  · rw [n10 k 5 (by decide)] at e1
    rw [n10 k 7 (by decide)] at e2
    exact lk k hk e e1 e2
  · have tm : ∀ e, xTm (xV (yI W (10, 0, k) 10 r) 0) k e = xTm (xV W 0) k e := fun e => by
      unfold xTm
      rw [n10 k 5 (by decide), n10 k 6 (by decide), nt 11 (by decide)]
    have su : ∀ e, xSure (xV (yI W (10, 0, k) 10 r) 0) k e = xSure (xV W 0) k e := fun e => by
      unfold xSure
      rw [nt 0 (by decide), nt 17 (by decide)]
      exact z_cnt_congr _ 0 (fun j _ _ => by rw [n10 j 0 (by decide)])
    have mo : xMost (xV (yI W (10, 0, k) 10 r) 0) = xMost (xV W 0) := by unfold xMost; rw [nt 0 (by decide)]
    unfold xLoc at lc ⊢
    simp only [tm, su, mo]
    rw [n10 k 0 (by decide), n10 k 1 (by decide), n10 k 4 (by decide), n10 k 9 (by decide), n10 k 7 (by decide), n10 k 8 (by decide), n10 k 2 (by decide), nt 0 (by decide), nt 16 (by decide)]
    refine ⟨lc.1, lc.2.1, fun e => absurd hr e, lc.2.2.2.1, fun j hj => ?_, lc.2.2.2.2.2⟩
    rw [n10 j 0 (by decide)]
    exact lc.2.2.2.2.1 j hj
  · unfold xG
    rw [nt 0 (by decide), nt 17 (by decide), nt 20 (by decide), nt 21 (by decide)]
    refine ⟨F, A, fun s hs => yLt_mono (E := E) (S := xV W 0 17) (G := G) (fun o _ => n10 o 0 (by decide)) yExt_rfl g.1 g.2.1 (g.2.2.1 s hs), fun v hv e e1 e2 => ?_⟩
    rw [n10 v 5 (by decide)] at e1
    rw [n10 v 7 (by decide)] at e2
    exact lk v hv e e1 e2
theorem i_append {W : yW} {k o s : Nat} (hk : k < W.1 (0, 0, 0) 3) (ho : o < W.1 (0, 0, 0) 3) (hr : W.1 (10, 0, k) 4 = 2) (h40 : W.1 (10, 0, k) 7 ≤ W.1 (10, 0, k) 5 + 40) (h : xInv (xV W 0)) : xInv (xV (sSend k o s W) 0) := by
  obtain ⟨L, len, lead, E, V, C, cl, ack, G, g⟩ := h.2.2.2.2
  obtain ⟨h1, g1⟩ := i_round (r := W.1 (10, 0, k) 10 + 1) hk hr h g
  have sk := g.2.1 k hk
  obtain ⟨q1, q2, q3, q4, q5⟩ := sk.2.2.2.2.1 hr
  have k58 : W.1 (10, 0, k) 5 ≤ W.1 (10, 0, k) 8 := sk.1.1
  have k87 : W.1 (10, 0, k) 8 ≤ W.1 (10, 0, k) 7 := sk.1.2.1
  have q2' : W.1 (10, 0, k) 7 = len (W.1 (10, 0, k) 2) := q2
  have q3' : ∀ n, n ≤ W.1 (10, 0, k) 7 → G k n = L (W.1 (10, 0, k) 2) n := q3
  have q1' : lead (W.1 (10, 0, k) 2) = k + 1 := q1
  have link : ∀ e, W.1 (10, 0, k) 5 ≤ e → e ≤ W.1 (10, 0, k) 7 → sTm W k e = L (W.1 (10, 0, k) 2) e := fun e e1 e2 => (g.2.2.2 k hk e e1 e2).trans (q3' e e2)
  have V1 : ∀ t i j, (yI W (10, 0, k) 10 (W.1 (10, 0, k) 10 + 1)).1 (t, 0, i) j = xV (yI W (10, 0, k) 10 (W.1 (10, 0, k) 10 + 1)) 0 t i j := fun _ _ _ => rfl
  have K0 : ∀ j, xV (yI W (10, 0, k) 10 (W.1 (10, 0, k) 10 + 1)) 0 10 j 0 = xV W 0 10 j 0 := fun j => by
    show (yI W (10, 0, k) 10 (W.1 (10, 0, k) 10 + 1)).1 (10, 0, j) 0 = _
    rw [yI_i _ _ (by decide)]
    rfl
  have N0 : xV (yI W (10, 0, k) 10 (W.1 (10, 0, k) 10 + 1)) 0 0 0 3 = W.1 (0, 0, 0) 3 := by
    show (yI W (10, 0, k) 10 (W.1 (10, 0, k) 10 + 1)).1 (0, 0, 0) 3 = _
    rw [yI_z _ _ (by simp)]
  have cp : ∀ n, n ≤ W.1 (10, 0, k) 8 → yCP (W.1 (0, 0, 0) 3) (xV (yI W (10, 0, k) 10 (W.1 (10, 0, k) 10 + 1)) 0 10) L len ack (L (W.1 (10, 0, k) 2)) (W.1 (10, 0, k) 2) n := fun n hn => yCP_mono (fun o _ => K0 o) (fun _ _ _ => rfl) (fun _ => Nat.le_refl _) (fun _ _ => Nat.le_refl _) (fun i hi => (q3' i (by omega)).symm) (Nat.le_refl _) hn sk.2.2.2.2.2.1
  have go : ∀ (f2 : ∀ (z : zJ) f, (z.2.2 ≠ s ∨ z.1 < 20) → (sSend k o s W).1 z f = (yI W (10, 0, k) 10 (W.1 (10, 0, k) 10 + 1)).1 z f), ((sSend k o s W).1 (20, 0, s) 0 ≠ 1) → yLt (W.1 (0, 0, 0) 3) (xV (yI W (10, 0, k) 10 (W.1 (10, 0, k) 10 + 1)) 0 10) L len lead V C cl ack (xV (sSend k o s W) 0 20 s) (fun i => xV (sSend k o s W) 0 21 s (6 * i)) → xInv (xV (sSend k o s W) 0) := fun f2 hn hl => by
    have e : ∀ t, t < 20 → xV (sSend k o s W) 0 t = xV (yI W (10, 0, k) 10 (W.1 (10, 0, k) 10 + 1)) 0 t := fun t ht => funext fun i => funext fun j => f2 (t, 0, i) j (Or.inr ht)
    refine (xInv_add (s := s) h1 g1 (e 0 (by decide)) (e 4 (by decide)) (e 6 (by decide)) (e 10 (by decide)) (e 11 (by decide)) (e 16 (by decide)) (e 17 (by decide)) (fun s' _ c f _ => f2 (20, 0, s') f (Or.inl c)) (fun s' _ c i _ => f2 (21, 0, s') (6 * i) (Or.inl c)) (fun q => absurd q hn) ?_).1
    rw [N0]
    exact hl
  by_cases c : W.1 (16, 0, k) o ≤ W.1 (10, 0, k) 5
  · obtain ⟨f1, f2, f3, f4⟩ := sSend_f (W := W) (k := k) (o := o) (s := s) c
    have F : ∀ f, f < 9 → xV (sSend k o s W) 0 20 s f = _ := f1
    refine go f2 (by rw [f1 0 (by decide)]; simp) ?_
    unfold yLt
    rw [F 0 (by decide), F 1 (by decide), F 2 (by decide), F 3 (by decide), F 4 (by decide), F 5 (by decide), F 6 (by decide), F 7 (by decide)]
    simp only [Nat.reduceEqDiff, if_true, if_false, Nat.succ_ne_zero, ↓reduceIte]
    refine ⟨by decide, fun _ => ⟨hk, ho⟩, fun e => absurd e (by decide), fun e => absurd e (by decide), fun e => absurd e (by decide), fun e => absurd e (by decide), fun _ => ⟨by omega, by omega, ?_, cp _ k58⟩⟩
    rw [← link _ (Nat.le_refl _) (by omega)]
    unfold sTm
    rw [if_pos rfl]
  · obtain ⟨f1, f2, f3, f4⟩ := sSend_e (W := W) (k := k) (o := o) (s := s) c
    have F : ∀ f, f < 9 → xV (sSend k o s W) 0 20 s f = _ := f1
    have lc := (h.2.1 k hk).2.2.2.2.2 hr
    have nx : W.1 (16, 0, k) o ≤ W.1 (10, 0, k) 7 + 1 := (lc.1 o ho).2
    refine go f2 (by rw [f1 0 (by decide)]; simp) ?_
    unfold yLt
    rw [F 0 (by decide), F 1 (by decide), F 2 (by decide), F 3 (by decide), F 4 (by decide), F 5 (by decide), F 6 (by decide), F 7 (by decide)]
    simp only [Nat.reduceEqDiff, if_true, if_false, Nat.succ_ne_zero, ↓reduceIte]
    refine ⟨by decide, fun _ => ⟨hk, ho⟩, fun e => absurd e (by decide), fun e => absurd e (by decide), fun _ => ⟨by omega, by omega, by omega, link _ (by omega) (by omega), fun i hi => ?_, cp _ (Nat.le_refl _)⟩, fun e => absurd e (by decide), fun e => absurd e (by decide)⟩
    show (sSend k o s W).1 (21, 0, s) (6 * i) = _
    rw [(f4 (6 * i) (by omega)).1, show W.1 (16, 0, k) o - 1 + 1 + i = W.1 (16, 0, k) o + i by omega, ← link _ (by omega) (by omega)]
    unfold sTm
    rw [if_neg (by omega), show 6 * (W.1 (16, 0, k) o - W.1 (10, 0, k) 5 - 1) + 6 * i = 6 * (W.1 (16, 0, k) o + i - W.1 (10, 0, k) 5 - 1) by omega]
