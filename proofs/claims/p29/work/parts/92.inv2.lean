/-! what holds of a world: rise, fall, fold keep it -/
/-- another keeper than k -/
theorem xLoc_o {X X' : Nat → Nat → Nat → Nat} {v : Nat} (h : xLoc X v) (h0 : X' 0 = X 0) (hK : ∀ o, X' 10 o 0 = X 10 o 0) (h10 : X' 10 v = X 10 v) (h11 : X' 11 v = X 11 v) (h16 : X' 16 v = X 16 v) (h17 : X' 17 v = X 17 v) : xLoc X' v := by
  have e1 : ∀ e, xTm X' v e = xTm X v e := fun e => by unfold xTm; rw [h10, h11]
  have e2 : ∀ e, xSure X' v e = xSure X v e := fun e => by
    unfold xSure
    rw [h0, h17]
    exact z_cnt_congr _ 0 (fun j _ _ => by rw [hK])
  have e3 : xMost X' = xMost X := by unfold xMost; rw [h0]
  unfold xLoc at h ⊢
  simp only [e1, e2, e3, h0, h10, h16, hK]
  exact h
section inv2
variable {X X' : Nat → Nat → Nat → Nat} {k : Nat} {L L' : Nat → Nat → Nat} {len len' lead lead' : Nat → Nat} {E E' V V' : Nat → Nat → Nat} {C C' : Nat → Nat → Nat → Nat} {cl cl' ack ack' G G' : Nat → Nat → Nat}
/-- only keeper k is other; the ghosts go on -/
theorem xInv_step (h : xInv X) (g : xG X L len lead E V C cl ack G) (h0 : X' 0 = X 0) (h4 : X' 4 = X 4) (h6 : X' 6 = X 6) (hK : ∀ o, X' 10 o 0 = X 10 o 0) (ho : ∀ t v, (t = 10 ∨ t = 11 ∨ t = 16 ∨ t = 17) → v ≠ k → X' t v = X t v) (h20 : ∀ s, s < 40 → ∀ f, f < 9 → X' 20 s f = X 20 s f) (h21 : ∀ s, s < 40 → ∀ i, i < 5 → X' 21 s (6 * i) = X 21 s (6 * i)) (F : ySf (X 0 0 3) (X' 10) L' len' lead' E' V' C' cl' ack') (A : ∀ v, v < X 0 0 3 → ySk (X 0 0 3) (X' 10) (X' 17) L' len' lead' E' V' C' cl' ack' G' v) (x : yExt L len lead V C cl ack L' len' lead' V' C' cl' ack') (hG : ∀ v e, v ≠ k → G' v e = G v e) (lk : k < X 0 0 3 → ∀ e, X' 10 k 5 ≤ e → e ≤ X' 10 k 7 → xTm X' k e = G' k e) (lc : k < X 0 0 3 → xLoc X' k) : xInv X' := by
  obtain ⟨n, l, r, d, -⟩ := h
  have vot : yVot (X 0 0 3) (X' 10) = yVot (X 0 0 3) (X 10) := z_cnt_congr _ 0 (fun j _ _ => by rw [hK])
  refine ⟨by rw [h0, vot]; exact n, fun v hv => ?_, fun s hs e => ?_, by rw [h4, h6]; exact d, L', len', lead', E', V', C', cl', ack', G', ?_⟩
  · rw [h0] at hv
    by_cases c : v = k
    · rw [c] at hv ⊢; exact lc hv
    · exact xLoc_o (l v hv) h0 hK (ho 10 v (by omega) c) (ho 11 v (by omega) c) (ho 16 v (by omega) c) (ho 17 v (by omega) c)
  · rw [h20 s hs 0 (by decide)] at e
    rw [h20 s hs 8 (by decide)]
    exact r s hs e
  · unfold xG
    rw [h0]
    refine ⟨F, A, fun s hs => ?_, fun v hv e e1 e2 => ?_⟩
    · have z := yLt_mono (K' := X' 10) (E := E) (S := X 17) (G := G) (fun o _ => hK o) x g.1 g.2.1 (g.2.2.1 s hs)
      have q2 := h20 s hs
      have q3 := h21 s hs
      unfold yLt at z ⊢
      rw [q2 0 (by decide), q2 1 (by decide), q2 2 (by decide), q2 3 (by decide), q2 4 (by decide), q2 5 (by decide), q2 6 (by decide), q2 7 (by decide)]
      obtain ⟨z0, z1, z2, z3, z4, z5, z6⟩ := z
      refine ⟨z0, z1, z2, z3, fun e => ?_, z5, z6⟩
      obtain ⟨y1, y2, y3, y4, y5, y6⟩ := z4 e
      exact ⟨y1, y2, y3, y4, fun i hi => (q3 i (by omega)).trans (y5 i hi), y6⟩
    · by_cases c : v = k
      · rw [c] at hv e1 e2 ⊢; exact lk hv e e1 e2
      · have t : xTm X' v e = xTm X v e := by
          unfold xTm
          rw [ho 10 v (by omega) c, ho 11 v (by omega) c]
        rw [ho 10 v (by omega) c] at e1 e2
        rw [t, hG v e c]
        exact g.2.2.2 v hv e e1 e2
end inv2
theorem i_rise {W : yW} {k : Nat} (hk : k < W.1 (0, 0, 0) 3) (hf : W.1 (10, 0, k) 1 ≠ 0) (h : xInv (xV W 0)) : xInv (xV (yI W (10, 0, k) 1 0) 0) := by
  obtain ⟨L, len, lead, E, V, C, cl, ack, G, g⟩ := h.2.2.2.2
  have n : ∀ t i j, ¬ (t = 10 ∧ i = k ∧ j = 1) → xV (yI W (10, 0, k) 1 0) 0 t i j = xV W 0 t i j := fun t i j ht => by
    show (yI W (10, 0, k) 1 0).1 (t, 0, i) j = _
    rw [yI_n _ _ (fun e => ht (by simp at e; omega))]
    rfl
  have n10 : ∀ u f, f ≠ 1 → xV (yI W (10, 0, k) 1 0) 0 10 u f = xV W 0 10 u f := fun u f hf => n _ _ _ (by omega)
  have nt : ∀ t, t ≠ 10 → xV (yI W (10, 0, k) 1 0) 0 t = xV W 0 t := fun t ht => funext fun i => funext fun j => n _ _ _ (by omega)
  have n1 : xV (yI W (10, 0, k) 1 0) 0 10 k 1 = 0 := yI_s _ _ _ _
  have lc := h.2.1 k hk
  obtain ⟨F, A⟩ := yQuiet (K' := xV (yI W (10, 0, k) 1 0) 0 10) (v := k) g.1 g.2.1 (fun u f hu => n _ _ _ (by omega)) (fun f hf => n10 k f (by omega)) (Or.inr ⟨n10 k 4 (by decide), n10 k 9 (by decide)⟩) (by
    rw [n10 k 5 (by decide), n10 k 8 (by decide)]
    exact (g.2.1 k hk).1.1) (by rw [n10 k 8 (by decide)]; exact Nat.le_refl _)
  refine xInv_step (k := k) h g (nt 0 (by decide)) (nt 4 (by decide)) (nt 6 (by decide)) (fun o => n10 o 0 (by decide)) (fun t v ht hv => funext fun j => n _ _ _ (by omega)) (fun s _ f _ => n _ _ _ (by omega)) (fun s _ i _ => n _ _ _ (by omega)) F (by rw [nt 17 (by decide)]; exact A) yExt_rfl (fun _ _ _ => rfl) (fun _ e e1 e2 => ?_) (fun _ => ?_)
  · rw [n10 k 5 (by decide)] at e1
    rw [n10 k 7 (by decide)] at e2
    have t : xTm (xV (yI W (10, 0, k) 1 0) 0) k e = xTm (xV W 0) k e := by
      unfold xTm
      rw [n10 k 5 (by decide), n10 k 6 (by decide), nt 11 (by decide)]
    rw [t]
    exact g.2.2.2 k hk e e1 e2
  · have r0 : xV W 0 10 k 4 = 0 := lc.2.2.2.1 hf
    unfold xLoc at lc ⊢
    rw [n10 k 0 (by decide), n1, n10 k 4 (by decide), n10 k 9 (by decide), n10 k 2 (by decide), n10 k 10 (by decide), nt 0 (by decide)]
    refine ⟨⟨lc.1.1, by decide, lc.1.2.2⟩, lc.2.1, lc.2.2.1, fun e => absurd rfl e, fun j hj => ?_, fun e => by omega⟩
    rw [n10 j 0 (by decide)]
    exact lc.2.2.2.2.1 j hj
theorem sFall_at (k : Nat) (W : yW) (t i j : Nat) : (sFall k W).1 (t, 0, i) j = if t = 10 ∧ i = k ∧ j = 1 then 1 else if t = 10 ∧ i = k ∧ (j = 4 ∨ j = 9 ∨ j = 10) then 0 else if t = 10 ∧ i = k ∧ j = 8 then W.1 (10, 0, k) 5 else if t = 15 ∧ i = k ∧ j < 20 then W.1 (13, 0, k) j else W.1 (t, 0, i) j := by
  unfold sFall
  rw [yCp_at, yI_at, sFollow_at, yI_at, yI_at, sFollow_at, yI_at]
  simp only [Prod.mk.injEq, true_and]
  by_cases c1 : t = 10
  · subst c1
    simp
    grind
  · by_cases c2 : t = 15
    · subst c2
      simp
    · simp [c1, c2]
theorem i_fall {W : yW} {k : Nat} (hk : k < W.1 (0, 0, 0) 3) (h : xInv (xV W 0)) : xInv (xV (sFall k W) 0) := by
  obtain ⟨L, len, lead, E, V, C, cl, ack, G, g⟩ := h.2.2.2.2
  have n : ∀ t i j, ¬ (t = 10 ∧ i = k ∧ (j = 1 ∨ j = 4 ∨ j = 9 ∨ j = 10 ∨ j = 8)) → t ≠ 15 → xV (sFall k W) 0 t i j = xV W 0 t i j := fun t i j ht h15 => by
    show (sFall k W).1 (t, 0, i) j = _
    rw [sFall_at, if_neg (by omega), if_neg (by omega), if_neg (by omega), if_neg (by omega)]
    rfl
  have nt : ∀ t, t ≠ 10 → t ≠ 15 → xV (sFall k W) 0 t = xV W 0 t := fun t ht h15 => funext fun i => funext fun j => n _ _ _ (by omega) h15
  have n1 : xV (sFall k W) 0 10 k 1 = 1 := by show (sFall k W).1 (10, 0, k) 1 = 1; rw [sFall_at]; simp
  have n4 : xV (sFall k W) 0 10 k 4 = 0 := by show (sFall k W).1 (10, 0, k) 4 = 0; rw [sFall_at]; simp
  have n9 : xV (sFall k W) 0 10 k 9 = 0 := by show (sFall k W).1 (10, 0, k) 9 = 0; rw [sFall_at]; simp
  have n10' : xV (sFall k W) 0 10 k 10 = 0 := by show (sFall k W).1 (10, 0, k) 10 = 0; rw [sFall_at]; simp
  have n8 : xV (sFall k W) 0 10 k 8 = xV W 0 10 k 5 := by show (sFall k W).1 (10, 0, k) 8 = _; rw [sFall_at]; simp; rfl
  have n0 : ∀ o, xV (sFall k W) 0 10 o 0 = xV W 0 10 o 0 := fun o => n _ _ _ (by omega) (by decide)
  have lc := h.2.1 k hk
  have sk := g.2.1 k hk
  have n5 : xV (sFall k W) 0 10 k 5 = xV W 0 10 k 5 := n _ _ _ (by omega) (by decide)
  obtain ⟨F, A⟩ := yQuiet (K' := xV (sFall k W) 0 10) (v := k) g.1 g.2.1 (fun u f hu => n _ _ _ (by omega) (by decide)) (fun f hf => n _ _ _ (by omega) (by decide)) (Or.inl n4) (by rw [n5, n8]; exact Nat.le_refl _) (by rw [n8]; exact sk.1.1)
  refine xInv_step (k := k) h g (nt 0 (by decide) (by decide)) (nt 4 (by decide) (by decide)) (nt 6 (by decide) (by decide)) n0 (fun t v ht hv => funext fun j => n _ _ _ (by omega) (by omega)) (fun s _ f _ => n _ _ _ (by omega) (by decide)) (fun s _ i _ => n _ _ _ (by omega) (by decide)) F (by rw [nt 17 (by decide) (by decide)]; exact A) yExt_rfl (fun _ _ _ => rfl) (fun _ e e1 e2 => ?_) (fun _ => ?_)
  · rw [n5] at e1
    rw [n 10 k 7 (by omega) (by decide)] at e2
    have t : xTm (xV (sFall k W) 0) k e = xTm (xV W 0) k e := by
      unfold xTm
      rw [n5, n 10 k 6 (by omega) (by decide), nt 11 (by decide) (by decide)]
    rw [t]
    exact g.2.2.2 k hk e e1 e2
  · unfold xLoc at lc ⊢
    rw [n0, n1, n4, n9, n10', nt 0 (by decide) (by decide)]
    exact ⟨⟨lc.1.1, by decide, by decide, by decide, fun e => absurd e (by decide)⟩, fun _ => rfl, fun _ => rfl, fun _ => rfl, fun j hj => absurd hj (by simp), fun e => by omega⟩
