/-! what holds of a world: command, fold keep it -/
section inv4
variable {X X' : Nat → Nat → Nat → Nat} {k : Nat} {L L' : Nat → Nat → Nat} {len len' lead lead' : Nat → Nat} {E E' V V' : Nat → Nat → Nat} {C C' : Nat → Nat → Nat → Nat} {cl cl' ack ack' G G' : Nat → Nat → Nat}
theorem xInvA_step (h : xInv X) (g : xG X L len lead E V C cl ack G) (h0 : X' 0 = X 0) (h4 : X' 4 = X 4) (h6 : X' 6 = X 6) (hK : ∀ o, X' 10 o 0 = X 10 o 0) (ho : ∀ t v, (t = 10 ∨ t = 11 ∨ t = 16 ∨ t = 17) → v ≠ k → X' t v = X t v) (h20 : ∀ s, s < 40 → ∀ f, f < 9 → X' 20 s f = X 20 s f) (h21 : ∀ s, s < 40 → ∀ i, i < 5 → X' 21 s (6 * i) = X 21 s (6 * i)) (F : ySf (X 0 0 3) (X' 10) L' len' lead' E' V' C' cl' ack') (A : ∀ v, v < X 0 0 3 → ySk (X 0 0 3) (X' 10) (X' 17) L' len' lead' E' V' C' cl' ack' G' v) (x : yExt L len lead V C cl ack L' len' lead' V' C' cl' ack') (hG : ∀ v e, v ≠ k → G' v e = G v e) (lk : k < X 0 0 3 → ∀ e, X' 10 k 5 ≤ e → e ≤ X' 10 k 7 → xTm X' k e = G' k e) (lc : xLocA X' k) : xInvA k X' := by
  obtain ⟨n, l, r, d, -⟩ := h
  have vot : yVot (X 0 0 3) (X' 10) = yVot (X 0 0 3) (X 10) := z_cnt_congr _ 0 (fun j _ _ => by rw [hK])
  refine ⟨by rw [h0, vot]; exact n, fun v hv c => ?_, lc, fun s hs e => ?_, by rw [h4, h6]; exact d, L', len', lead', E', V', C', cl', ack', G', ?_⟩
  · rw [h0] at hv
    exact xLoc_o (l v hv) h0 hK (ho 10 v (by omega) c) (ho 11 v (by omega) c) (ho 16 v (by omega) c) (ho 17 v (by omega) c)
  · rw [h20 s hs 0 (by decide)] at e
    rw [h20 s hs 8 (by decide)]
    exact r s hs e
  · unfold xG
    rw [h0]
    refine ⟨F, A, fun s hs => ?_, fun v hv e e1 e2 => ?_⟩
    · have z := yLt_mono (K' := X' 10) (E := E) (S := X 17) (G := G) (fun o _ => hK o) x g.1 g.2.1 (g.2.2.1 s hs)
      have q2 := h20 s hs
      have q3 := h21 s hs
      unfold yLt at z ⊢
      rw [q2 0 (by decide), q2 1 (by decide), q2 2 (by decide), q2 3 (by decide), q2 4 (by decide), q2 5 (by decide), q2 6 (by decide), q2 7 (by decide)]
      obtain ⟨z0, z1, z2, z3, z4, z5, z6⟩ := z
      refine ⟨z0, z1, z2, z3, fun e => ?_, z5, z6⟩
      obtain ⟨y1, y2, y3, y4, y5, y6⟩ := z4 e
      exact ⟨y1, y2, y3, y4, fun i hi => (q3 i (by omega)).trans (y5 i hi), y6⟩
    · by_cases c : v = k
      · rw [c] at hv e1 e2 ⊢; exact lk hv e e1 e2
      · have t : xTm X' v e = xTm X v e := by
          unfold xTm
          rw [ho 10 v (by omega) c, ho 11 v (by omega) c]
        rw [ho 10 v (by omega) c] at e1 e2
        rw [t, hG v e c]
        exact g.2.2.2 v hv e e1 e2
end inv4
theorem i_command {W : yW} {k c n h' e : Nat} {v : Int32} (hk : k < W.1 (0, 0, 0) 3) (hr : W.1 (10, 0, k) 4 = 2) (h40 : W.1 (10, 0, k) 7 < W.1 (10, 0, k) 5 + 40) (h : xInv (xV W 0)) : xInv (xV (sSettle k (sCmd k c n h' e v W)) 0) := by
  obtain ⟨L, len, lead, E, V, C, cl, ack, G, g⟩ := h.2.2.2.2
  have at' := fun t i j => sCmd_at k c n h' e v W (t, 0, i) j
  have nn : ∀ t i j, ¬ (t = 10 ∧ i = k ∧ j = 7) → ¬ (t = 11 ∧ i = k) → xV (sCmd k c n h' e v W) 0 t i j = xV W 0 t i j := fun t i j h1 h2 => by
    show (sCmd k c n h' e v W).1 (t, 0, i) j = _
    rw [at']
    simp only [Prod.mk.injEq, true_and]
    rw [if_neg (by omega), if_neg (by omega), if_neg (by omega), if_neg (by omega), if_neg (by omega), if_neg (by omega)]
    rfl
  have nt : ∀ t, t ≠ 10 → t ≠ 11 → xV (sCmd k c n h' e v W) 0 t = xV W 0 t := fun t h1 h2 => funext fun i => funext fun j => nn _ _ _ (by omega) (by omega)
  have n7 : xV (sCmd k c n h' e v W) 0 10 k 7 = xV W 0 10 k 7 + 1 := by
    show (sCmd k c n h' e v W).1 (10, 0, k) 7 = _
    rw [at']
    simp
    rfl
  have n10 : ∀ f, f ≠ 7 → xV (sCmd k c n h' e v W) 0 10 k f = xV W 0 10 k f := fun f hf => nn _ _ _ (by omega) (by omega)
  have sk := g.2.1 k hk
  have k57 : W.1 (10, 0, k) 5 ≤ W.1 (10, 0, k) 7 := Nat.le_trans sk.1.1 sk.1.2.1
  have lc := h.2.1 k hk
  obtain ⟨L', len', ack', F, A, x⟩ := yGrow (K' := xV (sCmd k c n h' e v W) 0 10) (v := k) (t := xV W 0 10 k 2) g.1 g.2.1 hk rfl hr (fun u f hu => nn _ _ _ (by omega) (by omega)) n7 (fun f hf => n10 f hf)
  refine i_settle (k := k) ?_ ?_ (xInvA_step (k := k) (G' := fun u n => if u = k ∧ n = xV W 0 10 k 7 + 1 then xV W 0 10 k 2 else G u n) h g (nt 0 (by decide) (by decide)) (nt 4 (by decide) (by decide)) (nt 6 (by decide) (by decide)) (fun o => nn _ _ _ (by omega) (by omega)) (fun t u ht hu => funext fun j => nn _ _ _ (by omega) (by omega)) (fun s _ f _ => nn _ _ _ (by omega) (by omega)) (fun s _ i _ => nn _ _ _ (by omega) (by omega)) F (by rw [nt 17 (by decide) (by decide)]; exact A) x (fun u e' hu => if_neg (fun (q : u = k ∧ e' = xV W 0 10 k 7 + 1) => hu q.1)) (fun _ e' e1 e2 => ?_) ?_)
  · show k < xV (sCmd k c n h' e v W) 0 0 0 3
    rw [nt 0 (by decide) (by decide)]; exact hk
  · show xV (sCmd k c n h' e v W) 0 10 k 4 = 2
    rw [n10 4 (by decide)]; exact hr
  · rw [n10 5 (by decide)] at e1
    rw [n7] at e2
    have e1 : W.1 (10, 0, k) 5 ≤ e' := e1
    have e2 : e' ≤ W.1 (10, 0, k) 7 + 1 := e2
    have t11 : ∀ j, xV (sCmd k c n h' e v W) 0 11 k (6 * j) = if j = W.1 (10, 0, k) 7 - W.1 (10, 0, k) 5 then W.1 (10, 0, k) 2 else W.1 (11, 0, k) (6 * j) := fun j => by
      show (sCmd k c n h' e v W).1 (11, 0, k) (6 * j) = _
      rw [at']
      simp only [Prod.mk.injEq, true_and, and_self, Nat.reduceEqDiff, false_and, if_false]
      by_cases q : j = W.1 (10, 0, k) 7 - W.1 (10, 0, k) 5
      · rw [if_pos (by omega), if_pos q]
      · rw [if_neg (by omega), if_neg q, if_neg (by omega), if_neg (by omega), if_neg (by omega), if_neg (by omega)]
    by_cases ce : e' = W.1 (10, 0, k) 7 + 1
    · subst ce
      show _ = (if k = k ∧ W.1 (10, 0, k) 7 + 1 = xV W 0 10 k 7 + 1 then xV W 0 10 k 2 else G k (W.1 (10, 0, k) 7 + 1))
      rw [if_pos ⟨rfl, rfl⟩]
      unfold xTm
      rw [n10 5 (by decide), n10 6 (by decide), if_neg (by show ¬ W.1 (10, 0, k) 7 + 1 = W.1 (10, 0, k) 5; omega), t11, if_pos (by show W.1 (10, 0, k) 7 + 1 - W.1 (10, 0, k) 5 - 1 = _; omega)]
      rfl
    · show _ = (if k = k ∧ e' = xV W 0 10 k 7 + 1 then xV W 0 10 k 2 else G k e')
      rw [if_neg (fun q => ce q.2), ← g.2.2.2 k hk e' e1 (by show e' ≤ W.1 (10, 0, k) 7; omega)]
      unfold xTm
      rw [n10 5 (by decide), n10 6 (by decide), t11]
      by_cases c5 : e' = xV W 0 10 k 5
      · rw [if_pos c5, if_pos c5]
      · have c5' : e' ≠ W.1 (10, 0, k) 5 := c5
        rw [if_neg c5, if_neg c5, if_neg (by show ¬ e' - W.1 (10, 0, k) 5 - 1 = _; omega)]
        rfl
  · unfold xLoc at lc
    unfold xLocA
    rw [n10 0 (by decide), n10 1 (by decide), n10 4 (by decide), n10 9 (by decide), n10 2 (by decide), n10 10 (by decide), n7, nt 0 (by decide) (by decide), nt 16 (by decide) (by decide)]
    refine ⟨lc.1, lc.2.1, lc.2.2.1, lc.2.2.2.1, fun j hj => ?_, fun q o ho => ?_⟩
    · rw [nn 10 j 0 (by omega) (by omega)]
      exact lc.2.2.2.2.1 j hj
    · have := (lc.2.2.2.2.2 q).1 o ho
      omega
theorem i_fold {W : yW} {k e : Nat} (hk : k < W.1 (0, 0, 0) 3) (h1 : W.1 (10, 0, k) 5 < e) (h2 : e ≤ W.1 (10, 0, k) 8) (h40 : W.1 (10, 0, k) 7 ≤ W.1 (10, 0, k) 5 + 40) (h : xInv (xV W 0)) : xInv (xV (sFoldTo k e W) 0) := by
  obtain ⟨L, len, lead, E, V, C, cl, ack, G, g⟩ := h.2.2.2.2
  have sk := g.2.1 k hk
  have h8 : W.1 (10, 0, k) 8 ≤ W.1 (10, 0, k) 7 := sk.1.2.1
  have eW : ∀ z f, (sFoldTo k e W).1 z f = (yI (sForget k e W) (10, 0, k) 6 (sTm W k e)).1 z f := fun z f => by
    unfold sFoldTo
    rw [yI_at, yI_at]
    have q : (sForget k e (sFoldL k (e - W.1 (10, 0, k) 5) (W.1 (10, 0, k) 5 + 1) W)).1 z f = (sForget k e W).1 z f := by
      unfold sForget
      simp only [sFoldL_1]
      split
      · rw [yI_at, yI_at, yCp_at, yCp_at, sFoldL_1]
      · rw [yI_at, yI_at, yI_at, yI_at, sFoldL_1]
    rw [q]
  have at' : ∀ t i j, ¬ (t = 10 ∧ i = k ∧ (j = 5 ∨ j = 6)) → ¬ (t = 11 ∧ i = k) → xV (sFoldTo k e W) 0 t i j = xV W 0 t i j := fun t i j c1 c2 => by
    show (sFoldTo k e W).1 (t, 0, i) j = _
    rw [eW, sForget_had h1 (by omega), yI_n _ _ (fun q => c1 (by simp at q; omega)), yI_n _ _ (fun q => c1 (by simp at q; omega)), yCp_at, if_neg (fun q => c2 (by simp at q; omega))]
    rfl
  have nt : ∀ t, t ≠ 10 → t ≠ 11 → xV (sFoldTo k e W) 0 t = xV W 0 t := fun t c1 c2 => funext fun i => funext fun j => at' _ _ _ (by omega) (by omega)
  have n10 : ∀ f, f ≠ 5 → f ≠ 6 → xV (sFoldTo k e W) 0 10 k f = xV W 0 10 k f := fun f c1 c2 => at' _ _ _ (by omega) (by omega)
  have n5 : xV (sFoldTo k e W) 0 10 k 5 = e := by
    show (sFoldTo k e W).1 (10, 0, k) 5 = e
    rw [eW, yI_i _ _ (by decide), sForget_5]
  have n6 : xV (sFoldTo k e W) 0 10 k 6 = sTm W k e := by
    show (sFoldTo k e W).1 (10, 0, k) 6 = _
    rw [eW, yI_s]
  have tm : ∀ x, e ≤ x → x ≤ W.1 (10, 0, k) 7 → xTm (xV (sFoldTo k e W) 0) k x = sTm W k x := fun x x1 x2 => by
    by_cases cx : x = e
    · unfold xTm
      rw [n5, if_pos cx, n6, cx]
    · rw [← sTm_forget (t := sTm W k e) h1 (by omega) h40 (show e < x by omega) x2]
      unfold xTm sTm
      rw [n5, if_neg cx, yI_i _ _ (by decide), sForget_5, if_neg cx]
      show (sFoldTo k e W).1 (11, 0, k) _ = _
      rw [eW]
      rfl
  have lc := h.2.1 k hk
  obtain ⟨F, A⟩ := yQuiet (K' := xV (sFoldTo k e W) 0 10) (v := k) g.1 g.2.1 (fun u f hu => at' _ _ _ (by omega) (by omega)) (fun f hf => n10 f (by omega) (by omega)) (Or.inr ⟨n10 4 (by decide) (by decide), n10 9 (by decide) (by decide)⟩) (by rw [n5, n10 8 (by decide) (by decide)]; exact h2) (by rw [n10 8 (by decide) (by decide)]; exact Nat.le_refl _)
  refine xInv_step (k := k) h g (nt 0 (by decide) (by decide)) (nt 4 (by decide) (by decide)) (nt 6 (by decide) (by decide)) (fun o => at' _ _ _ (by omega) (by omega)) (fun t v ht hv => funext fun j => at' _ _ _ (by omega) (by omega)) (fun s _ f _ => at' _ _ _ (by omega) (by omega)) (fun s _ i _ => at' _ _ _ (by omega) (by omega)) F (by rw [nt 17 (by decide) (by decide)]; exact A) yExt_rfl (fun _ _ _ => rfl) (fun _ x x1 x2 => ?_) (fun _ => ?_)
  · rw [n5] at x1
    rw [n10 7 (by decide) (by decide)] at x2
    rw [tm x x1 x2]
    exact g.2.2.2 k hk x (by show W.1 (10, 0, k) 5 ≤ x; omega) x2
  · unfold xLoc at lc ⊢
    rw [n10 0 (by decide) (by decide), n10 1 (by decide) (by decide), n10 4 (by decide) (by decide), n10 9 (by decide) (by decide), n10 10 (by decide) (by decide), n10 8 (by decide) (by decide), n10 7 (by decide) (by decide), n10 2 (by decide) (by decide), nt 0 (by decide) (by decide), nt 16 (by decide) (by decide)]
    refine ⟨lc.1, lc.2.1, lc.2.2.1, lc.2.2.2.1, fun j hj => ?_, fun q => ⟨(lc.2.2.2.2.2 q).1, fun x x1 x2 x3 => ?_⟩⟩
    · rw [at' 10 j 0 (by omega) (by omega)]
      exact lc.2.2.2.2.1 j hj
    · have x1 : W.1 (10, 0, k) 8 < x := x1
      rw [tm x (by omega) x2] at x3
      have su : xSure (xV (sFoldTo k e W) 0) k x = xSure (xV W 0) k x := by
        unfold xSure
        rw [nt 0 (by decide) (by decide), nt 17 (by decide) (by decide)]
        exact z_cnt_congr _ 0 (fun j _ _ => by rw [at' 10 j 0 (by omega) (by omega)])
      have mo : xMost (xV (sFoldTo k e W) 0) = xMost (xV W 0) := by unfold xMost; rw [nt 0 (by decide) (by decide)]
      rw [su, mo]
      exact (lc.2.2.2.2.2 q).2 x x1 x2 x3
