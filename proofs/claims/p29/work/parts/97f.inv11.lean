/-! what holds of a world: from the leader; follow, no -/
section inv11
variable {W : yW} {k : Nat} {L : Nat → Nat → Nat} {len lead : Nat → Nat} {E V : Nat → Nat → Nat} {C : Nat → Nat → Nat → Nat} {cl ack G : Nat → Nat → Nat}
theorem i_follow (hk : k < W.1 (0, 0, 0) 3) (h : xInv (xV W 0)) (g : xG (xV W 0) L len lead E V C cl ack G) : xInv (xV (sFollow k W) 0) ∧ xG (xV (sFollow k W) 0) L len lead E V C cl ack G := by
  have at' : ∀ t i j, ¬ (t = 10 ∧ i = k ∧ (j = 4 ∨ j = 9 ∨ j = 10)) → xV (sFollow k W) 0 t i j = xV W 0 t i j := fun t i j c => by
    show (sFollow k W).1 (t, 0, i) j = _
    rw [sFollow_at]
    simp only [Prod.mk.injEq, true_and]
    rw [if_neg (by omega)]
    rfl
  have nt : ∀ t, t ≠ 10 → xV (sFollow k W) 0 t = xV W 0 t := fun t ht => funext fun i => funext fun j => at' _ _ _ (by omega)
  have nz : ∀ j, j = 4 ∨ j = 9 ∨ j = 10 → xV (sFollow k W) 0 10 k j = 0 := fun j hj => by
    show (sFollow k W).1 (10, 0, k) j = 0
    rw [sFollow_at, if_pos ⟨rfl, hj⟩]
  have lc := h.2.1 k hk
  have n5 : xV (sFollow k W) 0 10 k 5 = xV W 0 10 k 5 := at' _ _ _ (by omega)
  have n7 : xV (sFollow k W) 0 10 k 7 = xV W 0 10 k 7 := at' _ _ _ (by omega)
  have n8 : xV (sFollow k W) 0 10 k 8 = xV W 0 10 k 8 := at' _ _ _ (by omega)
  obtain ⟨F, A⟩ := yQuiet (K' := xV (sFollow k W) 0 10) (v := k) g.1 g.2.1 (fun u f hu => at' _ _ _ (by omega)) (fun f hf => at' _ _ _ (by omega)) (Or.inl (nz 4 (by omega))) (by rw [n5, n8]; exact (g.2.1 k hk).1.1) (by rw [n8]; exact Nat.le_refl _)
  have lk : ∀ e, xV (sFollow k W) 0 10 k 5 ≤ e → e ≤ xV (sFollow k W) 0 10 k 7 → xTm (xV (sFollow k W) 0) k e = G k e := fun e q1 q2 => by
    rw [n5] at q1
    rw [n7] at q2
    have tm : xTm (xV (sFollow k W) 0) k e = xTm (xV W 0) k e := by
      unfold xTm
      rw [n5, at' 10 k 6 (by omega), nt 11 (by decide)]
    rw [tm]
    exact g.2.2.2 k hk e q1 q2
  have A' : ∀ v, v < xV W 0 0 0 3 → ySk (xV W 0 0 0 3) (xV (sFollow k W) 0 10) (xV (sFollow k W) 0 17) L len lead E V C cl ack G v := by rw [nt 17 (by decide)]; exact A
  refine ⟨xInv_step (k := k) h g (nt 0 (by decide)) (nt 4 (by decide)) (nt 6 (by decide)) (fun o => at' _ _ _ (by omega)) (fun t' v ht hv => funext fun j => at' _ _ _ (by omega)) (fun s _ f _ => at' _ _ _ (by omega)) (fun s _ i _ => at' _ _ _ (by omega)) F A' yExt_rfl (fun _ _ _ => rfl) (fun _ => lk) (fun _ => ?_), xG_step (k := k) g (nt 0 (by decide)) (fun o => at' _ _ _ (by omega)) (fun t' v ht hv => funext fun j => at' _ _ _ (by omega)) (fun s _ f _ => at' _ _ _ (by omega)) (fun s _ i _ => at' _ _ _ (by omega)) F A' yExt_rfl (fun _ _ _ => rfl) (fun _ => lk)⟩
  unfold xLoc at lc ⊢
  rw [nz 4 (by omega), nz 9 (by omega), nz 10 (by omega), at' 10 k 0 (by omega), at' 10 k 1 (by omega)]
  exact ⟨⟨lc.1.1, lc.1.2.1, by decide, by decide, fun e => absurd e (by decide)⟩, fun _ => rfl, fun _ => rfl, fun _ => rfl, fun j hj => absurd hj (by simp), fun e => absurd e (by decide)⟩
/-- the log is cut, for an entry that is not the leader's -/
theorem i_cut {e : Nat} (hk : k < W.1 (0, 0, 0) 3) (hr : W.1 (10, 0, k) 4 = 0) (hl : lead (W.1 (10, 0, k) 2) ≠ 0) (h1 : 1 ≤ e) (he : W.1 (10, 0, k) 7 < e ∨ G k e ≠ L (W.1 (10, 0, k) 2) e) (h : xInv (xV W 0)) (g : xG (xV W 0) L len lead E V C cl ack G) : xInv (xV (sCut k e W) 0) ∧ xG (xV (sCut k e W) 0) L len lead E V C cl ack G := by
  have at' : ∀ t i j, ¬ (t = 10 ∧ i = k ∧ j = 7) → xV (sCut k e W) 0 t i j = xV W 0 t i j := fun t i j c => by
    show (sCut k e W).1 (t, 0, i) j = _
    rw [sCut_at (fun q => c (by simp at q; omega))]
    rfl
  have nt : ∀ t, t ≠ 10 → xV (sCut k e W) 0 t = xV W 0 t := fun t ht => funext fun i => funext fun j => at' _ _ _ (by omega)
  have n10 : ∀ u f, f ≠ 7 → xV (sCut k e W) 0 10 u f = xV W 0 10 u f := fun u f hf => at' _ _ _ (by omega)
  have n7 : xV (sCut k e W) 0 10 k 7 = min (W.1 (10, 0, k) 7) (max (e - 1) (W.1 (10, 0, k) 8)) := yI_s _ _ _ _
  have lc := h.2.1 k hk
  have sk := g.2.1 k hk
  have k8 : W.1 (10, 0, k) 8 ≤ W.1 (10, 0, k) 7 := sk.1.2.1
  have tm : ∀ v e', xTm (xV (sCut k e W) 0) v e' = xTm (xV W 0) v e' := fun v e' => by
    unfold xTm
    rw [n10 v 5 (by decide), n10 v 6 (by decide), nt 11 (by decide)]
  obtain ⟨F, A⟩ := yLog (K' := xV (sCut k e W) 0 10) (G' := G) (v := k) (t := W.1 (10, 0, k) 2) g.1 g.2.1 rfl hr (fun u f hu => at' _ _ _ (by omega)) (fun f hf => n10 k f (by omega)) (fun _ _ _ => rfl) (by rw [n10 k 5 (by decide), n10 k 8 (by decide)]; exact sk.1.1) (by rw [n10 k 8 (by decide), n7]; show W.1 (10, 0, k) 8 ≤ _; omega) sk.1.2.2 hl (fun n n1 n2 => sk.2.1 n n1 (by rw [n7] at n2; show n ≤ W.1 (10, 0, k) 7; omega)) (by rw [n10 k 8 (by decide)]; exact sk.2.2.2.2.2.1) (fun m m1 m2 => by
    have m2 : m ≤ W.1 (10, 0, k) 7 := m2
    rw [n7]
    by_cases c : m ≤ min (W.1 (10, 0, k) 7) (max (e - 1) (W.1 (10, 0, k) 8))
    · exact Or.inl ⟨c, fun _ _ => rfl⟩
    · refine Or.inr ⟨e, by omega, Or.inr ?_⟩
      rcases he with q | q
      · omega
      · exact fun x => q x.symm)
  have A' : ∀ v, v < xV W 0 0 0 3 → ySk (xV W 0 0 0 3) (xV (sCut k e W) 0 10) (xV (sCut k e W) 0 17) L len lead E V C cl ack G v := by rw [nt 17 (by decide)]; exact A
  have lk : ∀ e', xV (sCut k e W) 0 10 k 5 ≤ e' → e' ≤ xV (sCut k e W) 0 10 k 7 → xTm (xV (sCut k e W) 0) k e' = G k e' := fun e' q1 q2 => by
    rw [n10 k 5 (by decide)] at q1
    rw [n7] at q2
    rw [tm]
    exact g.2.2.2 k hk e' q1 (by show e' ≤ W.1 (10, 0, k) 7; omega)
  refine ⟨xInv_step (k := k) h g (nt 0 (by decide)) (nt 4 (by decide)) (nt 6 (by decide)) (fun o => n10 o 0 (by decide)) (fun t' v ht hv => funext fun j => at' _ _ _ (by omega)) (fun s _ f _ => at' _ _ _ (by omega)) (fun s _ i _ => at' _ _ _ (by omega)) F A' yExt_rfl (fun _ _ _ => rfl) (fun _ => lk) (fun _ => ?_), xG_step (k := k) g (nt 0 (by decide)) (fun o => n10 o 0 (by decide)) (fun t' v ht hv => funext fun j => at' _ _ _ (by omega)) (fun s _ f _ => at' _ _ _ (by omega)) (fun s _ i _ => at' _ _ _ (by omega)) F A' yExt_rfl (fun _ _ _ => rfl) (fun _ => lk)⟩
  have hr' : xV W 0 10 k 4 = 0 := hr
  unfold xLoc at lc ⊢
  rw [n10 k 0 (by decide), n10 k 1 (by decide), n10 k 4 (by decide), n10 k 9 (by decide), n10 k 2 (by decide), n10 k 10 (by decide), nt 0 (by decide)]
  refine ⟨lc.1, lc.2.1, lc.2.2.1, lc.2.2.2.1, fun j hj => ?_, fun q => by omega⟩
  rw [n10 j 0 (by decide)]
  exact lc.2.2.2.2.1 j hj
end inv11
