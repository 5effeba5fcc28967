/-! what holds of a world: from the leader; folds, entries -/
section inv13
variable {W : yW} {k : Nat} {L : Nat → Nat → Nat} {len lead : Nat → Nat} {E V : Nat → Nat → Nat} {C : Nat → Nat → Nat → Nat} {cl ack G G' : Nat → Nat → Nat}
/-- the log of a follower is other -/
theorem i_logs {X X' : Nat → Nat → Nat → Nat} (hk : k < X 0 0 3) (hr : X 10 k 4 = 0) (hl : lead (X 10 k 2) ≠ 0) (h : xInv X) (g : xG X L len lead E V C cl ack G) (nt : ∀ t, t ≠ 10 → t ≠ 11 → t ≠ 13 → t ≠ 15 → X' t = X t) (n10 : ∀ u f, u ≠ k ∨ (f ≠ 5 ∧ f ≠ 6 ∧ f ≠ 7 ∧ f ≠ 8) → X' 10 u f = X 10 u f) (n11 : ∀ v, v ≠ k → X' 11 v = X 11 v) (hG : ∀ u n, u ≠ k → G' u n = G u n) (h5 : X' 10 k 5 ≤ X' 10 k 8) (h8 : X' 10 k 8 ≤ X' 10 k 7) (h0 : G' k 0 = 0) (hlm : ∀ n, 1 ≤ n → n ≤ X' 10 k 7 → yLM L len lead (G' k) (X 10 k 2) n) (hc : yCP (X 0 0 3) (X 10) L len ack (G' k) (X 10 k 2) (X' 10 k 8)) (hm : ∀ m, 1 ≤ m → m ≤ X 10 k 7 → (m ≤ X' 10 k 7 ∧ ∀ i, i ≤ m → G' k i = G k i) ∨ ∃ i, i ≤ m ∧ (len (X 10 k 2) < i ∨ L (X 10 k 2) i ≠ G k i)) (lk : ∀ e, X' 10 k 5 ≤ e → e ≤ X' 10 k 7 → xTm X' k e = G' k e) : xInv X' ∧ xG X' L len lead E V C cl ack G' := by
  have lc := h.2.1 k hk
  obtain ⟨F, A⟩ := yLog (K' := X' 10) (G' := G') (v := k) (t := X 10 k 2) g.1 g.2.1 rfl hr (fun u f hu => n10 u f (Or.inl hu)) (fun f hf => n10 k f (by omega)) hG h5 h8 h0 hl hlm hc hm
  have A' : ∀ v, v < X 0 0 3 → ySk (X 0 0 3) (X' 10) (X' 17) L len lead E V C cl ack G' v := by rw [nt 17 (by decide) (by decide) (by decide) (by decide)]; exact A
  have ho : ∀ t v, (t = 10 ∨ t = 11 ∨ t = 16 ∨ t = 17) → v ≠ k → X' t v = X t v := fun t v ht hv => by
    rcases ht with rfl | rfl | rfl | rfl
    · exact funext fun f => n10 v f (Or.inl hv)
    · exact n11 v hv
    · rw [nt 16 (by decide) (by decide) (by decide) (by decide)]
    · rw [nt 17 (by decide) (by decide) (by decide) (by decide)]
  refine ⟨xInv_step (k := k) h g (nt 0 (by decide) (by decide) (by decide) (by decide)) (nt 4 (by decide) (by decide) (by decide) (by decide)) (nt 6 (by decide) (by decide) (by decide) (by decide)) (fun o => n10 o 0 (by omega)) ho (fun s _ f _ => by rw [nt 20 (by decide) (by decide) (by decide) (by decide)]) (fun s _ i _ => by rw [nt 21 (by decide) (by decide) (by decide) (by decide)]) F A' yExt_rfl (fun u n hu => hG u n hu) (fun _ => lk) (fun _ => ?_), xG_step (k := k) g (nt 0 (by decide) (by decide) (by decide) (by decide)) (fun o => n10 o 0 (by omega)) ho (fun s _ f _ => by rw [nt 20 (by decide) (by decide) (by decide) (by decide)]) (fun s _ i _ => by rw [nt 21 (by decide) (by decide) (by decide) (by decide)]) F A' yExt_rfl (fun u n hu => hG u n hu) (fun _ => lk)⟩
  unfold xLoc at lc ⊢
  rw [n10 k 0 (by omega), n10 k 1 (by omega), n10 k 4 (by omega), n10 k 9 (by omega), n10 k 2 (by omega), n10 k 10 (by omega), nt 0 (by decide) (by decide) (by decide) (by decide)]
  refine ⟨lc.1, lc.2.1, lc.2.2.1, lc.2.2.2.1, fun j hj => ?_, fun q => by omega⟩
  rw [n10 j 0 (by omega)]
  exact lc.2.2.2.2.1 j hj
theorem sTakeF_n {k e t : Nat} {W : yW} {u f : Nat} (h : u ≠ k ∨ (f ≠ 5 ∧ f ≠ 6 ∧ f ≠ 7 ∧ f ≠ 8)) : (sTakeF k e t W).1 (10, 0, u) f = W.1 (10, 0, u) f := by
  have hn : ∀ j, j = 5 ∨ j = 6 ∨ j = 7 ∨ j = 8 → ¬ (((10, 0, u) : zJ) = (10, 0, k) ∧ f = j) := fun j hj q => by
    simp at q
    omega
  have hf : (sForget k e W).1 (10, 0, u) f = W.1 (10, 0, u) f := by
    unfold sForget
    split
    · rw [yI_n _ _ (hn 5 (by omega)), yCp_at, if_neg (by simp)]
    · rw [yI_n _ _ (hn 5 (by omega)), yI_n _ _ (hn 7 (by omega))]
  show (yCp (yI (yCp (yI (sForget k e W) (10, 0, k) 6 t) (23, 0, 40) (13, 0, k) 0 0 20) (10, 0, k) 8 e) (13, 0, k) (15, 0, k) 0 0 20).1 (10, 0, u) f = _
  rw [yCp_at, if_neg (by simp), yI_n _ _ (hn 8 (by omega)), yCp_at, if_neg (by simp), yI_n _ _ (hn 6 (by omega)), hf]
theorem sTakeF_11 {k e t : Nat} {W : yW} {u f : Nat} : (sTakeF k e t W).1 (11, 0, u) f = (sForget k e W).1 (11, 0, u) f := by
  show (yCp (yI (yCp (yI (sForget k e W) (10, 0, k) 6 t) (23, 0, 40) (13, 0, k) 0 0 20) (10, 0, k) 8 e) (13, 0, k) (15, 0, k) 0 0 20).1 (11, 0, u) f = _
  rw [yCp_at, if_neg (by simp), yI_z _ _ (by simp), yCp_at, if_neg (by simp), yI_z _ _ (by simp)]
theorem sTakeF_v {k e t : Nat} {W : yW} : (sTakeF k e t W).1 (10, 0, k) 5 = e ∧ (sTakeF k e t W).1 (10, 0, k) 6 = t ∧ (sTakeF k e t W).1 (10, 0, k) 8 = e ∧ (sTakeF k e t W).1 (10, 0, k) 7 = (sForget k e W).1 (10, 0, k) 7 := by
  have q : ∀ f, (sTakeF k e t W).1 (10, 0, k) f = (yCp (yI (yCp (yI (sForget k e W) (10, 0, k) 6 t) (23, 0, 40) (13, 0, k) 0 0 20) (10, 0, k) 8 e) (13, 0, k) (15, 0, k) 0 0 20).1 (10, 0, k) f := fun _ => rfl
  refine ⟨?_, ?_, ?_, ?_⟩
  · rw [q, yCp_at, if_neg (by simp), yI_i _ _ (by decide), yCp_at, if_neg (by simp), yI_i _ _ (by decide), sForget_5]
  · rw [q, yCp_at, if_neg (by simp), yI_i _ _ (by decide), yCp_at, if_neg (by simp), yI_s]
  · rw [q, yCp_at, if_neg (by simp), yI_s]
  · rw [q, yCp_at, if_neg (by simp), yI_i _ _ (by decide), yCp_at, if_neg (by simp), yI_i _ _ (by decide)]
theorem i_sFold (hk : k < W.1 (0, 0, 0) 3) (h40 : W.1 (10, 0, k) 7 ≤ W.1 (10, 0, k) 5 + 40) (hr : W.1 (10, 0, k) 4 = 0) (h5 : W.1 (20, 0, 40) 0 = 5) (ht : W.1 (10, 0, k) 2 = W.1 (20, 0, 40) 3) (hl : yLt (W.1 (0, 0, 0) 3) (xV W 0 10) L len lead V C cl ack (xV W 0 20 40) (fun i => xV W 0 21 40 (6 * i))) (h : xInv (xV W 0)) (g : xG (xV W 0) L len lead E V C cl ack G) : ∃ G', (xInv (xV (sFold k W) 0) ∧ xG (xV (sFold k W) 0) L len lead E V C cl ack G') ∧ (sFold k W).1 (10, 0, k) 2 = W.1 (10, 0, k) 2 ∧ (sFold k W).1 (10, 0, k) 4 = 0 ∧ W.1 (20, 0, 40) 4 ≤ len (W.1 (10, 0, k) 2) ∧ W.1 (20, 0, 40) 4 ≤ (sFold k W).1 (10, 0, k) 7 ∧ ∀ i, i ≤ W.1 (20, 0, 40) 4 → G' k i = L (W.1 (10, 0, k) 2) i := by
  obtain ⟨l1, l2, l3, l4⟩ := hl.2.2.2.2.2.2 h5
  have l1 : lead (W.1 (20, 0, 40) 3) ≠ 0 := l1
  have l2 : W.1 (20, 0, 40) 4 ≤ len (W.1 (20, 0, 40) 3) := l2
  have l3 : W.1 (20, 0, 40) 5 = L (W.1 (20, 0, 40) 3) (W.1 (20, 0, 40) 4) := l3
  have l4 : yCP (W.1 (0, 0, 0) 3) (xV W 0 10) L len ack (L (W.1 (20, 0, 40) 3)) (W.1 (20, 0, 40) 3) (W.1 (20, 0, 40) 4) := l4
  rw [← ht] at l1 l2 l3 l4
  have sk := g.2.1 k hk
  have k5 : W.1 (10, 0, k) 5 ≤ W.1 (10, 0, k) 8 := sk.1.1
  have k8 : W.1 (10, 0, k) 8 ≤ W.1 (10, 0, k) 7 := sk.1.2.1
  obtain ⟨d1, d2⟩ := i_done hk l1 g
  have link : ∀ e, W.1 (10, 0, k) 5 ≤ e → e ≤ W.1 (10, 0, k) 7 → sTm W k e = G k e := g.2.2.2 k hk
  unfold sFold
  by_cases c1 : W.1 (20, 0, 40) 4 ≤ W.1 (10, 0, k) 8
  · rw [if_pos c1]
    exact ⟨G, ⟨h, g⟩, rfl, hr, l2, by omega, fun i hi => d2 i (by omega)⟩
  rw [if_neg c1]
  by_cases c2 : W.1 (10, 0, k) 5 < W.1 (20, 0, 40) 4 ∧ W.1 (20, 0, 40) 4 ≤ W.1 (10, 0, k) 7 ∧ sTm W k (W.1 (20, 0, 40) 4) = W.1 (20, 0, 40) 5
  · rw [if_pos c2]
    obtain ⟨e1, e2, e3⟩ := c2
    generalize hE : W.1 (20, 0, 40) 4 = e at *
    generalize hT : W.1 (20, 0, 40) 5 = t at *
    have sF : sForget k e W = yI (yCp W (11, 0, k) (11, 0, k) (6 * (e - W.1 (10, 0, k) 5)) 0 (240 - 6 * (e - W.1 (10, 0, k) 5))) (10, 0, k) 5 e := if_pos ⟨e1, e2⟩
    obtain ⟨v5, v6, v8, v7⟩ := sTakeF_v (k := k) (e := e) (t := t) (W := W)
    have v7' : (sTakeF k e t W).1 (10, 0, k) 7 = W.1 (10, 0, k) 7 := by rw [v7, sF, yI_i _ _ (by decide), yCp_at, if_neg (by simp)]
    have sm : ∀ i, i ≤ e → G k i = L (W.1 (10, 0, k) 2) i := y_same g.1 sk (by omega) e2 l2 (by rw [← link e (by omega) e2, e3]; exact l3)
    refine ⟨G, i_logs (X := xV W 0) (X' := xV (sTakeF k e t W) 0) hk hr l1 h g (fun t' t1 t2 t3 t4 => funext fun i => funext fun j => sTakeF_at (by simp [t1]) (by simp [t2]) (by simp [t3]) (by simp [t4])) (fun u f hu => sTakeF_n hu) (fun v hv => funext fun j => ?_) (fun _ _ _ => rfl) ?_ ?_ sk.1.2.2 (fun n n1 n2 => sk.2.1 n n1 ?_) ?_ (fun m m1 m2 => Or.inl ⟨?_, fun _ _ => rfl⟩) (fun e' q1 q2 => ?_), sTakeF_n (by omega), (sTakeF_n (by omega)).trans hr, l2, ?_, sm⟩
    · show (sTakeF k e t W).1 (11, 0, v) j = _
      rw [sTakeF_11, sF, yI_z _ _ (by simp), yCp_at, if_neg (by simp [hv])]
      rfl
    · show (sTakeF k e t W).1 (10, 0, k) 5 ≤ (sTakeF k e t W).1 (10, 0, k) 8
      rw [v5, v8]; exact Nat.le_refl _
    · show (sTakeF k e t W).1 (10, 0, k) 8 ≤ (sTakeF k e t W).1 (10, 0, k) 7
      rw [v7', v8]; exact e2
    · have n2 : n ≤ (sTakeF k e t W).1 (10, 0, k) 7 := n2
      rw [v7'] at n2; exact n2
    · show yCP _ _ L len ack (G k) _ ((sTakeF k e t W).1 (10, 0, k) 8)
      rw [v8]
      exact yCP_mono (fun _ _ => rfl) (fun _ _ _ => rfl) (fun _ => Nat.le_refl _) (fun _ _ => Nat.le_refl _) sm (Nat.le_refl _) (Nat.le_refl _) l4
    · show m ≤ (sTakeF k e t W).1 (10, 0, k) 7
      rw [v7']; exact m2
    · have q1 : (sTakeF k e t W).1 (10, 0, k) 5 ≤ e' := q1
      have q2 : e' ≤ (sTakeF k e t W).1 (10, 0, k) 7 := q2
      rw [v5] at q1
      rw [v7'] at q2
      show sTm (sTakeF k e t W) k e' = _
      unfold sTm
      rw [v5, v6]
      by_cases c : e' = e
      · rw [if_pos c, c, sm e (Nat.le_refl _)]; exact l3
      · rw [if_neg c, sTakeF_11, sF, yI_z _ _ (by simp), yCp_at, if_pos ⟨rfl, by omega, by omega⟩, ← link e' (by omega) q2]
        unfold sTm
        rw [if_neg (by omega)]
        exact congrArg _ (by omega)
    · rw [v7']; exact e2
  · rw [if_neg c2]
    generalize hE : W.1 (20, 0, 40) 4 = e at *
    generalize hT : W.1 (20, 0, 40) 5 = t at *
    have a7 : (yI W (10, 0, k) 7 (W.1 (10, 0, k) 5)).1 (10, 0, k) 7 = W.1 (10, 0, k) 5 := yI_s _ _ _ _
    have a5 : (yI W (10, 0, k) 7 (W.1 (10, 0, k) 5)).1 (10, 0, k) 5 = W.1 (10, 0, k) 5 := yI_i _ _ (by decide)
    have sF : sForget k e (yI W (10, 0, k) 7 (W.1 (10, 0, k) 5)) = yI (yI (yI W (10, 0, k) 7 (W.1 (10, 0, k) 5)) (10, 0, k) 7 e) (10, 0, k) 5 e := if_neg (by rw [a5, a7]; omega)
    obtain ⟨v5, v6, v8, v7⟩ := sTakeF_v (k := k) (e := e) (t := t) (W := yI W (10, 0, k) 7 (W.1 (10, 0, k) 5))
    have v7' : (sTakeF k e t (yI W (10, 0, k) 7 (W.1 (10, 0, k) 5))).1 (10, 0, k) 7 = e := by rw [v7, sF, yI_i _ _ (by decide), yI_s]
    refine ⟨fun u n => if u = k then L (W.1 (10, 0, k) 2) n else G u n, i_logs (X := xV W 0) (X' := xV (sTakeF k e t (yI W (10, 0, k) 7 (W.1 (10, 0, k) 5))) 0) hk hr l1 h g (fun t' t1 t2 t3 t4 => funext fun i => funext fun j => (sTakeF_at (by simp [t1]) (by simp [t2]) (by simp [t3]) (by simp [t4])).trans (yI_z _ _ (by simp [t1]))) (fun u f hu => (sTakeF_n hu).trans (yI_n _ _ (by simp; omega))) (fun v hv => funext fun j => ?_) (fun u n hu => if_neg hu) ?_ ?_ ((if_pos rfl).trans (g.1.1.1 _)) (fun n n1 n2 => ?_) ?_ (fun m m1 m2 => ?_) (fun e' q1 q2 => ?_), (sTakeF_n (by omega)).trans (yI_i _ _ (by decide)), ((sTakeF_n (by omega)).trans (yI_i _ _ (by decide))).trans hr, l2, by rw [v7']; exact Nat.le_refl _, fun i _ => if_pos rfl⟩
    · show (sTakeF k e t _).1 (11, 0, v) j = _
      rw [sTakeF_11, sF, yI_z _ _ (by simp), yI_z _ _ (by simp), yI_z _ _ (by simp)]
      rfl
    · show (sTakeF k e t _).1 (10, 0, k) 5 ≤ (sTakeF k e t _).1 (10, 0, k) 8
      rw [v5, v8]; exact Nat.le_refl _
    · show (sTakeF k e t _).1 (10, 0, k) 8 ≤ (sTakeF k e t _).1 (10, 0, k) 7
      rw [v7', v8]; exact Nat.le_refl _
    · have n2 : n ≤ (sTakeF k e t _).1 (10, 0, k) 7 := n2
      rw [v7'] at n2
      have q := g.1.2.1 (W.1 (10, 0, k) 2) n n1 (by omega)
      simp only [if_true]
      exact q
    · show yCP _ _ L len ack (fun n => if k = k then L (W.1 (10, 0, k) 2) n else G k n) _ ((sTakeF k e t _).1 (10, 0, k) 8)
      rw [v8]
      simp only [if_true]
      exact l4
    · have m2 : m ≤ W.1 (10, 0, k) 7 := m2
      show (m ≤ (sTakeF k e t _).1 (10, 0, k) 7 ∧ _) ∨ _
      rw [v7']
      by_cases c : ∀ i, i ≤ m → L (W.1 (10, 0, k) 2) i = G k i
      · by_cases c3 : m ≤ e
        · exact Or.inl ⟨c3, fun i hi => (if_pos rfl).trans (c i hi)⟩
        · refine absurd ⟨by omega, by omega, ?_⟩ c2
          rw [link e (by omega) (by omega), ← c e (by omega)]
          exact l3.symm
      · right
        have c' : ∃ i, i ≤ m ∧ L (W.1 (10, 0, k) 2) i ≠ G k i := by
          apply Classical.byContradiction
          intro q
          exact c (fun i hi => Classical.byContradiction fun q2 => q ⟨i, hi, q2⟩)
        obtain ⟨i, i1, i2⟩ := c'
        exact ⟨i, i1, Or.inr i2⟩
    · have q1 : (sTakeF k e t _).1 (10, 0, k) 5 ≤ e' := q1
      have q2 : e' ≤ (sTakeF k e t _).1 (10, 0, k) 7 := q2
      rw [v5] at q1
      rw [v7'] at q2
      have c : e' = e := by omega
      show sTm (sTakeF k e t _) k e' = (if k = k then _ else _)
      unfold sTm
      rw [v5, v6, if_pos c, if_pos rfl, c]
      exact l3
end inv13
