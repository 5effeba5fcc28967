/-! what holds of a world: answers are taken -/
section inv10
variable {W : yW} {k : Nat} {L : Nat → Nat → Nat} {len lead : Nat → Nat} {E V : Nat → Nat → Nat} {C : Nat → Nat → Nat → Nat} {cl ack G : Nat → Nat → Nat}
theorem sAns_at (k : Nat) (W : yW) (t i j : Nat) : (sAns k W).1 (t, 0, i) j = if t = 18 ∧ i = k ∧ j = W.1 (20, 0, 40) 1 then max (W.1 (18, 0, k) (W.1 (20, 0, 40) 1)) (W.1 (20, 0, 40) 8) else if W.1 (20, 0, 40) 4 = 1 ∧ t = 17 ∧ i = k ∧ j = W.1 (20, 0, 40) 1 then max (W.1 (17, 0, k) (W.1 (20, 0, 40) 1)) (W.1 (20, 0, 40) 5) else if t = 16 ∧ i = k ∧ j = W.1 (20, 0, 40) 1 then (if W.1 (20, 0, 40) 4 = 1 then max (W.1 (17, 0, k) (W.1 (20, 0, 40) 1)) (W.1 (20, 0, 40) 5) + 1 else max 1 (min (W.1 (16, 0, k) (W.1 (20, 0, 40) 1) - 1) (W.1 (20, 0, 40) 5 + 1))) else W.1 (t, 0, i) j := by
  unfold sAns
  dsimp only
  by_cases c : W.1 (20, 0, 40) 4 = 1
  · rw [if_pos c, yI_at, yI_at, yI_at]
    simp only [Prod.mk.injEq, true_and, c, if_true]
    grind
  · rw [if_neg c, yI_at, yI_at]
    simp only [Prod.mk.injEq, true_and, c, if_false, false_and]
    grind
theorem i_answer (hk : k < W.1 (0, 0, 0) 3) (hf : W.1 (20, 0, 40) 1 < W.1 (0, 0, 0) 3) (h4 : W.1 (20, 0, 40) 0 = 4) (hl : yLt (W.1 (0, 0, 0) 3) (xV W 0 10) L len lead V C cl ack (xV W 0 20 40) (fun i => xV W 0 21 40 (6 * i))) (h : xInv (xV W 0)) (g : xG (xV W 0) L len lead E V C cl ack G) (c1 : W.1 (10, 0, k) 4 = 2) (c2 : W.1 (10, 0, k) 2 = W.1 (20, 0, 40) 3) : xInv (xV (sSettle k (sAns k W)) 0) := by
  have ha : W.1 (20, 0, 40) 4 = 1 → W.1 (20, 0, 40) 5 ≤ ack (W.1 (20, 0, 40) 1) (W.1 (10, 0, k) 2) := fun q => by
    rw [c2]
    exact (hl.2.2.2.2.2.1 h4).2 q
  have sk := g.2.1 k hk
  obtain ⟨q1, q2, q3, q4, q5⟩ := sk.2.2.2.2.1 c1
  have q2' : W.1 (10, 0, k) 7 = len (W.1 (10, 0, k) 2) := q2
  have q5' : ∀ o, o < W.1 (0, 0, 0) 3 → W.1 (17, 0, k) o ≤ ack o (W.1 (10, 0, k) 2) := q5
  have al : ∀ o, o < W.1 (0, 0, 0) 3 → ack o (W.1 (10, 0, k) 2) ≤ W.1 (10, 0, k) 7 := fun o ho => by
    rw [q2']
    exact (g.1.2.2.2.2.2.2 o (W.1 (10, 0, k) 2) ho).1
  have lc := h.2.1 k hk
  have nx := (lc.2.2.2.2.2 c1).1
  have n : ∀ t i j, t ≠ 16 → t ≠ 17 → t ≠ 18 → xV (sAns k W) 0 t i j = xV W 0 t i j := fun t i j t1 t2 t3 => by
    show (sAns k W).1 (t, 0, i) j = _
    rw [sAns_at, if_neg (by omega), if_neg (by omega), if_neg (by omega)]
    rfl
  have no : ∀ t i j, i ≠ k → xV (sAns k W) 0 t i j = xV W 0 t i j := fun t i j ci => by
    show (sAns k W).1 (t, 0, i) j = _
    rw [sAns_at, if_neg (by omega), if_neg (by omega), if_neg (by omega)]
    rfl
  have nt : ∀ t, t ≠ 16 → t ≠ 17 → t ≠ 18 → xV (sAns k W) 0 t = xV W 0 t := fun t t1 t2 t3 => funext fun i => funext fun j => n _ _ _ t1 t2 t3
  have n17 : ∀ o, o < W.1 (0, 0, 0) 3 → xV (sAns k W) 0 17 k o ≤ ack o (W.1 (10, 0, k) 2) := fun o ho => by
    show (sAns k W).1 (17, 0, k) o ≤ _
    rw [sAns_at, if_neg (by omega)]
    have := q5' o ho
    split
    · rename_i c
      have e := ha c.1
      rw [← c.2.2.2] at e ⊢
      omega
    · rw [if_neg (by omega)]; exact this
  have n16 : ∀ o, o < W.1 (0, 0, 0) 3 → 1 ≤ xV (sAns k W) 0 16 k o ∧ xV (sAns k W) 0 16 k o ≤ W.1 (10, 0, k) 7 + 1 := fun o ho => by
    show 1 ≤ (sAns k W).1 (16, 0, k) o ∧ (sAns k W).1 (16, 0, k) o ≤ _
    rw [sAns_at, if_neg (by omega), if_neg (by omega)]
    have w := nx o ho
    have w : 1 ≤ W.1 (16, 0, k) o ∧ W.1 (16, 0, k) o ≤ W.1 (10, 0, k) 7 + 1 := w
    by_cases c : o = W.1 (20, 0, 40) 1
    · rw [if_pos ⟨rfl, rfl, c⟩]
      have a1 := q5' o ho
      have a2 := al o ho
      split
      · rename_i d
        have e := ha d
        rw [← c] at e ⊢
        omega
      · rw [← c]
        omega
    · rw [if_neg (fun q => c q.2.2)]; exact w
  have A := ySure (S' := xV (sAns k W) 0 17) (v := k) g.2.1 (fun u o hu => no _ _ _ hu) (fun _ o ho => n17 o ho)
  refine i_settle (k := k) (by show k < xV (sAns k W) 0 0 0 3; rw [nt 0 (by decide) (by decide) (by decide)]; exact hk) (by show xV (sAns k W) 0 10 k 4 = 2; rw [nt 10 (by decide) (by decide) (by decide)]; exact c1) (xInvA_step (X' := xV (sAns k W) 0) (k := k) (G' := G) h g (nt 0 (by decide) (by decide) (by decide)) (nt 4 (by decide) (by decide) (by decide)) (nt 6 (by decide) (by decide) (by decide)) (fun o => n _ _ _ (by decide) (by decide) (by decide)) (fun t v ht hv => funext fun j => no _ _ _ hv) (fun s _ f _ => n _ _ _ (by decide) (by decide) (by decide)) (fun s _ i _ => n _ _ _ (by decide) (by decide) (by decide)) (by rw [nt 10 (by decide) (by decide) (by decide)]; exact g.1) (by rw [nt 10 (by decide) (by decide) (by decide)]; exact A) yExt_rfl (fun _ _ _ => rfl) (fun _ e e1 e2 => ?_) ?_)
  · have tm : xTm (xV (sAns k W) 0) k e = xTm (xV W 0) k e := by
      unfold xTm
      rw [nt 10 (by decide) (by decide) (by decide), nt 11 (by decide) (by decide) (by decide)]
    rw [nt 10 (by decide) (by decide) (by decide)] at e1 e2
    rw [tm]
    exact g.2.2.2 k hk e e1 e2
  · unfold xLoc at lc
    unfold xLocA
    rw [nt 10 (by decide) (by decide) (by decide), nt 0 (by decide) (by decide) (by decide)]
    exact ⟨lc.1, lc.2.1, lc.2.2.1, lc.2.2.2.1, lc.2.2.2.2.1, fun _ o ho => n16 o ho⟩
theorem xG_fr {X X' : Nat → Nat → Nat → Nat} {L : Nat → Nat → Nat} {len lead : Nat → Nat} {E V : Nat → Nat → Nat} {C : Nat → Nat → Nat → Nat} {cl ack G : Nat → Nat → Nat} (e : ∀ t, t ≠ 19 → X' t = X t) (h : xG X L len lead E V C cl ack G) : xG X' L len lead E V C cl ack G := by
  unfold xG xTm at h ⊢
  rw [e 0 (by decide), e 10 (by decide), e 11 (by decide), e 17 (by decide), e 20 (by decide), e 21 (by decide)]
  exact h
theorem xInv_fr {X X' : Nat → Nat → Nat → Nat} (e : ∀ t, t ≠ 19 → X' t = X t) (h : xInv X) : xInv X' := by
  unfold xInv xLoc xTm xSure xMost at h ⊢
  obtain ⟨h1, h2, h3, h4, L, len, lead, E, V, C, cl, ack, G, h5⟩ := h
  have h5 := xG_fr e h5
  rw [e 0 (by decide), e 10 (by decide), e 11 (by decide), e 16 (by decide), e 17 (by decide), e 4 (by decide), e 6 (by decide), e 20 (by decide)]
  exact ⟨h1, h2, h3, h4, L, len, lead, E, V, C, cl, ack, G, h5⟩
theorem i_answerH (hk : k < W.1 (0, 0, 0) 3) (hf : W.1 (20, 0, 40) 1 < W.1 (0, 0, 0) 3) (h4 : W.1 (20, 0, 40) 0 = 4) (hl : yLt (W.1 (0, 0, 0) 3) (xV W 0 10) L len lead V C cl ack (xV W 0 20 40) (fun i => xV W 0 21 40 (6 * i))) (h : xInv (xV W 0)) (g : xG (xV W 0) L len lead E V C cl ack G) (c1 : W.1 (10, 0, k) 4 = 2) (c2 : W.1 (10, 0, k) 2 = W.1 (20, 0, 40) 3) : xInv (xV (sSettle k (sAns k (sHd k W))) 0) := by
  have e : ∀ t, t ≠ 19 → xV (sHd k W) 0 t = xV W 0 t := fun t ht => funext fun i => funext fun j => sHd_n k W j ht
  have n10 : ∀ i, (sHd k W).1 (10, 0, k) i = W.1 (10, 0, k) i := fun i => sHd_n k W i (by simp)
  have n20 : ∀ i, (sHd k W).1 (20, 0, 40) i = W.1 (20, 0, 40) i := fun i => sHd_n k W i (by simp)
  have n0 : ∀ i, (sHd k W).1 (0, 0, 0) i = W.1 (0, 0, 0) i := fun i => sHd_n k W i (by simp)
  exact i_answer (W := sHd k W) (by rw [n0]; exact hk) (by rw [n0, n20]; exact hf) (by rw [n20]; exact h4) (by rw [n0, e 10 (by decide), e 20 (by decide), e 21 (by decide)]; exact hl) (xInv_fr e h) (xG_fr e g) (by rw [n10]; exact c1) (by rw [n10, n20]; exact c2)
end inv10
