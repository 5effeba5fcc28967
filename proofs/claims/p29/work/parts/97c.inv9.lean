/-! what holds of a world: asks, ballots, answers are taken -/
section inv9
variable {W : yW} {k : Nat} {L : Nat → Nat → Nat} {len lead : Nat → Nat} {E V : Nat → Nat → Nat} {C : Nat → Nat → Nat → Nat} {cl ack G : Nat → Nat → Nat}
theorem i_vote (hk : k < W.1 (0, 0, 0) 3) (hr : W.1 (20, 0, 40) 2 = k) (hf : W.1 (20, 0, 40) 1 < W.1 (0, 0, 0) 3) (h1 : W.1 (20, 0, 40) 0 = 1) (hl : yLt (W.1 (0, 0, 0) 3) (xV W 0 10) L len lead V C cl ack (xV W 0 20 40) (fun i => xV W 0 21 40 (6 * i))) (h : xInv (xV W 0)) (g : xG (xV W 0) L len lead E V C cl ack G) (hc : (W.1 (10, 0, k) 3 = 0 ∨ W.1 (10, 0, k) 3 = W.1 (20, 0, 40) 1 + 1) ∧ W.1 (10, 0, k) 0 ≠ 0 ∧ W.1 (10, 0, k) 2 = W.1 (20, 0, 40) 3 ∧ ¬ (W.1 (20, 0, 40) 5 < sTm W k (W.1 (10, 0, k) 7) ∨ (sTm W k (W.1 (10, 0, k) 7) = W.1 (20, 0, 40) 5 ∧ W.1 (20, 0, 40) 4 < W.1 (10, 0, k) 7))) : xInv (xV (sReply 1 1 0 (yI W (10, 0, k) 3 (W.1 (20, 0, 40) 1 + 1))) 0) := by
  obtain ⟨c1, c2, c3, c4⟩ := hc
  obtain ⟨p1, p2⟩ := hl.2.2.1 h1
  have p1 : cl (W.1 (20, 0, 40) 3) (W.1 (20, 0, 40) 1) = W.1 (20, 0, 40) 4 + 1 := p1
  have p2 : C (W.1 (20, 0, 40) 3) (W.1 (20, 0, 40) 1) (W.1 (20, 0, 40) 4) = W.1 (20, 0, 40) 5 := p2
  have sk := g.2.1 k hk
  have lc := h.2.1 k hk
  have ln : G k (W.1 (10, 0, k) 7) = sTm W k (W.1 (10, 0, k) 7) := (g.2.2.2 k hk _ (Nat.le_trans sk.1.1 sk.1.2.1) (Nat.le_refl _)).symm
  have n : ∀ t i j, ¬ (t = 10 ∧ i = k ∧ j = 3) → xV (yI W (10, 0, k) 3 (W.1 (20, 0, 40) 1 + 1)) 0 t i j = xV W 0 t i j := fun t i j ht => by
    show (yI W (10, 0, k) 3 (W.1 (20, 0, 40) 1 + 1)).1 (t, 0, i) j = _
    rw [yI_n _ _ (fun e => ht (by simp at e; omega))]
    rfl
  have nt : ∀ t, t ≠ 10 → xV (yI W (10, 0, k) 3 (W.1 (20, 0, 40) 1 + 1)) 0 t = xV W 0 t := fun t ht => funext fun i => funext fun j => n _ _ _ (by omega)
  have n10 : ∀ u f, f ≠ 3 → xV (yI W (10, 0, k) 3 (W.1 (20, 0, 40) 1 + 1)) 0 10 u f = xV W 0 10 u f := fun u f hf => n _ _ _ (by omega)
  have tm : ∀ v e, xTm (xV (yI W (10, 0, k) 3 (W.1 (20, 0, 40) 1 + 1)) 0) v e = xTm (xV W 0) v e := fun v e => by
    unfold xTm
    rw [n10 v 5 (by decide), n10 v 6 (by decide), nt 11 (by decide)]
  obtain ⟨V', F, A, x, e1⟩ := yVote (K' := xV (yI W (10, 0, k) 3 (W.1 (20, 0, 40) 1 + 1)) 0 10) (v := k) (t := W.1 (10, 0, k) 2) (c := W.1 (20, 0, 40) 1) g.1 g.2.1 hk rfl c2 (by rw [c3, p1]; omega) c1 (by
    show G k (W.1 (10, 0, k) 7) < C (W.1 (10, 0, k) 2) (W.1 (20, 0, 40) 1) (cl (W.1 (10, 0, k) 2) (W.1 (20, 0, 40) 1) - 1) ∨ (G k (W.1 (10, 0, k) 7) = C (W.1 (10, 0, k) 2) (W.1 (20, 0, 40) 1) (cl (W.1 (10, 0, k) 2) (W.1 (20, 0, 40) 1) - 1) ∧ W.1 (10, 0, k) 7 ≤ cl (W.1 (10, 0, k) 2) (W.1 (20, 0, 40) 1) - 1)
    rw [c3, p1, Nat.add_sub_cancel, p2, ln]
    omega) (fun u f hu => n _ _ _ (by omega)) (yI_s _ _ _ _) (fun f hf => n10 k f hf)
  have A' : ∀ v, v < xV W 0 0 0 3 → ySk (xV W 0 0 0 3) (xV (yI W (10, 0, k) 3 (W.1 (20, 0, 40) 1 + 1)) 0 10) (xV (yI W (10, 0, k) 3 (W.1 (20, 0, 40) 1 + 1)) 0 17) L len lead E V' C cl ack G v := by rw [nt 17 (by decide)]; exact A
  have lk : ∀ e, xV (yI W (10, 0, k) 3 (W.1 (20, 0, 40) 1 + 1)) 0 10 k 5 ≤ e → e ≤ xV (yI W (10, 0, k) 3 (W.1 (20, 0, 40) 1 + 1)) 0 10 k 7 → xTm (xV (yI W (10, 0, k) 3 (W.1 (20, 0, 40) 1 + 1)) 0) k e = G k e := fun e q1 q2 => by
    rw [n10 k 5 (by decide)] at q1
    rw [n10 k 7 (by decide)] at q2
    rw [tm]
    exact g.2.2.2 k hk e q1 q2
  have hS := xInv_step (X' := xV (yI W (10, 0, k) 3 (W.1 (20, 0, 40) 1 + 1)) 0) (k := k) h g (nt 0 (by decide)) (nt 4 (by decide)) (nt 6 (by decide)) (fun o => n10 o 0 (by decide)) (fun t v ht hv => funext fun j => n _ _ _ (by omega)) (fun s _ f _ => n _ _ _ (by omega)) (fun s _ i _ => n _ _ _ (by omega)) F A' x (fun _ _ _ => rfl) (fun _ => lk) (fun _ => by
    have su : ∀ e, xSure (xV (yI W (10, 0, k) 3 (W.1 (20, 0, 40) 1 + 1)) 0) k e = xSure (xV W 0) k e := fun e => by
      unfold xSure
      rw [nt 0 (by decide), nt 17 (by decide)]
      exact z_cnt_congr _ 0 (fun j _ _ => by rw [n10 j 0 (by decide)])
    have mo : xMost (xV (yI W (10, 0, k) 3 (W.1 (20, 0, 40) 1 + 1)) 0) = xMost (xV W 0) := by unfold xMost; rw [nt 0 (by decide)]
    unfold xLoc at lc ⊢
    simp only [tm, su, mo]
    rw [n10 k 0 (by decide), n10 k 1 (by decide), n10 k 4 (by decide), n10 k 9 (by decide), n10 k 7 (by decide), n10 k 8 (by decide), n10 k 2 (by decide), n10 k 10 (by decide), nt 0 (by decide), nt 16 (by decide)]
    refine ⟨lc.1, lc.2.1, lc.2.2.1, lc.2.2.2.1, fun j hj => ?_, lc.2.2.2.2.2⟩
    rw [n10 j 0 (by decide)]
    exact lc.2.2.2.2.1 j hj)
  have gS := xG_step (X' := xV (yI W (10, 0, k) 3 (W.1 (20, 0, 40) 1 + 1)) 0) (k := k) g (nt 0 (by decide)) (fun o => n10 o 0 (by decide)) (fun t v ht hv => funext fun j => n _ _ _ (by omega)) (fun s _ f _ => n _ _ _ (by omega)) (fun s _ i _ => n _ _ _ (by omega)) F A' x (fun _ _ _ => rfl) (fun _ => lk)
  have z : ∀ (z : zJ) f, z ≠ (10, 0, k) → (yI W (10, 0, k) 3 (W.1 (20, 0, 40) 1 + 1)).1 z f = W.1 z f := fun z f hz => yI_z _ _ hz
  refine i_reply (Or.inl rfl) (by decide) (by rw [z _ _ (by simp), z _ _ (by simp), hr]; exact hk) (by rw [z _ _ (by simp), z _ _ (by simp)]; exact hf) (fun _ _ => ?_) (fun e => absurd e (by decide)) hS gS
  rw [z (20, 0, 40) 2 (by simp), z (20, 0, 40) 1 (by simp), hr, yI_i _ _ (by decide)]
  exact e1
theorem i_ballot (hk : k < W.1 (0, 0, 0) 3) (hr : W.1 (20, 0, 40) 2 = k) (hf : W.1 (20, 0, 40) 1 < W.1 (0, 0, 0) 3) (h2 : W.1 (20, 0, 40) 0 = 2) (hl : yLt (W.1 (0, 0, 0) 3) (xV W 0 10) L len lead V C cl ack (xV W 0 20 40) (fun i => xV W 0 21 40 (6 * i))) (h : xInv (xV W 0)) (g : xG (xV W 0) L len lead E V C cl ack G) : xInv (xV (sBallot k W) 0) := by
  unfold sBallot
  split
  · rename_i c
    obtain ⟨c1, c2, c3⟩ := c
    have hV : V (W.1 (20, 0, 40) 3) (W.1 (20, 0, 40) 1) = W.1 (20, 0, 40) 2 + 1 := (hl.2.2.2.1 h2).2 c3
    rw [← c2, hr] at hV
    have lc := h.2.1 k hk
    have o7 : W.1 (20, 0, 40) 1 < 7 := by have := h.1.1; have q : W.1 (20, 0, 40) 1 < xV W 0 0 0 3 := hf; omega
    have vo := (g.1.2.2.2.2.2.1 (W.1 (10, 0, k) 2) (W.1 (20, 0, 40) 1) k hf hV).2
    obtain ⟨b, eb⟩ : ∃ b, b = W.1 (10, 0, k) 9 ||| 2 ^ W.1 (20, 0, 40) 1 := ⟨_, rfl⟩
    rw [← eb]
    have n : ∀ t i j, ¬ (t = 10 ∧ i = k ∧ j = 9) → xV (yI W (10, 0, k) 9 b) 0 t i j = xV W 0 t i j := fun t i j ht => by
      show (yI W (10, 0, k) 9 b).1 (t, 0, i) j = _
      rw [yI_n _ _ (fun e => ht (by simp at e; omega))]
      rfl
    have nt : ∀ t, t ≠ 10 → xV (yI W (10, 0, k) 9 b) 0 t = xV W 0 t := fun t ht => funext fun i => funext fun j => n _ _ _ (by omega)
    have n10 : ∀ u f, f ≠ 9 → xV (yI W (10, 0, k) 9 b) 0 10 u f = xV W 0 10 u f := fun u f hf => n _ _ _ (by omega)
    have n9 : xV (yI W (10, 0, k) 9 b) 0 10 k 9 = b := yI_s _ _ _ _
    have bits : ∀ j, b.testBit j = true → (W.1 (10, 0, k) 9).testBit j = true ∨ j = W.1 (20, 0, 40) 1 := fun j hj => by
      rw [eb, Nat.testBit_or, Bool.or_eq_true] at hj
      rcases hj with q | q
      · exact Or.inl q
      · exact Or.inr (y_bit31 o7 q)
    have tm : ∀ v e, xTm (xV (yI W (10, 0, k) 9 b) 0) v e = xTm (xV W 0) v e := fun v e => by
      unfold xTm
      rw [n10 v 5 (by decide), n10 v 6 (by decide), nt 11 (by decide)]
    obtain ⟨F, A⟩ := yBallot (K' := xV (yI W (10, 0, k) 9 b) 0 10) (v := k) (o := W.1 (20, 0, 40) 1) g.1 g.2.1 (fun u f hu => n _ _ _ (by omega)) (fun f hf => n10 k f hf) (fun j hj => by rw [n9] at hj; exact bits j hj) hV
    refine i_chosen (k := k) (by show k < xV (yI W (10, 0, k) 9 b) 0 0 0 3; rw [nt 0 (by decide)]; exact hk) (xInv_step (X' := xV (yI W (10, 0, k) 9 b) 0) (k := k) h g (nt 0 (by decide)) (nt 4 (by decide)) (nt 6 (by decide)) (fun o => n10 o 0 (by decide)) (fun t v ht hv => funext fun j => n _ _ _ (by omega)) (fun s _ f _ => n _ _ _ (by omega)) (fun s _ i _ => n _ _ _ (by omega)) F (by rw [nt 17 (by decide)]; exact A) yExt_rfl (fun _ _ _ => rfl) (fun _ e q1 q2 => ?_) (fun _ => ?_))
    · rw [n10 k 5 (by decide)] at q1
      rw [n10 k 7 (by decide)] at q2
      rw [tm]
      exact g.2.2.2 k hk e q1 q2
    · have c1' : xV W 0 10 k 4 = 1 := c1
      unfold xLoc at lc ⊢
      rw [n9, n10 k 0 (by decide), n10 k 1 (by decide), n10 k 4 (by decide), n10 k 2 (by decide), n10 k 10 (by decide), nt 0 (by decide)]
      refine ⟨⟨lc.1.1, lc.1.2.1, lc.1.2.2.1, by rw [eb]; exact y_or_lt _ lc.1.2.2.2.1 _ o7, lc.1.2.2.2.2⟩, fun e => absurd e (by omega), lc.2.2.1, lc.2.2.2.1, fun j hj => ?_, fun e => absurd e (by omega)⟩
      rw [n10 j 0 (by decide)]
      rcases bits j hj with q | q
      · exact lc.2.2.2.2.1 j q
      · rw [q]; exact ⟨hf, vo⟩
  · exact h
end inv9
