/-! what holds of a world: a letter is taken out; terms; replies -/
section inv8
variable {W : yW} {k : Nat} {L : Nat → Nat → Nat} {len lead : Nat → Nat} {E V : Nat → Nat → Nat} {C : Nat → Nat → Nat → Nat} {cl ack G : Nat → Nat → Nat}
theorem i_out {s : Nat} (hs : s < 40) (h : xInv (xV W 0)) (g : xG (xV W 0) L len lead E V C cl ack G) : xInv (xV (sOut s W) 0) ∧ xG (xV (sOut s W) 0) L len lead E V C cl ack G ∧ yLt (W.1 (0, 0, 0) 3) (xV (sOut s W) 0 10) L len lead V C cl ack (xV W 0 20 s) (fun i => xV W 0 21 s (6 * i)) := by
  have at' : ∀ t i j, (t = 20 → i = s → j = 0 → False) → (i = 40 → t ≠ 20 ∧ t ≠ 21 ∧ t ≠ 23) → xV (sOut s W) 0 t i j = xV W 0 t i j := fun t i j c1 c2 => by
    show (sOut s W).1 (t, 0, i) j = _
    rw [sOut_at]
    simp only [Prod.mk.injEq, true_and]
    rw [if_neg (fun q => c1 q.1.1 q.1.2 q.2), if_neg (fun q => (c2 q.1.2).1 q.1.1), if_neg (fun q => (c2 q.1.2).2.1 q.1.1), if_neg (fun q => (c2 q.1.2).2.2 q.1.1)]
    rfl
  have nt : ∀ t, t < 20 → xV (sOut s W) 0 t = xV W 0 t := fun t ht => funext fun i => funext fun j => at' _ _ _ (fun q => by omega) (fun _ => by omega)
  have z0 : xV (sOut s W) 0 20 s 0 = 0 := by
    show (sOut s W).1 (20, 0, s) 0 = 0
    rw [sOut_at, if_pos ⟨rfl, rfl⟩]
  have lt : ∀ s', s' < 40 → xV (sOut s W) 0 20 s' 0 = 0 ∨ ∃ s'', s'' < 40 ∧ (∀ f, f < 9 → xV (sOut s W) 0 20 s' f = xV W 0 20 s'' f) ∧ (∀ i, i < 5 → xV (sOut s W) 0 21 s' (6 * i) = xV W 0 21 s'' (6 * i)) := fun s' hs' => by
    by_cases c : s' = s
    · left; rw [c]; exact z0
    · right
      exact ⟨s', hs', fun f _ => at' _ _ _ (fun _ q _ => c q) (fun q => by omega), fun i _ => at' _ _ _ (fun q => by omega) (fun q => by omega)⟩
  refine ⟨xInv_let h (nt 0 (by decide)) (nt 10 (by decide)) (nt 11 (by decide)) (nt 16 (by decide)) (nt 17 (by decide)) lt (by rw [nt 4 (by decide), nt 6 (by decide)]; exact h.2.2.2.1), xG_let g (by rw [nt 0 (by decide)]) (nt 10 (by decide)) (nt 11 (by decide)) (nt 17 (by decide)) (fun s' hs' => ?_), by rw [nt 10 (by decide)]; exact g.2.2.1 s hs⟩
  rcases lt s' hs' with q | ⟨s'', q1, q2, q3⟩
  · exact ⟨by omega, fun e => absurd q e, fun e => by omega, fun e => by omega, fun e => by omega, fun e => by omega, fun e => by omega⟩
  · have z := g.2.2.1 s'' q1
    unfold yLt at z ⊢
    rw [q2 0 (by decide), q2 1 (by decide), q2 2 (by decide), q2 3 (by decide), q2 4 (by decide), q2 5 (by decide), q2 6 (by decide), q2 7 (by decide)]
    obtain ⟨z0, z1, z2, z3, z4, z5, z6⟩ := z
    refine ⟨z0, z1, z2, z3, fun e => ?_, z5, z6⟩
    obtain ⟨y1, y2, y3, y4, y5, y6⟩ := z4 e
    exact ⟨y1, y2, y3, y4, fun i hi => (q3 i (by omega)).trans (y5 i hi), y6⟩
theorem i_enter {t : Nat} (hk : k < W.1 (0, 0, 0) 3) (ht : W.1 (10, 0, k) 2 < t) (h : xInv (xV W 0)) (g : xG (xV W 0) L len lead E V C cl ack G) : xInv (xV (sEnter k t W) 0) ∧ xG (xV (sEnter k t W) 0) L len lead E V C cl ack G := by
  have at' : ∀ t' i j, ¬ (t' = 10 ∧ i = k ∧ (j = 2 ∨ j = 3 ∨ j = 4 ∨ j = 9 ∨ j = 10)) → xV (sEnter k t W) 0 t' i j = xV W 0 t' i j := fun t' i j c => by
    show (sEnter k t W).1 (t', 0, i) j = _
    rw [sEnter_at]
    simp only [Prod.mk.injEq, true_and]
    rw [if_neg (by omega), if_neg (by omega)]
    rfl
  have nt : ∀ t', t' ≠ 10 → xV (sEnter k t W) 0 t' = xV W 0 t' := fun t' ht => funext fun i => funext fun j => at' _ _ _ (by omega)
  have n2 : xV (sEnter k t W) 0 10 k 2 = t := by show (sEnter k t W).1 (10, 0, k) 2 = t; rw [sEnter_at]; simp
  have nz : ∀ j, j = 3 ∨ j = 4 ∨ j = 9 ∨ j = 10 → xV (sEnter k t W) 0 10 k j = 0 := fun j hj => by
    show (sEnter k t W).1 (10, 0, k) j = 0
    rw [sEnter_at, if_neg (by omega), if_pos ⟨rfl, hj⟩]
  have lc := h.2.1 k hk
  obtain ⟨F, A⟩ := yRaise (K' := xV (sEnter k t W) 0 10) (v := k) (t := t) g.1 g.2.1 hk ht (fun u f hu => at' _ _ _ (by omega)) n2 (nz 3 (by omega)) (nz 4 (by omega)) (fun f hf => at' _ _ _ (by omega))
  have n5 : xV (sEnter k t W) 0 10 k 5 = xV W 0 10 k 5 := at' _ _ _ (by omega)
  have n7 : xV (sEnter k t W) 0 10 k 7 = xV W 0 10 k 7 := at' _ _ _ (by omega)
  have lk : ∀ e, xV (sEnter k t W) 0 10 k 5 ≤ e → e ≤ xV (sEnter k t W) 0 10 k 7 → xTm (xV (sEnter k t W) 0) k e = G k e := fun e q1 q2 => by
    rw [n5] at q1
    rw [n7] at q2
    have tm : xTm (xV (sEnter k t W) 0) k e = xTm (xV W 0) k e := by
      unfold xTm
      rw [n5, at' 10 k 6 (by omega), nt 11 (by decide)]
    rw [tm]
    exact g.2.2.2 k hk e q1 q2
  have A' : ∀ v, v < xV W 0 0 0 3 → ySk (xV W 0 0 0 3) (xV (sEnter k t W) 0 10) (xV (sEnter k t W) 0 17) L len lead E V C cl ack G v := by rw [nt 17 (by decide)]; exact A
  refine ⟨xInv_step (k := k) h g (nt 0 (by decide)) (nt 4 (by decide)) (nt 6 (by decide)) (fun o => at' _ _ _ (by omega)) (fun t' v ht hv => funext fun j => at' _ _ _ (by omega)) (fun s _ f _ => at' _ _ _ (by omega)) (fun s _ i _ => at' _ _ _ (by omega)) F A' yExt_rfl (fun _ _ _ => rfl) (fun _ => lk) (fun _ => ?_), xG_step (k := k) g (nt 0 (by decide)) (fun o => at' _ _ _ (by omega)) (fun t' v ht hv => funext fun j => at' _ _ _ (by omega)) (fun s _ f _ => at' _ _ _ (by omega)) (fun s _ i _ => at' _ _ _ (by omega)) F A' yExt_rfl (fun _ _ _ => rfl) (fun _ => lk)⟩
  unfold xLoc at lc ⊢
  rw [nz 4 (by omega), nz 9 (by omega), nz 10 (by omega), at' 10 k 0 (by omega), at' 10 k 1 (by omega)]
  exact ⟨⟨lc.1.1, lc.1.2.1, by decide, by decide, fun e => absurd e (by decide)⟩, fun _ => rfl, fun _ => rfl, fun _ => rfl, fun j hj => absurd hj (by simp), fun e => absurd e (by decide)⟩
/-- the answer to the letter in hand: a ballot or an answer -/
theorem i_reply {kd y n : Nat} (hkd : kd = 1 ∨ kd = 3) (hy : y ≤ 1) (h2 : W.1 (20, 0, 40) 2 < W.1 (0, 0, 0) 3) (h1 : W.1 (20, 0, 40) 1 < W.1 (0, 0, 0) 3) (hb : kd = 1 → y = 1 → V (W.1 (10, 0, W.1 (20, 0, 40) 2) 2) (W.1 (20, 0, 40) 2) = W.1 (20, 0, 40) 1 + 1) (ha : kd = 3 → y = 1 → n ≤ ack (W.1 (20, 0, 40) 2) (W.1 (10, 0, W.1 (20, 0, 40) 2) 2)) (h : xInv (xV W 0)) (g : xG (xV W 0) L len lead E V C cl ack G) : xInv (xV (sReply kd y n W) 0) := by
  cases hs : sEmp W with
  | none =>
    have : sReply kd y n W = W := by unfold sReply; rw [hs]
    rw [this]; exact h
  | some s =>
    rw [sReply_s hs]
    obtain ⟨w0, w1, w2, w3, w4, w5, w6, w7, w8⟩ := sWrite_s s kd (W.1 (20, 0, 40) 2) (W.1 (20, 0, 40) 1) (W.1 (10, 0, W.1 (20, 0, 40) 2) 2) W
    have v : ∀ f, f < 9 → xV (yI (sLet s kd (W.1 (20, 0, 40) 2) (W.1 (20, 0, 40) 1) y n (W.1 (20, 0, 40) 8) W) (20, 0, s) 9 (W.1 (20, 0, 40) 9)) 0 20 s f = if f = 0 then kd + 1 else if f = 1 then W.1 (20, 0, 40) 2 else if f = 2 then W.1 (20, 0, 40) 1 else if f = 3 then W.1 (10, 0, W.1 (20, 0, 40) 2) 2 else if f = 4 then y else if f = 5 then n else if f = 8 then W.1 (20, 0, 40) 8 else 0 := fun f hf => by
      show (yI (sLet s kd (W.1 (20, 0, 40) 2) (W.1 (20, 0, 40) 1) y n (W.1 (20, 0, 40) 8) W) (20, 0, s) 9 (W.1 (20, 0, 40) 9)).1 (20, 0, s) f = _
      unfold sLet
      rcases (show f = 0 ∨ f = 1 ∨ f = 2 ∨ f = 3 ∨ f = 4 ∨ f = 5 ∨ f = 6 ∨ f = 7 ∨ f = 8 by omega) with rfl | rfl | rfl | rfl | rfl | rfl | rfl | rfl | rfl <;> simp only [w0, w1, w2, w3, w6, w7, yI_at, yCp_at, yRow_1, yR_1, Prod.mk.injEq, and_true, true_and, and_self, false_and, and_false, if_true, if_false, ne_eq, not_true_eq_false, not_false_eq_true, yLit, Nat.succ_ne_zero, reduceCtorEq, Nat.reduceEqDiff, ↓reduceIte]
    have nz : ∀ (z : zJ) f, z ≠ (20, 0, s) → (yI (sLet s kd (W.1 (20, 0, 40) 2) (W.1 (20, 0, 40) 1) y n (W.1 (20, 0, 40) 8) W) (20, 0, s) 9 (W.1 (20, 0, 40) 9)).1 z f = W.1 z f := fun z f hz => by
      unfold sLet
      rw [yI_z _ _ hz, yI_z _ _ hz, yI_z _ _ hz, yI_z _ _ hz, sWrite_at _ hz]
    have nt : ∀ t, t ≠ 20 → xV (yI (sLet s kd (W.1 (20, 0, 40) 2) (W.1 (20, 0, 40) 1) y n (W.1 (20, 0, 40) 8) W) (20, 0, s) 9 (W.1 (20, 0, 40) 9)) 0 t = xV W 0 t := fun t ht => funext fun i => funext fun j => nz (t, 0, i) j (by simp [ht])
    refine (xInv_add (s := s) h g (nt 0 (by decide)) (nt 4 (by decide)) (nt 6 (by decide)) (nt 10 (by decide)) (nt 11 (by decide)) (nt 16 (by decide)) (nt 17 (by decide)) (fun s' _ c f _ => nz (20, 0, s') f (by simp [c])) (fun s' _ _ i _ => nz (21, 0, s') _ (by simp)) (fun e => ?_) ?_).1
    · rw [v 0 (by decide)] at e
      simp at e
      omega
    · unfold yLt
      rw [v 0 (by decide), v 1 (by decide), v 2 (by decide), v 3 (by decide), v 4 (by decide), v 5 (by decide), v 6 (by decide), v 7 (by decide)]
      simp only [Nat.reduceEqDiff, if_true, if_false, Nat.succ_ne_zero, ↓reduceIte]
      refine ⟨by omega, fun _ => ⟨h2, h1⟩, fun e => by omega, fun e => ⟨hy, fun q => hb (by omega) q⟩, fun e => by omega, fun e => ⟨hy, fun q => ha (by omega) q⟩, fun e => by omega⟩
end inv8
