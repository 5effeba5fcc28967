/-! what holds of a world: ask, all of it -/
section inv7
variable {X X' : Nat → Nat → Nat → Nat} {k : Nat} {L L' : Nat → Nat → Nat} {len len' lead lead' : Nat → Nat} {E E' V V' : Nat → Nat → Nat} {C C' : Nat → Nat → Nat → Nat} {cl cl' ack ack' G G' : Nat → Nat → Nat}
theorem xG_step (g : xG X L len lead E V C cl ack G) (h0 : X' 0 = X 0) (hK : ∀ o, X' 10 o 0 = X 10 o 0) (ho : ∀ t v, (t = 10 ∨ t = 11 ∨ t = 16 ∨ t = 17) → v ≠ k → X' t v = X t v) (h20 : ∀ s, s < 40 → ∀ f, f < 9 → X' 20 s f = X 20 s f) (h21 : ∀ s, s < 40 → ∀ i, i < 5 → X' 21 s (6 * i) = X 21 s (6 * i)) (F : ySf (X 0 0 3) (X' 10) L' len' lead' E' V' C' cl' ack') (A : ∀ v, v < X 0 0 3 → ySk (X 0 0 3) (X' 10) (X' 17) L' len' lead' E' V' C' cl' ack' G' v) (x : yExt L len lead V C cl ack L' len' lead' V' C' cl' ack') (hG : ∀ v e, v ≠ k → G' v e = G v e) (lk : k < X 0 0 3 → ∀ e, X' 10 k 5 ≤ e → e ≤ X' 10 k 7 → xTm X' k e = G' k e) : xG X' L' len' lead' E' V' C' cl' ack' G' := by
  unfold xG
  rw [h0]
  refine ⟨F, A, fun s hs => ?_, fun v hv e e1 e2 => ?_⟩
  · have z := yLt_mono (K' := X' 10) (E := E) (S := X 17) (G := G) (fun o _ => hK o) x g.1 g.2.1 (g.2.2.1 s hs)
    have q2 := h20 s hs
    have q3 := h21 s hs
    unfold yLt at z ⊢
    rw [q2 0 (by decide), q2 1 (by decide), q2 2 (by decide), q2 3 (by decide), q2 4 (by decide), q2 5 (by decide), q2 6 (by decide), q2 7 (by decide)]
    obtain ⟨z0, z1, z2, z3, z4, z5, z6⟩ := z
    refine ⟨z0, z1, z2, z3, fun e => ?_, z5, z6⟩
    obtain ⟨y1, y2, y3, y4, y5, y6⟩ := z4 e
    exact ⟨y1, y2, y3, y4, fun i hi => (q3 i (by omega)).trans (y5 i hi), y6⟩
  · by_cases c : v = k
    · rw [c] at hv e1 e2 ⊢; exact lk hv e e1 e2
    · have t : xTm X' v e = xTm X v e := by
        unfold xTm
        rw [ho 10 v (by omega) c, ho 11 v (by omega) c]
      rw [ho 10 v (by omega) c] at e1 e2
      rw [t, hG v e c]
      exact g.2.2.2 v hv e e1 e2
end inv7
theorem y_bit1 : ∀ k, k < 7 → ∀ j, j < 31 → (2 ^ k).testBit j = true → j = k := by decide +kernel
theorem y_bit31 {k j : Nat} (hk : k < 7) (h : (2 ^ k).testBit j = true) : j = k := by
  rw [Nat.testBit_two_pow] at h
  exact (of_decide_eq_true h).symm
theorem i_ask {W : yW} {k : Nat} (hk : k < W.1 (0, 0, 0) 3) (hc : sAskC k W) (h : xInv (xV W 0)) : xInv (xV (sAsk k W) 0) := by
  obtain ⟨L, len, lead, E, V, C, cl, ack, G, g⟩ := h.2.2.2.2
  obtain ⟨c1, c2, c3, c4⟩ := hc
  have lc := h.2.1 k hk
  have sk := g.2.1 k hk
  have k7 : k < 7 := by have := h.1.1; have hk' : k < xV W 0 0 0 3 := hk; omega
  have at' : ∀ t i j, xV (sStand k W) 0 t i j = if t = 10 ∧ i = k ∧ j = 2 then xV W 0 10 k 2 + 1 else if t = 10 ∧ i = k ∧ j = 3 then k + 1 else if t = 10 ∧ i = k ∧ j = 4 then 1 else if t = 10 ∧ i = k ∧ j = 9 then 2 ^ k else if t = 10 ∧ i = k ∧ j = 10 then 0 else xV W 0 t i j := fun t i j => by
    show (sStand k W).1 (t, 0, i) j = _
    rw [sStand_at]
    simp only [Prod.mk.injEq, true_and, and_assoc]
    rfl
  have nn : ∀ t i j, ¬ (t = 10 ∧ i = k ∧ (j = 2 ∨ j = 3 ∨ j = 4 ∨ j = 9 ∨ j = 10)) → xV (sStand k W) 0 t i j = xV W 0 t i j := fun t i j c => by
    rw [at', if_neg (by omega), if_neg (by omega), if_neg (by omega), if_neg (by omega), if_neg (by omega)]
  have nt : ∀ t, t ≠ 10 → xV (sStand k W) 0 t = xV W 0 t := fun t ht => funext fun i => funext fun j => nn _ _ _ (by omega)
  have n2 : xV (sStand k W) 0 10 k 2 = xV W 0 10 k 2 + 1 := by rw [at']; simp
  have n3 : xV (sStand k W) 0 10 k 3 = k + 1 := by rw [at']; simp
  have n4 : xV (sStand k W) 0 10 k 4 = 1 := by rw [at']; simp
  have n9 : xV (sStand k W) 0 10 k 9 = 2 ^ k := by rw [at']; simp
  have n10 : xV (sStand k W) 0 10 k 10 = 0 := by rw [at']; simp
  obtain ⟨V', C', cl', F, A, x, e1, e2⟩ := yStand (K' := xV (sStand k W) 0 10) (v := k) (t := xV W 0 10 k 2 + 1) g.1 g.2.1 hk rfl c2 (fun u f hu => nn _ _ _ (by omega)) n2 n3 n4 (fun j hj => by rw [n9] at hj; exact y_bit31 k7 hj) (fun f hf => nn _ _ _ (by omega))
  have n5 : xV (sStand k W) 0 10 k 5 = xV W 0 10 k 5 := nn _ _ _ (by omega)
  have n7 : xV (sStand k W) 0 10 k 7 = xV W 0 10 k 7 := nn _ _ _ (by omega)
  have tm : ∀ e, xTm (xV (sStand k W) 0) k e = xTm (xV W 0) k e := fun e => by
    unfold xTm
    rw [n5, nn 10 k 6 (by omega), nt 11 (by decide)]
  have lk : ∀ e, xV (sStand k W) 0 10 k 5 ≤ e → e ≤ xV (sStand k W) 0 10 k 7 → xTm (xV (sStand k W) 0) k e = G k e := fun e q1 q2 => by
    rw [n5] at q1
    rw [n7] at q2
    rw [tm]
    exact g.2.2.2 k hk e q1 q2
  have A' : ∀ v, v < xV W 0 0 0 3 → ySk (xV W 0 0 0 3) (xV (sStand k W) 0 10) (xV (sStand k W) 0 17) L len lead E V' C' cl' ack G v := by rw [nt 17 (by decide)]; exact A
  have hS := xInv_step (X' := xV (sStand k W) 0) (k := k) h g (nt 0 (by decide)) (nt 4 (by decide)) (nt 6 (by decide)) (fun o => nn _ _ _ (by omega)) (fun t v ht hv => funext fun j => nn _ _ _ (by omega)) (fun s _ f _ => nn _ _ _ (by omega)) (fun s _ i _ => nn _ _ _ (by omega)) F A' x (fun _ _ _ => rfl) (fun _ => lk) (fun _ => by
    unfold xLoc at lc ⊢
    rw [n4, n9, n10, n2, nn 10 k 0 (by omega), nn 10 k 1 (by omega), nt 0 (by decide)]
    refine ⟨⟨lc.1.1, lc.1.2.1, by decide, y_pow k k7, fun _ => by omega⟩, fun e => absurd e (by decide), fun _ => rfl, fun e => absurd c1 e, fun j hj => ?_, fun e => absurd e (by decide)⟩
    rw [y_bit31 k7 hj, nn 10 k 0 (by omega)]
    exact ⟨hk, c2⟩)
  have gS : xG (xV (sStand k W) 0) L len lead E V' C' cl' ack G := xG_step (k := k) g (nt 0 (by decide)) (fun o => nn _ _ _ (by omega)) (fun t v ht hv => funext fun j => nn _ _ _ (by omega)) (fun s _ f _ => nn _ _ _ (by omega)) (fun s _ i _ => nn _ _ _ (by omega)) F A' x (fun _ _ _ => rfl) (fun _ => lk)
  have hk' : k < (sStand k W).1 (0, 0, 0) 3 := by
    show k < xV (sStand k W) 0 0 0 3
    rw [nt 0 (by decide)]; exact hk
  have q := i_askL (k := k) (W.1 (0, 0, 0) 3) 0 (sStand k W) hk' (by show 0 + W.1 (0, 0, 0) 3 ≤ xV (sStand k W) 0 0 0 3; rw [nt 0 (by decide)]; show 0 + W.1 (0, 0, 0) 3 ≤ W.1 (0, 0, 0) 3; omega) hS gS (by
    show cl' (xV (sStand k W) 0 10 k 2) k = xV (sStand k W) 0 10 k 7 + 1
    rw [n2, n7]; exact e1) (by
    show C' (xV (sStand k W) 0 10 k 2) k (xV (sStand k W) 0 10 k 7) = xTm (xV (sStand k W) 0) k (xV (sStand k W) 0 10 k 7)
    rw [n2, lk _ (by rw [n5, n7]; exact Nat.le_trans sk.1.1 sk.1.2.1) (Nat.le_refl _), n7]
    exact e2)
  unfold sAsk
  exact i_chosen (by rw [q.2]; exact hk') q.1
