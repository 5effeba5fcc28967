/-! what holds of a world: deliver, all of it -/
section inv15
variable {W : yW} {k : Nat} {L : Nat → Nat → Nat} {len lead : Nat → Nat} {E V : Nat → Nat → Nat} {C : Nat → Nat → Nat → Nat} {cl ack G : Nat → Nat → Nat}
theorem i_ldr (hk : k < W.1 (0, 0, 0) 3) (h40 : W.1 (10, 0, k) 7 ≤ W.1 (10, 0, k) 5 + 40) (hr : W.1 (10, 0, k) 4 = 0) (h2 : W.1 (20, 0, 40) 2 = k) (hf : W.1 (20, 0, 40) 1 < W.1 (0, 0, 0) 3) (h0 : W.1 (20, 0, 40) 0 = 3 ∨ W.1 (20, 0, 40) 0 = 5) (ht : W.1 (10, 0, k) 2 = W.1 (20, 0, 40) 3) (hB : ∀ z i, W.1 z i < 40000) (hE : yEn W) (hl : yLt (W.1 (0, 0, 0) 3) (xV W 0 10) L len lead V C cl ack (xV W 0 20 40) (fun i => xV W 0 21 40 (6 * i))) (h : xInv (xV W 0)) (g : xG (xV W 0) L len lead E V C cl ack G) : xInv (xV (sLdr k W) 0) := by
  have sk := g.2.1 k hk
  have k5 : W.1 (10, 0, k) 5 ≤ W.1 (10, 0, k) 8 := sk.1.1
  have k8 : W.1 (10, 0, k) 8 ≤ W.1 (10, 0, k) 7 := sk.1.2.1
  unfold sLdr
  by_cases c5 : W.1 (20, 0, 40) 0 = 5
  · rw [if_pos c5]
    obtain ⟨G', ⟨hI, gI⟩, e2, e4, el, e7, eG⟩ := i_sFold hk h40 hr c5 ht hl h g
    have n3 : (sFold k W).1 (0, 0, 0) 3 = W.1 (0, 0, 0) 3 := sFold_at (by simp) (by simp) (by simp) (by simp)
    have n20 : ∀ j, (sFold k W).1 (20, 0, 40) j = W.1 (20, 0, 40) j := fun j => sFold_at (by simp) (by simp) (by simp) (by simp)
    obtain ⟨ack', gA, a1⟩ := i_ack (W := sFold k W) (k := k) (n := W.1 (20, 0, 40) 4) (by omega) (by rw [e2]; exact el) e7 (by rw [e2]; exact eG) gI
    exact i_reply (Or.inr rfl) (by decide) (by rw [n20, n3, h2]; exact hk) (by rw [n20, n3]; exact hf) (fun q => absurd q (by decide)) (fun _ _ => by rw [n20, h2]; exact a1) hI gA
  · rw [if_neg c5]
    have c3 : W.1 (20, 0, 40) 0 = 3 := by omega
    obtain ⟨l1, l2, l3, l4, l5, l6⟩ := hl.2.2.2.2.1 c3
    have l1 : lead (W.1 (20, 0, 40) 3) ≠ 0 := l1
    have l2 : W.1 (20, 0, 40) 4 + W.1 (20, 0, 40) 6 ≤ len (W.1 (20, 0, 40) 3) := l2
    have l4 : W.1 (20, 0, 40) 5 = L (W.1 (20, 0, 40) 3) (W.1 (20, 0, 40) 4) := l4
    have l5 : ∀ i, i < W.1 (20, 0, 40) 6 → W.1 (21, 0, 40) (6 * i) = L (W.1 (20, 0, 40) 3) (W.1 (20, 0, 40) 4 + 1 + i) := l5
    have l6 : yCP (W.1 (0, 0, 0) 3) (xV W 0 10) L len ack (L (W.1 (20, 0, 40) 3)) (W.1 (20, 0, 40) 3) (W.1 (20, 0, 40) 7) := l6
    have link : ∀ e, W.1 (10, 0, k) 5 ≤ e → e ≤ W.1 (10, 0, k) 7 → sTm W k e = G k e := g.2.2.2 k hk
    by_cases c : W.1 (10, 0, k) 7 < W.1 (20, 0, 40) 4 ∨ (W.1 (10, 0, k) 5 < W.1 (20, 0, 40) 4 ∧ sTm W k (W.1 (20, 0, 40) 4) ≠ W.1 (20, 0, 40) 5)
    · rw [if_pos c]
      obtain ⟨hI, gI⟩ := i_cut (e := W.1 (20, 0, 40) 4) hk hr (by rw [ht]; exact l1) (by omega) (by
        by_cases c2 : W.1 (10, 0, k) 7 < W.1 (20, 0, 40) 4
        · exact Or.inl c2
        · right
          rcases c with c | ⟨c, c4⟩
          · omega
          · rw [link _ (by omega) (by omega), l4, ← ht] at c4
            exact c4) h g
      have n : ∀ (z : zJ) j, z ≠ (10, 0, k) → (sCut k (W.1 (20, 0, 40) 4) W).1 z j = W.1 z j := fun z j hz => sCut_at (fun q => hz q.1)
      refine i_reply (Or.inr rfl) (by decide) ?_ ?_ (fun q => absurd q (by decide)) (fun _ q => absurd q (by decide)) hI gI
      · rw [n _ _ (by simp), n _ _ (by simp), h2]; exact hk
      · rw [n _ _ (by simp), n _ _ (by simp)]; exact hf
    · rw [if_neg c]
      have pre : ∀ i, i ≤ W.1 (20, 0, 40) 4 → G k i = L (W.1 (20, 0, 40) 3) i := by
        by_cases c4 : W.1 (20, 0, 40) 4 ≤ W.1 (10, 0, k) 5
        · obtain ⟨d1, d2⟩ := i_done hk (by rw [ht]; exact l1) g
          rw [ht] at d2
          exact fun i hi => d2 i (by omega)
        · have c6 : sTm W k (W.1 (20, 0, 40) 4) = W.1 (20, 0, 40) 5 := Classical.byContradiction fun q => c (Or.inr ⟨by omega, q⟩)
          exact y_same g.1 sk (by omega) (by show _ ≤ W.1 (10, 0, k) 7; omega) (by omega) (by rw [← link _ (by omega) (by omega), c6]; exact l4)
      obtain ⟨G', ⟨hI, gI⟩, p1, p2, p3⟩ := i_ent (t := W.1 (20, 0, 40) 3) (W.1 (20, 0, 40) 6) (W.1 (20, 0, 40) 4) 0 W G hk h40 hr ht l1 l2 (by omega) pre (fun j hj => by rw [Nat.zero_add]; exact l5 j hj) h g
      obtain ⟨-, -, q3, q4, -, -, -, -⟩ := sEnt_inv k (W.1 (20, 0, 40) 6) (W.1 (20, 0, 40) 4) 0 40000 W hB hE k8 h40
      unfold sApp
      dsimp only
      generalize sEnt k (W.1 (20, 0, 40) 6) (W.1 (20, 0, 40) 4) 0 W = p at hI gI p1 p2 p3 q3 q4 ⊢
      obtain ⟨r, W2⟩ := p
      dsimp only at hI gI p1 p2 p3 q3 q4 ⊢
      have m2 : W2.1 (10, 0, k) 2 = W.1 (20, 0, 40) 3 := (q3 _ _ (by simp) (by simp)).trans ht
      have m4 : W2.1 (10, 0, k) 4 = 0 := (q3 _ _ (by simp) (by simp)).trans hr
      have m8 : W2.1 (10, 0, k) 8 = W.1 (10, 0, k) 8 := q3 _ _ (by simp) (by simp)
      have m3 : W2.1 (0, 0, 0) 3 = W.1 (0, 0, 0) 3 := q3 _ _ (by simp) (by simp)
      have m20 : ∀ j, W2.1 (20, 0, 40) j = W.1 (20, 0, 40) j := fun j => q3 _ _ (by simp) (by simp)
      have m0 : ∀ o, xV W2 0 10 o 0 = xV W 0 10 o 0 := fun o => q3 (10, 0, o) 0 (by simp) (by simp)
      have sk2 := gI.2.1 k (by show k < W2.1 (0, 0, 0) 3; rw [m3]; exact hk)
      have ex : ∀ n, n ≤ W.1 (10, 0, k) 8 ∨ n = min (min (W.1 (20, 0, 40) 7) r) (W2.1 (10, 0, k) 7) → yCP (W2.1 (0, 0, 0) 3) (xV W2 0 10) L len ack (G' k) (W2.1 (10, 0, k) 2) n := fun n hn => by
        rcases hn with hn | hn
        · exact yCP_mono (fun _ _ => rfl) (fun _ _ _ => rfl) (fun _ => Nat.le_refl _) (fun _ _ => Nat.le_refl _) (fun _ _ => rfl) (Nat.le_refl _) (by show n ≤ W2.1 (10, 0, k) 8; omega) sk2.2.2.2.2.2.1
        · rw [m3, m2]
          exact yCP_mono (fun o _ => m0 o) (fun _ _ _ => rfl) (fun _ => Nat.le_refl _) (fun _ _ => Nat.le_refl _) (fun i hi => p3 i (by omega)) (Nat.le_refl _) (by omega) l6
      have ad := i_adv (W := W2) (n := max (W.1 (10, 0, k) 8) (min (min (W.1 (20, 0, 40) 7) r) (W2.1 (10, 0, k) 7))) (by rw [m3]; exact hk) m4 (by omega) (by omega) (ex _ (by omega)) hI gI
      rw [m8, show max (W.1 (10, 0, k) 8) (min (min (W.1 (20, 0, 40) 7) r) (W2.1 (10, 0, k) 7)) - W.1 (10, 0, k) 8 = min (min (W.1 (20, 0, 40) 7) r) (W2.1 (10, 0, k) 7) - W.1 (10, 0, k) 8 by omega] at ad
      generalize hd : min (min (W.1 (20, 0, 40) 7) r) (W2.1 (10, 0, k) 7) - W.1 (10, 0, k) 8 = d at ad ⊢
      have v : ∀ (z : zJ) j, ¬ (z = (10, 0, k) ∧ j = 8) → (sAdv k d W2).1 z j = W2.1 z j := fun z j q => by rw [sAdv_1, if_neg q]
      have v2 : (sAdv k d W2).1 (10, 0, k) 2 = W.1 (20, 0, 40) 3 := (v _ _ (by simp)).trans m2
      obtain ⟨ack', gA, a1⟩ := i_ack (W := sAdv k d W2) (k := k) (n := r) (by rw [v _ _ (by simp), m4]; decide) (by rw [v2]; exact p1) (by rw [v _ _ (by simp)]; exact p2) (by rw [v2]; exact p3) ad.2
      refine i_reply (Or.inr rfl) (by decide) ?_ ?_ (fun q => absurd q (by decide)) (fun _ _ => ?_) ad.1 gA
      · rw [v _ _ (by simp), v _ _ (by simp), m20, m3, h2]; exact hk
      · rw [v _ _ (by simp), v _ _ (by simp), m20, m3]; exact hf
      · rw [v _ _ (by simp), m20, h2]; exact a1
theorem sFollow_n {k : Nat} {W : yW} {z : zJ} {f : Nat} (h : ¬ (z = (10, 0, k) ∧ (f = 4 ∨ f = 9 ∨ f = 10))) : (sFollow k W).1 z f = W.1 z f := by
  rw [sFollow_at, if_neg h]
theorem i_fromL (hk : k < W.1 (0, 0, 0) 3) (h40 : W.1 (10, 0, k) 7 ≤ W.1 (10, 0, k) 5 + 40) (h2 : W.1 (20, 0, 40) 2 = k) (hf : W.1 (20, 0, 40) 1 < W.1 (0, 0, 0) 3) (h0 : W.1 (20, 0, 40) 0 = 3 ∨ W.1 (20, 0, 40) 0 = 5) (ht : W.1 (20, 0, 40) 3 ≤ W.1 (10, 0, k) 2) (hB : ∀ z i, W.1 z i < 40000) (hE : yEn W) (hl : yLt (W.1 (0, 0, 0) 3) (xV W 0 10) L len lead V C cl ack (xV W 0 20 40) (fun i => xV W 0 21 40 (6 * i))) (h : xInv (xV W 0)) (g : xG (xV W 0) L len lead E V C cl ack G) : xInv (xV (sFromL k W) 0) := by
  unfold sFromL
  by_cases c1 : W.1 (20, 0, 40) 3 < W.1 (10, 0, k) 2
  · rw [if_pos c1]
    exact i_reply (Or.inr rfl) (by decide) (by rw [h2]; exact hk) hf (fun q => absurd q (by decide)) (fun _ q => absurd q (by decide)) h g
  · rw [if_neg c1]
    by_cases c2 : W.1 (10, 0, k) 4 = 2
    · rw [if_pos c2]; exact h
    · rw [if_neg c2]
      obtain ⟨hI, gI⟩ := i_follow hk h g
      have n : ∀ (z : zJ) j, z ≠ (10, 0, k) → (sFollow k W).1 z j = W.1 z j := fun z j hz => sFollow_n (fun q => hz q.1)
      have n10 : ∀ j, j ≠ 4 → j ≠ 9 → j ≠ 10 → (sFollow k W).1 (10, 0, k) j = W.1 (10, 0, k) j := fun j j1 j2 j3 => sFollow_n (by omega)
      have e20 : xV (sFollow k W) 0 20 40 = xV W 0 20 40 := funext fun j => n _ _ (by simp)
      have e21 : xV (sFollow k W) 0 21 40 = xV W 0 21 40 := funext fun j => n _ _ (by simp)
      refine i_ldr (W := sFollow k W) ?_ ?_ ?_ ?_ ?_ ?_ ?_ (fun z i => ?_) ?_ ?_ hI gI
      · rw [n _ _ (by simp)]; exact hk
      · rw [n10 7 (by decide) (by decide) (by decide), n10 5 (by decide) (by decide) (by decide)]; exact h40
      · rw [sFollow_at, if_pos ⟨rfl, by omega⟩]
      · rw [n _ _ (by simp)]; exact h2
      · rw [n _ _ (by simp), n _ _ (by simp)]; exact hf
      · rw [n _ _ (by simp)]; exact h0
      · rw [n10 2 (by decide) (by decide) (by decide), n _ _ (by simp)]; omega
      · rw [sFollow_at]
        split
        · decide
        · exact hB z i
      · exact yEn_I (yEn_I (yEn_I hE (by simp) (by simp)) (by simp) (by simp)) (by simp) (by simp)
      · rw [n _ _ (by simp), e20, e21]
        exact yLt_mono (E := E) (S := xV W 0 17) (G := G) (fun o _ => sFollow_n (by simp)) yExt_rfl g.1 g.2.1 hl
theorem i_gets (hk : k < W.1 (0, 0, 0) 3) (h40 : W.1 (10, 0, k) 7 ≤ W.1 (10, 0, k) 5 + 40) (h2 : W.1 (20, 0, 40) 2 = k) (hf : W.1 (20, 0, 40) 1 < W.1 (0, 0, 0) 3) (h0 : W.1 (20, 0, 40) 0 ≠ 0) (ht : W.1 (20, 0, 40) 3 ≤ W.1 (10, 0, k) 2) (hB : ∀ z i, W.1 z i < 40000) (hE : yEn W) (hl : yLt (W.1 (0, 0, 0) 3) (xV W 0 10) L len lead V C cl ack (xV W 0 20 40) (fun i => xV W 0 21 40 (6 * i))) (h : xInv (xV W 0)) (g : xG (xV W 0) L len lead E V C cl ack G) : xInv (xV (sGets k W) 0) := by
  unfold sGets
  by_cases c1 : W.1 (20, 0, 40) 0 = 1
  · rw [if_pos c1]
    split
    · rename_i c; exact i_vote hk h2 hf c1 hl h g c
    · exact i_reply (Or.inl rfl) (by decide) (by rw [h2]; exact hk) hf (fun _ q => absurd q (by decide)) (fun q => absurd q (by decide)) h g
  rw [if_neg c1]
  by_cases c2 : W.1 (20, 0, 40) 0 = 2
  · rw [if_pos c2]; exact i_ballot hk h2 hf c2 hl h g
  rw [if_neg c2]
  by_cases c4 : W.1 (20, 0, 40) 0 = 4
  · rw [if_pos c4]
    split
    · rename_i c; exact i_answerH hk hf c4 hl h g c.1 c.2
    · exact h
  rw [if_neg c4]
  have h5 : W.1 (20, 0, 40) 0 ≤ 5 := hl.1
  exact i_fromL hk h40 h2 hf (by omega) ht hB hE hl h g
theorem i_deliver {s : Nat} (hs : s < 40) (h40 : ∀ k, k < W.1 (0, 0, 0) 3 → W.1 (10, 0, k) 7 ≤ W.1 (10, 0, k) 5 + 40) (h0 : W.1 (20, 0, s) 0 ≠ 0) (hB : ∀ z i, W.1 z i < 40000) (hE : yEn W) (h : xInv (xV W 0)) : xInv (xV (sOut s W) 0) ∧ xInv (xV (sGets (W.1 (20, 0, s) 2) (sDel1 s W)) 0) := by
  obtain ⟨L, len, lead, E, V, C, cl, ack, G, g⟩ := h.2.2.2.2
  obtain ⟨hI, gI, hl⟩ := i_out hs h g
  refine ⟨hI, ?_⟩
  obtain ⟨hf, hk⟩ := (g.2.2.1 s hs).2.1 h0
  have hf : W.1 (20, 0, s) 1 < W.1 (0, 0, 0) 3 := hf
  have hk : W.1 (20, 0, s) 2 < W.1 (0, 0, 0) 3 := hk
  have o40 : ∀ f, f < 9 → (sOut s W).1 (20, 0, 40) f = W.1 (20, 0, s) f := fun f hf' => by
    rw [sOut_at, if_neg (by simp; omega), if_pos ⟨rfl, Nat.lt_succ_of_lt hf'⟩]
  have o41 : ∀ f, f < 30 → (sOut s W).1 (21, 0, 40) f = W.1 (21, 0, s) f := fun f hf' => by
    rw [sOut_at, if_neg (by simp), if_neg (by simp), if_pos ⟨rfl, hf'⟩]
  have on : ∀ t i f, t < 20 → (sOut s W).1 (t, 0, i) f = W.1 (t, 0, i) f := fun t i f ht => by
    rw [sOut_at, if_neg (by simp; omega), if_neg (by simp; omega), if_neg (by simp; omega), if_neg (by simp; omega)]
  have oB : ∀ z i, (sOut s W).1 z i < 40000 := fun z i => by
    rw [sOut_at]
    split
    · decide
    · split
      · exact hB _ _
      · split
        · exact hB _ _
        · split
          · exact hB _ _
          · exact hB _ _
  have oE : yEn (sOut s W) := by
    unfold sOut sCopyL sCopyN
    refine yEn_I (yEn_Cs (yEn_Cp ?_ (by simp) (by simp) (by decide) (by decide)) (by simp) (by simp)) (by simp) (by simp)
    exact yEn_I (yEn_I (yEn_I (yEn_I (yEn_I (yEn_I (yEn_I (yEn_I (yEn_I hE (by simp) (by simp)) (by simp) (by simp)) (by simp) (by simp)) (by simp) (by simp)) (by simp) (by simp)) (by simp) (by simp)) (by simp) (by simp)) (by simp) (by simp)) (by simp) (by simp)
  have lt : ∀ W' : yW, (∀ f, f < 9 → W'.1 (20, 0, 40) f = W.1 (20, 0, s) f) → (∀ f, f < 30 → W'.1 (21, 0, 40) f = W.1 (21, 0, s) f) → (∀ o, xV W' 0 10 o 0 = xV (sOut s W) 0 10 o 0) → yLt (W.1 (0, 0, 0) 3) (xV W' 0 10) L len lead V C cl ack (xV W' 0 20 40) (fun i => xV W' 0 21 40 (6 * i)) := fun W' q2 q3 q0 => by
    have g1 : ySf (W.1 (0, 0, 0) 3) (xV (sOut s W) 0 10) L len lead E V C cl ack := by have q := gI.1; rw [show xV (sOut s W) 0 0 0 3 = W.1 (0, 0, 0) 3 from on _ _ _ (by decide)] at q; exact q
    have g2 : ∀ v, v < W.1 (0, 0, 0) 3 → ySk (W.1 (0, 0, 0) 3) (xV (sOut s W) 0 10) (xV (sOut s W) 0 17) L len lead E V C cl ack G v := by have q := gI.2.1; rw [show xV (sOut s W) 0 0 0 3 = W.1 (0, 0, 0) 3 from on _ _ _ (by decide)] at q; exact q
    have z := yLt_mono (K' := xV W' 0 10) (E := E) (S := xV (sOut s W) 0 17) (G := G) (fun o _ => q0 o) yExt_rfl g1 g2 hl
    have q2 : ∀ f, f < 9 → xV W' 0 20 40 f = xV W 0 20 s f := q2
    have q3 : ∀ f, f < 30 → xV W' 0 21 40 f = xV W 0 21 s f := q3
    unfold yLt at z ⊢
    rw [q2 0 (by decide), q2 1 (by decide), q2 2 (by decide), q2 3 (by decide), q2 4 (by decide), q2 5 (by decide), q2 6 (by decide), q2 7 (by decide)]
    obtain ⟨z0, z1, z2, z3, z4, z5, z6⟩ := z
    refine ⟨z0, z1, z2, z3, fun e => ?_, z5, z6⟩
    obtain ⟨y1, y2, y3, y4, y5, y6⟩ := z4 e
    exact ⟨y1, y2, y3, y4, fun i hi => (q3 _ (by omega)).trans (y5 i hi), y6⟩
  have h40' := h40 _ hk
  unfold sDel1
  by_cases c : W.1 (10, 0, W.1 (20, 0, s) 2) 2 < W.1 (20, 0, s) 3
  · rw [if_pos c]
    generalize hkk : W.1 (20, 0, s) 2 = k at *
    generalize htt : W.1 (20, 0, s) 3 = t at *
    obtain ⟨hI2, gI2⟩ := i_enter (W := sOut s W) (k := k) (t := t) (by rw [on _ _ _ (by decide)]; exact hk) (by rw [on _ _ _ (by decide)]; exact c) hI gI
    have en : ∀ (z : zJ) f, z ≠ (10, 0, k) → (sEnter k t (sOut s W)).1 z f = (sOut s W).1 z f := fun z f hz => by
      rw [sEnter_at, if_neg (fun q => hz q.1), if_neg (fun q => hz q.1)]
    have en10 : ∀ f, f = 0 ∨ f = 5 ∨ f = 7 → (sEnter k t (sOut s W)).1 (10, 0, k) f = W.1 (10, 0, k) f := fun f hf' => by
      rw [sEnter_at, if_neg (by omega), if_neg (by omega), on _ _ _ (by decide)]
    refine i_gets (W := sEnter k t (sOut s W)) ?_ ?_ ?_ ?_ ?_ ?_ (fun z i => ?_) ?_ ?_ hI2 gI2
    · rw [en _ _ (by simp), on _ _ _ (by decide)]; exact hk
    · rw [en10 7 (by omega), en10 5 (by omega)]; exact h40'
    · rw [en _ _ (by simp), o40 _ (by decide)]; exact hkk
    · rw [en _ _ (by simp), en _ _ (by simp), o40 _ (by decide), on _ _ _ (by decide)]; exact hf
    · rw [en _ _ (by simp), o40 _ (by decide)]; exact h0
    · rw [en _ _ (by simp), o40 _ (by decide), sEnter_at, if_pos ⟨rfl, rfl⟩, htt]; exact Nat.le_refl _
    · rw [sEnter_at]
      split
      · have := hB (20, 0, s) 3; omega
      · split
        · decide
        · exact oB z i
    · unfold sEnter sFollow
      exact yEn_I (yEn_I (yEn_I (yEn_I (yEn_I oE (by simp) (by simp)) (by simp) (by simp)) (by simp) (by simp)) (by simp) (by simp)) (by simp) (by simp)
    · rw [en _ _ (by simp), on _ _ _ (by decide)]
      refine lt _ (fun f hf' => ?_) (fun f hf' => ?_) (fun o => ?_)
      · rw [en _ _ (by simp), o40 f hf']
      · rw [en _ _ (by simp), o41 f hf']
      · show (sEnter k t (sOut s W)).1 (10, 0, o) 0 = _
        rw [sEnter_at, if_neg (by simp), if_neg (by simp)]; rfl
  · rw [if_neg c]
    generalize hkk : W.1 (20, 0, s) 2 = k at *
    refine i_gets (W := sOut s W) ?_ ?_ ?_ ?_ ?_ ?_ oB oE ?_ hI gI
    · rw [on _ _ _ (by decide)]; exact hk
    · rw [on _ _ _ (by decide), on _ _ _ (by decide)]; exact h40'
    · rw [o40 _ (by decide)]; exact hkk
    · rw [o40 _ (by decide), on _ _ _ (by decide)]; exact hf
    · rw [o40 _ (by decide)]; exact h0
    · rw [o40 _ (by decide), on _ _ _ (by decide)]; omega
    · rw [on _ _ _ (by decide)]
      exact lt _ o40 o41 (fun _ => rfl)
end inv15
