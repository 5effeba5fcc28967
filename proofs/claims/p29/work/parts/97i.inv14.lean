/-! what holds of a world: the leader's entries -/
section inv14
variable {k t : Nat} {L : Nat → Nat → Nat} {len lead : Nat → Nat} {E V : Nat → Nat → Nat} {C : Nat → Nat → Nat → Nat} {cl ack : Nat → Nat → Nat}
theorem i_grow {W : yW} {G : Nat → Nat → Nat} {i : Nat} (hk : k < W.1 (0, 0, 0) 3) (h40 : W.1 (10, 0, k) 7 < W.1 (10, 0, k) 5 + 40) (hr : W.1 (10, 0, k) 4 = 0) (ht : W.1 (10, 0, k) 2 = t) (hl : lead t ≠ 0) (hn : W.1 (10, 0, k) 7 < len t) (hG : ∀ i, i ≤ W.1 (10, 0, k) 7 → G k i = L t i) (he : W.1 (21, 0, 40) (6 * i) = L t (W.1 (10, 0, k) 7 + 1)) (h : xInv (xV W 0)) (g : xG (xV W 0) L len lead E V C cl ack G) : xInv (xV (yCp (yI W (10, 0, k) 7 (W.1 (10, 0, k) 7 + 1)) (21, 0, 40) (11, 0, k) (6 * i) (6 * (W.1 (10, 0, k) 7 - W.1 (10, 0, k) 5)) 6) 0) ∧ xG (xV (yCp (yI W (10, 0, k) 7 (W.1 (10, 0, k) 7 + 1)) (21, 0, 40) (11, 0, k) (6 * i) (6 * (W.1 (10, 0, k) 7 - W.1 (10, 0, k) 5)) 6) 0) L len lead E V C cl ack (fun u n => if u = k ∧ n = W.1 (10, 0, k) 7 + 1 then L t n else G u n) := by
  have sk := g.2.1 k hk
  have k5 : W.1 (10, 0, k) 5 ≤ W.1 (10, 0, k) 8 := sk.1.1
  have k8 : W.1 (10, 0, k) 8 ≤ W.1 (10, 0, k) 7 := sk.1.2.1
  have link : ∀ e, W.1 (10, 0, k) 5 ≤ e → e ≤ W.1 (10, 0, k) 7 → sTm W k e = G k e := g.2.2.2 k hk
  generalize hW : yCp (yI W (10, 0, k) 7 (W.1 (10, 0, k) 7 + 1)) (21, 0, 40) (11, 0, k) (6 * i) (6 * (W.1 (10, 0, k) 7 - W.1 (10, 0, k) 5)) 6 = W'
  have a10 : ∀ u f, ¬ (u = k ∧ f = 7) → W'.1 (10, 0, u) f = W.1 (10, 0, u) f := fun u f q => by
    rw [← hW, yCp_at, if_neg (by simp), yI_n _ _ (by simp; exact fun a b => q ⟨a, b⟩)]
  have a7 : W'.1 (10, 0, k) 7 = W.1 (10, 0, k) 7 + 1 := by rw [← hW, yCp_at, if_neg (by simp), yI_s]
  have gk : ∀ n, n ≤ W.1 (10, 0, k) 7 → (if k = k ∧ n = W.1 (10, 0, k) 7 + 1 then L t n else G k n) = G k n := fun n q => if_neg (by omega)
  have gL : ∀ n, n ≤ W.1 (10, 0, k) 7 + 1 → (if k = k ∧ n = W.1 (10, 0, k) 7 + 1 then L t n else G k n) = L t n := fun n q => by
    by_cases c : n = W.1 (10, 0, k) 7 + 1
    · rw [if_pos ⟨rfl, c⟩]
    · rw [if_neg (fun x => c x.2)]; exact hG n (by omega)
  have t2 : xV W 0 10 k 2 = t := ht
  have lm : ∀ (X X' : Nat → Nat) (b n : Nat), (∀ m, m ≤ n → X' m = X m) → yLM L len lead X b n → yLM L len lead X' b n := fun X X' b n q z => by
    obtain ⟨z1, z2, z3, z4, z5⟩ := z
    unfold yLM
    rw [q n (Nat.le_refl n)]
    exact ⟨z1, z2, z3, z4, fun m hm => by rw [q m hm]; exact z5 m hm⟩
  refine i_logs (X := xV W 0) (X' := xV W' 0) hk hr (by rw [t2]; exact hl) h g (fun t' t1 t2 t3 t4 => funext fun i => funext fun j => ?_) (fun u f hu => a10 u f (by omega)) (fun v hv => funext fun j => ?_) (fun u n hu => if_neg (fun q => hu q.1)) ?_ ?_ ((gk 0 (Nat.zero_le _)).trans sk.1.2.2) (fun n n1 n2 => ?_) ?_ (fun m m1 m2 => Or.inl ⟨?_, fun i hi => gk i (by have m2 : m ≤ W.1 (10, 0, k) 7 := m2; omega)⟩) (fun e' q1 q2 => ?_)
  · show W'.1 (t', 0, i) j = W.1 (t', 0, i) j
    rw [← hW, yCp_at, if_neg (by simp [t2]), yI_z _ _ (by simp [t1])]
  · show W'.1 (11, 0, v) j = W.1 (11, 0, v) j
    rw [← hW, yCp_at, if_neg (by simp [hv]), yI_z _ _ (by simp)]
  · show W'.1 (10, 0, k) 5 ≤ W'.1 (10, 0, k) 8
    rw [a10 k 5 (by omega), a10 k 8 (by omega)]; exact k5
  · show W'.1 (10, 0, k) 8 ≤ W'.1 (10, 0, k) 7
    rw [a7, a10 k 8 (by omega)]; omega
  · have n2 : n ≤ W'.1 (10, 0, k) 7 := n2
    rw [a7] at n2
    by_cases c : n = W.1 (10, 0, k) 7 + 1
    · rw [t2]
      exact lm _ _ _ _ (fun m hm => gL m (by omega)) (g.1.2.1 t n n1 (by omega))
    · exact lm _ _ _ _ (fun m hm => gk m (by omega)) (sk.2.1 n n1 (by show n ≤ W.1 (10, 0, k) 7; omega))
  · show yCP _ _ L len ack _ _ (W'.1 (10, 0, k) 8)
    rw [a10 k 8 (by omega)]
    exact yCP_mono (fun _ _ => rfl) (fun _ _ _ => rfl) (fun _ => Nat.le_refl _) (fun _ _ => Nat.le_refl _) (fun i hi => gk i (by omega)) (Nat.le_refl _) (Nat.le_refl _) sk.2.2.2.2.2.1
  · show m ≤ W'.1 (10, 0, k) 7
    have m2 : m ≤ W.1 (10, 0, k) 7 := m2
    rw [a7]; omega
  · have q1 : W'.1 (10, 0, k) 5 ≤ e' := q1
    have q2 : e' ≤ W'.1 (10, 0, k) 7 := q2
    rw [a10 k 5 (by omega)] at q1
    rw [a7] at q2
    show sTm W' k e' = (if k = k ∧ e' = W.1 (10, 0, k) 7 + 1 then L t e' else G k e')
    unfold sTm
    rw [a10 k 5 (by omega), a10 k 6 (by omega)]
    by_cases c : e' = W.1 (10, 0, k) 7 + 1
    · rw [gL e' (by omega), if_neg (by omega), ← hW, yCp_at, if_pos ⟨rfl, by omega, by omega⟩, yI_z _ _ (by simp), show 6 * i + (6 * (e' - W.1 (10, 0, k) 5 - 1) - 6 * (W.1 (10, 0, k) 7 - W.1 (10, 0, k) 5)) = 6 * i by omega, he, c]
    · rw [gk e' (by omega), ← link e' q1 (by omega)]
      unfold sTm
      by_cases c2 : e' = W.1 (10, 0, k) 5
      · rw [if_pos c2, if_pos c2]
      · rw [if_neg c2, if_neg c2, ← hW, yCp_at, if_neg (by omega), yI_z _ _ (by simp)]
theorem i_ent : ∀ (m r i : Nat) (W : yW) (G : Nat → Nat → Nat), k < W.1 (0, 0, 0) 3 → W.1 (10, 0, k) 7 ≤ W.1 (10, 0, k) 5 + 40 → W.1 (10, 0, k) 4 = 0 → W.1 (10, 0, k) 2 = t → lead t ≠ 0 → r + m ≤ len t → r ≤ W.1 (10, 0, k) 7 → (∀ i, i ≤ r → G k i = L t i) → (∀ j, j < m → W.1 (21, 0, 40) (6 * (i + j)) = L t (r + 1 + j)) → xInv (xV W 0) → xG (xV W 0) L len lead E V C cl ack G → ∃ G', (xInv (xV (sEnt k m r i W).2 0) ∧ xG (xV (sEnt k m r i W).2 0) L len lead E V C cl ack G') ∧ (sEnt k m r i W).1 ≤ len t ∧ (sEnt k m r i W).1 ≤ (sEnt k m r i W).2.1 (10, 0, k) 7 ∧ ∀ i', i' ≤ (sEnt k m r i W).1 → G' k i' = L t i' := by
  intro m
  induction m with
  | zero => intro r i W G hk h40 hr ht hl hn h7 hG he h g; exact ⟨G, ⟨h, g⟩, hn, h7, hG⟩
  | succ m ih =>
    intro r i W G hk h40 hr ht hl hn h7 hG he h g
    have sk := g.2.1 k hk
    have k5 : W.1 (10, 0, k) 5 ≤ W.1 (10, 0, k) 8 := sk.1.1
    have k8 : W.1 (10, 0, k) 8 ≤ W.1 (10, 0, k) 7 := sk.1.2.1
    have link : ∀ e, W.1 (10, 0, k) 5 ≤ e → e ≤ W.1 (10, 0, k) 7 → sTm W k e = G k e := g.2.2.2 k hk
    obtain ⟨d1, d2⟩ := i_done hk (by rw [ht]; exact hl) g
    rw [ht] at d1 d2
    have he0 : W.1 (21, 0, 40) (6 * i) = L t (r + 1) := he 0 (by omega)
    have up : G k (r + 1) = L t (r + 1) → ∀ i, i ≤ r + 1 → G k i = L t i := fun q i hi => by
      by_cases c : i = r + 1
      · rw [c]; exact q
      · exact hG i (by omega)
    have he' : ∀ j, j < m → W.1 (21, 0, 40) (6 * (i + 1 + j)) = L t (r + 1 + 1 + j) := fun j hj => by
      have q := he (j + 1) (by omega)
      rw [show i + (j + 1) = i + 1 + j by omega, show r + 1 + (j + 1) = r + 1 + 1 + j by omega] at q
      exact q
    rw [sEnt]
    by_cases c1 : r + 1 ≤ W.1 (10, 0, k) 5 ∨ (r + 1 ≤ W.1 (10, 0, k) 7 ∧ sTm W k (r + 1) = W.1 (21, 0, 40) (6 * i))
    · rw [if_pos c1]
      refine ih (r + 1) (i + 1) W G hk h40 hr ht hl (by omega) (by omega) (up ?_) he' h g
      by_cases c2 : r + 1 ≤ W.1 (10, 0, k) 5
      · exact d2 _ (by omega)
      · rcases c1 with q | q
        · omega
        · rw [← link (r + 1) (by omega) q.1, q.2]; exact he0
    · rw [if_neg c1]
      have hc : W.1 (10, 0, k) 7 < r + 1 ∨ G k (r + 1) ≠ L (W.1 (10, 0, k) 2) (r + 1) := by
        by_cases c2 : W.1 (10, 0, k) 7 < r + 1
        · exact Or.inl c2
        · right
          intro q
          refine c1 (Or.inr ⟨by omega, ?_⟩)
          by_cases c3 : r + 1 ≤ W.1 (10, 0, k) 5
          · exact absurd (Or.inl c3) c1
          · rw [link (r + 1) (by omega) (by omega), q, ht]; exact he0.symm
      obtain ⟨hI, gI⟩ := i_cut (e := r + 1) hk hr (by rw [ht]; exact hl) (by omega) hc h g
      have c7 : (sCut k (r + 1) W).1 (10, 0, k) 7 = r := by
        have q : (sCut k (r + 1) W).1 (10, 0, k) 7 = min (W.1 (10, 0, k) 7) (max (r + 1 - 1) (W.1 (10, 0, k) 8)) := yI_s _ _ _ _
        rw [q]
        rcases hc with c | c
        · omega
        · rw [ht] at c
          have : ¬ r + 1 ≤ W.1 (10, 0, k) 8 := fun q => c (d2 _ q)
          omega
      have cn : ∀ (z : zJ) f, ¬ (z = (10, 0, k) ∧ f = 7) → (sCut k (r + 1) W).1 z f = W.1 z f := fun z f q => sCut_at q
      have c5 : (sCut k (r + 1) W).1 (10, 0, k) 5 = W.1 (10, 0, k) 5 := cn _ _ (by simp)
      have c2 : (sCut k (r + 1) W).1 (10, 0, k) 2 = t := (cn _ _ (by simp)).trans ht
      have c4 : (sCut k (r + 1) W).1 (10, 0, k) 4 = 0 := (cn _ _ (by simp)).trans hr
      have ck : k < (sCut k (r + 1) W).1 (0, 0, 0) 3 := by rw [cn _ _ (by simp)]; exact hk
      by_cases c3 : (sCut k (r + 1) W).1 (10, 0, k) 7 < W.1 (10, 0, k) 5 + 40
      · rw [if_pos c3]
        have gr := i_grow (W := sCut k (r + 1) W) (i := i) ck (by rw [c5]; exact c3) c4 c2 hl (by rw [c7]; omega) (by rw [c7]; exact hG) (by rw [c7, cn _ _ (by simp)]; exact he0) hI gI
        rw [c5] at gr
        have n21 : ∀ j, (yCp (yI (sCut k (r + 1) W) (10, 0, k) 7 ((sCut k (r + 1) W).1 (10, 0, k) 7 + 1)) (21, 0, 40) (11, 0, k) (6 * i) (6 * ((sCut k (r + 1) W).1 (10, 0, k) 7 - W.1 (10, 0, k) 5)) 6).1 (21, 0, 40) j = W.1 (21, 0, 40) j := fun j => by
          rw [yCp_at, if_neg (by simp), yI_z _ _ (by simp), cn _ _ (by simp)]
        have n10 : ∀ f, f ≠ 7 → (yCp (yI (sCut k (r + 1) W) (10, 0, k) 7 ((sCut k (r + 1) W).1 (10, 0, k) 7 + 1)) (21, 0, 40) (11, 0, k) (6 * i) (6 * ((sCut k (r + 1) W).1 (10, 0, k) 7 - W.1 (10, 0, k) 5)) 6).1 (10, 0, k) f = W.1 (10, 0, k) f := fun f hf => by
          rw [yCp_at, if_neg (by simp), yI_i _ _ hf, cn _ _ (by simp [hf])]
        have n7 : (yCp (yI (sCut k (r + 1) W) (10, 0, k) 7 ((sCut k (r + 1) W).1 (10, 0, k) 7 + 1)) (21, 0, 40) (11, 0, k) (6 * i) (6 * ((sCut k (r + 1) W).1 (10, 0, k) 7 - W.1 (10, 0, k) 5)) 6).1 (10, 0, k) 7 = r + 1 := by
          rw [yCp_at, if_neg (by simp), yI_s, c7]
        have n3 : (yCp (yI (sCut k (r + 1) W) (10, 0, k) 7 ((sCut k (r + 1) W).1 (10, 0, k) 7 + 1)) (21, 0, 40) (11, 0, k) (6 * i) (6 * ((sCut k (r + 1) W).1 (10, 0, k) 7 - W.1 (10, 0, k) 5)) 6).1 (0, 0, 0) 3 = W.1 (0, 0, 0) 3 := by
          rw [yCp_at, if_neg (by simp), yI_z _ _ (by simp), cn _ _ (by simp)]
        generalize (yCp (yI (sCut k (r + 1) W) (10, 0, k) 7 ((sCut k (r + 1) W).1 (10, 0, k) 7 + 1)) (21, 0, 40) (11, 0, k) (6 * i) (6 * ((sCut k (r + 1) W).1 (10, 0, k) 7 - W.1 (10, 0, k) 5)) 6) = W2 at gr n21 n10 n7 n3 ⊢
        refine ih (r + 1) (i + 1) W2 _ (by rw [n3]; exact hk) (by rw [n7, n10 5 (by decide)]; omega) (by rw [n10 4 (by decide)]; exact hr) (by rw [n10 2 (by decide)]; exact ht) hl (by omega) (by rw [n7]; exact Nat.le_refl _) (fun j hj => ?_) (fun j hj => by rw [n21]; exact he' j hj) gr.1 gr.2
        show (if k = k ∧ j = (sCut k (r + 1) W).1 (10, 0, k) 7 + 1 then L t j else G k j) = L t j
        rw [c7]
        by_cases c : j = r + 1
        · rw [if_pos ⟨rfl, c⟩]
        · rw [if_neg (fun x => c x.2)]; exact hG j (by omega)
      · rw [if_neg c3]
        exact ⟨G, ⟨hI, gI⟩, by show r ≤ len t; omega, by show r ≤ (sCut k (r + 1) W).1 (10, 0, k) 7; omega, hG⟩
theorem i_adv {W : yW} {G : Nat → Nat → Nat} {n : Nat} (hk : k < W.1 (0, 0, 0) 3) (hr : W.1 (10, 0, k) 4 = 0) (h8 : W.1 (10, 0, k) 8 ≤ n) (h7 : n ≤ W.1 (10, 0, k) 7) (hc : yCP (W.1 (0, 0, 0) 3) (xV W 0 10) L len ack (G k) (W.1 (10, 0, k) 2) n) (h : xInv (xV W 0)) (g : xG (xV W 0) L len lead E V C cl ack G) : xInv (xV (sAdv k (n - W.1 (10, 0, k) 8) W) 0) ∧ xG (xV (sAdv k (n - W.1 (10, 0, k) 8) W) 0) L len lead E V C cl ack G := by
  have at' : ∀ t i j, xV (sAdv k (n - W.1 (10, 0, k) 8) W) 0 t i j = if t = 10 ∧ i = k ∧ j = 8 then n else xV W 0 t i j := fun t i j => by
    show (sAdv k (n - W.1 (10, 0, k) 8) W).1 (t, 0, i) j = _
    rw [sAdv_1]
    simp only [Prod.mk.injEq, true_and, and_assoc]
    by_cases c : t = 10 ∧ i = k ∧ j = 8
    · rw [if_pos c, if_pos c]; omega
    · rw [if_neg c, if_neg c]; rfl
  have nn : ∀ t i j, ¬ (t = 10 ∧ i = k ∧ j = 8) → xV (sAdv k (n - W.1 (10, 0, k) 8) W) 0 t i j = xV W 0 t i j := fun t i j ht => by rw [at', if_neg ht]
  have n8 : xV (sAdv k (n - W.1 (10, 0, k) 8) W) 0 10 k 8 = n := by rw [at', if_pos ⟨rfl, rfl, rfl⟩]
  have nt : ∀ t, t ≠ 10 → xV (sAdv k (n - W.1 (10, 0, k) 8) W) 0 t = xV W 0 t := fun t ht => funext fun i => funext fun j => nn _ _ _ (by omega)
  have sk := g.2.1 k hk
  have lc := h.2.1 k hk
  have k1 : W.1 (10, 0, k) 5 ≤ W.1 (10, 0, k) 8 := sk.1.1
  obtain ⟨F, A⟩ := yGo (K' := xV (sAdv k (n - W.1 (10, 0, k) 8) W) 0 10) (v := k) (n := n) g.1 g.2.1 (fun u f hu => nn _ _ _ (by omega)) (fun f hf => nn _ _ _ (by omega)) n8 (by show W.1 (10, 0, k) 5 ≤ n; omega) h7 hc
  have n5 : xV (sAdv k (n - W.1 (10, 0, k) 8) W) 0 10 k 5 = xV W 0 10 k 5 := nn _ _ _ (by omega)
  have n7 : xV (sAdv k (n - W.1 (10, 0, k) 8) W) 0 10 k 7 = xV W 0 10 k 7 := nn _ _ _ (by omega)
  have lk : ∀ e, xV (sAdv k (n - W.1 (10, 0, k) 8) W) 0 10 k 5 ≤ e → e ≤ xV (sAdv k (n - W.1 (10, 0, k) 8) W) 0 10 k 7 → xTm (xV (sAdv k (n - W.1 (10, 0, k) 8) W) 0) k e = G k e := fun e q1 q2 => by
    rw [n5] at q1
    rw [n7] at q2
    have tm : xTm (xV (sAdv k (n - W.1 (10, 0, k) 8) W) 0) k e = xTm (xV W 0) k e := by
      unfold xTm
      rw [n5, nn 10 k 6 (by omega), nt 11 (by decide)]
    rw [tm]
    exact g.2.2.2 k hk e q1 q2
  have A' : ∀ v, v < xV W 0 0 0 3 → ySk (xV W 0 0 0 3) (xV (sAdv k (n - W.1 (10, 0, k) 8) W) 0 10) (xV (sAdv k (n - W.1 (10, 0, k) 8) W) 0 17) L len lead E V C cl ack G v := by rw [nt 17 (by decide)]; exact A
  refine ⟨xInv_step (k := k) h g (nt 0 (by decide)) (nt 4 (by decide)) (nt 6 (by decide)) (fun o => nn _ _ _ (by omega)) (fun t' v ht hv => funext fun j => nn _ _ _ (by omega)) (fun s _ f _ => nn _ _ _ (by omega)) (fun s _ i _ => nn _ _ _ (by omega)) F A' yExt_rfl (fun _ _ _ => rfl) (fun _ => lk) (fun _ => ?_), xG_step (k := k) g (nt 0 (by decide)) (fun o => nn _ _ _ (by omega)) (fun t' v ht hv => funext fun j => nn _ _ _ (by omega)) (fun s _ f _ => nn _ _ _ (by omega)) (fun s _ i _ => nn _ _ _ (by omega)) F A' yExt_rfl (fun _ _ _ => rfl) (fun _ => lk)⟩
  have hr' : xV W 0 10 k 4 = 0 := hr
  unfold xLoc at lc ⊢
  rw [nn 10 k 0 (by omega), nn 10 k 1 (by omega), nn 10 k 4 (by omega), nn 10 k 9 (by omega), nn 10 k 2 (by omega), nn 10 k 10 (by omega), nt 0 (by decide)]
  refine ⟨lc.1, lc.2.1, lc.2.2.1, lc.2.2.2.1, fun j hj => ?_, fun q => by omega⟩
  rw [nn 10 j 0 (by omega)]
  exact lc.2.2.2.2.1 j hj
end inv14
