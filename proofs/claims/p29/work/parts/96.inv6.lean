/-! what holds of a world: ask -/
theorem z_cnt_split (P : Nat → Bool) (b : Nat) : ∀ a i, z_cnt P (a + b) i = z_cnt P a i + z_cnt P b (i + a) := by
  intro a
  induction a with
  | zero => intro i; rw [Nat.zero_add, Nat.add_zero]; exact (Nat.zero_add _).symm
  | succ a ih =>
    intro i
    rw [show a + 1 + b = (a + b) + 1 by omega, z_cnt, z_cnt, ih (i + 1), show i + 1 + a = i + (a + 1) by omega]
    omega
theorem z_cnt_zero {P : Nat → Bool} : ∀ m i, (∀ j, i ≤ j → j < i + m → P j = false) → z_cnt P m i = 0 := by
  intro m
  induction m with
  | zero => intro i _; rfl
  | succ m ih =>
    intro i h
    rw [z_cnt, ih (i + 1) (fun j a b => h j (by omega) (by omega)), h i (Nat.le_refl _) (by omega)]
    rfl
/-- most of the ballots -/
theorem y_chosen {X : Nat → Nat → Nat → Nat} {b : Nat} (hN : X 0 0 3 ≤ 7) (hv : X 0 0 4 = yVot (X 0 0 3) (X 10)) (h0 : X 0 0 4 ≠ 0) (hb : ∀ j, b.testBit j = true → j < X 0 0 3 ∧ X 10 j 0 ≠ 0) (h1 : xMost X ≤ sBits b) : yMost (X 0 0 3) (X 10) (fun o => b.testBit o) := by
  unfold yMost
  unfold xMost at h1
  rw [if_neg h0, hv] at h1
  refine Nat.le_trans h1 ?_
  unfold sBits
  rw [show (7 : Nat) = X 0 0 3 + (7 - X 0 0 3) by omega, z_cnt_split, z_cnt_zero (7 - X 0 0 3) (0 + X 0 0 3) (fun j j1 j2 => by
    cases c : b.testBit j with
    | false => rfl
    | true => exact absurd (hb j c).1 (by omega)), Nat.add_zero]
  refine z_cnt_mono _ 0 (fun j _ hj h => ?_)
  simp only [Bool.and_eq_true, decide_eq_true_eq]
  exact ⟨(hb j h).2, h⟩
/-- who asks has no entry of its term -/
theorem y_low {N : Nat} {K S L : Nat → Nat → Nat} {len lead : Nat → Nat} {E V : Nat → Nat → Nat} {C : Nat → Nat → Nat → Nat} {cl ack G : Nat → Nat → Nat} {v : Nat} (F : ySf N K L len lead E V C cl ack) (A : ySk N K S L len lead E V C cl ack G v) (hr : K v 4 = 1) {n : Nat} (n1 : 1 ≤ n) (n2 : n ≤ K v 7) : G v n < K v 2 := by
  obtain ⟨r1, r2, r3, r4, r5⟩ := A.2.2.2.1 hr
  have q := (F.2.2.2.2.1 (K v 2) v (by omega)).2.2 n n1 (by omega)
  have q1 := q.1
  have q2 := q.2.1
  rw [r3 n n2] at q1 q2
  omega
theorem i_chosen {W : yW} {k : Nat} (hk : k < W.1 (0, 0, 0) 3) (h : xInv (xV W 0)) : xInv (xV (sChosen k W) 0) := by
  unfold sChosen
  split
  · rename_i c
    obtain ⟨L, len, lead, E, V, C, cl, ack, G, g⟩ := h.2.2.2.2
    have lc := h.2.1 k hk
    have sk := g.2.1 k hk
    have at' : ∀ t i j, xV (sLead k W) 0 t i j = if t = 16 ∧ i = k ∧ j < 7 then xV W 0 10 k 7 + 1 else if (t = 17 ∨ t = 18 ∨ t = 19) ∧ i = k ∧ j < 7 then 0 else if t = 10 ∧ i = k ∧ j = 4 then 2 else if t = 10 ∧ i = k ∧ j = 10 then 0 else xV W 0 t i j := fun t i j => by
      show (sLead k W).1 (t, 0, i) j = _
      rw [sLead_at]
      simp only [Prod.mk.injEq, true_and, and_assoc, ← or_and_right]
      rfl
    have nn : ∀ t i j, t ≠ 16 → t ≠ 17 → t ≠ 18 → t ≠ 19 → ¬ (t = 10 ∧ i = k ∧ (j = 4 ∨ j = 10)) → xV (sLead k W) 0 t i j = xV W 0 t i j := fun t i j c1 c2 c3 c5 c4 => by
      rw [at', if_neg (by omega), if_neg (by omega), if_neg (by omega), if_neg (by omega)]
    have no : ∀ t i j, i ≠ k → xV (sLead k W) 0 t i j = xV W 0 t i j := fun t i j ci => by
      rw [at', if_neg (by omega), if_neg (by omega), if_neg (by omega), if_neg (by omega)]
    have n4 : xV (sLead k W) 0 10 k 4 = 2 := by rw [at']; simp
    have n10 : ∀ f, f ≠ 4 → f ≠ 10 → xV (sLead k W) 0 10 k f = xV W 0 10 k f := fun f f1 f2 => nn _ _ _ (by decide) (by decide) (by decide) (by decide) (by omega)
    have nt : ∀ t, t ≠ 16 → t ≠ 17 → t ≠ 18 → t ≠ 10 → t ≠ 19 → xV (sLead k W) 0 t = xV W 0 t := fun t c1 c2 c3 c4 c5 => funext fun i => funext fun j => nn _ _ _ c1 c2 c3 c5 (by omega)
    have n16 : ∀ o, o < 7 → xV (sLead k W) 0 16 k o = xV W 0 10 k 7 + 1 := fun o ho => by rw [at', if_pos ⟨rfl, rfl, ho⟩]
    have n17 : ∀ o, o < 7 → xV (sLead k W) 0 17 k o = 0 := fun o ho => by rw [at', if_neg (by omega), if_pos ⟨Or.inl rfl, rfl, ho⟩]
    have hN7 := h.1.1
    have h40 : xV W 0 0 0 4 ≠ 0 := fun q => by
      have := h.1.2.2 q
      have hk' : k < xV W 0 0 0 3 := hk
      omega
    have hr : xV W 0 10 k 4 = 1 := c.1
    obtain ⟨L', len', lead', E', ack', F, A, x⟩ := yLead (K' := xV (sLead k W) 0 10) (S' := xV (sLead k W) 0 17) (v := k) (t := xV W 0 10 k 2) g.1 g.2.1 hk rfl hr (lc.1.2.2.2.2 hr) (y_chosen hN7 h.1.2.1 h40 lc.2.2.2.2.1 c.2) (fun u f hu => no _ _ _ hu) n4 (fun f hf => n10 f (by omega) (by omega)) (fun u o hu => no _ _ _ hu) (fun o ho => n17 o (by omega))
    refine xInv_step (k := k) h g (nt 0 (by decide) (by decide) (by decide) (by decide) (by decide)) (nt 4 (by decide) (by decide) (by decide) (by decide) (by decide)) (nt 6 (by decide) (by decide) (by decide) (by decide) (by decide)) (fun o => nn _ _ _ (by decide) (by decide) (by decide) (by decide) (by omega)) (fun t v ht hv => funext fun j => no _ _ _ hv) (fun s _ f _ => nn _ _ _ (by decide) (by decide) (by decide) (by decide) (by omega)) (fun s _ i _ => nn _ _ _ (by decide) (by decide) (by decide) (by decide) (by omega)) F A x (fun _ _ _ => rfl) (fun _ e e1 e2 => ?_) (fun _ => ?_)
    · rw [n10 5 (by decide) (by decide)] at e1
      rw [n10 7 (by decide) (by decide)] at e2
      have t : xTm (xV (sLead k W) 0) k e = xTm (xV W 0) k e := by
        unfold xTm
        rw [n10 5 (by decide) (by decide), n10 6 (by decide) (by decide), nt 11 (by decide) (by decide) (by decide) (by decide) (by decide)]
      rw [t]
      exact g.2.2.2 k hk e e1 e2
    · have up : xV W 0 10 k 1 = 0 := by
        by_cases q : xV W 0 10 k 1 = 0
        · exact q
        · have := lc.2.2.2.1 q; omega
      unfold xLoc at lc ⊢
      rw [n4, n10 0 (by decide) (by decide), n10 1 (by decide) (by decide), n10 9 (by decide) (by decide), n10 2 (by decide) (by decide), n10 7 (by decide) (by decide), n10 8 (by decide) (by decide), nt 0 (by decide) (by decide) (by decide) (by decide) (by decide)]
      refine ⟨⟨lc.1.1, lc.1.2.1, by decide, lc.1.2.2.2.1, fun e => absurd e (by decide)⟩, fun e => absurd e (by decide), fun e => absurd rfl e, fun e => absurd up e, fun j hj => ?_, fun _ => ⟨fun o ho => ?_, fun e e1 e2 e3 => ?_⟩⟩
      · rw [nn 10 j 0 (by decide) (by decide) (by decide) (by decide) (by omega)]
        exact lc.2.2.2.2.1 j hj
      · rw [n16 o (by omega)]; omega
      · exfalso
        have t : xTm (xV (sLead k W) 0) k e = xTm (xV W 0) k e := by
          unfold xTm
          rw [n10 5 (by decide) (by decide), n10 6 (by decide) (by decide), nt 11 (by decide) (by decide) (by decide) (by decide) (by decide)]
        have e5 : xV W 0 10 k 5 ≤ e := by have := sk.1.1; omega
        rw [t, g.2.2.2 k hk e e5 e2] at e3
        have := y_low g.1 sk hr (n := e) (by omega) e2
        omega
  · exact h
theorem i_askL {k : Nat} {L : Nat → Nat → Nat} {len lead : Nat → Nat} {E V : Nat → Nat → Nat} {C : Nat → Nat → Nat → Nat} {cl ack G : Nat → Nat → Nat} : ∀ (m i : Nat) (W : yW), k < W.1 (0, 0, 0) 3 → i + m ≤ W.1 (0, 0, 0) 3 → xInv (xV W 0) → xG (xV W 0) L len lead E V C cl ack G → cl (W.1 (10, 0, k) 2) k = W.1 (10, 0, k) 7 + 1 → C (W.1 (10, 0, k) 2) k (W.1 (10, 0, k) 7) = sTm W k (W.1 (10, 0, k) 7) → xInv (xV (sAskL k m i W) 0) ∧ (sAskL k m i W).1 (0, 0, 0) 3 = W.1 (0, 0, 0) 3 := by
  intro m
  induction m with
  | zero => intro i W _ _ h _ _ _; exact ⟨h, rfl⟩
  | succ m ih =>
    intro i W hk hi h g c1 c2
    rw [sAskL]
    split
    · exact ih (i + 1) W hk (by omega) h g c1 c2
    · have e : ∀ (z : zJ) j, (∀ s, z ≠ (20, 0, s)) → (sAsk1 k i W).1 z j = W.1 z j := fun z j h => sAsk1_at h
      have en : ∀ t, t ≠ 20 → xV (sAsk1 k i W) 0 t = xV W 0 t := fun t ht => funext fun a => funext fun b => e (t, 0, a) b (by simp [ht])
      have st : sTm (sAsk1 k i W) k (W.1 (10, 0, k) 7) = sTm W k (W.1 (10, 0, k) 7) := sTm_w (W := W) (fun i => e _ _ (by simp)) (fun i => e _ _ (by simp))
      have key : xInv (xV (sAsk1 k i W) 0) ∧ xG (xV (sAsk1 k i W) 0) L len lead E V C cl ack G := by
        cases hs : sEmp W with
        | none =>
          have : sAsk1 k i W = W := by unfold sAsk1; rw [hs]
          rw [this]
          exact ⟨h, g⟩
        | some s =>
          have eA : sAsk1 k i W = sLet s 0 k i (W.1 (10, 0, k) 7) (sTm W k (W.1 (10, 0, k) 7)) 0 W := by
            rw [sLet_8]
            unfold sAsk1
            rw [hs]
          obtain ⟨w0, w1, w2, w3, w4, w5, w6, w7, w8⟩ := sWrite_s s 0 k i (W.1 (10, 0, k) 2) W
          have v : ∀ f, f < 9 → xV (sAsk1 k i W) 0 20 s f = if f = 0 then 1 else if f = 1 then k else if f = 2 then i else if f = 3 then W.1 (10, 0, k) 2 else if f = 4 then W.1 (10, 0, k) 7 else if f = 5 then sTm W k (W.1 (10, 0, k) 7) else 0 := fun f hf => by
            show (sAsk1 k i W).1 (20, 0, s) f = _
            rw [eA, sLet_8]
            rcases (show f = 0 ∨ f = 1 ∨ f = 2 ∨ f = 3 ∨ f = 4 ∨ f = 5 ∨ f = 6 ∨ f = 7 ∨ f = 8 by omega) with rfl | rfl | rfl | rfl | rfl | rfl | rfl | rfl | rfl <;> simp only [w0, w1, w2, w3, w6, w7, w8, yI_at, yCp_at, yRow_1, yR_1, Prod.mk.injEq, and_true, true_and, and_self, false_and, and_false, if_true, if_false, ne_eq, not_true_eq_false, not_false_eq_true, yLit, Nat.succ_ne_zero, reduceCtorEq, Nat.reduceEqDiff, ↓reduceIte]
          refine xInv_add (s := s) h g (en 0 (by decide)) (en 4 (by decide)) (en 6 (by decide)) (en 10 (by decide)) (en 11 (by decide)) (en 16 (by decide)) (en 17 (by decide)) (fun s' _ cs f _ => ?_) (fun s' _ _ j _ => e _ _ (by simp)) (fun _ => by rw [v 8 (by decide)]; rfl) ?_
          · show (sAsk1 k i W).1 (20, 0, s') f = _
            rw [eA, sLet_8, yI_z _ _ (by simp [cs]), yI_z _ _ (by simp [cs]), sWrite_at _ (by simp [cs])]
            rfl
          · unfold yLt
            rw [v 0 (by decide), v 1 (by decide), v 2 (by decide), v 3 (by decide), v 4 (by decide), v 5 (by decide), v 6 (by decide), v 7 (by decide)]
            simp only [Nat.reduceEqDiff, if_true, if_false, Nat.succ_ne_zero, ↓reduceIte]
            exact ⟨by decide, fun _ => ⟨hk, by show i < W.1 (0, 0, 0) 3; omega⟩, fun _ => ⟨c1, c2⟩, fun e => absurd e (by decide), fun e => absurd e (by decide), fun e => absurd e (by decide), fun e => absurd e (by decide)⟩
      have q := ih (i + 1) (sAsk1 k i W) (by rw [e _ _ (by simp)]; exact hk) (by rw [e _ _ (by simp)]; omega) key.1 key.2 (by rw [e _ _ (by simp), e _ _ (by simp)]; exact c1) (by rw [e _ _ (by simp), e _ _ (by simp), st]; exact c2)
      exact ⟨q.1, by rw [q.2, e _ _ (by simp)]⟩
