/-! what holds of a world: settling -/
theorem sFind_some {P : Nat → Bool} {lo : Nat} : ∀ {e x : Nat}, sFind P lo e = some x → lo < x ∧ x ≤ e ∧ P x = true ∧ ∀ y, x < y → y ≤ e → P y = false := by
  intro e
  induction e with
  | zero => intro x h; cases h
  | succ e ih =>
    intro x h
    rw [sFind] at h
    by_cases c : e + 1 ≤ lo
    · rw [if_pos c] at h; cases h
    · rw [if_neg c] at h
      by_cases d : P (e + 1) = true
      · rw [if_pos d] at h
        cases h
        exact ⟨by omega, Nat.le_refl _, d, fun y y1 y2 => by omega⟩
      · rw [if_neg d] at h
        obtain ⟨h1, h2, h3, h4⟩ := ih h
        refine ⟨h1, by omega, h3, fun y y1 y2 => ?_⟩
        by_cases ey : y = e + 1
        · rw [ey]; exact Bool.not_eq_true _ ▸ d
        · exact h4 y y1 (by omega)
theorem sFind_none {P : Nat → Bool} {lo : Nat} : ∀ {e : Nat}, sFind P lo e = none → ∀ y, lo < y → y ≤ e → P y = false := by
  intro e
  induction e with
  | zero => intro _ y y1 y2; omega
  | succ e ih =>
    intro h y y1 y2
    rw [sFind] at h
    by_cases c : e + 1 ≤ lo
    · omega
    · rw [if_neg c] at h
      by_cases d : P (e + 1) = true
      · rw [if_pos d] at h; cases h
      · rw [if_neg d] at h
        by_cases ey : y = e + 1
        · rw [ey]; exact Bool.not_eq_true _ ▸ d
        · exact ih h y y1 (by omega)
/-- a leader's own facts but for what it has to settle -/
def xLocA (X : Nat → Nat → Nat → Nat) (v : Nat) : Prop :=
  (X 10 v 0 ≤ 1 ∧ X 10 v 1 ≤ 1 ∧ X 10 v 4 ≤ 2 ∧ X 10 v 9 < 128 ∧ (X 10 v 4 = 1 → 1 ≤ X 10 v 2)) ∧ (X 10 v 4 = 0 → X 10 v 9 = 0) ∧ (X 10 v 4 ≠ 2 → X 10 v 10 = 0) ∧ (X 10 v 1 ≠ 0 → X 10 v 4 = 0) ∧
  (∀ j, (X 10 v 9).testBit j = true → j < X 0 0 3 ∧ X 10 j 0 ≠ 0) ∧
  (X 10 v 4 = 2 → ∀ o, o < X 0 0 3 → 1 ≤ X 16 v o ∧ X 16 v o ≤ X 10 v 7 + 1)
def xInvA (k : Nat) (X : Nat → Nat → Nat → Nat) : Prop :=
  (X 0 0 3 ≤ 7 ∧ X 0 0 4 = yVot (X 0 0 3) (X 10) ∧ (X 0 0 4 = 0 → X 0 0 3 = 0)) ∧ (∀ v, v < X 0 0 3 → v ≠ k → xLoc X v) ∧ xLocA X k ∧ (∀ s, s < 40 → X 20 s 0 = 1 → X 20 s 8 = 0) ∧ (∀ i, i < X 4 0 4 → X 6 0 i < 8) ∧ ∃ L len lead E V C cl ack G, xG X L len lead E V C cl ack G
theorem xInvA_full {k : Nat} {X : Nat → Nat → Nat → Nat} (h : xInvA k X) (hs : X 10 k 4 = 2 → ∀ e, X 10 k 8 < e → e ≤ X 10 k 7 → xTm X k e = X 10 k 2 → xSure X k e < xMost X) : xInv X := by
  obtain ⟨n, l, a, r, d, g⟩ := h
  refine ⟨n, fun v hv => ?_, r, d, g⟩
  by_cases c : v = k
  · rw [c]
    exact ⟨a.1, a.2.1, a.2.2.1, a.2.2.2.1, a.2.2.2.2.1, fun e => ⟨a.2.2.2.2.2 e, hs e⟩⟩
  · exact l v hv c
/-- most of the voters are sure: most of them have acknowledged it -/
theorem y_surely {X : Nat → Nat → Nat → Nat} {ack : Nat → Nat → Nat} {k e t : Nat} (hv : X 0 0 4 = yVot (X 0 0 3) (X 10)) (h0 : X 0 0 4 ≠ 0) (h1 : xMost X ≤ xSure X k e) (hk : e ≤ ack k t) (hS : ∀ o, o < X 0 0 3 → X 17 k o ≤ ack o t) : yMost (X 0 0 3) (X 10) (fun o => decide (e ≤ ack o t)) := by
  unfold yMost
  unfold xMost at h1
  rw [if_neg h0, hv] at h1
  refine Nat.le_trans h1 ?_
  unfold xSure
  refine z_cnt_mono _ 0 (fun j _ hj h => ?_)
  simp only [Bool.and_eq_true, Bool.or_eq_true, decide_eq_true_eq] at h ⊢
  refine ⟨h.1, ?_⟩
  rcases h.2 with q | q
  · rw [q]; exact hk
  · exact Nat.le_trans q (hS j (by omega))
theorem i_settle {W : yW} {k : Nat} (hk : k < W.1 (0, 0, 0) 3) (hr : W.1 (10, 0, k) 4 = 2) (h : xInvA k (xV W 0)) : xInv (xV (sSettle k W) 0) := by
  unfold sSettle
  cases hf : sFind (sSetP k W) (W.1 (10, 0, k) 8) (W.1 (10, 0, k) 7) with
  | none =>
    show xInv (xV W 0)
    refine xInvA_full h (fun _ e e1 e2 e3 => ?_)
    have q := sFind_none hf e e1 e2
    unfold sSetP at q
    rw [Bool.and_eq_false_iff, decide_eq_false_iff_not, decide_eq_false_iff_not] at q
    rcases q with q | q
    · exact absurd e3 q
    · rw [xSure_W, xMost_W]; omega
  | some e =>
    obtain ⟨f1, f2, f3, f4⟩ := sFind_some hf
    show xInv (xV (sAdv k (e - W.1 (10, 0, k) 8) W) 0)
    obtain ⟨n, l, a, r, d, L, len, lead, E, V, C, cl, ack, G, g⟩ := h
    have at' : ∀ t i j, xV (sAdv k (e - W.1 (10, 0, k) 8) W) 0 t i j = if t = 10 ∧ i = k ∧ j = 8 then e else xV W 0 t i j := fun t i j => by
      show (sAdv k (e - W.1 (10, 0, k) 8) W).1 (t, 0, i) j = _
      rw [sAdv_1]
      simp only [Prod.mk.injEq, true_and, and_assoc]
      by_cases c : t = 10 ∧ i = k ∧ j = 8
      · rw [if_pos c, if_pos c]; omega
      · rw [if_neg c, if_neg c]; rfl
    have nn : ∀ t i j, ¬ (t = 10 ∧ i = k ∧ j = 8) → xV (sAdv k (e - W.1 (10, 0, k) 8) W) 0 t i j = xV W 0 t i j := fun t i j ht => by rw [at', if_neg ht]
    have n8 : xV (sAdv k (e - W.1 (10, 0, k) 8) W) 0 10 k 8 = e := by rw [at', if_pos ⟨rfl, rfl, rfl⟩]
    have nt : ∀ t, t ≠ 10 → xV (sAdv k (e - W.1 (10, 0, k) 8) W) 0 t = xV W 0 t := fun t ht => funext fun i => funext fun j => nn _ _ _ (by omega)
    have sk := g.2.1 k hk
    obtain ⟨q1, q2, q3, q4, q5⟩ := sk.2.2.2.2.1 hr
    have link := g.2.2.2 k hk
    have k1 := sk.1
    have te : xTm (xV W 0) k e = W.1 (10, 0, k) 2 ∧ xMost (xV W 0) ≤ xSure (xV W 0) k e := by
      unfold sSetP at f3
      simp only [Bool.and_eq_true, decide_eq_true_eq] at f3
      exact f3
    have h50 : xV W 0 0 0 4 ≠ 0 := fun q => by
      have := n.2.2 q
      have hk' : k < xV W 0 0 0 3 := hk
      omega
    have d5 : xV W 0 10 k 8 < e := f1
    have d7 : e ≤ xV W 0 10 k 7 := f2
    have cp : yCP (xV W 0 0 0 3) (xV W 0 10) L len ack (G k) (xV W 0 10 k 2) e := by
      refine Or.inr ⟨xV W 0 10 k 2, e, Nat.le_refl _, Nat.le_refl _, by omega, ?_, by omega, y_surely n.2.1 h50 te.2 (by omega) (fun o ho => q5 o ho), fun i hi => q3 i (by omega)⟩
      rw [← q3 e d7, ← link e (by omega) d7, te.1]
      rfl
    obtain ⟨F, A⟩ := yGo (K' := xV (sAdv k (e - W.1 (10, 0, k) 8) W) 0 10) (v := k) (n := e) g.1 g.2.1 (fun u f hu => nn _ _ _ (by omega)) (fun f hf => nn _ _ _ (by omega)) n8 (by omega) d7 cp
    have n5 : xV (sAdv k (e - W.1 (10, 0, k) 8) W) 0 10 k 5 = xV W 0 10 k 5 := nn _ _ _ (by omega)
    have n7 : xV (sAdv k (e - W.1 (10, 0, k) 8) W) 0 10 k 7 = xV W 0 10 k 7 := nn _ _ _ (by omega)
    have tm : ∀ x, xTm (xV (sAdv k (e - W.1 (10, 0, k) 8) W) 0) k x = xTm (xV W 0) k x := fun x => by
      unfold xTm
      rw [n5, nn 10 k 6 (by omega), nt 11 (by decide)]
    have su : ∀ x, xSure (xV (sAdv k (e - W.1 (10, 0, k) 8) W) 0) k x = xSure (xV W 0) k x := fun x => by
      unfold xSure
      rw [nt 0 (by decide), nt 17 (by decide)]
      exact z_cnt_congr _ 0 (fun j _ _ => by rw [nn 10 j 0 (by omega)])
    have mo : xMost (xV (sAdv k (e - W.1 (10, 0, k) 8) W) 0) = xMost (xV W 0) := by unfold xMost; rw [nt 0 (by decide)]
    have vot : yVot (xV W 0 0 0 3) (xV (sAdv k (e - W.1 (10, 0, k) 8) W) 0 10) = yVot (xV W 0 0 0 3) (xV W 0 10) := z_cnt_congr _ 0 (fun j _ _ => by rw [nn 10 j 0 (by omega)])
    refine xInvA_full (k := k) ⟨?_, fun v hv hvk => ?_, ?_, ?_, ?_, L, len, lead, E, V, C, cl, ack, G, ?_⟩ (fun _ x x1 x2 x3 => ?_)
    · rw [nt 0 (by decide), vot]; exact n
    · rw [nt 0 (by decide)] at hv
      exact xLoc_o (l v hv hvk) (nt 0 (by decide)) (fun o => nn _ _ _ (by omega)) (funext fun j => nn _ _ _ (by omega)) (by rw [nt 11 (by decide)]) (by rw [nt 16 (by decide)]) (by rw [nt 17 (by decide)])
    · unfold xLocA at a ⊢
      rw [nn 10 k 0 (by omega), nn 10 k 1 (by omega), nn 10 k 4 (by omega), nn 10 k 9 (by omega), nn 10 k 2 (by omega), nn 10 k 10 (by omega), n7, nt 0 (by decide), nt 16 (by decide)]
      refine ⟨a.1, a.2.1, a.2.2.1, a.2.2.2.1, fun j hj => ?_, a.2.2.2.2.2⟩
      rw [nn 10 j 0 (by omega)]
      exact a.2.2.2.2.1 j hj
    · rw [nt 20 (by decide)]; exact r
    · rw [nt 4 (by decide), nt 6 (by decide)]; exact d
    · unfold xG
      rw [nt 0 (by decide), nt 17 (by decide)]
      refine ⟨F, A, fun s hs => ?_, fun v hv x x1 x2 => ?_⟩
      · have z := yLt_mono (K' := xV (sAdv k (e - W.1 (10, 0, k) 8) W) 0 10) (E := E) (S := xV W 0 17) (G := G) (fun o _ => nn 10 o 0 (by omega)) yExt_rfl g.1 g.2.1 (g.2.2.1 s hs)
        rw [nt 20 (by decide), nt 21 (by decide)]
        exact z
      · by_cases c : v = k
        · subst c
          rw [n5] at x1
          rw [n7] at x2
          rw [tm]
          exact link x x1 x2
        · rw [nn 10 v 5 (by omega)] at x1
          rw [nn 10 v 7 (by omega)] at x2
          have t2 : xTm (xV (sAdv k (e - W.1 (10, 0, k) 8) W) 0) v x = xTm (xV W 0) v x := by
            unfold xTm
            rw [nn 10 v 5 (by omega), nn 10 v 6 (by omega), nt 11 (by decide)]
          rw [t2]
          exact g.2.2.2 v hv x x1 x2
    · rw [n8] at x1
      rw [n7] at x2
      rw [tm, nn 10 k 2 (by omega)] at x3
      rw [su, mo]
      have q := f4 x x1 x2
      unfold sSetP at q
      rw [Bool.and_eq_false_iff, decide_eq_false_iff_not, decide_eq_false_iff_not] at q
      rcases q with q | q
      · exact absurd x3 q
      · rw [xSure_W, xMost_W]; omega
