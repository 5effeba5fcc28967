/-! the model sends -/
def zZero (s i : Nat) (B : Nat → Int32) : Nat → Int32 := fun j => if 2240 + 64 * s + i ≤ j ∧ j < 2240 + 64 * s + 64 then 0 else B j
theorem z_upR_R (σ : zS) (z : zJ) (r r' : Nat → Int32) : z_upR (z_upR σ z r) z r' = z_upR σ z r' := by
  refine yS_ext (fun z' i' => ?_) rfl
  show (if z' = z then r' else (if z' = z then r else σ.1 z')) i' = (if z' = z then r' else σ.1 z') i'
  by_cases e : z' = z
  · rw [if_pos e, if_pos e]
  · rw [if_neg e, if_neg e, if_neg e]
theorem z_upR_al (τ : zS) (r : Nat → Int32) : (z_upR τ (103, 0, 0) r).1 (103, 0, 0) = r := z_upR_s
theorem m_sends_9 {s : Nat} (hs : s < 40) (x1 x2 x3 x4 x5 : Int32) (τ : zS) : ∀ (m i n : Nat) (B : Nat → Int32), i + m = 64 → m < n → ∃ n', fM_sends_9 n x1 x2 x3 x4 x5 (nI s) (nI i) (z_upR τ (103, 0, 0) B) = fM_sends_9 (n' + 1) x1 x2 x3 x4 x5 (nI s) (nI 64) (z_upR τ (103, 0, 0) (zZero s i B)) := by
  intro m
  induction m with
  | zero =>
    intro i n B hi hn
    obtain ⟨n, rfl⟩ : ∃ k, n = k + 1 := ⟨n - 1, by omega⟩
    have e1 : i = 64 := by omega
    subst e1
    have e2 : zZero s 64 B = B := by
      funext j
      exact if_neg (by omega)
    exact ⟨n, by rw [e2]⟩
  | succ m ih =>
    intro i n B hi hn
    obtain ⟨n, rfl⟩ : ∃ k, n = k + 1 := ⟨n - 1, by omega⟩
    obtain ⟨n', q⟩ := ih (i + 1) n (upd B (2240 + 64 * s + i) 0) (by omega) (by omega)
    refine ⟨n', ?_⟩
    rw [fM_sends_9.eq_2, if_neg (fun hh => by have := (nI_le_lit (a := 64) (by decide +kernel) (by decide) (by omega)).mp hh; omega), eM_putSlot _ _ hs (by omega), z_bde]
    have e3 : z_up (z_upR τ (103, 0, 0) B) (103, 0, 0) (2240 + 64 * s + i) 0 = z_upR τ (103, 0, 0) (upd B (2240 + 64 * s + i) 0) := by
      unfold z_up
      rw [z_upR_R, z_upR_al]
    rw [e3, z_let, nI_1, q]
    congr 2
    funext j
    unfold zZero upd
    grind
theorem z_up_R (τ : zS) (B : Nat → Int32) (i : Nat) (x : Int32) : z_up (z_upR τ (103, 0, 0) B) (103, 0, 0) i x = z_upR τ (103, 0, 0) (upd B i x) := by
  unfold z_up
  rw [z_upR_R, z_upR_al]
/-- the row with a new letter in slot s -/
def zNew (s : Nat) (x1 x2 x3 x4 x5 x6 : Int32) (B : Nat → Int32) : Nat → Int32 := upd (upd (upd (upd (upd (upd (zZero s 0 B) (2240 + 64 * s + 0) x1) (2240 + 64 * s + 1) x2) (2240 + 64 * s + 2) x3) (2240 + 64 * s + 3) x4) (2240 + 64 * s + 4) x5) (2240 + 64 * s + 5) x6
theorem zNew_at (s : Nat) (x1 x2 x3 x4 x5 x6 : Int32) (B : Nat → Int32) (j : Nat) : zNew s x1 x2 x3 x4 x5 x6 B j = if j = 2240 + 64 * s then x1 else if j = 2240 + 64 * s + 1 then x2 else if j = 2240 + 64 * s + 2 then x3 else if j = 2240 + 64 * s + 3 then x4 else if j = 2240 + 64 * s + 4 then x5 else if j = 2240 + 64 * s + 5 then x6 else if 2240 + 64 * s ≤ j ∧ j < 2240 + 64 * s + 64 then 0 else B j := by
  unfold zNew zZero upd
  grind
section msend
variable {τ0 τ : zS} {W : yW} {k : Nat}
theorem m_sends {s a : Nat} {x1 x3 x4 x5 : Int32} (h : mR τ0 τ W) (hB : ∀ z i, W.1 z i < 50000) (hs : sEmp W = some s) (ha : a < W.1 (0, 0, 0) 3) : fM_sends x1 (nI a) x3 x4 x5 τ = some (nI s, z_upR τ (103, 0, 0) (zNew s x1 (nI a) x3 (nI (W.1 (10, 0, a) 2)) x4 x5 (al τ))) := by
  have s40 := (sEmp_lt hs).1
  have a7 : a < 7 := by have := h.1.1.1; omega
  unfold fM_sends
  rw [m_empty h hB, hs]
  show z_bd (some (nI s, τ)) _ = _
  rw [z_bde]
  obtain ⟨n, hz, ez⟩ := z_fu_ex
  rw [ez]
  obtain ⟨n', q⟩ := m_sends_9 s40 x1 (nI a) x3 x4 x5 τ 64 0 n (al τ) rfl (by omega)
  rw [show z_upR τ (103, 0, 0) (al τ) = τ from z_upR_id τ (103, 0, 0), nI_0] at q
  rw [q, fM_sends_9.eq_2, if_pos (by decide +kernel)]
  have c := fun (g : Nat) (gi : Int32) (hg : gi = nI g) (hg2 : g < 64) (B : Nat → Int32) (x : Int32) => show fM_putSlot (nI s) gi x (z_upR τ (103, 0, 0) B) = some ((), z_upR τ (103, 0, 0) (upd B (2240 + 64 * s + g) x)) from by rw [hg, eM_putSlot _ _ s40 hg2, z_up_R]
  rw [c 0 0 (by decide +kernel) (by decide), z_bde, c 1 1 (by decide +kernel) (by decide), z_bde, c 2 2 (by decide +kernel) (by decide), z_bde]
  have o : ∀ B : Nat → Int32, fM_of (nI a) 0 (z_upR τ (103, 0, 0) B) = some (B (320 * a + 0), z_upR τ (103, 0, 0) B) := fun B => by
    rw [show (0 : Int32) = nI 0 from by decide +kernel, eM_of _ a7 (by decide)]
    show some ((z_upR τ (103, 0, 0) B).1 (103, 0, 0) (320 * a + 0), _) = _
    rw [z_upR_al]
  have t1 : upd (upd (upd (zZero s 0 (al τ)) (2240 + 64 * s + 0) x1) (2240 + 64 * s + 1) (nI a)) (2240 + 64 * s + 2) x3 (320 * a + 0) = nI (W.1 (10, 0, a) 2) := by
    rw [upd_n _ _ (by omega), upd_n _ _ (by omega), upd_n _ _ (by omega)]
    show (if 2240 + 64 * s + 0 ≤ 320 * a + 0 ∧ 320 * a + 0 < 2240 + 64 * s + 64 then 0 else al τ (320 * a + 0)) = _
    rw [if_neg (by omega)]
    exact (h.2.1.1 a ha).1.1
  rw [o, z_bde, t1, c 3 3 (by decide +kernel) (by decide), z_bde, c 4 4 (by decide +kernel) (by decide), z_bde, c 5 5 (by decide +kernel) (by decide), z_bde]
  rfl
/-- slot s's piece of the row is written -/
theorem mR_s {W' : yW} {s : Nat} {r : Nat → Int32} (h : mR τ0 τ W) (a : yA W 0) (hs : s < 40) (h1 : ∀ i, i < 2240 + 64 * s ∨ 2240 + 64 * s + 64 ≤ i → r i = al τ i) (h2 : ∀ z i, (z.2.2 ≠ s ∨ z.1 < 20) → W'.1 z i = W.1 z i) (h3 : ∀ z : zJ, (z.2.2 ≠ s ∨ z.1 < 20) → W'.2.1 z = W.2.1 z) (hK : mL r W' 0 s) : mR τ0 (z_upR τ (103, 0, 0) r) W' := by
  refine ⟨mS_c h.1 (fun z hz => (z_upR_o z hz).1) (fun f => h2 _ _ (by simp)) (fun j => h2 _ _ (by simp)), ?_, fun z hz => ?_, h.2.2.2⟩
  · show mW ((z_upR τ (103, 0, 0) r).1 (103, 0, 0)) W' 0
    rw [show (z_upR τ (103, 0, 0) r).1 (103, 0, 0) = r from z_upR_s]
    exact mW_s h.2.1 a hs h1 h2 h3 hK
  · rw [(z_upR_o z hz).1]
    exact h.2.2.1 z hz
theorem sW_o {s kd a b t : Nat} {W : yW} {z : zJ} {i : Nat} (h : z.2.2 ≠ s ∨ z.1 < 20) : (sWrite s kd a b t W).1 z i = W.1 z i := sWrite_at i (fun e => by rw [e] at h; simp at h)
/-- a short letter: of kind kd, with two numbers and a round -/
def sLet (s kd a b y n r : Nat) (W : yW) : yW := yI (yI (yI (sWrite s kd a b (W.1 (10, 0, a) 2) W) (20, 0, s) 4 y) (20, 0, s) 5 n) (20, 0, s) 8 r
theorem sLet_8 {s kd a b y n : Nat} {W : yW} : sLet s kd a b y n 0 W = yI (yI (sWrite s kd a b (W.1 (10, 0, a) 2) W) (20, 0, s) 4 y) (20, 0, s) 5 n := by
  unfold sLet
  refine Prod.ext (funext fun z => funext fun i => ?_) rfl
  rw [yI_at]
  split
  · rename_i e
    rw [e.1, e.2, yI_i _ _ (by decide), yI_i _ _ (by decide), (sWrite_s s kd a b _ W).2.2.2.2.2.2.2.2]
  · rfl
theorem mR_let {s kd a b y n r : Nat} (h : mR τ0 τ W) (ya : yA W 0) (hs : s < 40) (hk : kd ≠ 4) : mR τ0 (z_upR τ (103, 0, 0) (upd (zNew s (nI kd) (nI a) (nI b) (nI (W.1 (10, 0, a) 2)) (nI y) (nI n) (al τ)) (2240 + 64 * s + 8) (nI r))) (sLet s kd a b y n r W) := by
  have W2 : (sLet s kd a b y n r W).2 = W.2 := rfl
  refine mR_s h ya hs (fun i hi => ?_) (fun z i hz => ?_) (fun z hz => rfl) ?_
  · rw [upd_n _ _ (by omega), zNew_at]
    grind
  · have hz' : z ≠ (20, 0, s) := fun e => by rw [e] at hz; simp at hz
    unfold sLet
    rw [yI_z _ _ hz', yI_z _ _ hz', yI_z _ _ hz', sW_o hz]
  · obtain ⟨w0, w1, w2, w3, w4, w5, w6, w7, w8⟩ := sWrite_s s kd a b (W.1 (10, 0, a) 2) W
    have v0 : (sLet s kd a b y n r W).1 (20, 0, s) 0 = kd + 1 := by unfold sLet; simp only [yI_at, yCp_at, yRow_1, yR_1, Prod.mk.injEq, and_true, true_and, and_self, false_and, and_false, if_true, if_false, ne_eq, not_true_eq_false, not_false_eq_true, yLit, Nat.succ_ne_zero, reduceCtorEq, Nat.reduceEqDiff, ↓reduceIte]; exact w0
    have v6 : (sLet s kd a b y n r W).1 (20, 0, s) 6 = 0 := by unfold sLet; simp only [yI_at, yCp_at, yRow_1, yR_1, Prod.mk.injEq, and_true, true_and, and_self, false_and, and_false, if_true, if_false, ne_eq, not_true_eq_false, not_false_eq_true, yLit, Nat.succ_ne_zero, reduceCtorEq, Nat.reduceEqDiff, ↓reduceIte]; exact w6
    unfold mL
    rw [v0, v6]
    refine ⟨?_, fun _ => ⟨fun f f1 f2 => ?_, fun _ j hj => by omega, fun e => absurd e (by omega)⟩⟩
    · rw [upd_n _ _ (by omega), zNew_at, if_pos rfl, iI_nat]
      congr 1
      omega
    · unfold sLet
      rcases (show f = 1 ∨ f = 2 ∨ f = 3 ∨ f = 4 ∨ f = 5 ∨ f = 6 ∨ f = 7 ∨ f = 8 by omega) with rfl | rfl | rfl | rfl | rfl | rfl | rfl | rfl
      · simp only [yI_at, yCp_at, yRow_1, yR_1, Prod.mk.injEq, and_true, true_and, and_self, false_and, and_false, if_true, if_false, ne_eq, not_true_eq_false, not_false_eq_true, yLit, Nat.succ_ne_zero, reduceCtorEq, Nat.reduceEqDiff, ↓reduceIte]
        rw [w1, upd_n _ _ (by omega), zNew_at, if_neg (by omega), if_pos rfl]
      · simp only [yI_at, yCp_at, yRow_1, yR_1, Prod.mk.injEq, and_true, true_and, and_self, false_and, and_false, if_true, if_false, ne_eq, not_true_eq_false, not_false_eq_true, yLit, Nat.succ_ne_zero, reduceCtorEq, Nat.reduceEqDiff, ↓reduceIte]
        rw [w2, upd_n _ _ (by omega), zNew_at, if_neg (by omega), if_neg (by omega), if_pos rfl]
      · simp only [yI_at, yCp_at, yRow_1, yR_1, Prod.mk.injEq, and_true, true_and, and_self, false_and, and_false, if_true, if_false, ne_eq, not_true_eq_false, not_false_eq_true, yLit, Nat.succ_ne_zero, reduceCtorEq, Nat.reduceEqDiff, ↓reduceIte]
        rw [w3, upd_n _ _ (by omega), zNew_at, if_neg (by omega), if_neg (by omega), if_neg (by omega), if_pos rfl]
      · simp only [yI_at, yCp_at, yRow_1, yR_1, Prod.mk.injEq, and_true, true_and, and_self, false_and, and_false, if_true, if_false, ne_eq, not_true_eq_false, not_false_eq_true, yLit, Nat.succ_ne_zero, reduceCtorEq, Nat.reduceEqDiff, ↓reduceIte]
        rw [upd_n _ _ (by omega), zNew_at, if_neg (by omega), if_neg (by omega), if_neg (by omega), if_neg (by omega), if_pos rfl]
      · simp only [yI_at, yCp_at, yRow_1, yR_1, Prod.mk.injEq, and_true, true_and, and_self, false_and, and_false, if_true, if_false, ne_eq, not_true_eq_false, not_false_eq_true, yLit, Nat.succ_ne_zero, reduceCtorEq, Nat.reduceEqDiff, ↓reduceIte]
        rw [upd_n _ _ (by omega), zNew_at, if_neg (by omega), if_neg (by omega), if_neg (by omega), if_neg (by omega), if_neg (by omega), if_pos rfl]
      · simp only [yI_at, yCp_at, yRow_1, yR_1, Prod.mk.injEq, and_true, true_and, and_self, false_and, and_false, if_true, if_false, ne_eq, not_true_eq_false, not_false_eq_true, yLit, Nat.succ_ne_zero, reduceCtorEq, Nat.reduceEqDiff, ↓reduceIte]
        rw [w6, nI_0, upd_n _ _ (by omega), zNew_at, if_neg (by omega), if_neg (by omega), if_neg (by omega), if_neg (by omega), if_neg (by omega), if_neg (by omega), if_pos (by omega)]
      · simp only [yI_at, yCp_at, yRow_1, yR_1, Prod.mk.injEq, and_true, true_and, and_self, false_and, and_false, if_true, if_false, ne_eq, not_true_eq_false, not_false_eq_true, yLit, Nat.succ_ne_zero, reduceCtorEq, Nat.reduceEqDiff, ↓reduceIte]
        rw [w7, nI_0, upd_n _ _ (by omega), zNew_at, if_neg (by omega), if_neg (by omega), if_neg (by omega), if_neg (by omega), if_neg (by omega), if_neg (by omega), if_pos (by omega)]
      · simp only [yI_at, yCp_at, yRow_1, yR_1, Prod.mk.injEq, and_true, true_and, and_self, false_and, and_false, if_true, if_false, ne_eq, not_true_eq_false, not_false_eq_true, yLit, Nat.succ_ne_zero, reduceCtorEq, Nat.reduceEqDiff, ↓reduceIte]
        exact upd_s _ _ _
/-- ask's letters, ballots: no round -/
theorem m_letter {s kd a b y n : Nat} (h : mR τ0 τ W) (hB : ∀ z i, W.1 z i < 50000) (ya : yA W 0) (hs : sEmp W = some s) (ha : a < W.1 (0, 0, 0) 3) (hk : kd ≠ 4) : ∃ τ', fM_sends (nI kd) (nI a) (nI b) (nI y) (nI n) τ = some (nI s, τ') ∧ mR τ0 τ' (sLet s kd a b y n 0 W) := by
  refine ⟨_, m_sends h hB hs ha, ?_⟩
  have q := mR_let (r := 0) (a := a) (b := b) (y := y) (n := n) h ya (sEmp_lt hs).1 hk
  have e : upd (zNew s (nI kd) (nI a) (nI b) (nI (W.1 (10, 0, a) 2)) (nI y) (nI n) (al τ)) (2240 + 64 * s + 8) (nI 0) = zNew s (nI kd) (nI a) (nI b) (nI (W.1 (10, 0, a) 2)) (nI y) (nI n) (al τ) := by
    funext j
    by_cases ej : j = 2240 + 64 * s + 8
    · rw [ej, upd_s, zNew_at, if_neg (by omega), if_neg (by omega), if_neg (by omega), if_neg (by omega), if_neg (by omega), if_neg (by omega), if_pos (by omega), nI_0]
    · rw [upd_n _ _ ej]
  rw [e] at q
  exact q
end msend
