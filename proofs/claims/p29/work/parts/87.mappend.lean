/-! the model: append -/
theorem sPut_at (k s x : Nat) : ∀ (m i : Nat) (V : yW) (z : zJ) (f : Nat), V.1 (10, 0, k) 5 < x → (sPut k s x m i V).1 z f = if z = (20, 0, s) ∧ f = 6 ∧ 0 < m then i + m else if z = (21, 0, s) ∧ 6 * i ≤ f ∧ f < 6 * (i + m) then V.1 (11, 0, k) (6 * (x - V.1 (10, 0, k) 5 - 1) + f) else V.1 z f := by
  intro m
  induction m with
  | zero =>
    intro i V z f _
    rw [if_neg (by omega), if_neg (by omega)]
    rfl
  | succ m ih =>
    intro i V z f hx
    have e5 : (yI (yCp V (11, 0, k) (21, 0, s) (6 * (x + i - V.1 (10, 0, k) 5 - 1)) (6 * i) 6) (20, 0, s) 6 (i + 1)).1 (10, 0, k) 5 = V.1 (10, 0, k) 5 := by
      rw [yI_z _ _ (by simp), yCp_at, if_neg (by simp)]
    have e11 : ∀ f, (yI (yCp V (11, 0, k) (21, 0, s) (6 * (x + i - V.1 (10, 0, k) 5 - 1)) (6 * i) 6) (20, 0, s) 6 (i + 1)).1 (11, 0, k) f = V.1 (11, 0, k) f := fun f => by
      rw [yI_z _ _ (by simp), yCp_at, if_neg (by simp)]
    rw [sPut, ih (i + 1) _ z f (by rw [e5]; exact hx), e5, e11, yI_at, yCp_at]
    by_cases c1 : z = (20, 0, s)
    · subst c1
      simp only [Prod.mk.injEq, Nat.reduceEqDiff, false_and, if_false, true_and, and_self]
      grind
    · by_cases c2 : z = (21, 0, s)
      · subst c2
        simp only [Prod.mk.injEq, Nat.reduceEqDiff, false_and, if_false, true_and, and_self]
        by_cases c3 : 6 * (i + 1) ≤ f ∧ f < 6 * (i + 1 + m)
        · rw [if_pos c3, if_pos (by omega)]
        · rw [if_neg c3]
          by_cases c4 : 6 * i ≤ f ∧ f < 6 * i + 6
          · rw [if_pos c4, if_pos (by omega), show 6 * (x + i - V.1 (10, 0, k) 5 - 1) + (f - 6 * i) = 6 * (x - V.1 (10, 0, k) 5 - 1) + f by omega]
          · rw [if_neg c4, if_neg (by omega)]
      · simp only [c1, c2, false_and, if_false]
theorem sPut_2 (k s x : Nat) : ∀ (m i : Nat) (V : yW), V.1 (10, 0, k) 5 < x → (∀ f, (sPut k s x m i V).2.1 (21, 0, s) f = if 6 * i ≤ f ∧ f < 6 * (i + m) then V.2.1 (11, 0, k) (6 * (x - V.1 (10, 0, k) 5 - 1) + f) else V.2.1 (21, 0, s) f) ∧ ∀ z : zJ, z ≠ (21, 0, s) → (sPut k s x m i V).2.1 z = V.2.1 z := by
  intro m
  induction m with
  | zero => intro i V _; exact ⟨fun f => (if_neg (by omega)).symm, fun z _ => rfl⟩
  | succ m ih =>
    intro i V hx
    have e5 : (yI (yCp V (11, 0, k) (21, 0, s) (6 * (x + i - V.1 (10, 0, k) 5 - 1)) (6 * i) 6) (20, 0, s) 6 (i + 1)).1 (10, 0, k) 5 = V.1 (10, 0, k) 5 := by
      rw [yI_z _ _ (by simp), yCp_at, if_neg (by simp)]
    obtain ⟨q1, q2⟩ := ih (i + 1) (yI (yCp V (11, 0, k) (21, 0, s) (6 * (x + i - V.1 (10, 0, k) 5 - 1)) (6 * i) 6) (20, 0, s) 6 (i + 1)) (by rw [e5]; exact hx)
    have r1 : (yI (yCp V (11, 0, k) (21, 0, s) (6 * (x + i - V.1 (10, 0, k) 5 - 1)) (6 * i) 6) (20, 0, s) 6 (i + 1)).2.1 (11, 0, k) = V.2.1 (11, 0, k) := yCp_2 (by simp)
    have r2 : ∀ f, (yI (yCp V (11, 0, k) (21, 0, s) (6 * (x + i - V.1 (10, 0, k) 5 - 1)) (6 * i) 6) (20, 0, s) 6 (i + 1)).2.1 (21, 0, s) f = va_cpy (V.2.1 (11, 0, k)) (V.2.1 (21, 0, s)) (6 * (x + i - V.1 (10, 0, k) 5 - 1)) (6 * i) 6 f := fun f => by
      show (z_upR V.2 (21, 0, s) _).1 (21, 0, s) f = _
      rw [z_upR_s]
    refine ⟨fun f => ?_, fun z hz => ?_⟩
    · rw [sPut, q1, e5, r1, r2]
      unfold va_cpy
      by_cases c3 : 6 * (i + 1) ≤ f ∧ f < 6 * (i + 1 + m)
      · rw [if_pos c3, if_pos (by omega)]
      · rw [if_neg c3]
        by_cases c4 : 6 * i ≤ f ∧ f < 6 * i + 6
        · rw [if_pos c4, if_pos (by omega), show 6 * (x + i - V.1 (10, 0, k) 5 - 1) + (f - 6 * i) = 6 * (x - V.1 (10, 0, k) 5 - 1) + f by omega]
        · rw [if_neg c4, if_neg (by omega)]
    · rw [sPut, q2 z hz]
      exact yCp_2 hz
section mappend
variable {τ0 τ : zS} {W : yW} {k : Nat}
theorem m_append_223 {s x A D c : Nat} (τ : zS) (R : Nat → Int32) (hk : k < 7) (B5 : Nat) (hR : R (320 * k + 2) = nI B5) (h5 : B5 < x) (hA : A = 320 * k + 80 + 6 * (x - B5 - 1)) (hD : D = 2240 + 64 * s + 10) (hs : s < 40) (hc : c ≤ 5) (hl : x + c ≤ B5 + 41) : ∀ (m i n : Nat), i + m = c → m < n → fM_append_223 n (nI k) (nI x) (nI s) (nI c) (nI i) (z_upR τ (103, 0, 0) (va_cpy R R A D (6 * i))) = z_bd (fM_settles (nI k) (z_upR τ (103, 0, 0) (va_cpy R R A D (6 * c)))) (fun _ σ26 => some (nI s, σ26)) := by
  intro m
  induction m with
  | zero =>
    intro i n hi hn
    obtain ⟨n, rfl⟩ : ∃ k, n = k + 1 := ⟨n - 1, by omega⟩
    rw [fM_append_223.eq_2, if_pos (nI_le (by omega) (by omega)), show i = c by omega]
  | succ m ih =>
    intro i n hi hn
    obtain ⟨n, rfl⟩ : ∃ k, n = k + 1 := ⟨n - 1, by omega⟩
    have ea : fM_entryAt (nI k) (nI (x + i)) (z_upR τ (103, 0, 0) (va_cpy R R A D (6 * i))) = some (nI (A + 6 * i), z_upR τ (103, 0, 0) (va_cpy R R A D (6 * i))) := by
      have o : fM_of (nI k) 2 (z_upR τ (103, 0, 0) (va_cpy R R A D (6 * i))) = some (nI B5, z_upR τ (103, 0, 0) (va_cpy R R A D (6 * i))) := by
        rw [show (2 : Int32) = nI 2 from by decide +kernel, eM_of _ hk (by decide)]
        show some ((z_upR τ (103, 0, 0) _).1 (103, 0, 0) (320 * k + 2), _) = _
        rw [z_upR_al]
        unfold va_cpy
        rw [if_neg (by omega), hR]
      unfold fM_entryAt
      rw [o, z_bde]
      congr 2
      rw [show (320 : Int32) = nI 320 from by decide +kernel, show (80 : Int32) = nI 80 from by decide +kernel, show (6 : Int32) = nI 6 from by decide +kernel, pk_mul, nI_add, show nI (x + i) - nI B5 - 1 = nI (x + i - B5 - 1) from by
        rw [iI_nat, iI_nat, iI_nat, show (1 : Int32) = iI 1 from by decide +kernel, iI_sub, iI_sub]
        congr 1
        omega, pk_mul, nI_add]
      congr 1
      omega
    have g : ((2240 : Int32) + 64 * nI s) + 10 + 6 * nI i = nI (D + 6 * i) := by
      rw [show (2240 : Int32) = nI 2240 from by decide +kernel, show (64 : Int32) = nI 64 from by decide +kernel, show (10 : Int32) = nI 10 from by decide +kernel, show (6 : Int32) = nI 6 from by decide +kernel, pk_mul, pk_mul, nI_add, nI_add, nI_add, hD]
    have e2 : va_cpy (va_cpy R R A D (6 * i)) (va_cpy R R A D (6 * i)) (A + 6 * i) (D + 6 * i) 6 = va_cpy R R A D (6 * (i + 1)) := by
      funext j
      unfold va_cpy
      by_cases c1 : D + 6 * i ≤ j ∧ j < D + 6 * i + 6
      · rw [if_pos c1, if_neg (by omega), if_pos (by omega), show A + 6 * i + (j - (D + 6 * i)) = A + (j - D) by omega]
      · rw [if_neg c1]
        by_cases c2 : D ≤ j ∧ j < D + 6 * i
        · rw [if_pos c2, if_pos (by omega)]
        · rw [if_neg c2, if_neg (by omega)]
    have cp := m_copy (a := A + 6 * i) (b := D + 6 * i) (c := 6) (z_upR τ (103, 0, 0) (va_cpy R R A D (6 * i))) (Or.inr (by omega)) (by omega) (by omega)
    rw [show al (z_upR τ (103, 0, 0) (va_cpy R R A D (6 * i))) = va_cpy R R A D (6 * i) from z_upR_al _ _, z_upR_R, e2] at cp
    rw [fM_append_223.eq_2, if_neg (nI_ge (by omega) (by omega)), nI_add, ea, z_bde, g, show (6 : Int32) = nI 6 from by decide +kernel, cp, z_bde, z_let, nI_1]
    exact ih (i + 1) n (by omega) (by omega)
/-- the fields of the letter that is sent -/
theorem sSend_f {o s : Nat} (hk : W.1 (16, 0, k) o ≤ W.1 (10, 0, k) 5) : (∀ f, f < 9 → (sSend k o s W).1 (20, 0, s) f = if f = 0 then 5 else if f = 1 then k else if f = 2 then o else if f = 3 then W.1 (10, 0, k) 2 else if f = 4 then W.1 (10, 0, k) 5 else if f = 5 then W.1 (10, 0, k) 6 else if f = 8 then W.1 (10, 0, k) 10 + 1 else 0) ∧ (∀ (z : zJ) f, (z.2.2 ≠ s ∨ z.1 < 20) → (sSend k o s W).1 z f = (yI W (10, 0, k) 10 (W.1 (10, 0, k) 10 + 1)).1 z f) ∧ (∀ z : zJ, z ≠ (23, 0, s) → (sSend k o s W).2.1 z = W.2.1 z) ∧ ∀ q, q < 20 → (sSend k o s W).2.1 (23, 0, s) q = W.2.1 (13, 0, k) q := by
  unfold sSend
  rw [if_pos hk]
  obtain ⟨w0, w1, w2, w3, w4, w5, w6, w7, w8⟩ := sWrite_s s 4 k o (W.1 (10, 0, k) 2) W
  refine ⟨fun f hf => ?_, fun z f hz => ?_, fun z hz => yCp_2 hz, fun q hq => ?_⟩
  · rw [yCp_at, if_neg (by simp)]
    rcases (show f = 0 ∨ f = 1 ∨ f = 2 ∨ f = 3 ∨ f = 4 ∨ f = 5 ∨ f = 6 ∨ f = 7 ∨ f = 8 by omega) with rfl | rfl | rfl | rfl | rfl | rfl | rfl | rfl | rfl <;> simp only [w0, w1, w2, w3, w6, w7, yI_at, yCp_at, yRow_1, yR_1, Prod.mk.injEq, and_true, true_and, and_self, false_and, and_false, if_true, if_false, ne_eq, not_true_eq_false, not_false_eq_true, yLit, Nat.succ_ne_zero, reduceCtorEq, Nat.reduceEqDiff, ↓reduceIte]
  · have n1 : z ≠ (20, 0, s) := fun e => by rw [e] at hz; simp at hz
    rw [yCp_at, if_neg (fun e => by rw [e.1] at hz; simp at hz), yI_z _ _ n1, yI_z _ _ n1, yI_z _ _ n1, yI_at, yI_at, sWrite_at _ n1]
  · show (z_upR W.2 (23, 0, s) _).1 (23, 0, s) q = _
    rw [z_upR_s]
    unfold va_cpy
    rw [if_pos (by omega), Nat.zero_add, Nat.sub_zero]
    rfl
theorem sSend_e {o s : Nat} (hk : ¬ W.1 (16, 0, k) o ≤ W.1 (10, 0, k) 5) : (∀ f, f < 9 → (sSend k o s W).1 (20, 0, s) f = if f = 0 then 3 else if f = 1 then k else if f = 2 then o else if f = 3 then W.1 (10, 0, k) 2 else if f = 4 then W.1 (16, 0, k) o - 1 else if f = 5 then sTm W k (W.1 (16, 0, k) o - 1) else if f = 6 then min 5 (W.1 (10, 0, k) 7 + 1 - W.1 (16, 0, k) o) else if f = 7 then W.1 (10, 0, k) 8 else W.1 (10, 0, k) 10 + 1) ∧ (∀ (z : zJ) f, (z.2.2 ≠ s ∨ z.1 < 20) → (sSend k o s W).1 z f = (yI W (10, 0, k) 10 (W.1 (10, 0, k) 10 + 1)).1 z f) ∧ (∀ z : zJ, z ≠ (21, 0, s) → (sSend k o s W).2.1 z = W.2.1 z) ∧ (∀ f, f < 6 * min 5 (W.1 (10, 0, k) 7 + 1 - W.1 (16, 0, k) o) → (sSend k o s W).1 (21, 0, s) f = W.1 (11, 0, k) (6 * (W.1 (16, 0, k) o - W.1 (10, 0, k) 5 - 1) + f) ∧ (sSend k o s W).2.1 (21, 0, s) f = W.2.1 (11, 0, k) (6 * (W.1 (16, 0, k) o - W.1 (10, 0, k) 5 - 1) + f)) := by
  unfold sSend
  rw [if_neg hk]
  obtain ⟨w0, w1, w2, w3, w4, w5, w6, w7, w8⟩ := sWrite_s s 2 k o (W.1 (10, 0, k) 2) W
  obtain ⟨V, eV⟩ : ∃ V, V = yI (yI (yI (yI (yI (sWrite s 2 k o (W.1 (10, 0, k) 2) W) (10, 0, k) 10 (W.1 (10, 0, k) 10 + 1)) (20, 0, s) 8 (W.1 (10, 0, k) 10 + 1)) (20, 0, s) 4 (W.1 (16, 0, k) o - 1)) (20, 0, s) 5 (sTm W k (W.1 (16, 0, k) o - 1))) (20, 0, s) 7 (W.1 (10, 0, k) 8) := ⟨_, rfl⟩
  rw [← eV]
  have v10 : ∀ f, f ≠ 10 → V.1 (10, 0, k) f = W.1 (10, 0, k) f := fun f hf => by
    rw [eV, yI_z _ _ (by simp), yI_z _ _ (by simp), yI_z _ _ (by simp), yI_z _ _ (by simp), yI_i _ _ hf, sWrite_at _ (by simp)]
  have v11 : ∀ f, V.1 (11, 0, k) f = W.1 (11, 0, k) f := fun f => by
    rw [eV, yI_z _ _ (by simp), yI_z _ _ (by simp), yI_z _ _ (by simp), yI_z _ _ (by simp), yI_z _ _ (by simp), sWrite_at _ (by simp)]
  have vr : V.2 = W.2 := by rw [eV]; rfl
  have hx : V.1 (10, 0, k) 5 < W.1 (16, 0, k) o := by rw [v10 5 (by decide)]; omega
  have P := fun z f => sPut_at k s (W.1 (16, 0, k) o) (min 5 (W.1 (10, 0, k) 7 + 1 - W.1 (16, 0, k) o)) 0 V z f hx
  obtain ⟨q1, q2⟩ := sPut_2 k s (W.1 (16, 0, k) o) (min 5 (W.1 (10, 0, k) 7 + 1 - W.1 (16, 0, k) o)) 0 V hx
  generalize min 5 (W.1 (10, 0, k) 7 + 1 - W.1 (16, 0, k) o) = c at P q1 q2 ⊢
  refine ⟨fun f hf => ?_, fun z f hz => ?_, fun z hz => by rw [q2 z hz, vr], fun f hf => ⟨?_, ?_⟩⟩
  · rw [P]
    by_cases c6 : f = 6
    · subst c6
      by_cases c0 : 0 < c
      · rw [if_pos ⟨rfl, rfl, c0⟩, Nat.zero_add]
        rfl
      · rw [if_neg (fun e => c0 e.2.2), if_neg (by simp), eV]
        simp only [w6, yI_at, yCp_at, yRow_1, yR_1, Prod.mk.injEq, and_true, true_and, and_self, false_and, and_false, if_true, if_false, ne_eq, not_true_eq_false, not_false_eq_true, yLit, Nat.succ_ne_zero, reduceCtorEq, Nat.reduceEqDiff, ↓reduceIte]
        omega
    · rw [if_neg (fun e => c6 e.2.1), if_neg (by simp), eV]
      rcases (show f = 0 ∨ f = 1 ∨ f = 2 ∨ f = 3 ∨ f = 4 ∨ f = 5 ∨ f = 7 ∨ f = 8 by omega) with rfl | rfl | rfl | rfl | rfl | rfl | rfl | rfl <;> simp only [w0, w1, w2, w3, yI_at, yCp_at, yRow_1, yR_1, Prod.mk.injEq, and_true, true_and, and_self, false_and, and_false, if_true, if_false, ne_eq, not_true_eq_false, not_false_eq_true, yLit, Nat.succ_ne_zero, reduceCtorEq, Nat.reduceEqDiff, ↓reduceIte]
  · have n1 : z ≠ (20, 0, s) := fun e => by rw [e] at hz; simp at hz
    have n2 : z ≠ (21, 0, s) := fun e => by rw [e] at hz; simp at hz
    rw [P, if_neg (fun e => n1 e.1), if_neg (fun e => n2 e.1), eV, yI_z _ _ n1, yI_z _ _ n1, yI_z _ _ n1, yI_z _ _ n1, yI_at, yI_at, sWrite_at _ n1]
  · rw [P, if_neg (by simp), if_pos ⟨rfl, by omega, by omega⟩, v11, v10 5 (by decide)]
  · rw [q1, if_pos (by omega), v10 5 (by decide), vr]
end mappend
