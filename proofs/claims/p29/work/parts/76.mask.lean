/-! the model asks -/
theorem sStand_at (k : Nat) (W : yW) (z : zJ) (f : Nat) : (sStand k W).1 z f = if z = (10, 0, k) ∧ f = 2 then W.1 (10, 0, k) 2 + 1 else if z = (10, 0, k) ∧ f = 3 then k + 1 else if z = (10, 0, k) ∧ f = 4 then 1 else if z = (10, 0, k) ∧ f = 9 then 2 ^ k else if z = (10, 0, k) ∧ f = 10 then 0 else W.1 z f := by
  unfold sStand
  rw [yI_at, yI_at, yI_at, sEnter_at]
  grind
theorem sStand_2 (k : Nat) (W : yW) : (sStand k W).2 = W.2 := rfl
theorem sStand_W (k : Nat) (W : yW) : sStand k W = yI (yI (yI (yI (yI (yI W (10, 0, k) 2 (W.1 (10, 0, k) 2 + 1)) (10, 0, k) 3 (k + 1)) (10, 0, k) 4 0) (10, 0, k) 10 0) (10, 0, k) 9 (2 ^ k)) (10, 0, k) 4 1 := by
  refine Prod.ext (funext fun z => funext fun f => ?_) rfl
  rw [sStand_at, yI_at, yI_at, yI_at, yI_at, yI_at, yI_at]
  grind
section mask
variable {τ0 τ : zS} {W : yW} {k : Nat}
theorem m_stand (h : mR τ0 τ W) (a : yA W 0) (hk : k < W.1 (0, 0, 0) 3) (hB : ∀ z i, W.1 z i < 40000) : ∃ t1 t2 t3 t4, fM_put (nI k) 0 (nI (W.1 (10, 0, k) 2 + 1)) τ = some ((), t1) ∧ fM_put (nI k) 1 (nI k) t1 = some ((), t2) ∧ fM_put (nI k) 5 1 t2 = some ((), t3) ∧ fM_put (nI k) 7 (nI (2 ^ k)) t3 = some ((), t4) ∧ mR τ0 t4 (sStand k W) := by
  have k7 : k < 7 := by have := h.1.1.1; omega
  obtain ⟨t1, e1, h1⟩ := mw_term (v := W.1 (10, 0, k) 2 + 1) h a hk
  have a1 : yA (yI W (10, 0, k) 2 (W.1 (10, 0, k) 2 + 1)) 0 := yA_I a (by simp)
  have hk1 : k < (yI W (10, 0, k) 2 (W.1 (10, 0, k) 2 + 1)).1 (0, 0, 0) 3 := by rw [yI_z _ _ (by simp)]; exact hk
  obtain ⟨t2, e2, h2⟩ := mw_vote (v := k + 1) (x := nI k) h1 a1 hk1 (by rw [iI_nat]; congr 1; omega)
  have a2 : yA (yI (yI W (10, 0, k) 2 (W.1 (10, 0, k) 2 + 1)) (10, 0, k) 3 (k + 1)) 0 := yA_I a1 (by simp)
  have hk2 : k < (yI (yI W (10, 0, k) 2 (W.1 (10, 0, k) 2 + 1)) (10, 0, k) 3 (k + 1)).1 (0, 0, 0) 3 := by rw [yI_z _ _ (by simp)]; exact hk1
  refine ⟨t1, t2, z_upR t2 (103, 0, 0) (upd (al t2) (320 * k + 5) 1), z_upR t2 (103, 0, 0) (upd (upd (al t2) (320 * k + 5) 1) (320 * k + 7) (nI (2 ^ k))), e1, e2, ?_, ?_, ?_⟩
  · rw [show (5 : Int32) = nI 5 from by decide +kernel, eM_put _ _ k7 (by decide)]
    rfl
  · rw [show (7 : Int32) = nI 7 from by decide +kernel, eM_put _ _ k7 (by decide), z_up_R]
  · have m2 := h2.2.1.1 k hk2
    have m3 := mK_role (v := 0) m2 (fun e => absurd rfl e) (by decide)
    have m4 := mK_gh (f := 10) (v := 0) m3 (Or.inr ⟨rfl, by rw [yI_s]; decide⟩)
    have m5 := mK_put (g := 7) (f := 9) (v := 2 ^ k) (x := nI (2 ^ k)) m4 (by simp)
    have m6 := mK_role (v := 1) m5 (fun _ => by rw [upd_s, yI_s]) (by decide)
    rw [← sStand_W] at m6
    have eB : upd (upd (upd (al t2) (320 * k + 5) (nI 0)) (320 * k + 7) (nI (2 ^ k))) (320 * k + 5) (nI 1) = upd (upd (al t2) (320 * k + 5) 1) (320 * k + 7) (nI (2 ^ k)) := by
      funext j
      unfold upd
      rw [show nI 1 = 1 from by decide +kernel]
      grind
    have m6 : mK (upd (upd (al t2) (320 * k + 5) 1) (320 * k + 7) (nI (2 ^ k))) (sStand k W) 0 k := by
      rw [← eB]
      exact m6
    refine mR_k h2 a2 hk2 (fun i hi => by rw [upd_n _ _ (by omega), upd_n _ _ (by omega)]) (fun z i hz => ?_) (fun z _ => rfl) (by simp only [sStand_at, yI_at, yCp_at, yRow_1, yR_1, Prod.mk.injEq, and_true, true_and, and_self, false_and, and_false, if_true, if_false, ne_eq, not_true_eq_false, not_false_eq_true, yLit, Nat.succ_ne_zero, reduceCtorEq, Nat.reduceEqDiff, ↓reduceIte]) m6
    have n1 : z ≠ (10, 0, k) := fun e => by rw [e] at hz; simp at hz
    rw [sStand_at, yI_z _ _ n1, yI_z _ _ n1]
    simp only [n1, false_and, if_false]
/-- letters are counted -/
theorem z_cnt_fst {P : Nat → Bool} : ∀ m i, z_fst P m i = none → z_cnt (fun s => !P s) m i = m := by
  intro m
  induction m with
  | zero => intro i _; rfl
  | succ m ih =>
    intro i h
    have h : (if P i = true then some i else z_fst P m (i + 1)) = none := h
    by_cases c : P i = true
    · rw [if_pos c] at h; cases h
    · rw [if_neg c] at h
      rw [z_cnt, ih (i + 1) h, if_pos (by simp [c])]
      omega
theorem sEmp_some (h : sCnt W < 40) : ∃ s, sEmp W = some s := by
  cases e : sEmp W with
  | some s => exact ⟨s, rfl⟩
  | none =>
    exfalso
    have q := z_cnt_fst 40 0 e
    have : z_cnt (fun s => !decide (W.1 (20, 0, s) 0 = 0)) 40 0 = sCnt W := z_cnt_congr 40 0 (fun j _ _ => by
      by_cases c : W.1 (20, 0, j) 0 = 0 <;> simp [c])
    omega
theorem z_cnt_one {P Q : Nat → Bool} {s : Nat} : ∀ m i, i ≤ s → s < i + m → P s = false → Q s = true → (∀ j, j ≠ s → Q j = P j) → z_cnt Q m i = z_cnt P m i + 1 := by
  intro m
  induction m with
  | zero => intro i h1 h2; omega
  | succ m ih =>
    intro i h1 h2 h3 h4 h5
    rw [z_cnt, z_cnt]
    by_cases c : i = s
    · subst c
      rw [h3, h4, z_cnt_congr m (i + 1) (fun j j1 _ => h5 j (by omega))]
      simp
      omega
    · rw [h5 i c, ih (i + 1) (by omega) (by omega) h3 h4 h5]
      omega
theorem sCnt_one {W' : yW} {s : Nat} (hs : s < 40) (h0 : W.1 (20, 0, s) 0 = 0) (h1 : W'.1 (20, 0, s) 0 ≠ 0) (h2 : ∀ j, j ≠ s → W'.1 (20, 0, j) 0 = W.1 (20, 0, j) 0) : sCnt W' = sCnt W + 1 := z_cnt_one 40 0 (by omega) (by omega) (by simp [h0]) (by simp [h1]) (fun j hj => by rw [h2 j hj])
theorem m_ask_84 (τ0 : zS) : ∀ (m i n : Nat) (τ : zS) (W : yW), mR τ0 τ W → yA W 0 → yEn W → (∀ z i, W.1 z i < 35000) → k < W.1 (0, 0, 0) 3 → i + m = W.1 (0, 0, 0) 3 → W.1 (10, 0, k) 4 = 1 → W.1 (10, 0, k) 9 < 128 → W.1 (10, 0, k) 5 ≤ W.1 (10, 0, k) 8 → W.1 (10, 0, k) 8 ≤ W.1 (10, 0, k) 7 → (∀ e, W.1 (10, 0, k) 8 < e → e ≤ W.1 (10, 0, k) 7 → sTm W k e ≠ W.1 (10, 0, k) 2) → sCnt W + z_cnt (fun o => decide (¬ W.1 (10, 0, o) 0 = 0) && !decide (o = k)) m i ≤ 40 → m < n →
    ∃ τ', fM_ask_84 n (nI k) (nI i) τ = some (nI ((sChosen k (sAskL k m i W)).1 (10, 0, k) 2), τ') ∧ mR τ0 τ' (sChosen k (sAskL k m i W)) := by
  intro m
  induction m with
  | zero =>
    intro i n τ W h a hE hB hk hi hr h9 h5 h8 ht hc hn
    obtain ⟨n, rfl⟩ : ∃ k, n = k + 1 := ⟨n - 1, by omega⟩
    have hN := mR_N h
    obtain ⟨t1, e1, h1⟩ := m_leads h (fun z i => by have := hB z i; omega) hE a hk hr h9 h5 ht
    refine ⟨t1, ?_, h1⟩
    have hkc : k < (sChosen k W).1 (0, 0, 0) 3 := by
      unfold sChosen
      split
      · rw [sLead_at]; simp; exact hk
      · exact hk
    rw [fM_ask_84.eq_2, m_many h, z_bde, if_pos (nI_le (by omega) (by omega)), e1, z_bde, (m_of h1 hkc).1, z_bde]
    rfl
  | succ m ih =>
    intro i n τ W h a hE hB hk hi hr h9 h5 h8 ht hc hn
    obtain ⟨n, rfl⟩ : ∃ k, n = k + 1 := ⟨n - 1, by omega⟩
    have hN := mR_N h
    rw [fM_ask_84.eq_2, m_many h, z_bde, if_neg (nI_ge (by omega) (by omega)), sAskL]
    rw [z_cnt] at hc
    by_cases c1 : i = k
    · rw [if_pos (by rw [c1]), if_pos (Or.inl c1), z_let, nI_1]
      exact ih (i + 1) n τ W h a hE hB hk (by omega) hr h9 h5 h8 ht (by omega) (by omega)
    · rw [if_neg (fun e => c1 ((nI_eq (by omega) (by omega)).mp e)), m_isVoter h (by omega), z_bde]
      by_cases c2 : W.1 (10, 0, i) 0 = 0
      · rw [if_pos c2, if_pos rfl, if_pos (Or.inr c2), z_let, nI_1]
        exact ih (i + 1) n τ W h a hE hB hk (by omega) hr h9 h5 h8 ht (by omega) (by omega)
      · rw [if_neg c2, if_neg (by decide), if_neg (fun e => by rcases e with e | e <;> contradiction)]
        have hc' : sCnt W + 1 + z_cnt (fun o => decide (¬ W.1 (10, 0, o) 0 = 0) && !decide (o = k)) m (i + 1) ≤ 40 := by
          rw [if_pos (by simp [c1, c2])] at hc
          omega
        obtain ⟨s, hs⟩ := sEmp_some (W := W) (by omega)
        obtain ⟨t1, e1, h1⟩ := m_letter (s := s) (kd := 0) (a := k) (b := i) (y := W.1 (10, 0, k) 7) (n := sTm W k (W.1 (10, 0, k) 7)) h (fun z i => by have := hB z i; omega) a hs hk (by decide)
        have eA : sAsk1 k i W = sLet s 0 k i (W.1 (10, 0, k) 7) (sTm W k (W.1 (10, 0, k) 7)) 0 W := by
          rw [sLet_8]
          unfold sAsk1
          rw [hs]
        rw [← eA] at h1
        have e : ∀ (z : zJ) j, (∀ s, z ≠ (20, 0, s)) → (sAsk1 k i W).1 z j = W.1 z j := fun z j h => sAsk1_at h
        have s0 : ∀ j, (sAsk1 k i W).1 (20, 0, j) 0 = if j = s then 1 else W.1 (20, 0, j) 0 := fun j => by
          rw [eA, sLet_8, yI_i _ _ (by decide), yI_i _ _ (by decide)]
          by_cases ej : j = s
          · rw [if_pos ej, ej]; exact (sWrite_s s 0 k i _ W).1
          · rw [if_neg ej, sWrite_at _ (by simp [ej])]
        have s6 : ∀ j, (sAsk1 k i W).1 (20, 0, j) 0 = 3 → (sAsk1 k i W).1 (20, 0, j) 6 ≤ 5 := fun j hj => by
          rw [s0] at hj
          by_cases ej : j = s
          · rw [if_pos ej] at hj; omega
          · rw [if_neg ej] at hj
            rw [eA, sLet_8, yI_z _ _ (by simp [ej]), yI_z _ _ (by simp [ej]), sWrite_at _ (by simp [ej])]
            exact a.2.2.1 j hj
        have aA : yA (sAsk1 k i W) 0 := ⟨by rw [e _ _ (by simp)]; exact a.1, fun j => by rw [e _ _ (by simp), e _ _ (by simp)]; exact a.2.1 j, s6, by rw [e _ _ (by simp)]; exact a.2.2.2⟩
        have BA : ∀ z j, (sAsk1 k i W).1 z j < 35000 := fun z j => by
          have tb : sTm W k (W.1 (10, 0, k) 7) < 35000 := by
            unfold sTm
            split
            · exact hB _ _
            · exact hB _ _
          have b7 := hB (10, 0, k) 7
          have b2 := hB (10, 0, k) 2
          have bz := hB z j
          rw [eA, sLet_8, yI_at]
          split
          · exact tb
          · rw [yI_at]
            split
            · exact b7
            · have bN := hB (0, 0, 0) 3
              exact sWrite_b0 hB (by omega) (by omega) (by omega) b2 z j
        obtain ⟨t2, e2, h2⟩ := ih (i + 1) n t1 (sAsk1 k i W) h1 aA (fun w j x => by rw [e _ _ (by simp), e _ _ (by simp)]; exact hE w j x) BA (by rw [e _ _ (by simp)]; exact hk) (by rw [e _ _ (by simp)]; omega) (by rw [e _ _ (by simp)]; exact hr) (by rw [e _ _ (by simp)]; exact h9) (by rw [e _ _ (by simp), e _ _ (by simp)]; exact h5) (by rw [e _ _ (by simp), e _ _ (by simp)]; exact h8) (fun x x1 x2 => by
          rw [e _ _ (by simp)] at x1 x2
          rw [sTm_w (W := W) (fun i => e _ _ (by simp)) (fun i => e _ _ (by simp)), e _ _ (by simp)]
          exact ht x x1 x2) (by
          have q := sCnt_one (W := W) (W' := sAsk1 k i W) (s := s) (sEmp_lt hs).1 (sEmp_lt hs).2 (by rw [s0, if_pos rfl]; decide) (fun j hj => by rw [s0, if_neg hj])
          have q2 : z_cnt (fun o => decide (¬ (sAsk1 k i W).1 (10, 0, o) 0 = 0) && !decide (o = k)) m (i + 1) = z_cnt (fun o => decide (¬ W.1 (10, 0, o) 0 = 0) && !decide (o = k)) m (i + 1) := z_cnt_congr m (i + 1) (fun j _ _ => by rw [e _ _ (by simp)])
          rw [q2, q]
          exact hc') (by omega)
        refine ⟨t2, ?_, h2⟩
        rw [(m_of h hk).2.2.2.2.1, z_bde, (m_of h hk).2.2.2.2.1, z_bde, m_termOf h (fun z i => by have := hB z i; omega) hk (by omega) (Nat.le_refl _) (a.2.1 k), z_bde, show (0 : Int32) = nI 0 from by decide +kernel, e1, z_bde, z_let, nI_1, e2]
theorem m_ask (h : mR τ0 τ W) (a : yA W 0) (hE : yEn W) (hB : ∀ z i, W.1 z i < 30000) (hk : k < W.1 (0, 0, 0) 3) (hf : W.1 (10, 0, k) 1 ≤ 1) (hr : W.1 (10, 0, k) 4 ≤ 2) (h5 : W.1 (10, 0, k) 5 ≤ W.1 (10, 0, k) 8) (h8 : W.1 (10, 0, k) 8 ≤ W.1 (10, 0, k) 7) (ht : ∀ e, W.1 (10, 0, k) 8 < e → e ≤ W.1 (10, 0, k) 7 → sTm W k e ≤ W.1 (10, 0, k) 2) (hv : W.1 (0, 0, 0) 4 = z_cnt (fun o => decide (¬ W.1 (10, 0, o) 0 = 0)) (W.1 (0, 0, 0) 3) 0) :
    (sAskC k W → ∃ τ', fM_ask (nI k) τ = some (nI ((sAsk k W).1 (10, 0, k) 2), τ') ∧ mR τ0 τ' (sAsk k W)) ∧ (¬ sAskC k W → fM_ask (nI k) τ = some (-1, τ)) := by
  have hN := mR_N h
  have hB5 : ∀ z i, W.1 z i < 50000 := fun z i => by have := hB z i; omega
  have hV : W.1 (0, 0, 0) 4 ≤ 7 := by have := h.1.1.2.1; omega
  have b2 := hB (10, 0, k) 2
  have q1 := sCnt_le W
  have q4 : ((iI ((W.1 (0, 0, 0) 4 : Int) - 1) ≤ nI (40 - sCnt W))) = (W.1 (0, 0, 0) 4 ≤ 41 - sCnt W) := by
    rw [y_m1le (by omega) (by omega)]
    exact propext (by omega)
  have n2 : (nI (W.1 (10, 0, k) 4) = 2) = (W.1 (10, 0, k) 4 = 2) := by
    rw [show (2 : Int32) = nI 2 from by decide +kernel]
    exact propext (nI_eq (by omega) (by decide))
  unfold sAskC
  refine ⟨fun hc => ?_, fun hc => ?_⟩
  · obtain ⟨c1, c2, c3, c4⟩ := hc
    obtain ⟨t1, t2, t3, t4, e1, e2, e3, e4, h4⟩ := m_stand h a hk (fun z i => by have := hB z i; omega)
    have s10 : ∀ f, f ≠ 2 → f ≠ 3 → f ≠ 4 → f ≠ 9 → f ≠ 10 → (sStand k W).1 (10, 0, k) f = W.1 (10, 0, k) f := fun f f1 f2 f3 f4 f5 => by
      rw [sStand_at]; simp [f1, f2, f3, f4, f5]
    have sz : ∀ (z : zJ) f, z ≠ (10, 0, k) → (sStand k W).1 z f = W.1 z f := fun z f hz => by
      rw [sStand_at]; simp [hz]
    have s00 : ∀ o, (sStand k W).1 (10, 0, o) 0 = W.1 (10, 0, o) 0 := fun o => by
      rw [sStand_at]; simp
    have sB : ∀ z i, (sStand k W).1 z i < 35000 := fun z i => by
      have hz := hB z i
      have := y_pow k (by omega)
      rw [sStand_at]
      split
      · omega
      · split
        · omega
        · split
          · omega
          · split
            · omega
            · split
              · omega
              · omega
    have sA : yA (sStand k W) 0 := ⟨by rw [sz _ _ (by simp)]; exact a.1, fun j => by
      by_cases ej : j = k
      · rw [ej, s10 7 (by decide) (by decide) (by decide) (by decide) (by decide), s10 5 (by decide) (by decide) (by decide) (by decide) (by decide)]; exact a.2.1 k
      · rw [sz _ _ (by simp [ej]), sz _ _ (by simp [ej])]; exact a.2.1 j, fun s => by rw [sz _ _ (by simp), sz _ _ (by simp)]; exact a.2.2.1 s, by rw [sz _ _ (by simp)]; exact a.2.2.2⟩
    have c0 : sCnt (sStand k W) = sCnt W := z_cnt_congr 40 0 (fun j _ _ => by rw [sz _ _ (by simp)])
    unfold sAsk fM_ask
    obtain ⟨n, hz, ez⟩ := z_fu_ex
    rw [ez]
    obtain ⟨t5, e5, h6⟩ := m_ask_84 (k := k) τ0 (W.1 (0, 0, 0) 3) 0 n t4 (sStand k W) h4 sA (fun w j x => by rw [sz _ _ (by simp), sz _ _ (by simp)]; exact hE w j x) sB (by rw [sz _ _ (by simp)]; exact hk) (by rw [sz _ _ (by simp)]; omega) (by simp only [sStand_at, yI_at, yCp_at, yRow_1, yR_1, Prod.mk.injEq, and_true, true_and, and_self, false_and, and_false, if_true, if_false, ne_eq, not_true_eq_false, not_false_eq_true, yLit, Nat.succ_ne_zero, reduceCtorEq, Nat.reduceEqDiff, ↓reduceIte]) (by simp only [sStand_at, yI_at, yCp_at, yRow_1, yR_1, Prod.mk.injEq, and_true, true_and, and_self, false_and, and_false, if_true, if_false, ne_eq, not_true_eq_false, not_false_eq_true, yLit, Nat.succ_ne_zero, reduceCtorEq, Nat.reduceEqDiff, ↓reduceIte]; exact y_pow k (by omega)) (by rw [s10 5 (by decide) (by decide) (by decide) (by decide) (by decide), s10 8 (by decide) (by decide) (by decide) (by decide) (by decide)]; exact h5) (by rw [s10 7 (by decide) (by decide) (by decide) (by decide) (by decide), s10 8 (by decide) (by decide) (by decide) (by decide) (by decide)]; exact h8) (fun x x1 x2 => by
        rw [s10 8 (by decide) (by decide) (by decide) (by decide) (by decide)] at x1
        rw [s10 7 (by decide) (by decide) (by decide) (by decide) (by decide)] at x2
        have es : sTm (sStand k W) k x = sTm W k x := by
          unfold sTm
          rw [s10 5 (by decide) (by decide) (by decide) (by decide) (by decide), s10 6 (by decide) (by decide) (by decide) (by decide) (by decide), sz _ _ (by simp)]
        have e2 : (sStand k W).1 (10, 0, k) 2 = W.1 (10, 0, k) 2 + 1 := by simp only [sStand_at, yI_at, yCp_at, yRow_1, yR_1, Prod.mk.injEq, and_true, true_and, and_self, false_and, and_false, if_true, if_false, ne_eq, not_true_eq_false, not_false_eq_true, yLit, Nat.succ_ne_zero, reduceCtorEq, Nat.reduceEqDiff, ↓reduceIte]
        rw [es, e2]
        have := ht x x1 x2
        omega) (by
        have q := z_cnt_one (P := fun o => decide (¬ W.1 (10, 0, o) 0 = 0) && !decide (o = k)) (Q := fun o => decide (¬ W.1 (10, 0, o) 0 = 0)) (s := k) (W.1 (0, 0, 0) 3) 0 (by omega) (by omega) (by simp) (by simp [c2]) (fun j hj => by simp [hj])
        rw [c0]
        simp only [s00]
        omega) (by omega)
    refine ⟨t5, ?_, h6⟩
    rw [m_isUp h hk hf, z_bde, if_pos c1, if_neg (by decide), m_isVoter h hk, z_bde, if_neg c2, if_neg (by decide), (m_of h hk).2.2.2.2.2.1, z_bde, if_neg (by rw [n2]; exact c3), m_letters h hB5, z_bde, m_voters h, z_bde, y_40 q1, y_m1, if_pos (by rw [q4]; exact c4), (m_of h hk).1, z_bde, nI_1, e1, z_bde, e2, z_bde, e3, z_bde, y_shl k (by omega), e4, z_bde]
    rw [nI_0] at e5
    exact e5
  · unfold fM_ask
    rw [m_isUp h hk hf, z_bde]
    by_cases c1 : W.1 (10, 0, k) 1 = 0
    · rw [if_pos c1, if_neg (by decide), m_isVoter h hk, z_bde]
      by_cases c2 : W.1 (10, 0, k) 0 = 0
      · rw [if_pos c2, if_pos rfl]
      · rw [if_neg c2, if_neg (by decide), (m_of h hk).2.2.2.2.2.1, z_bde]
        by_cases c3 : W.1 (10, 0, k) 4 = 2
        · rw [if_pos (by rw [n2]; exact c3)]
        · rw [if_neg (by rw [n2]; exact c3), m_letters h hB5, z_bde, m_voters h, z_bde, y_40 q1, y_m1, if_neg (by rw [q4]; exact fun c4 => hc ⟨c1, c2, c3, c4⟩)]
    · rw [if_neg c1, if_pos rfl]
end mask
