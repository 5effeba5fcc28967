/-! the model leads, asks -/
theorem sLd_at (k : Nat) : ∀ (m i : Nat) (W : yW) (z : zJ) (j : Nat), (sLd k m i W).1 z j = if z = (16, 0, k) ∧ i ≤ j ∧ j < i + m then W.1 (10, 0, k) 7 + 1 else if (z = (17, 0, k) ∨ z = (18, 0, k) ∨ z = (19, 0, k)) ∧ i ≤ j ∧ j < i + m then 0 else W.1 z j := by
  intro m
  induction m with
  | zero =>
    intro i W z j
    rw [if_neg (by omega), if_neg (by omega)]
    rfl
  | succ m ih =>
    intro i W z j
    rw [sLd, ih]
    have e7 : (yI (yI (yI (yI W (16, 0, k) i (W.1 (10, 0, k) 7 + 1)) (17, 0, k) i 0) (18, 0, k) i 0) (19, 0, k) i 0).1 (10, 0, k) 7 = W.1 (10, 0, k) 7 := by simp only [yI_at, yCp_at, yRow_1, yR_1, Prod.mk.injEq, and_true, true_and, and_self, false_and, and_false, if_true, if_false, ne_eq, not_true_eq_false, not_false_eq_true, yLit, Nat.succ_ne_zero, reduceCtorEq, Nat.reduceEqDiff, ↓reduceIte]
    rw [e7, yI_at, yI_at, yI_at, yI_at]
    clear ih e7
    grind (splits := 30)
theorem sLd_2 (k : Nat) : ∀ (m i : Nat) (W : yW), (sLd k m i W).2 = W.2 := by
  intro m
  induction m with
  | zero => intro i W; rfl
  | succ m ih => intro i W; rw [sLd, ih]; rfl
theorem sLead_at (k : Nat) (W : yW) (z : zJ) (j : Nat) : (sLead k W).1 z j = if z = (16, 0, k) ∧ j < 7 then W.1 (10, 0, k) 7 + 1 else if (z = (17, 0, k) ∨ z = (18, 0, k) ∨ z = (19, 0, k)) ∧ j < 7 then 0 else if z = (10, 0, k) ∧ j = 4 then 2 else if z = (10, 0, k) ∧ j = 10 then 0 else W.1 z j := by
  unfold sLead
  have e7 : (yI (yI W (10, 0, k) 4 2) (10, 0, k) 10 0).1 (10, 0, k) 7 = W.1 (10, 0, k) 7 := by simp only [yI_at, yCp_at, yRow_1, yR_1, Prod.mk.injEq, and_true, true_and, and_self, false_and, and_false, if_true, if_false, ne_eq, not_true_eq_false, not_false_eq_true, yLit, Nat.succ_ne_zero, reduceCtorEq, Nat.reduceEqDiff, ↓reduceIte]
  rw [sLd_at, e7, yI_at, yI_at]
  clear e7
  grind (splits := 30)
theorem sLead_2 (k : Nat) (W : yW) : (sLead k W).2 = W.2 := sLd_2 _ _ _ _
def zLead (k i : Nat) (x : Int32) (B : Nat → Int32) : Nat → Int32 := fun j => if 320 * k + 50 + i ≤ j ∧ j < 320 * k + 57 then x else if 320 * k + 57 + i ≤ j ∧ j < 320 * k + 64 then 0 else if 320 * k + 64 + i ≤ j ∧ j < 320 * k + 71 then 0 else B j
theorem m_leads_35 {k l : Nat} (hk : k < 7) (τ : zS) : ∀ (m i n : Nat) (B : Nat → Int32), i + m = 7 → m < n → B (320 * k + 4) = nI l → fM_leads_35 n (nI k) (nI i) (z_upR τ (103, 0, 0) B) = z_bd (fM_settles (nI k) (z_upR τ (103, 0, 0) (zLead k i (nI (l + 1)) B))) (fun _ σ8 => some ((), σ8)) := by
  intro m
  induction m with
  | zero =>
    intro i n B hi hn hl
    obtain ⟨n, rfl⟩ : ∃ k, n = k + 1 := ⟨n - 1, by omega⟩
    have e2 : zLead k i (nI (l + 1)) B = B := by
      funext j
      unfold zLead
      rw [if_neg (by omega), if_neg (by omega), if_neg (by omega)]
    rw [fM_leads_35.eq_2, if_pos ((nI_le_lit (a := 7) (by decide +kernel) (by decide) (by omega)).mpr (by omega)), e2]
  | succ m ih =>
    intro i n B hi hn hl
    obtain ⟨n, rfl⟩ : ∃ k, n = k + 1 := ⟨n - 1, by omega⟩
    have o : fM_of (nI k) 4 (z_upR τ (103, 0, 0) B) = some (nI l, z_upR τ (103, 0, 0) B) := by
      rw [show (4 : Int32) = nI 4 from by decide +kernel, eM_of _ hk (by decide)]
      show some ((z_upR τ (103, 0, 0) B).1 (103, 0, 0) (320 * k + 4), _) = _
      rw [z_upR_al, hl]
    have c := fun (g : Nat) (hg2 : g < 320) (B : Nat → Int32) (x : Int32) => show fM_put (nI k) (nI g) x (z_upR τ (103, 0, 0) B) = some ((), z_upR τ (103, 0, 0) (upd B (320 * k + g) x)) from by rw [eM_put _ _ hk hg2, z_up_R]
    rw [fM_leads_35.eq_2, if_neg (fun hh => by have := (nI_le_lit (a := 7) (by decide +kernel) (by decide) (by omega)).mp hh; omega), o, z_bde, show (50 : Int32) + nI i = nI (50 + i) from lit_nI i (by decide +kernel), show (57 : Int32) + nI i = nI (57 + i) from lit_nI i (by decide +kernel), show (64 : Int32) + nI i = nI (64 + i) from lit_nI i (by decide +kernel), nI_1, c _ (by omega), z_bde, c _ (by omega), z_bde, c _ (by omega), z_bde, z_let, nI_1, ih (i + 1) n _ (by omega) (by omega) (by rw [upd_n _ _ (by omega), upd_n _ _ (by omega), upd_n _ _ (by omega)]; exact hl)]
    have ez : zLead k (i + 1) (nI (l + 1)) (upd (upd (upd B (320 * k + (50 + i)) (nI (l + 1))) (320 * k + (57 + i)) 0) (320 * k + (64 + i)) 0) = zLead k i (nI (l + 1)) B := by
      funext j
      unfold zLead upd
      grind
    rw [ez]
section mlead
variable {τ0 τ : zS} {W : yW} {k : Nat}
theorem yA_lead (a : yA W 0) : yA (sLead k W) 0 := by
  obtain ⟨a1, a2, a3, a4⟩ := a
  refine ⟨?_, fun j => ?_, fun s => ?_, ?_⟩
  · rw [sLead_at]; simp; exact a1
  · rw [sLead_at, sLead_at]; simp; exact a2 j
  · rw [sLead_at, sLead_at]; simp; exact a3 s
  · rw [sLead_at]; simp; exact a4
theorem mR_lead (h : mR τ0 τ W) (a : yA W 0) (hk : k < W.1 (0, 0, 0) 3) (hr : W.1 (10, 0, k) 4 = 1) : mR τ0 (z_upR τ (103, 0, 0) (zLead k 0 (nI (W.1 (10, 0, k) 7 + 1)) (upd (upd (al τ) (320 * k + 5) 2) (320 * k + 8) 0))) (sLead k W) := by
  obtain ⟨⟨a1, a2, a3, a4, a5, a6, a7, a8⟩, b1, b2, b3, b4, b5⟩ := h.2.1.1 k hk
  have l40 := a.2.1 k
  have r : ∀ i, (i < 320 * k + 50 ∨ 320 * k + 71 ≤ i) → i ≠ 320 * k + 5 → i ≠ 320 * k + 8 → zLead k 0 (nI (W.1 (10, 0, k) 7 + 1)) (upd (upd (al τ) (320 * k + 5) 2) (320 * k + 8) 0) i = al τ i := fun i h1 h2 h3 => by
    unfold zLead
    rw [if_neg (by omega), if_neg (by omega), if_neg (by omega), upd_n _ _ h3, upd_n _ _ h2]
  refine mR_k h a hk (fun i hi => r i (by omega) (by omega) (by omega)) (fun z i hz => ?_) (fun z _ => by rw [sLead_2]) (by rw [sLead_at]; simp) ?_
  · rw [sLead_at]
    have n1 : ∀ t, 10 ≤ t → t < 20 → z ≠ (t, 0, k) := fun t t1 t2 e => by rw [e] at hz; simp at hz; omega
    simp only [n1 16 (by decide) (by decide), n1 17 (by decide) (by decide), n1 18 (by decide) (by decide), n1 19 (by decide) (by decide), n1 10 (by decide) (by decide), false_and, false_or, if_false]
  · have s10 : ∀ f, f ≠ 4 → f ≠ 10 → (sLead k W).1 (10, 0, k) f = W.1 (10, 0, k) f := fun f f1 f2 => by
      rw [sLead_at]; simp [f1, f2]
    have s4 : (sLead k W).1 (10, 0, k) 4 = 2 := by rw [sLead_at]; simp
    have s1 : (sLead k W).1 (10, 0, k) 10 = 0 := by rw [sLead_at]; simp
    have s16 : ∀ o, o < 7 → (sLead k W).1 (16, 0, k) o = W.1 (10, 0, k) 7 + 1 := fun o ho => by rw [sLead_at]; simp [ho]
    have s17 : ∀ o, o < 7 → (sLead k W).1 (17, 0, k) o = 0 := fun o ho => by rw [sLead_at]; simp [ho]
    have s18 : ∀ o, o < 7 → (sLead k W).1 (18, 0, k) o = 0 := fun o ho => by rw [sLead_at]; simp [ho]
    have e11 : ∀ j, (cE (sLead k W)).1 (11, 0, k) j = (cE W).1 (11, 0, k) j := fun j => by
      rw [cE_at, cE_at, sLead_2, sLead_at]; simp
    unfold mK
    rw [s10 2 (by decide) (by decide), s10 3 (by decide) (by decide), s10 5 (by decide) (by decide), s10 6 (by decide) (by decide), s10 7 (by decide) (by decide), s4, s10 8 (by decide) (by decide), s10 1 (by decide) (by decide), s10 9 (by decide) (by decide), s1, sLead_2]
    simp only [e11]
    refine ⟨⟨?_, ?_, ?_, ?_, ?_, ?_, ?_, ?_⟩, fun _ => ?_, fun _ => ⟨?_, fun o ho => ?_⟩, fun j hj => ?_, zl_lay_c (fun q hq => r _ (by omega) (by omega) (by omega)) b4, zl_lay_c (fun q hq => r _ (by omega) (by omega) (by omega)) b5⟩
    · rw [r _ (by omega) (by omega) (by omega)]; exact a1
    · rw [r _ (by omega) (by omega) (by omega)]; exact a2
    · rw [r _ (by omega) (by omega) (by omega)]; exact a3
    · rw [r _ (by omega) (by omega) (by omega)]; exact a4
    · rw [r _ (by omega) (by omega) (by omega)]; exact a5
    · unfold zLead
      rw [if_neg (by omega), if_neg (by omega), if_neg (by omega), upd_n _ _ (by omega), upd_s]
      decide +kernel
    · rw [r _ (by omega) (by omega) (by omega)]; exact a7
    · rw [r _ (by omega) (by omega) (by omega)]; exact a8
    · rw [r _ (by omega) (by omega) (by omega)]; exact b1 (by omega)
    · unfold zLead
      rw [if_neg (by omega), if_neg (by omega), if_neg (by omega), upd_s, nI_0]
    · rw [s16 o ho, s17 o ho, s18 o ho, nI_0]
      unfold zLead
      refine ⟨?_, ?_, ?_⟩
      · rw [if_pos (by omega)]
      · rw [if_neg (by omega), if_pos (by omega)]
      · rw [if_neg (by omega), if_neg (by omega), if_pos (by omega)]
    · rw [r _ (by omega) (by omega) (by omega)]; exact b3 j hj
theorem sLead_B {b : Nat} (hB : ∀ z i, W.1 z i < b) (hb : 2 < b) : ∀ z i, (sLead k W).1 z i < b + 1 := fun z i => by
  have h7 := hB (10, 0, k) 7
  have h0 := hB z i
  rw [sLead_at]
  split
  · omega
  · split
    · omega
    · split
      · omega
      · split
        · omega
        · omega
theorem m_leads (h : mR τ0 τ W) (hB : ∀ z i, W.1 z i < 40000) (hE : yEn W) (a : yA W 0) (hk : k < W.1 (0, 0, 0) 3) (hr : W.1 (10, 0, k) 4 = 1) (h9 : W.1 (10, 0, k) 9 < 128) (h5 : W.1 (10, 0, k) 5 ≤ W.1 (10, 0, k) 8) (ht : ∀ e, W.1 (10, 0, k) 8 < e → e ≤ W.1 (10, 0, k) 7 → sTm W k e ≠ W.1 (10, 0, k) 2) : ∃ τ', fM_leads (nI k) τ = some ((), τ') ∧ mR τ0 τ' (sChosen k W) := by
  have hN := mR_N h
  have hM := sMost_le (W := W) (by have := h.1.1.2.1; omega)
  have hb := sBits_le (W.1 (10, 0, k) 9)
  unfold fM_leads sChosen
  obtain ⟨n, hz, ez⟩ := z_fu_ex
  rw [ez, m_of7 h hk (by omega), z_bde, m_bits h9, z_bde, m_most h, z_bde]
  by_cases c : sMost W ≤ sBits (W.1 (10, 0, k) 9)
  · rw [if_pos (nI_le c (by omega)), if_pos ⟨hr, c⟩]
    have c5 : fM_put (nI k) 5 2 τ = some ((), z_upR τ (103, 0, 0) (upd (al τ) (320 * k + 5) 2)) := by
      rw [show (5 : Int32) = nI 5 from by decide +kernel, eM_put _ _ (by omega) (by decide)]
      rfl
    have c8 : fM_put (nI k) 8 0 (z_upR τ (103, 0, 0) (upd (al τ) (320 * k + 5) 2)) = some ((), z_upR τ (103, 0, 0) (upd (upd (al τ) (320 * k + 5) 2) (320 * k + 8) 0)) := by
      rw [show (8 : Int32) = nI 8 from by decide +kernel, eM_put _ _ (by omega) (by decide), z_up_R]
    have lp := m_leads_35 (k := k) (l := W.1 (10, 0, k) 7) (by omega) τ 7 0 n (upd (upd (al τ) (320 * k + 5) 2) (320 * k + 8) 0) rfl (by omega) (by rw [upd_n _ _ (by omega), upd_n _ _ (by omega)]; exact (h.2.1.1 k hk).1.2.2.2.2.1)
    rw [nI_0] at lp
    have hL := mR_lead h a hk hr
    have s10 : ∀ f, f ≠ 4 → f ≠ 10 → (sLead k W).1 (10, 0, k) f = W.1 (10, 0, k) f := fun f f1 f2 => by
      rw [sLead_at]; simp [f1, f2]
    have sN : (sLead k W).1 (0, 0, 0) 3 = W.1 (0, 0, 0) 3 := by rw [sLead_at]; simp
    obtain ⟨t1, e1, h1⟩ := m_settles (k := k) hL (fun z i => by have := sLead_B (k := k) hB (by decide) z i; omega) (fun w j i => by rw [sLead_at, sLead_at]; simp; exact hE w j i) (yA_lead a) (by rw [sN]; exact hk) (by rw [sLead_at]; simp) (by rw [s10 5 (by decide) (by decide), s10 8 (by decide) (by decide)]; exact h5)
    refine ⟨t1, ?_, ?_⟩
    · rw [c5, z_bde, c8, z_bde, lp, e1, z_bde]
    · rw [sSettle_no (fun e e1 e2 => ?_)] at h1
      · exact h1
      · rw [s10 8 (by decide) (by decide)] at e1
        rw [s10 7 (by decide) (by decide)] at e2
        unfold sSetP
        have es : sTm (sLead k W) k e = sTm W k e := by
          unfold sTm
          rw [s10 5 (by decide) (by decide), s10 6 (by decide) (by decide), sLead_at]
          simp
        rw [es, s10 2 (by decide) (by decide), decide_eq_false (ht e e1 e2), Bool.false_and]
  · rw [if_neg (nI_ge (by omega) (by omega)), if_neg (fun e => c e.2)]
    exact ⟨τ, rfl, h⟩
end mlead
