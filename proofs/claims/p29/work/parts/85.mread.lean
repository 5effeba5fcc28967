/-! the model: refused commands, read, fold -/
section mread2
variable {τ0 τ : zS} {W : yW} {k : Nat}
theorem m_commandN1 {x a1 b c d v : Int32} (h : mR τ0 τ W) (hx : ∀ k, k < W.1 (0, 0, 0) 3 → x ≠ nI k) : fM_command x a1 b c d v τ = some (-1, τ) := by
  unfold fM_command
  rw [m_noLead h hx, z_bde, if_pos rfl]
theorem m_commandN {a1 b c d v : Int32} (h : mR τ0 τ W) (hk : k < W.1 (0, 0, 0) 3) (hf : W.1 (10, 0, k) 1 ≤ 1) (hr : W.1 (10, 0, k) 4 ≤ 2) (hn : ¬ yCan a1 b c d) : fM_command (nI k) a1 b c d v τ = some (-1, τ) := by
  have mo := m_of h hk
  unfold fM_command
  rw [m_doesLead h hk hf hr, z_bde]
  by_cases c1 : W.1 (10, 0, k) 1 = 0 ∧ W.1 (10, 0, k) 4 = 2
  · rw [if_pos c1, if_neg (by decide), mo.2.2.2.2.1, z_bde, mo.2.2.1, z_bde]
    by_cases c2 : 40 ≤ nI (W.1 (10, 0, k) 7) - nI (W.1 (10, 0, k) 5)
    · rw [if_pos c2]
    · rw [if_neg c2]
      rcases y_or7 6 a1 with ⟨n1, h1, rfl⟩ | h1
      · rw [m_isInY (n := 6) τ rfl (by decide +kernel) (by decide) h1, z_bde, if_neg (by decide)]
        by_cases e2 : ∃ j, 1 ≤ j ∧ j ≤ 99 ∧ b = nI j
        · obtain ⟨n2, j1, j2, rfl⟩ := e2
          rw [m_isIn99 τ j1 j2, z_bde, if_neg (by decide)]
          rcases y_or7 4 c with ⟨n3, h3, rfl⟩ | h3
          · rw [m_isInY (n := 4) τ rfl (by decide +kernel) (by decide) h3, z_bde, if_neg (by decide)]
            rcases y_or7 8 d with ⟨n4, h4, rfl⟩ | h4
            · exact absurd ⟨n1, n2, n3, n4, rfl, rfl, rfl, rfl, h1, j1, j2, by omega, h4⟩ hn
            · rw [m_isInO (n := 8) τ rfl (by decide +kernel) (by decide) (by decide) h4, z_bde, if_pos rfl]
          · rw [m_isInO (n := 4) τ rfl (by decide +kernel) (by decide) (by decide) h3, z_bde, if_pos rfl]
        · rw [m_isIn99N τ (fun j j1 j2 e => e2 ⟨j, j1, j2, e⟩), z_bde, if_pos rfl]
      · rw [m_isInO (n := 6) τ rfl (by decide +kernel) (by decide) (by decide) h1, z_bde, if_pos rfl]
  · rw [if_neg c1, if_pos rfl]
/-- reads are written -/
theorem mR_d {W' : yW} {r : Nat → Int32} (h : mR τ0 τ W) (a : yA W 0) (h1 : ∀ i, i < 4800 → r i = al τ i) (h2 : ∀ z i, (9 ≤ z.1 ∨ z.1 = 0) → W'.1 z i = W.1 z i) (h3 : W'.2 = W.2) (hD : mD r W' 0) : mR τ0 (z_upR τ (103, 0, 0) r) W' := by
  have hN := h.1.1.1
  refine ⟨mS_c h.1 (fun z hz => (z_upR_o z hz).1) (fun f => h2 _ _ (by simp)) (fun j => h2 _ _ (by simp)), ?_, fun z hz => ?_, h.2.2.2⟩
  · show mW ((z_upR τ (103, 0, 0) r).1 (103, 0, 0)) W' 0
    rw [show (z_upR τ (103, 0, 0) r).1 (103, 0, 0) = r from z_upR_s]
    refine ⟨fun j hj => ?_, fun s hs => ?_, hD⟩
    · rw [h2 _ _ (by simp)] at hj
      exact mK_c (h.2.1.1 j hj) (fun i i1 i2 => h1 i (by omega)) (a.2.1 j) (fun t i ht => h2 _ _ (Or.inl (by show 9 ≤ t; omega))) (fun t _ => by rw [h3])
    · exact mL_c (h.2.1.2.1 s hs) (fun i i1 i2 => h1 i (by omega)) (a.2.2.1 s) (fun t i ht => h2 _ _ (Or.inl (by show 9 ≤ t; omega))) (fun t _ => by rw [h3])
  · rw [(z_upR_o z hz).1]
    exact h.2.2.1 z hz
theorem m_read {c : Nat} (h : mR τ0 τ W) (a : yA W 0) (hB : ∀ z i, W.1 z i < 40000) (hk : k < W.1 (0, 0, 0) 3) (hf : W.1 (10, 0, k) 1 ≤ 1) (hr : W.1 (10, 0, k) 4 ≤ 2) (h5 : W.1 (10, 0, k) 5 ≤ W.1 (10, 0, k) 8) (h8 : W.1 (10, 0, k) 8 ≤ W.1 (10, 0, k) 7) (hc : c < 8) :
    (W.1 (10, 0, k) 1 = 0 ∧ W.1 (10, 0, k) 4 = 2 ∧ sTm W k (W.1 (10, 0, k) 8) = W.1 (10, 0, k) 2 ∧ W.1 (4, 0, 0) 4 < 40 → ∃ τ', fM_read (nI k) (nI c) τ = some (nI (W.1 (4, 0, 0) 4), τ') ∧ mR τ0 τ' (sRead k c W)) ∧
    (¬ (W.1 (10, 0, k) 1 = 0 ∧ W.1 (10, 0, k) 4 = 2 ∧ sTm W k (W.1 (10, 0, k) 8) = W.1 (10, 0, k) 2 ∧ W.1 (4, 0, 0) 4 < 40) → fM_read (nI k) (nI c) τ = some (-1, τ)) := by
  have k7 : k < 7 := by have := a.1; omega
  have hB5 : ∀ z i, W.1 z i < 50000 := fun z i => by have := hB z i; omega
  have b2 := hB (10, 0, k) 2
  have mo := m_of h hk
  have md := h.2.1.2.2
  have l4 := a.2.2.2
  have tm := m_termOf (e := W.1 (10, 0, k) 8) h hB5 hk h5 h8 (a.2.1 k)
  have tb : sTm W k (W.1 (10, 0, k) 8) < 40000 := by
    unfold sTm
    split
    · exact hB _ _
    · exact hB _ _
  have r0 : τ.1 (103, 0, 0) 4960 = nI (W.1 (4, 0, 0) 4) := md.1
  unfold fM_read
  rw [z_let, r0, m_doesLead h hk hf hr, z_bde]
  refine ⟨fun hc' => ?_, fun hc' => ?_⟩
  · obtain ⟨c1, c2, c3, c4⟩ := hc'
    have c12 : W.1 (10, 0, k) 1 = 0 ∧ W.1 (10, 0, k) 4 = 2 := ⟨c1, c2⟩
    obtain ⟨n, en⟩ : ∃ n, n = W.1 (4, 0, 0) 4 := ⟨_, rfl⟩
    rw [← en] at c4 ⊢
    have g0 : (4800 : Int32) + 4 * nI n = nI (4800 + 4 * n) := by
      rw [show (4800 : Int32) = nI 4800 from by decide +kernel, show (4 : Int32) = nI 4 from by decide +kernel, pk_mul, nI_add]
    have q : ∀ (x : Nat) (xi : Int32), xi = nI x → nI (4800 + 4 * n) + xi = nI (4800 + 4 * n + x) := fun x xi hx => nI_lit _ hx
    have o0 : ∀ B : Nat → Int32, (∀ i, i < 4800 → B i = al τ i) → fM_of (nI k) 0 (z_upR τ (103, 0, 0) B) = some (nI (W.1 (10, 0, k) 2), z_upR τ (103, 0, 0) B) := fun B hB' => by
      rw [show (0 : Int32) = nI 0 from by decide +kernel, eM_of _ k7 (by decide)]
      show some ((z_upR τ (103, 0, 0) B).1 (103, 0, 0) (320 * k + 0), _) = _
      rw [z_upR_al, hB' _ (by omega)]
      exact congrArg (fun x => some (x, _)) (h.2.1.1 k hk).1.1
    have o8 : ∀ B : Nat → Int32, (∀ i, i < 4800 → B i = al τ i) → fM_of (nI k) 8 (z_upR τ (103, 0, 0) B) = some (nI (W.1 (10, 0, k) 10), z_upR τ (103, 0, 0) B) := fun B hB' => by
      rw [show (8 : Int32) = nI 8 from by decide +kernel, eM_of _ k7 (by decide)]
      show some ((z_upR τ (103, 0, 0) B).1 (103, 0, 0) (320 * k + 8), _) = _
      rw [z_upR_al, hB' _ (by omega)]
      exact congrArg (fun x => some (x, _)) ((h.2.1.1 k hk).2.2.1 c2).1
    have z0 : z_up τ (103, 0, 0) (4800 + 4 * n) (nI k) = z_upR τ (103, 0, 0) (upd (al τ) (4800 + 4 * n) (nI k)) := rfl
    refine ⟨z_upR τ (103, 0, 0) (upd (upd (upd (upd (upd (al τ) (4800 + 4 * n) (nI k)) (4800 + 4 * n + 1) (nI c)) (4800 + 4 * n + 2) (nI (W.1 (10, 0, k) 2))) (4800 + 4 * n + 3) (nI (W.1 (10, 0, k) 10))) 4960 (nI (n + 1))), ?_, ?_⟩
    · rw [if_pos c12, if_neg (by decide), m_isInY (n := 8) τ rfl (by decide +kernel) (by decide) hc, z_bde, if_neg (by decide), if_neg (by rw [show (40 : Int32) = nI 40 from by decide +kernel]; exact fun e => by have := (nI_eq (by omega) (by decide)).mp e; omega), mo.2.2.2.2.2.2.1, z_bde, tm, z_bde, mo.1, z_bde, if_pos (by rw [c3]), g0, if_pos (nI_inz (by omega) (by decide)), nI_clamp (by omega), z_let, z0, q 1 1 (by decide +kernel), if_pos (nI_inz (by omega) (by decide)), nI_clamp (by omega), z_let, z_up_R, o0 _ (fun i hi => by rw [upd_n _ _ (by omega), upd_n _ _ (by omega)]), z_bde, q 2 2 (by decide +kernel), if_pos (nI_inz (by omega) (by decide)), nI_clamp (by omega), z_let, z_up_R, o8 _ (fun i hi => by rw [upd_n _ _ (by omega), upd_n _ _ (by omega), upd_n _ _ (by omega)]), z_bde, q 3 3 (by decide +kernel), if_pos (nI_inz (by omega) (by decide)), nI_clamp (by omega), z_let, z_up_R, z_let, z_upR_al, upd_n _ _ (show 4960 ≠ 4800 + 4 * n + 3 by omega), upd_n _ _ (show 4960 ≠ 4800 + 4 * n + 2 by omega), upd_n _ _ (show 4960 ≠ 4800 + 4 * n + 1 by omega), upd_n _ _ (show 4960 ≠ 4800 + 4 * n by omega), show al τ 4960 = nI n from by rw [en]; exact md.1, nI_1, z_up_R]
    · refine mR_d h a (fun i hi => by rw [upd_n _ _ (by omega), upd_n _ _ (by omega), upd_n _ _ (by omega), upd_n _ _ (by omega), upd_n _ _ (by omega)]) (fun z i hz => ?_) rfl ?_
      · have nz : ∀ t, 1 ≤ t → t < 9 → z ≠ (t, 0, 0) := fun t t1 t2 e => by rw [e] at hz; simp at hz; omega
        unfold sRead
        rw [yI_z _ _ (nz 4 (by decide) (by decide)), yI_z _ _ (nz 8 (by decide) (by decide)), yI_z _ _ (nz 7 (by decide) (by decide)), yI_z _ _ (nz 6 (by decide) (by decide)), yI_z _ _ (nz 5 (by decide) (by decide))]
      · unfold mD sRead
        rw [yI_s, ← en]
        refine ⟨upd_s _ _ _, fun i hi => ?_⟩
        simp only [yI_at, Prod.mk.injEq, Nat.reduceEqDiff, false_and, and_false, if_false, true_and, and_true]
        by_cases ei : i = n
        · subst ei
          rw [if_pos rfl, if_pos rfl, if_pos rfl, if_pos rfl]
          refine ⟨?_, ?_, ?_, ?_⟩
          · rw [upd_n _ _ (by omega), upd_n _ _ (by omega), upd_n _ _ (by omega), upd_n _ _ (by omega), upd_s]
          · rw [upd_n _ _ (by omega), upd_n _ _ (by omega), upd_n _ _ (by omega), upd_s]
          · rw [upd_n _ _ (by omega), upd_n _ _ (by omega), upd_s]
          · rw [upd_n _ _ (by omega), upd_s]
        · obtain ⟨m1, m2, m3, m4⟩ := md.2 i (by omega)
          rw [if_neg ei, if_neg ei, if_neg ei, if_neg ei]
          refine ⟨?_, ?_, ?_, ?_⟩
          · rw [upd_n _ _ (by omega), upd_n _ _ (by omega), upd_n _ _ (by omega), upd_n _ _ (by omega), upd_n _ _ (by omega)]; exact m1
          · rw [upd_n _ _ (by omega), upd_n _ _ (by omega), upd_n _ _ (by omega), upd_n _ _ (by omega), upd_n _ _ (by omega)]; exact m2
          · rw [upd_n _ _ (by omega), upd_n _ _ (by omega), upd_n _ _ (by omega), upd_n _ _ (by omega), upd_n _ _ (by omega)]; exact m3
          · rw [upd_n _ _ (by omega), upd_n _ _ (by omega), upd_n _ _ (by omega), upd_n _ _ (by omega), upd_n _ _ (by omega)]; exact m4
  · by_cases c12 : W.1 (10, 0, k) 1 = 0 ∧ W.1 (10, 0, k) 4 = 2
    · rw [if_pos c12, if_neg (by decide), m_isInY (n := 8) τ rfl (by decide +kernel) (by decide) hc, z_bde, if_neg (by decide)]
      by_cases c4 : W.1 (4, 0, 0) 4 = 40
      · rw [if_pos (by rw [c4]; decide +kernel)]
      · rw [if_neg (by rw [show (40 : Int32) = nI 40 from by decide +kernel]; exact fun e => c4 ((nI_eq (by omega) (by decide)).mp e)), mo.2.2.2.2.2.2.1, z_bde, tm, z_bde, mo.1, z_bde, if_neg (fun e => hc' ⟨c12.1, c12.2, (nI_eq (by omega) (by omega)).mp e, by omega⟩)]
    · rw [if_neg c12, if_pos rfl]
theorem m_readN1 {x y : Int32} (h : mR τ0 τ W) (hx : ∀ k, k < W.1 (0, 0, 0) 3 → x ≠ nI k) : fM_read x y τ = some (-1, τ) := by
  unfold fM_read
  rw [z_let, m_noLead h hx, z_bde, if_pos rfl]
theorem m_readN2 {y : Int32} (h : mR τ0 τ W) (hk : k < W.1 (0, 0, 0) 3) (hf : W.1 (10, 0, k) 1 ≤ 1) (hr : W.1 (10, 0, k) 4 ≤ 2) (hy : ∀ c, c < 8 → y ≠ nI c) : fM_read (nI k) y τ = some (-1, τ) := by
  unfold fM_read
  rw [z_let, m_doesLead h hk hf hr, z_bde]
  by_cases c1 : W.1 (10, 0, k) 1 = 0 ∧ W.1 (10, 0, k) 4 = 2
  · rw [if_pos c1, if_neg (by decide), m_isInO (n := 8) τ rfl (by decide +kernel) (by decide) (by decide) hy, z_bde, if_pos rfl]
  · rw [if_neg c1, if_pos rfl]
end mread2
