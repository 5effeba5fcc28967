/-! history: note, of both -/
theorem i32_tr {a b c : Int32} (h1 : a ≤ b) (h2 : b ≤ c) : a ≤ c := by
  rw [Int32.le_iff_toInt_le] at h1 h2 ⊢
  omega
set_option maxHeartbeats 1000000 in
theorem c_note {σ τ : zS} (h : zH_r σ τ) (x1 x2 x3 x4 x5 : Int32) : ∃ r ρ π, fX_note x1 x2 x3 x4 x5 σ = some (r, ρ) ∧ fM_note x1 x2 x3 x4 x5 τ = some (r, π) ∧ zH_r ρ π ∧ (ρ = σ ∨ ρ.1 (40, 0, 0) 8 = 0) ∧ (∀ z : zJ, (z.1 < 40 ∨ 45 < z.1) → ρ.1 z = σ.1 z) ∧ (∀ z : zJ, z ≠ (100, 0, 0) → (z.1 < 110 ∨ 114 < z.1) → π.1 z = τ.1 z) ∧ (∀ k, k ≠ 26 → π.1 (100, 0, 0) k = τ.1 (100, 0, 0) k) ∧ π.2 = τ.2 := by
  have same : ∀ r, fX_note x1 x2 x3 x4 x5 σ = some (r, σ) → fM_note x1 x2 x3 x4 x5 τ = some (r, τ) → ∃ r ρ π, fX_note x1 x2 x3 x4 x5 σ = some (r, ρ) ∧ fM_note x1 x2 x3 x4 x5 τ = some (r, π) ∧ zH_r ρ π ∧ (ρ = σ ∨ ρ.1 (40, 0, 0) 8 = 0) ∧ (∀ z : zJ, (z.1 < 40 ∨ 45 < z.1) → ρ.1 z = σ.1 z) ∧ (∀ z : zJ, z ≠ (100, 0, 0) → (z.1 < 110 ∨ 114 < z.1) → π.1 z = τ.1 z) ∧ (∀ k, k ≠ 26 → π.1 (100, 0, 0) k = τ.1 (100, 0, 0) k) ∧ π.2 = τ.2 := fun r a b => ⟨r, σ, τ, a, b, h, Or.inl rfl, fun _ _ => rfl, fun _ _ _ => rfl, fun _ _ => rfl, rfl⟩
  obtain ⟨n, h1, h2, h3, h4⟩ := h
  by_cases c1 : x1 < 0
  · refine same (-1) ?_ ?_
    · unfold fX_note; rw [if_pos c1]
    · unfold fM_note
      rw [eM_isIn, if_neg (fun q => i32_nlt.mpr q.1 c1), z_bde, if_pos rfl]
  by_cases c2 : x2 < x1
  · refine same (-1) ?_ ?_
    · unfold fX_note; rw [if_neg c1, if_pos c2]
    · unfold fM_note
      rw [eM_isIn, z_bde]
      by_cases d : 0 ≤ x1 ∧ x1 ≤ 9999
      · rw [if_pos d, if_neg (by decide), eM_isIn, if_neg (fun q => i32_nlt.mpr q.1 c2), z_bde, if_pos rfl]
      · rw [if_neg d, if_pos rfl]
  by_cases c3 : 9999 < x2
  · refine same (-1) ?_ ?_
    · unfold fX_note; rw [if_neg c1, if_neg c2, if_pos c3]
    · unfold fM_note
      rw [eM_isIn, z_bde]
      by_cases d : 0 ≤ x1 ∧ x1 ≤ 9999
      · rw [if_pos d, if_neg (by decide), eM_isIn, if_neg (fun q => i32_nlt.mpr q.2 c3), z_bde, if_pos rfl]
      · rw [if_neg d, if_pos rfl]
  have e1 : 0 ≤ x1 := i32_nlt.mp c1
  have e2 : x1 ≤ x2 := i32_nlt.mp c2
  have e3 : x2 ≤ 9999 := i32_nlt.mp c3
  have mstart : fM_note x1 x2 x3 x4 x5 τ = z_bd (fM_isIn x3 0 3 τ) (fun r5 σ5 => if r5 = 0 then some (-1, σ5) else (if (σ5.1 (100, 0, 0) 26) = 9 then some (-1, σ5) else (if z_in (σ5.1 (100, 0, 0) 26) 9 = true then (z_let (z_up σ5 (110, 0, 0) ((σ5.1 (100, 0, 0) 26).toNatClampNeg) x1) (fun σ9 => if z_in (σ9.1 (100, 0, 0) 26) 9 = true then (z_let (z_up σ9 (111, 0, 0) ((σ9.1 (100, 0, 0) 26).toNatClampNeg) x2) (fun σ11 => if z_in (σ11.1 (100, 0, 0) 26) 9 = true then (z_let (z_up σ11 (112, 0, 0) ((σ11.1 (100, 0, 0) 26).toNatClampNeg) x3) (fun σ13 => if z_in (σ13.1 (100, 0, 0) 26) 9 = true then (z_let (z_up σ13 (113, 0, 0) ((σ13.1 (100, 0, 0) 26).toNatClampNeg) x4) (fun σ15 => if z_in (σ15.1 (100, 0, 0) 26) 9 = true then (z_let (z_up σ15 (114, 0, 0) ((σ15.1 (100, 0, 0) 26).toNatClampNeg) x5) (fun σ17 => z_let (z_up σ17 (100, 0, 0) 26 ((σ17.1 (100, 0, 0) 26) + 1)) (fun σ18 => some ((σ18.1 (100, 0, 0) 26) - 1, σ18)))) else none)) else none)) else none)) else none)) else none))) := by
    unfold fM_note
    rw [eM_isIn, if_pos ⟨e1, i32_tr e2 e3⟩, z_bde, if_neg (by decide), eM_isIn, if_pos ⟨e2, e3⟩, z_bde, if_neg (by decide)]
  have xstart : fX_note x1 x2 x3 x4 x5 σ = z_bd (fX_isWhat x3 σ) (fun r4 σ4 => if r4 = 0 then some (-1, σ4) else (z_bd (fH_isFull σ4) (fun r6 σ6 => if r6 = 0 then (z_bd (fH_add x1 x2 x3 x4 x5 σ6) (fun r8 σ8 => some (r8, σ8))) else some (-1, σ6)))) := by
    unfold fX_note
    rw [if_neg c1, if_neg c2, if_neg c3]
  rw [eM_isIn, z_bde] at mstart
  rw [eX_isWhat, z_bde] at xstart
  by_cases c4 : 0 ≤ x3 ∧ x3 ≤ 3
  · rw [if_pos c4, if_neg (by decide), h3] at mstart
    rw [if_pos c4, if_neg (by decide)] at xstart
    unfold fH_isFull at xstart
    rw [h2] at xstart
    by_cases c5 : n = 9
    · subst c5
      rw [if_pos (by decide +kernel)] at mstart
      rw [if_neg (by decide +kernel), z_bde, if_neg (by decide)] at xstart
      exact same (-1) xstart mstart
    · have n9 : n < 9 := by omega
      have g : z_in (nI n) 9 = true := nI_inz n9 (by decide)
      have kc : (nI n).toNatClampNeg = n := nI_clamp (by omega)
      have nlt : nI n < 9 := by
        rw [show (9 : Int32) = nI 9 from by decide +kernel]
        exact nI_lt n9 (by decide)
      have nne : ¬ nI n = 9 := by
        rw [show (9 : Int32) = nI 9 from by decide +kernel]
        exact fun q => c5 ((nI_eq (by omega) (by decide)).mp q)
      rw [if_pos nlt, z_bde, if_pos rfl] at xstart
      obtain ⟨ρ, q1, q2, q3, q4, q5, q6, q7, q8, q9⟩ := eH_addX (σ := σ) (n := n) x1 x2 x3 x4 x5 n9 h2
      rw [q1, z_bde] at xstart
      have m1 : ∀ (t : zS) (q : zJ) (i : Nat) (x : Int32), q ≠ (100, 0, 0) → (z_up t q i x).1 (100, 0, 0) = t.1 (100, 0, 0) := fun t q i x hq => z_up_n t i x (fun hh => hq hh.symm)
      obtain ⟨T, eT⟩ : ∃ T, T = z_up (z_up (z_up (z_up (z_up τ (110, 0, 0) n x1) (111, 0, 0) n x2) (112, 0, 0) n x3) (113, 0, 0) n x4) (114, 0, 0) n x5 := ⟨_, rfl⟩
      have T100 : T.1 (100, 0, 0) = τ.1 (100, 0, 0) := by
        rw [eT, m1 _ _ _ _ (by decide), m1 _ _ _ _ (by decide), m1 _ _ _ _ (by decide), m1 _ _ _ _ (by decide), m1 _ _ _ _ (by decide)]
      have mend : fM_note x1 x2 x3 x4 x5 τ = some (nI n, z_up T (100, 0, 0) 26 (nI (n + 1))) := by
        rw [mstart, if_neg nne, if_pos g, kc]
        simp only [z_let, m1 _ (110, 0, 0) _ _ (by decide), m1 _ (111, 0, 0) _ _ (by decide), m1 _ (112, 0, 0) _ _ (by decide), m1 _ (113, 0, 0) _ _ (by decide), m1 _ (114, 0, 0) _ _ (by decide), h3, g, kc, if_true, nI_1]
        rw [← eT, z_up_s, upd_s, nI_pred]
      have rows : ∀ (q : Nat), q ≠ 100 → (z_up T (100, 0, 0) 26 (nI (n + 1))).1 (q, 0, 0) = T.1 (q, 0, 0) := fun q hq => z_up_n _ _ _ (by simp [hq])
      have t110 : T.1 (110, 0, 0) = upd (τ.1 (110, 0, 0)) n x1 := by
        rw [eT, z_up_n _ _ _ (by decide), z_up_n _ _ _ (by decide), z_up_n _ _ _ (by decide), z_up_n _ _ _ (by decide), z_up_s]
      have t111 : T.1 (111, 0, 0) = upd (τ.1 (111, 0, 0)) n x2 := by
        rw [eT, z_up_n _ _ _ (by decide), z_up_n _ _ _ (by decide), z_up_n _ _ _ (by decide), z_up_s, z_up_n _ _ _ (by decide)]
      have t112 : T.1 (112, 0, 0) = upd (τ.1 (112, 0, 0)) n x3 := by
        rw [eT, z_up_n _ _ _ (by decide), z_up_n _ _ _ (by decide), z_up_s, z_up_n _ _ _ (by decide), z_up_n _ _ _ (by decide)]
      have t113 : T.1 (113, 0, 0) = upd (τ.1 (113, 0, 0)) n x4 := by
        rw [eT, z_up_n _ _ _ (by decide), z_up_s, z_up_n _ _ _ (by decide), z_up_n _ _ _ (by decide), z_up_n _ _ _ (by decide)]
      have t114 : T.1 (114, 0, 0) = upd (τ.1 (114, 0, 0)) n x5 := by
        rw [eT, z_up_s, z_up_n _ _ _ (by decide), z_up_n _ _ _ (by decide), z_up_n _ _ _ (by decide), z_up_n _ _ _ (by decide)]
      refine ⟨nI n, ρ, z_up T (100, 0, 0) 26 (nI (n + 1)), xstart, mend, ⟨n + 1, by omega, q2, ?_, fun j hj => ?_⟩, Or.inr q3, q9, fun z z1 z2 => ?_, fun k hk => ?_, ?_⟩
      · rw [z_up_s, upd_s]
      · rw [q4, q5, q6, q7, q8, rows 110 (by decide), rows 111 (by decide), rows 112 (by decide), rows 113 (by decide), rows 114 (by decide), t110, t111, t112, t113, t114]
        by_cases ej : j = n
        · rw [ej, upd_s, upd_s, upd_s, upd_s, upd_s, upd_s, upd_s, upd_s, upd_s, upd_s]
          exact ⟨rfl, rfl, rfl, rfl, rfl, e2, c4.1, c4.2⟩
        · rw [upd_n _ _ ej, upd_n _ _ ej, upd_n _ _ ej, upd_n _ _ ej, upd_n _ _ ej, upd_n _ _ ej, upd_n _ _ ej, upd_n _ _ ej, upd_n _ _ ej, upd_n _ _ ej]
          exact h4 j (by omega)
      · have hne : ∀ q : Nat, 110 ≤ q → q ≤ 114 → z ≠ (q, 0, 0) := fun q r1 r2 hh => by
          rw [hh] at z2
          rcases z2 with z3 | z3
          · exact absurd z3 (by show ¬ q < 110; omega)
          · exact absurd z3 (by show ¬ 114 < q; omega)
        rw [z_up_n _ _ _ z1, eT, z_up_n _ _ _ (hne 114 (by decide) (by decide)), z_up_n _ _ _ (hne 113 (by decide) (by decide)), z_up_n _ _ _ (hne 112 (by decide) (by decide)), z_up_n _ _ _ (hne 111 (by decide) (by decide)), z_up_n _ _ _ (hne 110 (by decide) (by decide))]
      · rw [z_up_s, upd_n _ _ hk, T100]
      · rw [eT]; rfl
  · rw [if_neg c4, if_pos rfl] at mstart xstart
    exact same (-1) xstart mstart
