/-! the calls keep the relation -/
theorem st_feed : zl_st_feed yREL := by
  intro bl σ τ n hn h x1 x2 x3 x4 x5
  have hn : n < 512 := by omega
  obtain ⟨W, rfl, R⟩ := h
  obtain ⟨r, ρ, π, e1, e2, e3, e4, e5, e6, e7⟩ := eT_feed R.2.2.1.1 x1 x2 x3 x4 x5
  refine ⟨r, ρ, π, e1, e2, yR_io R (fun z hz => e4 z (fun q => by rw [q] at hz; simp at hz) (fun q => by rw [q] at hz; simp at hz)) (fun z z1 z2 => e5 z (fun q => by rw [q] at z1; simp at z1) (fun q => by rw [q] at z1; simp at z1)) (e6 12 (by decide)) e3 ?_ ?_⟩
  · have H := R.2.2.1.2.1
    unfold zH_r at H ⊢
    rw [e4 (40, 0, 0) (by decide) (by decide), e4 (41, 0, 0) (by decide) (by decide), e4 (42, 0, 0) (by decide) (by decide), e4 (43, 0, 0) (by decide) (by decide), e4 (44, 0, 0) (by decide) (by decide), e4 (45, 0, 0) (by decide) (by decide), e6 26 (by decide), e5 (110, 0, 0) (by decide) (by decide), e5 (111, 0, 0) (by decide) (by decide), e5 (112, 0, 0) (by decide) (by decide), e5 (113, 0, 0) (by decide) (by decide), e5 (114, 0, 0) (by decide) (by decide)]
    exact H
  · have J := R.2.2.1.2.2
    unfold yhJ yhD at J ⊢
    rw [yhHs_c (fun z z1 _ => e4 z (fun q => by rw [q] at z1; simp at z1) (fun q => by rw [q] at z1; simp at z1)), e4 (40, 0, 0) (by decide) (by decide), e4 (46, 0, 0) (by decide) (by decide)]
    exact J
theorem st_end : zl_st_end yREL := by
  intro bl σ τ n hn h x1
  have hn : n < 512 := by omega
  obtain ⟨W, rfl, R⟩ := h
  obtain ⟨r, ρ, π, e1, e2, e3, e4, e5, e6, e7⟩ := eT_end R.2.2.1.1 x1
  refine ⟨r, ρ, π, e1, e2, yR_io R (fun z hz => e4 z (fun q => by rw [q] at hz; simp at hz)) (fun z z1 z2 => e5 z (fun q => by rw [q] at z1; simp at z1)) (e6 12 (by decide)) e3 ?_ ?_⟩
  · have H := R.2.2.1.2.1
    unfold zH_r at H ⊢
    rw [e4 (40, 0, 0) (by decide), e4 (41, 0, 0) (by decide), e4 (42, 0, 0) (by decide), e4 (43, 0, 0) (by decide), e4 (44, 0, 0) (by decide), e4 (45, 0, 0) (by decide), e6 26 (by decide), e5 (110, 0, 0) (by decide), e5 (111, 0, 0) (by decide), e5 (112, 0, 0) (by decide), e5 (113, 0, 0) (by decide), e5 (114, 0, 0) (by decide)]
    exact H
  · have J := R.2.2.1.2.2
    unfold yhJ yhD at J ⊢
    rw [yhHs_c (fun z z1 _ => e4 z (fun q => by rw [q] at z1; simp at z1)), e4 (40, 0, 0) (by decide), e4 (46, 0, 0) (by decide)]
    exact J
theorem st_fault : zl_st_fault yREL := by
  intro bl σ τ n hn h x1
  have hn : n < 512 := by omega
  obtain ⟨W, rfl, R⟩ := h
  obtain ⟨r, e1, e2⟩ := eT_fault R.2.2.1.1 x1
  exact ⟨r, _, _, e1, e2, yRc_m R⟩
theorem st_note : zl_st_note yREL := by
  intro bl σ τ n hn h x1 x2 x3 x4 x5
  have hn : n < 512 := by omega
  obtain ⟨W, rfl, R⟩ := h
  obtain ⟨r, ρ, π, e1, e2, e3, e4, e5, e6, e7, e8⟩ := c_note R.2.2.1.2.1 x1 x2 x3 x4 x5
  refine ⟨r, ρ, π, e1, e2, yR_io R (fun z hz => e5 z (hz.elim (fun q => Or.inl (by omega)) (fun q => by rw [q]; exact Or.inl (by decide)))) (fun z z1 z2 => e6 z (fun q => by rw [q] at z1; simp at z1) (Or.inl (by omega))) (e7 12 (by decide)) ?_ e3 ?_⟩
  · have T := R.2.2.1.1
    unfold zT_r at T ⊢
    rw [e5 (31, 0, 0) (Or.inl (by decide)), e5 (32, 0, 0) (Or.inl (by decide)), e7 5 (by decide), e7 7 (by decide), e7 8 (by decide), e6 (101, 0, 0) (by decide) (Or.inl (by decide))]
    exact T
  · rcases e4 with q | q
    · rw [q]; exact R.2.2.1.2.2
    · exact Or.inl q
theorem st_hush : zl_st_hush yREL := by
  intro bl σ τ n hn h
  have hn : n < 512 := by omega
  obtain ⟨W, rfl, R⟩ := h
  obtain ⟨r, ρ, π, e1, e2, e3, e4, e5, e6, e7, e8⟩ := eH_hush R.2.2.1.2.1
  refine ⟨r, ρ, π, e1, e2, yR_io R (fun z hz => e5 z (fun q => by rw [q] at hz; simp at hz)) (fun z z1 z2 => e6 z (fun q => by rw [q] at z1; simp at z1)) (e7 12 (by decide)) ?_ e3 (Or.inl e4)⟩
  have T := R.2.2.1.1
  unfold zT_r at T ⊢
  rw [e5 (31, 0, 0) (by decide), e5 (32, 0, 0) (by decide), e7 5 (by decide), e7 7 (by decide), e7 8 (by decide), e6 (101, 0, 0) (by decide)]
  exact T
theorem st_jo {bl : Nat → Bool} {W : yW} {τ ρ π : zS} {n : Nat} (R : yRc bl W τ n) (e3 : zH_r ρ π) (e4 : yhJ ρ) (e5 : ∀ z : zJ, (z.1 < 40 ∨ 47 < z.1) → ρ.1 z = (cE W).1 z) (e7 : yhU τ π) : yREL bl ρ π (n + 1) := by
  refine yR_io R (fun z hz => e5 z (hz.elim (fun q => Or.inl (by omega)) (fun q => by rw [q]; exact Or.inl (by decide)))) (fun z z1 z2 => e7.1 z (fun q => by rw [q] at z2; simp at z2) (fun q => by rw [q] at z2; simp at z2)) (by rw [e7.1 (100, 0, 0) (by decide) (by decide)]) ?_ e3 e4
  have T := R.2.2.1.1
  unfold zT_r at T ⊢
  rw [e5 (31, 0, 0) (Or.inl (by decide)), e5 (32, 0, 0) (Or.inl (by decide)), e7.1 (100, 0, 0) (by decide) (by decide), e7.1 (101, 0, 0) (by decide) (by decide)]
  exact T
theorem st_judge : zl_st_judge yREL := by
  intro bl σ τ n hn h
  have hn : n < 512 := by omega
  obtain ⟨W, rfl, R⟩ := h
  obtain ⟨r, ρ, π, e1, e2, e3, e4, e5, e6, e7⟩ := c_judge R.2.2.1.2.1 R.2.2.1.2.2
  exact ⟨r, ρ, π, e1, e2, st_jo R e3 e4 e5 e7⟩
theorem st_order : zl_st_order yREL := by
  intro bl σ τ n hn h x
  have hn : n < 512 := by omega
  obtain ⟨W, rfl, R⟩ := h
  obtain ⟨r, ρ, π, e1, e2, e3, e4, e5, e6, e7⟩ := c_order R.2.2.1.2.1 R.2.2.1.2.2 x
  exact ⟨r, ρ, π, e1, e2, st_jo R e3 e4 e5 e7⟩
section ycallsR
variable {bl : Nat → Bool} {W : yW} {τ : zS} {n : Nat}
theorem yF5 (hn : n < 512) (R : yRc bl W τ n) : ∀ z i, W.1 z i < 50000 := fun z i => by have := yFB hn R z i; omega
theorem yF4 (hn : n < 512) (R : yRc bl W τ n) : ∀ z i, W.1 z i < 40000 := fun z i => by have := yFB hn R z i; omega
theorem yKos (R : yRc bl W τ n) : ∀ k, k < W.1 (0, 0, 0) 3 → yKo W k := fun k hk => (yFk R.1 hk).2.2.2.2.2.2.2.2.2.2.2.2
end ycallsR
theorem st_good_w {bl : Nat → Bool} {σ τ : zS} {n : Nat} (hn : n < 512) (h : yREL bl σ τ n) (x : Int32) : ∃ (r r2 : Int32) (ρ π : zS), fX_good x σ = some (r, ρ) ∧ fM_good x τ = some (r2, π) ∧ yREL bl ρ π (n + 1) ∧ (σ.1 (4, 0, 0) 4 = 0 → r = r2) := by
  obtain ⟨W, rfl, R⟩ := h
  obtain ⟨r, r2, e1, e2, e3⟩ := c_good R.2.1 (yF5 hn R) (yKos R) (R.1.2.2.1 0).2.2.2 R.1.2.2.2.2.2.2.2.1 x
  refine ⟨r, r2, _, _, e1, e2, yRc_m R, fun q => e3 ?_⟩
  have b := yF5 hn R (4, 0, 0) 4
  have q : nI (W.1 (4, 0, 0) 4) = 0 := q
  exact (nI_eq (by omega) (by omega)).mp (q.trans nI_0.symm)
theorem st_keeper : zl_st_keeper yREL := by
  intro bl σ τ n hn h x y
  have hn : n < 512 := by omega
  obtain ⟨W, rfl, R⟩ := h
  obtain ⟨r, e1, e2⟩ := c_keeper R.2.1 (yKos R) x y
  exact ⟨r, _, _, e1, e2, yRc_m R⟩
theorem st_entry : zl_st_entry yREL := by
  intro bl σ τ n hn h x y w
  have hn : n < 512 := by omega
  obtain ⟨W, rfl, R⟩ := h
  obtain ⟨r, e1, e2⟩ := c_entry R.2.1 (R.1.2.2.1 0) (yF5 hn R) x y w
  exact ⟨r, _, _, e1, e2, yRc_m R⟩
theorem st_state : zl_st_state yREL := by
  intro bl σ τ n hn h x y
  have hn : n < 512 := by omega
  obtain ⟨W, rfl, R⟩ := h
  obtain ⟨r, e1, e2⟩ := c_state R.2.1 x y
  exact ⟨r, _, _, e1, e2, yRc_m R⟩
theorem st_client : zl_st_client yREL := by
  intro bl σ τ n hn h x y w
  have hn : n < 512 := by omega
  obtain ⟨W, rfl, R⟩ := h
  obtain ⟨r, e1, e2⟩ := c_client R.2.1 x y w
  exact ⟨r, _, _, e1, e2, yRc_m R⟩
theorem st_peer : zl_st_peer yREL := by
  intro bl σ τ n hn h x y w
  have hn : n < 512 := by omega
  obtain ⟨W, rfl, R⟩ := h
  obtain ⟨r, e1, e2⟩ := c_peer R.2.1 (yKos R) x y w
  exact ⟨r, _, _, e1, e2, yRc_m R⟩
theorem st_slot : zl_st_slot yREL := by
  intro bl σ τ n hn h x y
  have hn : n < 512 := by omega
  obtain ⟨W, rfl, R⟩ := h
  obtain ⟨r, e1, e2⟩ := c_slot R.2.1 (yF5 hn R) x y
  exact ⟨r, _, _, e1, e2, yRc_m R⟩
theorem st_about : zl_st_about yREL := by
  intro bl σ τ n hn h x
  have hn : n < 512 := by omega
  obtain ⟨W, rfl, R⟩ := h
  have hT : (cE W).1 (31, 0, 0) 4 = τ.1 (100, 0, 0) 5 := by
    obtain ⟨⟨t, -, t2, t3, -⟩, -⟩ := R.2.2.1.1
    rw [t2, t3]
  have hH : (cE W).1 (40, 0, 0) 7 = τ.1 (100, 0, 0) 26 := by
    obtain ⟨t, -, t2, t3, -⟩ := R.2.2.1.2.1
    rw [t2, t3]
  obtain ⟨r, e1, e2⟩ := c_about R.2.1 (yF5 hn R) (fun k _ => (R.1.2.2.2.1 0 k).2.1) hT hH x
  exact ⟨r, _, _, e1, e2, yRc_m R⟩
theorem st_drop : zl_st_drop yREL := by
  intro bl σ τ n hn h x
  have hn : n < 512 := by omega
  obtain ⟨W, rfl, R⟩ := h
  rcases x_orS x with ⟨s, hs, rfl⟩ | hx
  · have e := x_drop W hs (yF5 hn R)
    obtain ⟨m1, m2⟩ := m_drop R.2.1 (R.1.2.2.1 0) (yF5 hn R) hs
    by_cases c : W.1 (20, 0, s) 0 = 0
    · rw [if_pos c] at e
      exact ⟨_, _, _, e, m1 c, yRc_m R⟩
    · rw [if_neg c] at e
      obtain ⟨τ', e1, e2⟩ := m2 c
      exact ⟨_, _, _, e, e1, yR_act' R (yKp_drop (yKp_self R.1 (Nat.le_refl _))) (by omega) (i_drop R.1.2.2.2.2) e2⟩
  · exact ⟨_, _, _, x_dropN W hx, m_dropN τ hx, yRc_m R⟩
theorem st_twice : zl_st_twice yREL := by
  intro bl σ τ n hn h x
  have hn : n < 512 := by omega
  obtain ⟨W, rfl, R⟩ := h
  rcases x_orS x with ⟨s, hs, rfl⟩ | hx
  · have e := x_twice W hs (yF5 hn R)
    obtain ⟨m1, m2⟩ := m_twice R.2.1 (R.1.2.2.1 0) (yF5 hn R) hs
    cases es : sEmp W with
    | none =>
      rw [es] at e
      exact ⟨_, _, _, e, m1 (Or.inr es), yRc_m R⟩
    | some q =>
      rw [es] at e
      have e : fX_twice (nI s) (cE W) = if W.1 (20, 0, s) 0 = 0 then some (-1, cE W) else some (nI q, cE (sCopyL 0 q 0 s W)) := e
      by_cases c : W.1 (20, 0, s) 0 = 0
      · rw [if_pos c] at e
        exact ⟨_, _, _, e, m1 (Or.inl c), yRc_m R⟩
      · rw [if_neg c] at e
        obtain ⟨τ', e1, e2⟩ := m2 q c es
        exact ⟨_, _, _, e, e1, yR_act' R (yKp_copyL (yKp_self R.1 (Nat.le_refl _))) (by omega) (i_twice hs R.1.2.2.2.2) e2⟩
  · exact ⟨_, _, _, x_twiceN W (fun z i => by have := yFB hn R z i; omega) hx, m_twiceN τ hx, yRc_m R⟩
theorem st_fall : zl_st_fall yREL := by
  intro bl σ τ n hn h x
  have hn : n < 512 := by omega
  obtain ⟨W, rfl, R⟩ := h
  rcases x_orK W x with ⟨k, hk, rfl⟩ | hx
  · have f1 := (R.1.2.2.2.1 0 k).2.1
    have e := x_fall W (yFN R) hk f1
    obtain ⟨m1, m2⟩ := m_fall R.2.1 (R.1.2.2.1 0) hk f1
    by_cases c : W.1 (10, 0, k) 1 = 0
    · rw [if_pos c] at e
      obtain ⟨τ', e1, e2⟩ := m2 c
      exact ⟨_, _, _, e, e1, yR_act' R (yKp_fall (yKp_self R.1 (Nat.le_refl _)) (by omega)) (by omega) (i_fall hk R.1.2.2.2.2) e2⟩
    · rw [if_neg c] at e
      exact ⟨_, _, _, e, m1 c, yRc_m R⟩
  · refine ⟨0, _, _, ?_, m_fallN R.2.1 hx, yRc_m R⟩
    unfold fX_fall
    rw [x_noUp W (yFN R) hx, z_bde]
    rfl
theorem st_rise : zl_st_rise yREL := by
  intro bl σ τ n hn h x
  have hn : n < 512 := by omega
  obtain ⟨W, rfl, R⟩ := h
  rcases x_orK W x with ⟨k, hk, rfl⟩ | hx
  · have f1 := (R.1.2.2.2.1 0 k).2.1
    have e := x_rise W (yFN R) hk f1
    obtain ⟨m1, m2⟩ := m_rise R.2.1 (R.1.2.2.1 0) hk f1
    by_cases c : W.1 (10, 0, k) 1 = 0
    · rw [if_pos c] at e
      exact ⟨_, _, _, e, m1 c, yRc_m R⟩
    · rw [if_neg c] at e
      obtain ⟨τ', e1, e2⟩ := m2 c
      exact ⟨_, _, _, e, e1, yR_act' R (yKp_rise (yKp_self R.1 (Nat.le_refl _))) (by omega) (i_rise hk c R.1.2.2.2.2) e2⟩
  · refine ⟨0, _, _, ?_, m_riseN R.2.1 hx, yRc_m R⟩
    unfold fX_rise
    rw [x_noKeeper W (yFN R) hx, z_bde]
    rfl
theorem st_ask : zl_st_ask yREL := by
  intro bl σ τ n hn h x
  have hn : n < 512 := by omega
  obtain ⟨W, rfl, R⟩ := h
  rcases x_orK W x with ⟨k, hk, rfl⟩ | hx
  · obtain ⟨k7, N7, V7, f5, f8, f40, f9, f1, f4, -, -, ft, -⟩ := yFk R.1 hk
    obtain ⟨e1, e2⟩ := x_ask W (yF5 hn R) N7 hk (by omega) f40 V7
    obtain ⟨m1, m2⟩ := m_ask R.2.1 (R.1.2.2.1 0) R.1.2.1 (yFB hn R) hk f1 f4 f5 f8 ft R.1.2.2.2.2.1.2.1
    by_cases c : sAskC k W
    · obtain ⟨τ', t1, t2⟩ := m1 c
      exact ⟨_, _, _, e1 c, t1, yR_act' R (yKp_ask (yKp_self R.1 (Nat.le_refl _)) (by omega) hk) (by omega) (i_ask hk c R.1.2.2.2.2) t2⟩
    · exact ⟨_, _, _, e2 c, m2 c, yRc_m R⟩
  · refine ⟨-1, _, _, ?_, m_askN R.2.1 hx, yRc_m R⟩
    unfold fX_ask
    rw [x_noKeeper W (yFN R) hx, z_bde]
    rfl
theorem st_command : zl_st_command yREL := by
  intro bl σ τ n hn h x a b c d v
  have hn : n < 512 := by omega
  obtain ⟨W, rfl, R⟩ := h
  rcases x_orK W x with ⟨k, hk, rfl⟩ | hx
  · obtain ⟨k7, N7, V7, f5, f8, f40, f9, f1, f4, -, -, ft, -⟩ := yFk R.1 hk
    by_cases cc : yCan a b c d
    · obtain ⟨n1, n2, n3, n4, rfl, rfl, rfl, rfl, c1, c2, c3, c4, c5⟩ := cc
      have e := x_command (v := v) W N7 hk (yF4 hn R) R.1.2.1 f1 f4 V7 f5 f8 f40 c1 c2 c3 c4 c5
      obtain ⟨m1, m2⟩ := m_command (v := v) R.2.1 (R.1.2.2.1 0) R.1.2.1 (yF4 hn R) hk f1 f4 f5 f8 c1 c2 c3 c4 c5
      by_cases q : W.1 (10, 0, k) 1 = 0 ∧ W.1 (10, 0, k) 4 = 2 ∧ W.1 (10, 0, k) 7 < W.1 (10, 0, k) 5 + 40
      · rw [if_pos q] at e
        obtain ⟨τ', t1, t2⟩ := m1 q
        exact ⟨_, _, _, e, t1, yR_act' R (yKp_settle (yKp_cmd (yKp_self R.1 (Nat.le_refl _)) q.2.2 c1 (by omega) (by omega) c5 (by omega))) (by omega) (i_command hk q.2.1 q.2.2 R.1.2.2.2.2) t2⟩
      · rw [if_neg q] at e
        exact ⟨_, _, _, e, m2 q, yRc_m R⟩
    · exact ⟨_, _, _, x_commandN W N7 hk f1 f4 cc, m_commandN R.2.1 hk f1 f4 cc, yRc_m R⟩
  · exact ⟨_, _, _, x_commandN1 W (yFN R) hx, m_commandN1 R.2.1 hx, yRc_m R⟩
theorem st_append : zl_st_append yREL := by
  intro bl σ τ n hn h x y
  have hn : n < 512 := by omega
  obtain ⟨W, rfl, R⟩ := h
  rcases x_orK W x with ⟨k, hk, rfl⟩ | hx
  · obtain ⟨k7, N7, V7, f5, f8, f40, f9, f1, f4, f2, -, ft, -⟩ := yFk R.1 hk
    rcases x_orK W y with ⟨o, ho, rfl⟩ | hy
    · have e := x_append W N7 hk ho (yF4 hn R) f1 f4 (by omega) f40 (fun q => ((f2 q).1 o ho).2)
      by_cases q : W.1 (10, 0, k) 1 = 0 ∧ W.1 (10, 0, k) 4 = 2 ∧ k ≠ o
      · rw [if_pos q] at e
        cases es : sEmp W with
        | none =>
          rw [es] at e
          exact ⟨_, _, _, e, m_appendN R.2.1 (yF5 hn R) hk ho f1 f4 (Or.inr es), yRc_m R⟩
        | some s =>
          rw [es] at e
          obtain ⟨τ', t1, t2⟩ := m_append R.2.1 (R.1.2.2.1 0) R.1.2.1 (yFB hn R) hk ho q.2.2 q.1 q.2.1 f5 f8 ((f2 q.2.1).1 o ho).1 ((f2 q.2.1).1 o ho).2 es (f2 q.2.1).2
          exact ⟨_, _, _, e, t1, yR_act' R (yKp_send (yKp_self R.1 (Nat.le_refl _)) (by omega) k7 (by omega)) (by omega) (i_append hk ho q.2.1 f40 R.1.2.2.2.2) t2⟩
      · rw [if_neg q] at e
        exact ⟨_, _, _, e, m_appendN R.2.1 (yF5 hn R) hk ho f1 f4 (Or.inl q), yRc_m R⟩
    · exact ⟨_, _, _, x_appendN2 W N7 hk f1 f4 hy, m_appendN2 R.2.1 hk f1 f4 hy, yRc_m R⟩
  · exact ⟨_, _, _, x_appendN1 W (yFN R) hx, m_appendN1 R.2.1 hx, yRc_m R⟩
theorem st_fold : zl_st_fold yREL := by
  intro bl σ τ n hn h x y
  have hn : n < 512 := by omega
  obtain ⟨W, rfl, R⟩ := h
  rcases x_orK W x with ⟨k, hk, rfl⟩ | hx
  · obtain ⟨k7, N7, V7, f5, f8, f40, f9, f1, f4, f2, -, ft, -⟩ := yFk R.1 hk
    by_cases q : W.1 (10, 0, k) 1 = 0 ∧ ∃ e, W.1 (10, 0, k) 5 < e ∧ e ≤ W.1 (10, 0, k) 8 ∧ y = nI e
    · obtain ⟨q0, e, q1, q2, rfl⟩ := q
      obtain ⟨τ', t1, t2⟩ := m_fold R.2.1 (R.1.2.2.1 0) R.1.2.1 (yF4 hn R) hk q0 f4 q1 q2 f8 (fun q => (f2 q).2)
      have b8 := R.1.1 (10, 0, k) 8
      exact ⟨_, _, _, x_fold W N7 hk (yF4 hn R) R.1.2.1 q0 q1 q2 f8 f40, t1, yR_act' R (yKp_foldTo (yKp_self R.1 (Nat.le_refl _)) (by omega)) (by omega) (i_fold hk q1 q2 f40 R.1.2.2.2.2) t2⟩
    · have q' : W.1 (10, 0, k) 1 ≠ 0 ∨ ∀ e, W.1 (10, 0, k) 5 < e → e ≤ W.1 (10, 0, k) 8 → y ≠ nI e := by
        by_cases c : W.1 (10, 0, k) 1 = 0
        · exact Or.inr (fun e q1 q2 q3 => q ⟨c, e, q1, q2, q3⟩)
        · exact Or.inl c
      exact ⟨_, _, _, x_foldN W N7 hk (yF4 hn R) f1 q', m_foldN R.2.1 (yF4 hn R) hk f1 q', yRc_m R⟩
  · exact ⟨_, _, _, x_foldN1 W (yFN R) hx, m_foldN1 R.2.1 hx, yRc_m R⟩
theorem st_read : zl_st_read yREL := by
  intro bl σ τ n hn h x y
  have hn : n < 512 := by omega
  obtain ⟨W, rfl, R⟩ := h
  rcases x_orK W x with ⟨k, hk, rfl⟩ | hx
  · obtain ⟨k7, N7, V7, f5, f8, f40, f9, f1, f4, f2, -, ft, -⟩ := yFk R.1 hk
    by_cases q : ∃ c, c < 8 ∧ y = nI c
    · obtain ⟨c, hc, rfl⟩ := q
      have e := x_read W N7 hk (yF4 hn R) f1 f4 f5 f8 f40 hc
      obtain ⟨m1, m2⟩ := m_read R.2.1 (R.1.2.2.1 0) (yF4 hn R) hk f1 f4 f5 f8 hc
      by_cases q : W.1 (10, 0, k) 1 = 0 ∧ W.1 (10, 0, k) 4 = 2 ∧ sTm W k (W.1 (10, 0, k) 8) = W.1 (10, 0, k) 2 ∧ W.1 (4, 0, 0) 4 < 40
      · rw [if_pos q] at e
        obtain ⟨τ', t1, t2⟩ := m1 q
        exact ⟨_, _, _, e, t1, yR_act' R (yKp_read (yKp_self R.1 (Nat.le_refl _)) (by omega) (by omega) q.2.2.2 (by omega)) (by omega) (i_read hc R.1.2.2.2.2) t2⟩
      · rw [if_neg q] at e
        exact ⟨_, _, _, e, m2 q, yRc_m R⟩
    · have q' : ∀ c, c < 8 → y ≠ nI c := fun c hc e => q ⟨c, hc, e⟩
      exact ⟨_, _, _, x_readN2 W N7 hk f1 f4 q', m_readN2 R.2.1 hk f1 f4 q', yRc_m R⟩
  · exact ⟨_, _, _, x_readN1 W (yFN R) hx, m_readN1 R.2.1 hx, yRc_m R⟩
theorem st_deliver : zl_st_deliver yREL := by
  intro bl σ τ n hn h x
  have hn : n < 512 := by omega
  obtain ⟨W, rfl, R⟩ := h
  rcases x_orS x with ⟨s, hs, rfl⟩ | hx
  · by_cases c : W.1 (20, 0, s) 0 = 0
    · refine ⟨-1, _, _, ?_, m_deliver0 R.2.1 (yF5 hn R) hs c, yRc_m R⟩
      unfold fX_deliver
      rw [x_isFull W hs (yF5 hn R), if_pos c, z_bde]
      rfl
    · have N7 := yFN R
      obtain ⟨L, len, lead, E, V, C, cl, ack, G, g⟩ := R.1.2.2.2.2.2.2.2.2
      have lt := g.2.2.1 s hs
      obtain ⟨p1, p2⟩ := lt.2.1 c
      have p1 : W.1 (20, 0, s) 1 < W.1 (0, 0, 0) 3 := p1
      have p2 : W.1 (20, 0, s) 2 < W.1 (0, 0, 0) 3 := p2
      obtain ⟨k7, -, V7, f5, f8, f40, f9, f1, f4, f2, -, ft, -⟩ := yFk R.1 p2
      have e := x_deliver W hs (yF4 hn R) R.1.2.1 N7 V7 c lt.1 p2 p1 (R.1.2.2.2.1 0 s).2.2 (fun k hk => by
        obtain ⟨-, -, -, g5, g8, g40, g9, g1, g4, g2, -⟩ := yFk R.1 hk
        exact ⟨g5, g8, g40, g9, g1, fun q o ho => ((g2 q).1 o ho).1⟩)
      obtain ⟨τ', H, t⟩ := m_deliver (Lf := L (W.1 (20, 0, s) 3)) R.2.1 (R.1.2.2.1 0) R.1.2.1 (fun z i => by have := yFB hn R z i; omega) hs c lt.1 p2 p1 (fun k hk => by
        obtain ⟨-, -, -, g5, g8, g40, g9, g1, g4, g2, g3, -⟩ := yFk R.1 hk
        exact ⟨g5, g8, g9, g1, g4, fun q o ho => ((g2 q).1 o ho).1, g3⟩) (R.1.2.2.2.2.2.2.1 s hs) (fun q => q.elim (fun q => (lt.2.2.2.1 q).1) (fun q => (lt.2.2.2.2.2.1 q).1)) (fun q1 q2 _ => i_hD hs p2 q1 q2 g) (fun q => i_hL hs q g)
      obtain ⟨i1, i2⟩ := i_deliver hs (fun k hk => (R.1.2.2.1 0).2.1 k) c (yF4 hn R) R.1.2.1 R.1.2.2.2.2
      have fr : ∀ W', mR (z_upR τ (109, 0, 0) H) τ' W' → ∀ z : zJ, z ≠ (103, 0, 0) → z ≠ (109, 0, 0) → τ'.1 z = τ.1 z := fun W' m z z1 z2 => by
        rw [m.2.2.1 z z1]
        exact (z_upR_o z z2).1
      by_cases q : W.1 (10, 0, W.1 (20, 0, s) 2) 1 = 0
      · rw [if_pos q] at e t
        have d40 : ∀ f, f < 9 → (sDel1 s W).1 (20, 0, 40) f = W.1 (20, 0, s) f := fun f hf' => by
          rw [sDel1_at, if_neg (by simp), if_neg (by simp), sOut_at, if_neg (by simp; omega), if_pos ⟨rfl, Nat.lt_succ_of_lt hf'⟩]
        have dk : ∀ f, f = 7 ∨ f = 8 → (sDel1 s W).1 (10, 0, W.1 (20, 0, s) 2) f = W.1 (10, 0, W.1 (20, 0, s) 2) f := fun f hf' => by
          rw [sDel1_at, if_neg (by omega), if_neg (by omega), sOut_at, if_neg (by simp), if_neg (by simp), if_neg (by simp), if_neg (by simp)]
        have d9 : (sDel1 s W).1 (10, 0, W.1 (20, 0, s) 2) 9 < 128 := by
          rw [sDel1_at]
          split
          · rename_i c; omega
          · split
            · decide
            · rw [sOut_at, if_neg (by simp), if_neg (by simp), if_neg (by simp), if_neg (by simp)]; exact f9
        exact ⟨_, _, _, e, t.1, yR_act R (yKp_gets (yKp_del1 (yKp_self R.1 (Nat.le_refl _))) (by omega) k7 (by rw [d40 1 (by decide)]; omega) (by rw [d40 0 (by decide)]; exact c) (by rw [d40 0 (by decide)]; exact lt.1) d9 (by rw [dk 8 (Or.inr rfl), dk 7 (Or.inl rfl)]; exact f8)) (by omega) i2 ⟨t.2.1, t.2.2.1⟩ (fr _ t.2)⟩
      · rw [if_neg q] at e t
        exact ⟨_, _, _, e, t.1, yR_act R (yKp_out (yKp_self R.1 (Nat.le_refl _))) (by omega) i1 ⟨t.2.1, t.2.2.1⟩ (fr _ t.2)⟩
  · refine ⟨-1, _, _, ?_, m_deliverN τ hx, yRc_m R⟩
    unfold fX_deliver
    rw [x_noSlot W hx, z_bde]
    rfl
