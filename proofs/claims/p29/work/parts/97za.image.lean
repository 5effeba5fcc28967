/-! image, back -/
theorem pWd_lt {t k i : Nat} (h : pWd t k i = true) : t < 24 := by
  by_cases c : t < 24
  · exact c
  · exfalso
    have e : pWd t k i = false := by
      simp only [pWd, pAdd, pC, pN, qK, qL, qR]
      rw [decide_eq_false (show ¬ t = 0 by omega), decide_eq_false (show ¬ t = 10 by omega), decide_eq_false (show ¬ t = 11 by omega), decide_eq_false (show ¬ t = 13 by omega), decide_eq_false (show ¬ t = 15 by omega), decide_eq_false (show ¬ t = 16 by omega), decide_eq_false (show ¬ t = 17 by omega), decide_eq_false (show ¬ t = 18 by omega), decide_eq_false (show ¬ t = 19 by omega), decide_eq_false (show ¬ t = 20 by omega), decide_eq_false (show ¬ t = 21 by omega), decide_eq_false (show ¬ t = 23 by omega), decide_eq_false (show ¬ t = 5 by omega), decide_eq_false (show ¬ t = 6 by omega), decide_eq_false (show ¬ t = 7 by omega), decide_eq_false (show ¬ t = 8 by omega), decide_eq_false (show ¬ t = 4 by omega)]
      simp
    rw [e] at h
    cases h
theorem y_b01 {V : yW} {w : Nat} (h : ∀ w k, V.1 (10, w, k) 0 ≤ 1 ∧ V.1 (10, w, k) 1 ≤ 1 ∧ V.1 (20, w, k) 6 ≤ 5) : ∀ k, k < 7 → z_b01 ((cE V).1 (10, w, k) 0) = true ∧ z_b01 ((cE V).1 (10, w, k) 1) = true := fun k _ => by
  obtain ⟨h0, h1, -⟩ := h w k
  rw [cE_1 (z := (10, w, k)) (i := 0) rfl, cE_1 (z := (10, w, k)) (i := 1) rfl]
  constructor
  · rcases (show V.1 (10, w, k) 0 = 0 ∨ V.1 (10, w, k) 0 = 1 by omega) with e | e <;> rw [e] <;> decide +kernel
  · rcases (show V.1 (10, w, k) 1 = 0 ∨ V.1 (10, w, k) 1 = 1 by omega) with e | e <;> rw [e] <;> decide +kernel
theorem yEn_cs {P : Nat → Nat → Nat → Bool} {w0 w1 : Nat} {W : yW} (h : yEn W) : yEn (yCs P w0 w1 W) := by
  intro w k i
  have e1 := yCs_or (P := P) (w0 := w0) (w1 := w1) W (11, w, k) i
  have e2 := yCs_or (P := P) (w0 := w0) (w1 := w1) W (21, w, k) i
  have a := h w k i
  have b := h w1 k i
  refine ⟨fun m => ⟨?_, ?_⟩, fun m => ⟨?_, ?_⟩⟩
  · rcases e1 with e | e <;> rw [e]
    · exact (a.1 m).1
    · exact (b.1 m).1
  · rcases e2 with e | e <;> rw [e]
    · exact (a.1 m).2
    · exact (b.1 m).2
  · rcases e1 with e | e <;> rw [e]
    · exact (a.2 m).1
    · exact (b.2 m).1
  · rcases e2 with e | e <;> rw [e]
    · exact (a.2 m).2
    · exact (b.2 m).2
theorem yA_cs {w0 w1 : Nat} {W : yW} (hw : w0 ≠ w1) (h : ∀ w, yA W w) (h6 : ∀ w k, W.1 (20, w, k) 6 ≤ 5) : ∀ w, yA (yCs pWd w0 w1 W) w := by
  intro w
  have t6 : ∀ s, (yCs pWd w0 w1 W).1 (20, w, s) 6 ≤ 5 := fun s => by
    rcases yCs_or (P := pWd) (w0 := w0) (w1 := w1) W (20, w, s) 6 with e | e <;> rw [e]
    · exact h6 w s
    · exact h6 w1 s
  refine ⟨?_, fun k => ?_, fun s _ => t6 s, ?_⟩
  · rcases yCs_or (P := pWd) (w0 := w0) (w1 := w1) W (0, w, 0) 3 with e | e <;> rw [e]
    · exact (h w).1
    · exact (h w1).1
  · by_cases c : w = w0
    · subst c
      by_cases c2 : k < 7
      · have a := (yCs_ag hw W).2.1
        rw [a k 7 c2 (by decide), a k 5 c2 (by decide)]
        exact (h w1).2.1 k
      · have e : ∀ i, pWd 10 k i = false := fun i => by
          simp only [pWd, pAdd, pC, pN, qK, qL, qR]
          rw [decide_eq_false (show ¬ (0 ≤ k ∧ k < 7) by omega)]
          simp
        have e2 : ∀ i, (yCs pWd w w1 W).1 (10, w, k) i = W.1 (10, w, k) i := fun i => if_neg (fun q => by
          have := q.2
          rw [e] at this
          cases this)
        rw [e2, e2]
        exact (h w).2.1 k
    · rw [(yCs_o (P := pWd) (w1 := w1) W (z := (10, w, k)) c).1]
      exact (h w).2.1 k
  · rcases yCs_or (P := pWd) (w0 := w0) (w1 := w1) W (4, w, 0) 4 with e | e <;> rw [e]
    · exact (h w).2.2.2
    · exact (h w1).2.2.2
theorem yFl_cs {P : Nat → Nat → Nat → Bool} {w0 w1 : Nat} {W : yW} (h : ∀ w k, W.1 (10, w, k) 0 ≤ 1 ∧ W.1 (10, w, k) 1 ≤ 1 ∧ W.1 (20, w, k) 6 ≤ 5) : ∀ w k, (yCs P w0 w1 W).1 (10, w, k) 0 ≤ 1 ∧ (yCs P w0 w1 W).1 (10, w, k) 1 ≤ 1 ∧ (yCs P w0 w1 W).1 (20, w, k) 6 ≤ 5 := by
  intro w k
  refine ⟨?_, ?_, ?_⟩
  · rcases yCs_or (P := P) (w0 := w0) (w1 := w1) W (10, w, k) 0 with e | e <;> rw [e]
    · exact (h w k).1
    · exact (h w1 k).1
  · rcases yCs_or (P := P) (w0 := w0) (w1 := w1) W (10, w, k) 1 with e | e <;> rw [e]
    · exact (h w k).2.1
    · exact (h w1 k).2.1
  · rcases yCs_or (P := P) (w0 := w0) (w1 := w1) W (20, w, k) 6 with e | e <;> rw [e]
    · exact (h w k).2.2
    · exact (h w1 k).2.2
theorem sCnt_c {W W' : yW} (h : ∀ s, W'.1 (20, 0, s) 0 = W.1 (20, 0, s) 0) : sCnt W' = sCnt W := by
  unfold sCnt
  simp only [h]
theorem x_isBox {x : Int32} (σ : zS) : (∃ b, b < 3 ∧ x = nI b ∧ fX_isBox x σ = some (1, σ) ∧ ∀ τ, fM_isIn x 0 2 τ = some (1, τ)) ∨ (fX_isBox x σ = some (0, σ) ∧ ∀ τ, fM_isIn x 0 2 τ = some (0, τ)) := by
  unfold fX_isBox
  by_cases c : x < 0
  · rw [if_pos c]
    exact Or.inr ⟨rfl, fun τ => by rw [eM_isIn, if_neg (fun q => i32_nlt.mpr q.1 c)]⟩
  · rw [if_neg c]
    obtain ⟨k, hk, rfl⟩ := nI_of c
    by_cases c2 : k < 3
    · rw [if_neg (fun q => by
        rw [show (3 : Int32) = nI 3 from by decide +kernel] at q
        have := (nI_leI (by decide) (by omega)).mp q
        omega)]
      exact Or.inl ⟨k, c2, rfl, rfl, fun τ => by rw [eM_isIn, if_pos ⟨i32_nlt.mp c, by
        rw [show (2 : Int32) = nI 2 from by decide +kernel]
        exact nI_le (by omega) (by decide)⟩]⟩
    · rw [if_pos (by
        rw [show (3 : Int32) = nI 3 from by decide +kernel]
        exact nI_le (by omega) (by omega))]
      exact Or.inr ⟨rfl, fun τ => by rw [eM_isIn, if_neg (fun q => by
        have := q.2
        rw [show (2 : Int32) = nI 2 from by decide +kernel, nI_leI (by omega) (by decide)] at this
        omega)]⟩
set_option maxHeartbeats 1000000 in
/-- an image, into a world V that is there: W but for the box -/
theorem y_image {bl bl' : Nat → Bool} {W V : yW} {τ : zS} {n b : Nat} (hn : n < 512) (R : yRc bl W τ n) (hb : b < 3) (h1 : ∀ z : zJ, z.2.1 ≠ b + 1 → V.1 z = W.1 z ∧ V.2.1 z = W.2.1 z) (h2 : (∀ z i, V.1 z i < 200 + 20 * n) ∧ yEn V ∧ (∀ w, yA V w) ∧ ∀ w k, V.1 (10, w, k) 0 ≤ 1 ∧ V.1 (10, w, k) 1 ≤ 1 ∧ V.1 (20, w, k) 6 ≤ 5) (hbl : bl' b = true) (hbo : ∀ j, j ≠ b → bl' j = bl j) : ∃ (r : Int32) (ρ π : zS), fX_image_31 bl' (nI b) (cE V) = some (r, ρ) ∧ fM_image (nI b) τ = some (r, π) ∧ yREL bl' ρ π (n + 1) := by
  obtain ⟨⟨I1, I2, I3, I4, I5⟩, m, ⟨T, H, J⟩, B⟩ := id R
  obtain ⟨V1, V2, V3, V4⟩ := h2
  have hw : b + 1 ≠ 0 := by omega
  obtain ⟨U, eU⟩ : ∃ U, U = yCs pWd (b + 1) 0 V := ⟨_, rfl⟩
  have uo : ∀ z : zJ, z.2.1 ≠ b + 1 → U.1 z = W.1 z ∧ U.2.1 z = W.2.1 z := fun z hz => by
    rw [eU, (yCs_o V hz).1, (yCs_o V hz).2]
    exact h1 z hz
  have ag : yAg W U 0 (b + 1) := by
    have a0 : yAg V U 0 (b + 1) := by rw [eU]; exact yCs_ag hw V
    exact yAg_tr (yAg_eq (fun z hz _ => h1 z (by omega))) a0
  obtain ⟨W2, e2⟩ : ∃ U', U' = yR U (37, 0, 0) b 1 := ⟨_, rfl⟩
  have w1 : W2.1 = U.1 := by rw [e2]; rfl
  have w2 : ∀ z : zJ, z ≠ (37, 0, 0) → W2.2.1 z = U.2.1 z := fun z hz => by rw [e2]; exact z_up_n _ _ _ hz
  have ub : ∀ z i, U.1 z i < 200 + 20 * n := fun z i => by
    rw [eU]
    rcases yCs_or (P := pWd) (w0 := b + 1) (w1 := 0) V z i with e | e <;> rw [e] <;> exact V1 _ _
  have cnt : sCnt W2 = sCnt W := sCnt_c (fun s => by rw [w1, (uo (20, 0, s) (by show (0 : Nat) ≠ b + 1; omega)).1])
  have ex : fX_image_31 bl' (nI b) (cE V) = some (nI (sCnt W), cE W2) := by
    unfold fX_image_31
    rw [if_pos (nI_inz hb (by decide)), nI_clamp (by omega), if_pos hbl, z_wcopy hw (y_b01 V4), z_bde, if_pos (nI_inz hb (by decide)), cE_cs, ← eU, show vp_nar .boolean 1 = 1 from by decide +kernel, cU0 (z := (37, 0, 0)) rfl, ← e2]
    rw [z_let, x_countFull W2 (fun z i => by have := ub z i; rw [w1]; omega), z_bde, cnt]
  obtain ⟨τ1, t1, t2, t3, t4, t5⟩ := m_image_13 hb 5000 0 z_fu τ (by omega) (z_fu_big (by decide))
  rw [nI_0] at t1
  obtain ⟨τ2, e3⟩ : ∃ s, s = z_up τ1 (105, 0, 0) b 1 := ⟨_, rfl⟩
  have f2 : ∀ z : zJ, z ≠ (104, 0, 0) → z ≠ (105, 0, 0) → τ2.1 z = τ.1 z := fun z z1 z2 => by rw [e3, z_up_n _ _ _ z2, t4 z z1]
  have f104 : τ2.1 (104, 0, 0) = τ1.1 (104, 0, 0) := by rw [e3, z_up_n _ _ _ (by decide)]
  have mS2 : ∀ W' : yW, W'.1 (0, 0, 0) = W.1 (0, 0, 0) → (∀ k, W'.1 (10, 0, k) 0 = W.1 (10, 0, k) 0) → mS τ2 W' := fun W' q1 q2 => by
    have := m.1
    unfold mS at this ⊢
    rw [f2 (100, 0, 0) (by decide) (by decide), f2 (106, 0, 0) (by decide) (by decide), f2 (107, 0, 0) (by decide) (by decide), q1]
    simp only [q2]
    exact this
  have mr2 : mR τ2 τ2 W := ⟨mS2 W rfl (fun _ => rfl), by have := m.2.1; rw [show al τ = al τ2 from funext fun i => by show τ.1 (103, 0, 0) i = τ2.1 (103, 0, 0) i; rw [f2 (103, 0, 0) (by decide) (by decide)]] at this; exact this, fun _ _ => rfl, rfl⟩
  have em : fM_image (nI b) τ = some (nI (sCnt W), τ2) := by
    unfold fM_image
    rcases x_isBox (x := nI b) (cE V) with ⟨b', -, -, -, q⟩ | ⟨q, -⟩
    · rw [q, z_bde, if_neg (by decide), t1, ← e3, m_letters mr2 (yF5 hn R), z_bde]
    · exfalso
      unfold fX_isBox at q
      rw [if_neg (nI_pos (by omega)), if_neg (fun q' => by
        rw [show (3 : Int32) = nI 3 from by decide +kernel] at q'
        have := (nI_leI (by decide) (by omega)).mp q'
        omega)] at q
      injection q with q
      injection q with q1 q2
      exact absurd q1 (by decide)
  refine ⟨_, _, _, ex, em, W2, rfl, ⟨fun z i => by rw [w1]; have := ub z i; omega, ?_, fun w => ?_, fun w k => ?_, ?_⟩, ⟨mS2 W2 (by rw [w1]; exact (uo (0, 0, 0) (by show (0 : Nat) ≠ b + 1; omega)).1) (fun k => by rw [w1, (uo (10, 0, k) (by show (0 : Nat) ≠ b + 1; omega)).1]), ?_, fun _ _ => rfl, rfl⟩, ?_, fun b' hb' => ?_⟩
  · have : yEn U := by rw [eU]; exact yEn_cs V2
    unfold yEn at this ⊢
    rw [w1]
    exact this
  · exact yA_c (W := U) (fun z _ => by rw [w1]) (by rw [eU]; exact yA_cs hw V3 (fun w k => (V4 w k).2.2) w)
  · rw [w1, eU]; exact yFl_cs V4 w k
  · rw [xV_c (W := W) (fun z hz => by rw [w1]; exact (uo z (by omega)).1)]
    exact I5
  · refine mW_w mr2.2.1 (I3 0) (yAg_eq (fun z hz h30 => ?_)) (fun _ _ => rfl)
    exact ⟨by rw [w1]; exact (uo z (by omega)).1, by rw [w2 z (fun q => by rw [q] at h30; simp at h30)]; exact (uo z (by omega)).2⟩
  · have fr : ∀ z : zJ, z.2.1 = 0 → z ≠ (37, 0, 0) → (cE W2).1 z = (cE W).1 z := fun z z1 z2 => cE_fr (by rw [w1]; exact (uo z (by omega)).1) (by rw [w2 z z2]; exact (uo z (by omega)).2)
    refine ⟨?_, ?_, ?_⟩
    · unfold zT_r at T ⊢
      rw [fr (31, 0, 0) rfl (by decide), fr (32, 0, 0) rfl (by decide), f2 (100, 0, 0) (by decide) (by decide), f2 (101, 0, 0) (by decide) (by decide)]
      exact T
    · unfold zH_r at H ⊢
      rw [fr (40, 0, 0) rfl (by decide), fr (41, 0, 0) rfl (by decide), fr (42, 0, 0) rfl (by decide), fr (43, 0, 0) rfl (by decide), fr (44, 0, 0) rfl (by decide), fr (45, 0, 0) rfl (by decide), f2 (100, 0, 0) (by decide) (by decide), f2 (110, 0, 0) (by decide) (by decide), f2 (111, 0, 0) (by decide) (by decide), f2 (112, 0, 0) (by decide) (by decide), f2 (113, 0, 0) (by decide) (by decide), f2 (114, 0, 0) (by decide) (by decide)]
      exact H
    · have eh : yhHs (cE W2) = yhHs (cE W) := by
        funext f
        match f with
        | 0 => exact fr (41, 0, 0) rfl (by decide)
        | 1 => exact fr (42, 0, 0) rfl (by decide)
        | 2 => exact fr (43, 0, 0) rfl (by decide)
        | 3 => exact fr (44, 0, 0) rfl (by decide)
        | f + 4 => exact fr (45, 0, 0) rfl (by decide)
      unfold yhJ yhD at J ⊢
      rw [eh, fr (40, 0, 0) rfl (by decide), fr (46, 0, 0) rfl (by decide)]
      exact J
  · have ag2 : yAg W W2 0 (b + 1) := yAg_tr ag (yAg_eq (fun z hz h30 => ⟨by rw [w1], w2 z (fun q => by rw [q] at h30; simp at h30)⟩))
    have c37 : (cE W2).1 (37, 0, 0) b' = if b' = b then 1 else (cE W).1 (37, 0, 0) b' := by
      rw [cE_0 (z := (37, 0, 0)) rfl, cE_0 (z := (37, 0, 0)) rfl, e2]
      show (z_up U.2 (37, 0, 0) b 1).1 (37, 0, 0) b' = _
      rw [z_up_s, (uo (37, 0, 0) (by show (0 : Nat) ≠ b + 1; omega)).2]
      by_cases c : b' = b
      · rw [if_pos c, c, upd_s]
      · rw [if_neg c, upd_n _ _ c]
    have c105 : τ2.1 (105, 0, 0) b' = if b' = b then 1 else τ.1 (105, 0, 0) b' := by
      rw [e3, z_up_s, t4 (105, 0, 0) (by decide)]
      by_cases c : b' = b
      · rw [if_pos c, c, upd_s]
      · rw [if_neg c, upd_n _ _ c]
    have u0 : W2.1 (0, 0, 0) = W.1 (0, 0, 0) := by rw [w1]; exact (uo (0, 0, 0) (by show (0 : Nat) ≠ b + 1; omega)).1
    have u10 : ∀ k, W2.1 (10, 0, k) = W.1 (10, 0, k) := fun k => by rw [w1]; exact (uo (10, 0, k) (by show (0 : Nat) ≠ b + 1; omega)).1
    rw [c37, c105]
    by_cases c : b' = b
    · subst c
      rw [if_pos rfl, if_pos rfl]
      refine ⟨rfl, Or.inr ⟨rfl, hbl, mW_w m.2.1 (I3 0) ag2 (fun i hi => ?_), xInv_cg I5 (yAg_x ag2) (fun v _ => (I3 0).2.1 v) (I3 0).2.2.2, ⟨by rw [u0]; exact ag2.1.1, by rw [u0]; exact ag2.1.2.1⟩, fun k hk => by rw [u10]; exact ag2.2.1 k 0 hk (by decide)⟩⟩
      show τ2.1 (104, 0, 0) (5000 * b' + i) = τ.1 (103, 0, 0) i
      rw [f104, t2 i (by omega) hi]
    · rw [if_neg c, if_neg c]
      obtain ⟨b1, b2⟩ := B b' hb'
      refine ⟨b1, b2.imp id (fun x => ⟨x.1, by rw [hbo b' c]; exact x.2.1, ?_⟩)⟩
      obtain ⟨y1, y2, y3, y4⟩ := x.2.2
      have uo' : ∀ z : zJ, z.2.1 = b' + 1 → W2.1 z = W.1 z := fun z hz => by rw [w1]; exact (uo z (by omega)).1
      refine ⟨mW_w y1 (I3 _) (yAg_eq (fun z hz h30 => ⟨uo' z hz, by rw [w2 z (fun q => by rw [q] at h30; simp at h30)]; exact (uo z (by omega)).2⟩)) (fun i hi => ?_), by rw [xV_c uo']; exact y2, ⟨by rw [u0, uo' (0, b' + 1, 0) rfl]; exact y3.1, by rw [u0, uo' (0, b' + 1, 0) rfl]; exact y3.2⟩, fun k hk => by rw [u10, uo' (10, b' + 1, k) rfl]; exact y4 k hk⟩
      show τ2.1 (104, 0, 0) (5000 * b' + i) = τ.1 (104, 0, 0) (5000 * b' + i)
      rw [f104]
      exact t3 _ (by omega)
theorem st_image : zl_st_image yREL := by
  intro bl σ τ n hn h x
  have hn : n < 512 := by omega
  obtain ⟨W, rfl, R⟩ := h
  obtain ⟨I1, I2, I3, I4, I5⟩ := R.1
  rcases x_isBox (x := x) (cE W) with ⟨b, hb, rfl, q1, q2⟩ | ⟨q1, q2⟩
  · have kb : (nI b).toNatClampNeg = b := nI_clamp (by omega)
    rw [kb]
    by_cases c : bl b = true
    · left
      obtain ⟨r, ρ, π, e1, e2, e3⟩ := y_image (bl' := bl) hn R hb (V := W) (fun _ _ => ⟨rfl, rfl⟩) ⟨I1, I2, I3, I4⟩ c (fun _ _ => rfl)
      refine ⟨r, ρ, π, ?_, e2, e3⟩
      unfold fX_image
      rw [q1, z_bde, if_neg (by decide), if_pos (nI_inz hb (by decide)), kb, if_pos c]
      exact e1
    · right
      have hz : ∀ z i, (yNew (b + 1) W).1 z i = W.1 z i ∨ (yNew (b + 1) W).1 z i = (if z.1 = 10 ∧ i = 3 then 1 else 0) := fun z i => by
        show (if z.1 < 30 ∧ z.2.1 = b + 1 then (if z.1 = 10 ∧ i = 3 then 1 else 0) else W.1 z i) = _ ∨ _
        by_cases c : z.1 < 30 ∧ z.2.1 = b + 1
        · exact Or.inr (if_pos c)
        · exact Or.inl (if_neg c)
      have hV : (∀ z i, (yNew (b + 1) W).1 z i < 200 + 20 * n) ∧ yEn (yNew (b + 1) W) ∧ (∀ w, yA (yNew (b + 1) W) w) ∧ ∀ w k, (yNew (b + 1) W).1 (10, w, k) 0 ≤ 1 ∧ (yNew (b + 1) W).1 (10, w, k) 1 ≤ 1 ∧ (yNew (b + 1) W).1 (20, w, k) 6 ≤ 5 := by
        refine ⟨fun z i => ?_, fun w k i => ?_, fun w => ?_, fun w k => ?_⟩
        · rcases hz z i with e | e
          · rw [e]; exact I1 z i
          · rw [e]; split <;> omega
        · have a := I2 w k i
          refine ⟨fun m => ⟨?_, ?_⟩, fun m => ⟨?_, ?_⟩⟩
          · rcases hz (11, w, k) i with e | e
            · rw [e]; exact (a.1 m).1
            · rw [e, if_neg (fun q => absurd q.1 (by show ¬ (11 : Nat) = 10; decide))]; decide
          · rcases hz (21, w, k) i with e | e
            · rw [e]; exact (a.1 m).2
            · rw [e, if_neg (fun q => absurd q.1 (by show ¬ (21 : Nat) = 10; decide))]; decide
          · rcases hz (11, w, k) i with e | e
            · rw [e]; exact (a.2 m).1
            · rw [e, if_neg (fun q => absurd q.1 (by show ¬ (11 : Nat) = 10; decide))]; decide
          · rcases hz (21, w, k) i with e | e
            · rw [e]; exact (a.2 m).2
            · rw [e, if_neg (fun q => absurd q.1 (by show ¬ (21 : Nat) = 10; decide))]; decide
        · by_cases cw : w = b + 1
          · have z0 : ∀ t k i, t < 30 → ¬ (t = 10 ∧ i = 3) → (yNew (b + 1) W).1 (t, w, k) i = 0 := fun t k i ht hi => by
              show (if t < 30 ∧ w = b + 1 then (if t = 10 ∧ i = 3 then 1 else 0) else W.1 (t, w, k) i) = 0
              rw [if_pos ⟨ht, cw⟩, if_neg hi]
            refine ⟨by rw [z0 0 0 3 (by decide) (by decide)]; decide, fun k => by rw [z0 10 k 7 (by decide) (by decide)]; omega, fun s q => by rw [z0 20 s 6 (by decide) (by decide)]; decide, by rw [z0 4 0 4 (by decide) (by decide)]; decide⟩
          · exact yA_c (W := W) (fun z hz => funext fun i => if_neg (fun q => cw (by omega))) (I3 w)
        · have a := I4 w k
          refine ⟨?_, ?_, ?_⟩
          · rcases hz (10, w, k) 0 with e | e
            · rw [e]; exact a.1
            · rw [e]; split <;> omega
          · rcases hz (10, w, k) 1 with e | e
            · rw [e]; exact a.2.1
            · rw [e]; split <;> omega
          · rcases hz (20, w, k) 6 with e | e
            · rw [e]; exact a.2.2
            · rw [e]; split <;> omega
      obtain ⟨r, ρ, π, e1, e2, e3⟩ := y_image (bl' := z_bl1 bl b) hn R hb (V := yNew (b + 1) W) (fun z hz => ⟨funext fun i => if_neg (fun q => hz q.2), if_neg (fun q => hz q.2)⟩) hV (if_pos rfl) (fun j hj => if_neg hj)
      refine ⟨r, 1, ρ, π, q1, by decide, nI_inz hb (by decide), by simpa using c, ?_, e2, e3⟩
      rw [cE_new]
      exact e1
  · left
    refine ⟨-1, _, τ, ?_, ?_, yRc_m R⟩
    · unfold fX_image
      rw [q1, z_bde]
      rfl
    · unfold fM_image
      rw [q2, z_bde, if_pos rfl]
theorem st_back : zl_st_back yREL := by
  intro bl σ τ n hn h x
  have hn : n < 512 := by omega
  obtain ⟨W, rfl, R⟩ := h
  obtain ⟨⟨I1, I2, I3, I4, I5⟩, m, -, B⟩ := id R
  rcases x_isBox (x := x) (cE W) with ⟨b, hb, rfl, q1, q2⟩ | ⟨q1, q2⟩
  · have kb : (nI b).toNatClampNeg = b := nI_clamp (by omega)
    have gb : z_in (nI b) 3 = true := nI_inz hb (by decide)
    obtain ⟨b1, b2⟩ := B b hb
    rcases b2 with b0 | ⟨b0, bt, y1, y2, y3, y4⟩
    · refine ⟨-1, _, τ, ?_, ?_, yRc_m R⟩
      · unfold fX_back
        rw [q1, z_bde, if_neg (by decide), if_pos gb, kb, b0, if_pos rfl]
      · unfold fM_back
        rw [q2, z_bde, if_neg (by decide), if_pos gb, kb, b1, b0, if_pos rfl]
    · have hw : (0 : Nat) ≠ b + 1 := by omega
      obtain ⟨U, eU⟩ : ∃ U, U = yCs pWd 0 (b + 1) W := ⟨_, rfl⟩
      have ag : yAg W U (b + 1) 0 := by rw [eU]; exact yCs_ag hw W
      have uo : ∀ z : zJ, z.2.1 ≠ 0 → U.1 z = W.1 z ∧ U.2.1 z = W.2.1 z := fun z hz => by rw [eU]; exact yCs_o W hz
      have ub : ∀ z i, U.1 z i < 200 + 20 * n := fun z i => by
        rw [eU]
        rcases yCs_or (P := pWd) (w0 := 0) (w1 := b + 1) W z i with e | e <;> rw [e] <;> exact I1 _ _
      have u24 : ∀ z : zJ, (z.2.1 ≠ 0 ∨ 24 ≤ z.1) → U.1 z = W.1 z ∧ U.2.1 z = W.2.1 z := fun z hz => by
        rcases hz with q | q
        · exact uo z q
        · rw [eU]
          exact ⟨funext fun i => if_neg (fun q' => absurd (pWd_lt q'.2) (by omega)), funext fun i => if_neg (fun q' => absurd (pWd_lt q'.2) (by omega))⟩
      have u0 : U.1 (0, 0, 0) = W.1 (0, 0, 0) := by
        funext i
        by_cases c : i = 3
        · rw [c, ag.1.1]; exact y3.1
        · by_cases c4 : i = 4
          · rw [c4, ag.1.2.1]; exact y3.2
          · rw [eU]
            refine if_neg (fun q => ?_)
            have q := q.2
            simp [pWd, pAdd, pC, pN, qK, qL, qR, c, c4] at q
      have u10 : ∀ k, U.1 (10, 0, k) 0 = W.1 (10, 0, k) 0 := fun k => by
        by_cases c : k < 7
        · rw [ag.2.1 k 0 c (by decide)]; exact y4 k c
        · rw [eU]
          refine if_neg (fun q => ?_)
          have q := q.2
          simp [pWd, pAdd, pC, pN, qK, qL, qR, c] at q
      have q : yKp (200 + 20 * n) W U := by
        refine ⟨ub, by rw [eU]; exact yEn_cs I2, by rw [eU]; exact yA_cs hw I3 (fun w k => (I4 w k).2.2) 0, u24, by rw [eU]; rfl, u0, fun k => ⟨u10 k, ?_⟩⟩
        have := yFl_cs (P := pWd) (w0 := 0) (w1 := b + 1) I4 0 k
        rw [eU]
        exact this.2
      obtain ⟨τ1, t1, t2, t3, t4, t5⟩ := m_back_22 hb 5000 0 z_fu τ (by omega) (z_fu_big (by decide))
      rw [nI_0] at t1
      have mr : mR τ τ1 U := by
        refine ⟨mS_c m.1 t4 (fun f => by rw [u0]) u10, mW_w y1 (I3 _) ag (fun i hi => ?_), t4, t5⟩
        exact t2 i (by omega) hi
      refine ⟨nI (sCnt U), cE U, τ1, ?_, ?_, yR_act' R q (by omega) (xInv_cg y2 (yAg_x ag) (fun v _ => (I3 (b + 1)).2.1 v) (I3 (b + 1)).2.2.2) mr⟩
      · unfold fX_back
        rw [q1, z_bde, if_neg (by decide), if_pos gb, kb, b0, if_neg (by decide), if_pos gb, if_pos bt, if_pos gb, if_pos bt, z_wcopy hw (y_b01 I4), z_bde, cE_cs, ← eU, x_countFull U (fun z i => by have := ub z i; omega), z_bde]
      · unfold fM_back
        rw [q2, z_bde, if_neg (by decide), if_pos gb, kb, b1, b0, if_neg (by decide), t1, m_letters mr (fun z i => by have := ub z i; omega), z_bde]
  · refine ⟨-1, _, τ, ?_, ?_, yRc_m R⟩
    · unfold fX_back
      rw [q1, z_bde]
      rfl
    · unfold fM_back
      rw [q2, z_bde, if_pos rfl]
