/-! the text: the model reads it, keeper by keeper -/
section kmodel4
variable {t : Nat} {b : Nat → Nat} {τ0 : zS} {rb : Nat}
theorem kM_rk33 {τ : zS} {a f : Nat} (h7 : τ.1 (100, 0, 0) 7 = 0) (h14 : τ.1 (100, 0, 0) 14 = nI a) (hf : (τ.1 (100, 0, 0) 16 = 1 ∧ f = 1) ∨ (¬ τ.1 (100, 0, 0) 16 = 1 ∧ f = 2)) : fM_readKeeper_33 τ = some ((), kBn τ f a) := by
  obtain ⟨m1, m2⟩ := kM_misp h7 h14
  unfold fM_readKeeper_33
  rcases hf with ⟨c, rfl⟩ | ⟨c, rfl⟩
  · rw [m1 c, z_bde]
    unfold fM_readKeeper_37
    rw [kBn_good (by decide) (by decide), z_bde, if_pos rfl]
  · rw [m2 c, z_bde]
    unfold fM_readKeeper_37
    rw [kBn_good (by decide) (by decide), z_bde, if_pos rfl]
/-- behind a keeper: its sign, or a fault; due 2 without silent, or 3 -/
theorem kM_tail {τ : zS} {e k s m F due : Nat} {nm ln : Nat → Nat} {sl : Nat → Bool} (hd : due = 2 ∨ due = 3) (h : kMs t b τ0 rb τ k (k + 1) s nm ln) (hg : kG t b e τ) (he : e ≤ t) (hs : due = 2 → kA b t e < t → kOk b t (kA b t e) → ¬ kIs b 1 (kA b t e) (kE b t (kA b t e)) = true) (hm : t < m + e) (hF : 1 ≤ F)
    (ih : ∀ (e' : Nat) (τ : zS), e < e' → e' ≤ t → kMs t b τ0 rb τ (k + 1) (k + 1) s nm ln → kG t b e' τ → ∃ τ', fM_keepers_90 F τ = fM_keepers_151 τ' ∧ kMr τ0 rb τ' (kRun b t (m - 1) 0 e' (k + 1) nm ln sl)) :
    ∃ τ', z_bd (fM_readKeeper_204 τ) (fun _ σ28 => fM_keepers_90 F σ28) = fM_keepers_151 τ' ∧ kMr τ0 rb τ' (kRun b t m due e (k + 1) nm ln sl) := by
  obtain ⟨a1, a2, ⟨a3, a4, a5, a6, a7⟩, a8, a9⟩ := id h
  obtain ⟨q1, q2, q3, q4⟩ := kM_204 h hg
  obtain ⟨g1, g2, g3⟩ := id hg
  obtain ⟨l1, l2⟩ := kA_le (b := b) he
  obtain ⟨m, rfl⟩ : ∃ x, m = x + 1 := ⟨m - 1, by omega⟩
  obtain ⟨F', rfl⟩ : ∃ x, F = x + 1 := ⟨F - 1, by omega⟩
  have d0 : ¬ due = 0 := by omega
  have d1 : ¬ due = 1 := by omega
  rw [kRun]
  by_cases cA : kA b t e = t
  · rw [if_pos cA, q2 cA, z_bde]
    have ke : kEnd t due (k + 1) sl = (2, t, k + 1, sl) := if_pos d0
    rw [ke, cA]
    exact kM_bad (by decide) (by decide) a5 a9
  · have hat : kA b t e < t := by omega
    rw [if_neg cA]
    by_cases cO : kOk b t (kA b t e)
    · rw [if_neg (fun q => q cO), if_neg d0, if_neg d1]
      by_cases c59 : b (kA b t e) = 59
      · have eE : kE b t (kA b t e) = kA b t e + 1 := if_pos c59
        rw [if_pos ((kIs2_iff a1.2.1).mpr ⟨by omega, c59⟩), q1 hat cO c59]
        obtain ⟨τ', r1, r2, r3, r4⟩ := kM_goOn a1 ((g3 hat).2 cO).1 (kE_le hat).2
        obtain ⟨b1, b2, ⟨b3, b4, b5, b6, b7⟩, b8, b9⟩ := kMs_g h r2 r4
        have gr : z_in (nI rb) 2 = true := nI_inz b2.1 (by decide)
        rw [r1, z_bde, b5, if_pos gr, if_pos gr, nI_clamp (by omega), b6, nI_1, z_bde]
        refine ih (kE b t (kA b t e)) _ (by omega) (kE_le hat).2 ⟨kMb_up b1 (by decide) (fun q => absurd q (by decide)), ⟨b2.1, by omega, b2.2.2⟩, ⟨?_, ?_, ?_, ?_, ?_⟩, b8, kMf_6 b9⟩ ?_
        · rw [z_up_n _ _ _ (by decide)]; exact b3
        · rw [z_up_n _ _ _ (by decide)]; exact b4
        · rw [z_up_n _ _ _ (by decide)]; exact b5
        · rw [z_up_s, upd_s]
        · rw [z_up_n _ _ _ (by decide)]; exact b7
        · unfold kG at r3 ⊢
          rw [z_up_n _ _ _ (by decide)]
          exact r3
      · rw [if_neg (fun q => c59 ((kIs2_iff a1.2.1).mp q).2), if_neg (fun q => hs q.1 hat cO q.2), q4 hat cO c59, z_bde]
        exact kM_bad (by decide) (by decide) a5 a9
    · rw [if_pos cO, q3 hat cO, z_bde]
      exact kM_bad (by decide) (by decide) a5 a9
theorem kM_bits {s k : Nat} {sl : Nat → Bool} (hs : ∀ i, i < k → s.testBit i = sl i) (h0 : ∀ i, k ≤ i → s.testBit i = false) (hk : k ≤ 7) : sBits s + z_cnt (fun i => !sl i) k 0 = k := by
  have e1 : sBits s = z_cnt sl k 0 := by
    unfold sBits
    rw [show 7 = k + (7 - k) by omega, z_cnt_split, z_cnt_zero (7 - k) (0 + k) (fun j j1 _ => h0 j (by omega)), Nat.add_zero]
    exact z_cnt_congr k 0 (fun j _ j2 => hs j (by omega))
  have e2 : ∀ m i, z_cnt sl m i + z_cnt (fun i => !sl i) m i = m := by
    intro m
    induction m with
    | zero => intro i; rfl
    | succ m ih =>
      intro i
      have h1 : z_cnt sl (m + 1) i = (if sl i = true then 1 else 0) + z_cnt sl m (i + 1) := rfl
      have h2 : z_cnt (fun i => !sl i) (m + 1) i = (if (!sl i) = true then 1 else 0) + z_cnt (fun i => !sl i) m (i + 1) := rfl
      have h3 := ih (i + 1)
      rw [h1, h2]
      cases c : sl i with
      | false => rw [if_neg (by decide), if_pos (by rfl)]; omega
      | true => rw [if_pos rfl, if_neg (by decide)]; omega
  rw [e1]
  exact e2 k 0
set_option maxHeartbeats 2000000 in
theorem kM_run : ∀ (m e k F s : Nat) (nm ln : Nat → Nat) (sl : Nat → Bool) (τ : zS), kMs t b τ0 rb τ k k s nm ln → kG t b e τ → e ≤ t → (∀ i, i < k → s.testBit i = sl i) → (∀ i, k ≤ i → s.testBit i = false) → t < m + e → m < F → ∃ τ', fM_keepers_90 F τ = fM_keepers_151 τ' ∧ kMr τ0 rb τ' (kRun b t m 0 e k nm ln sl) := by
  intro m
  induction m using Nat.strongRecOn with
  | _ m ihm =>
  intro e k F s nm ln sl τ h hg he hsl hs0 hm hF
  obtain ⟨a1, a2, ⟨a3, a4, a5, a6, a7⟩, a8, a9⟩ := id h
  obtain ⟨g1, g2, g3⟩ := id hg
  have h400 := a1.1
  have gr : z_in (nI rb) 2 = true := nI_inz a2.1 (by decide)
  have kr : (nI rb).toNatClampNeg = rb := nI_clamp (by omega)
  obtain ⟨l1, l2⟩ := kA_le (b := b) he
  obtain ⟨m, rfl⟩ : ∃ x, m = x + 1 := ⟨m - 1, by omega⟩
  obtain ⟨F, rfl⟩ : ∃ x, F = x + 1 := ⟨F - 1, by omega⟩
  rw [kRun, fM_keepers_90.eq_2, kM_good a3, z_bde, if_neg (by decide)]
  by_cases cA : kA b t e = t
  · rw [if_pos cA, g2 cA, if_pos rfl]
    unfold fM_keepers_111 kEnd
    have kb := kM_bits hsl hs0 a2.2.1
    have f4 := kM_fails (τ := τ) (f := 4) (p := t) a3
    rw [show nI 4 = 4 from by decide +kernel] at f4
    rw [kM_good a3, z_bde, if_neg (by decide), a5, if_pos gr, kr, a7, m_bits a2.2.2.2, z_bde, a5, if_pos gr, kr, a6, a1.2.2.1, if_neg (show ¬ (0 : Nat) ≠ 0 from fun q => q rfl)]
    by_cases c : z_cnt (fun i => !sl i) k 0 = 0
    · rw [if_pos (show nI (sBits s) = nI k by rw [show sBits s = k by omega]), f4, z_bde, if_pos c]
      refine ⟨_, rfl, (show (4 : Nat) ≤ 4 by decide), ?_, ?_, ?_, kMf_0 (kMf_0 a9 (by decide)) (by decide), fun q => absurd q (show ¬ (4 : Nat) = 0 by decide)⟩
      · unfold kBn; rw [z_up_s, upd_n _ _ (by decide), z_up_s, upd_s]
      · rw [if_neg (show ¬ (4 : Nat) = 0 by decide)]; unfold kBn; rw [z_up_s, upd_s]
      · unfold kBn; rw [z_up_s, upd_n _ _ (by decide), z_up_s, upd_n _ _ (by decide)]; exact a5
    · have hle := sBits_le s
      rw [if_neg (fun q => by have := (nI_eq (by omega) (by omega)).mp q; omega), if_neg c]
      exact ⟨τ, rfl, (show (0 : Nat) ≤ 4 by decide), by rw [a3]; exact nI_0.symm, by rw [a4]; exact (if_pos rfl).symm, a5, a9, fun _ => ⟨s, a2.2.2.2, a6, a7, a2.2.1, hsl, hs0⟩⟩
  have hat : kA b t e < t := by omega
  have n16 : ¬ τ.1 (100, 0, 0) 16 = 0 := by
    by_cases cO : kOk b t (kA b t e)
    · by_cases c59 : b (kA b t e) = 59
      · rw [((g3 hat).2 cO).2.1 c59]; decide
      · rw [(((g3 hat).2 cO).2.2 c59).2.2]
        by_cases c : kIs b 0 (kA b t e) (kE b t (kA b t e)) = true ∨ kIs b 1 (kA b t e) (kE b t (kA b t e)) = true
        · rw [if_pos c]; decide
        · rw [if_neg c]; decide
    · rw [(g3 hat).1 cO]; decide
  rw [if_neg cA, if_neg n16]
  obtain ⟨F', rfl⟩ : ∃ x, F = x + 1 := ⟨F - 1, by omega⟩
  by_cases cO : kOk b t (kA b t e)
  · rw [if_neg (fun q => q cO), if_pos rfl]
    obtain ⟨k1, k2⟩ := kE_le (b := b) hat
    have o1 := cO.1
    have o2 := cO.2
    by_cases cK : kIs b 0 (kA b t e) (kE b t (kA b t e)) = true ∧ k < 7
    · have c59 : b (kA b t e) ≠ 59 := fun q => by
        have := ((kIs_iff a1.2.1 (by decide)).mp cK.1).2 0 (by decide)
        rw [Nat.add_zero, q] at this
        exact absurd this (by decide)
      obtain ⟨w1, w2, w3⟩ := ((g3 hat).2 cO).2.2 c59
      rw [if_pos (Or.inl cK.1)] at w3
      have nk : lg_cmp (τ.2 (100, 0, 0) 17) 118083237733746 = 0 := by
        rw [w2]
        exact (kl_cmp.trans (kPk_is (v := 118083237733746) a1.2.1 (by decide) w1 (by omega) (by decide +kernel) (by decide))).mpr cK.1
      have e1 : fM_readKeeper τ = fM_readKeeper_37 τ := by
        unfold fM_readKeeper
        rw [w3, if_pos rfl, if_pos nk, a5, if_pos gr, kr, a6, if_neg (fun q => by
          have := (nI_eq (a := k) (b := 7) (by omega) (by decide)).mp (q.trans (by decide +kernel))
          omega)]
      rw [if_pos cK, e1]
      unfold fM_readKeeper_37
      rw [kM_good a3, z_bde, if_neg (by decide)]
      obtain ⟨τ1, r1, r2, r3, r4⟩ := kM_goOn a1 ((g3 hat).2 cO).1 k2
      have h1 := kMs_g h r2 r4
      obtain ⟨e1', ee1⟩ : ∃ x, x = kE b t (kA b t e) := ⟨_, rfl⟩
      rw [← ee1] at k1 k2 o1 o2 r3 ⊢
      obtain ⟨b1, b2, ⟨b3, b4, b5, b6, b7⟩, b8, b9⟩ := id h1
      obtain ⟨gg1, gg2, gg3⟩ := id r3
      obtain ⟨l3, l4⟩ := kA_le (b := b) k2
      obtain ⟨m, rfl⟩ : ∃ x, m = x + 1 := ⟨m - 1, by omega⟩
      rw [r1, z_bde, kRun]
      have bad : ∀ f, 1 ≤ f → f ≤ 4 → fM_misplaced τ1 = some ((), kBn τ1 f (kA b t e1')) → ¬ τ1.1 (100, 0, 0) 16 = 2 → ∃ τ', z_bd (if τ1.1 (100, 0, 0) 16 = 2 then fM_readKeeper_63 z_fu 0 τ1 else z_bd (fM_misplaced τ1) (fun _ σ38 => fM_readKeeper_63 z_fu 0 σ38)) (fun _ σ28 => fM_keepers_90 (F' + 1) σ28) = fM_keepers_151 τ' ∧ kMr τ0 rb τ' (f, kA b t e1', k, sl) := by
        intro f f1 f2 fm c2
        have q := kM_63f (τ := kBn τ1 f (kA b t e1')) (rb := rb) (k := k) (by unfold kBn; rw [z_up_s, upd_n _ _ (by decide), z_up_s, upd_s]; exact nI_ne0 (by omega) (by omega)) (by unfold kBn; rw [z_up_s, upd_n _ _ (by decide), z_up_s, upd_n _ _ (by decide)]; exact b5) b2.1 (by unfold kBn; rw [z_up_n _ _ _ (by decide), z_up_n _ _ _ (by decide)]; exact b6) b2.2.1 k 0 z_fu (by omega) (z_fu_big (by omega))
        rw [nI_0] at q
        rw [if_neg c2, fm, z_bde, q, z_bde]
        exact kM_bad f1 f2 b5 b9
      obtain ⟨m1, m2⟩ := kM_misp b3 gg1
      by_cases cA1 : kA b t e1' = t
      · rw [if_pos cA1]
        have c16 := gg2 cA1
        have ke : kEnd t 1 k sl = (2, kA b t e1', k, sl) := by rw [cA1]; exact if_pos (by decide)
        rw [ke]
        exact bad 2 (by decide) (by decide) (m2 (by rw [c16]; decide)) (by rw [c16]; decide)
      have hat1 : kA b t e1' < t := by omega
      rw [if_neg cA1]
      by_cases cO1 : kOk b t (kA b t e1')
      · rw [if_neg (show ¬ ¬ kOk b t (kA b t e1') from fun q => q cO1), if_neg (show ¬ (1 : Nat) = 0 by decide), if_pos (show (1 : Nat) = 1 from rfl)]
        by_cases c59 : b (kA b t e1') = 59
        · have c16 := ((gg3 hat1).2 cO1).2.1 c59
          rw [if_neg (show ¬ (kLe (b (kA b t e1')) = true ∧ ¬ kIs b 0 (kA b t e1') (kE b t (kA b t e1')) = true ∧ ¬ kIs b 1 (kA b t e1') (kE b t (kA b t e1')) = true) from fun q => by have := kLe_r q.1; omega)]
          exact bad 2 (by decide) (by decide) (m2 (by rw [c16]; decide)) (by rw [c16]; decide)
        obtain ⟨v1, v2, v3⟩ := ((gg3 hat1).2 cO1).2.2 c59
        have o3 := cO1.1
        have o4 := cO1.2
        by_cases cW : kIs b 0 (kA b t e1') (kE b t (kA b t e1')) = true ∨ kIs b 1 (kA b t e1') (kE b t (kA b t e1')) = true
        · rw [if_pos cW] at v3
          rw [if_neg (show ¬ (kLe (b (kA b t e1')) = true ∧ ¬ kIs b 0 (kA b t e1') (kE b t (kA b t e1')) = true ∧ ¬ kIs b 1 (kA b t e1') (kE b t (kA b t e1')) = true) from fun q => cW.elim q.2.1 q.2.2)]
          exact bad 2 (by decide) (by decide) (m2 (by rw [v3]; decide)) (by rw [v3]; decide)
        rw [if_neg cW] at v3
        have cl : kLe (b (kA b t e1')) = true := by
          have := v1 0 (by omega)
          rw [Nat.add_zero] at this
          exact this
        rw [if_pos (show (kLe (b (kA b t e1')) = true ∧ ¬ kIs b 0 (kA b t e1') (kE b t (kA b t e1')) = true ∧ ¬ kIs b 1 (kA b t e1') (kE b t (kA b t e1')) = true) from ⟨cl, fun q => cW (Or.inl q), fun q => cW (Or.inr q)⟩), v3, if_pos (show (2 : Int32) = 2 from rfl)]
        have q63 := kM_63 h1 cK.2 gg1 v2 v1 (by omega) k 0 z_fu (by omega) (z_fu_big (by omega))
        rw [nI_0] at q63
        rw [q63]
        by_cases cn : (z_fst (fun i => kNm b (nm i) (ln i) (kA b t e1') (kE b t (kA b t e1'))) k 0).isSome = true
        · rw [if_pos cn, if_pos cn, z_bde]
          exact kM_bad (by decide) (by decide) b5 b9
        rw [if_neg cn, if_neg cn]
        obtain ⟨k3, k4⟩ := kE_le (b := b) hat1
        have e15 := ((gg3 hat1).2 cO1).1
        obtain ⟨τ2, eτ2⟩ : ∃ x, x = z_upl τ1 (108, 0, 0) (7 * rb + k) (lN (kPk b (kA b t e1') ((kE b t (kA b t e1')) - (kA b t e1')))) := ⟨_, rfl⟩
        rw [← eτ2]
        have hT2 : kMb t b τ2 := by rw [eτ2]; exact kMb_upl b1
        have h2 : kMs t b τ0 rb τ2 k (k + 1) s (kU nm k (kA b t e1')) (kU ln k ((kE b t (kA b t e1')) - (kA b t e1'))) := by
          rw [eτ2]
          refine ⟨kMb_upl b1, ⟨b2.1, b2.2.1, by omega, b2.2.2.2⟩, ⟨b3, b4, b5, b6, b7⟩, fun i hi => ?_, b9⟩
          rw [z_upl_at]
          unfold kU
          by_cases c : i = k
          · subst c
            rw [if_pos ⟨rfl, rfl⟩, if_pos rfl, if_pos rfl]
            exact ⟨rfl, by omega, v1⟩
          · rw [if_neg (fun q => c (by omega)), if_neg c, if_neg c]
            exact b8 i (by omega)
        obtain ⟨τ3, s1, s2, s3, s4⟩ := kM_goOn (e := (kE b t (kA b t e1'))) hT2 (by rw [eτ2]; exact e15) k4
        have h3 := kMs_g h2 s2 s4
        obtain ⟨d1, d2, ⟨d3, d4, d5, d6, d7⟩, d8, d9⟩ := id h3
        obtain ⟨gh1, gh2, gh3⟩ := id s3
        rw [s1, z_bde]
        have ihn : ∀ (m' s' : Nat) (sl' : Nat → Bool), m' < m + 1 + 1 → (∀ i, i < k + 1 → s'.testBit i = sl' i) → (∀ i, k + 1 ≤ i → s'.testBit i = false) → ∀ (e' : Nat) (τ : zS), t < m' + e' → e' ≤ t → kMs t b τ0 rb τ (k + 1) (k + 1) s' (kU nm k (kA b t e1')) (kU ln k ((kE b t (kA b t e1')) - (kA b t e1'))) → kG t b e' τ → ∃ τ', fM_keepers_90 (F' + 1) τ = fM_keepers_151 τ' ∧ kMr τ0 rb τ' (kRun b t m' 0 e' (k + 1) (kU nm k (kA b t e1')) (kU ln k ((kE b t (kA b t e1')) - (kA b t e1'))) sl') := fun m' s' sl' q1 q2 q3 e' τ q4 q5 q6 q7 => ihm m' (by omega) e' (k + 1) (F' + 1) s' _ _ sl' τ q6 q7 q5 q2 q3 q4 (by omega)
        have sl2 : ∀ i, i < k + 1 → s.testBit i = kUb sl k false i := fun i hi => by
          unfold kUb
          by_cases c : i = k
          · rw [c, if_pos rfl]; exact hs0 k (Nat.le_refl k)
          · rw [if_neg c]; exact hsl i (by omega)
        obtain ⟨l5, l6⟩ := kA_le (b := b) k4
        by_cases cS : kA b t (kE b t (kA b t e1')) < t ∧ kOk b t (kA b t (kE b t (kA b t e1'))) ∧ kIs b 1 (kA b t (kE b t (kA b t e1'))) (kE b t (kA b t (kE b t (kA b t e1')))) = true
        · obtain ⟨cS1, cS2, cS3⟩ := cS
          have c592 : b (kA b t (kE b t (kA b t e1'))) ≠ 59 := fun q => by
            have := ((kIs_iff a1.2.1 (by decide)).mp cS3).2 0 (by decide)
            rw [Nat.add_zero, q] at this
            exact absurd this (by decide)
          obtain ⟨x1, x2, x3⟩ := ((gh3 cS1).2 cS2).2.2 c592
          rw [if_pos (Or.inr cS3)] at x3
          have o5 := cS2.1
          have o6 := cS2.2
          have nk2 : lg_cmp (τ3.2 (100, 0, 0) 17) 126896627347060 = 0 := by
            rw [x2]
            exact (kl_cmp.trans (kPk_is (v := 126896627347060) a1.2.1 (by decide) x1 (by omega) (by decide +kernel) (by decide))).mpr cS3
          obtain ⟨m, rfl⟩ : ∃ x, m = x + 1 := ⟨m - 1, by omega⟩
          unfold kK
          rw [x3, if_pos rfl, if_pos nk2, d5, if_pos gr, if_pos gr, if_pos gr, kr, d6, d7, yh_or (by omega), kRun, if_neg (by omega), if_neg (fun q => q cS2), if_neg (show ¬ (2 : Nat) = 0 by decide), if_neg (show ¬ (2 : Nat) = 1 by decide), if_neg (fun q => c592 ((kIs2_iff a1.2.1).mp q).2), if_pos ⟨rfl, cS3⟩, Nat.add_sub_cancel]
          obtain ⟨k5, k6⟩ := kE_le (b := b) cS1
          obtain ⟨τ4, eτ4⟩ : ∃ x, x = z_up τ3 (107, 0, 0) rb (nI (s ||| 2 ^ k)) := ⟨_, rfl⟩
          have hT4 : kMb t b τ4 := by rw [eτ4]; exact kMb_up d1 (by decide) (fun q => absurd q (by decide))
          have h4 : kMs t b τ0 rb τ4 k (k + 1) (s ||| 2 ^ k) (kU nm k (kA b t e1')) (kU ln k ((kE b t (kA b t e1')) - (kA b t e1'))) := by
            rw [eτ4]
            refine ⟨kMb_up d1 (by decide) (fun q => absurd q (by decide)), ⟨d2.1, d2.2.1, d2.2.2.1, y_or_lt _ d2.2.2.2 _ cK.2⟩, ⟨?_, ?_, ?_, ?_, ?_⟩, d8, kMf_7 d9⟩
            · rw [z_up_n _ _ _ (by decide)]; exact d3
            · rw [z_up_n _ _ _ (by decide)]; exact d4
            · rw [z_up_n _ _ _ (by decide)]; exact d5
            · rw [z_up_n _ _ _ (by decide)]; exact d6
            · rw [z_up_s, upd_s]
          obtain ⟨τ5, u1, u2, u3, u4⟩ := kM_goOn (e := kE b t (kA b t (kE b t (kA b t e1')))) hT4 (by rw [eτ4, z_up_n _ _ _ (by decide)]; exact ((gh3 cS1).2 cS2).1) k6
          show ∃ τ', z_bd (z_bd (fM_goOn (z_up τ3 (107, 0, 0) rb (nI (s ||| 2 ^ k)))) (fun _ σ29 => fM_readKeeper_204 σ29)) (fun _ σ28 => fM_keepers_90 (F' + 1) σ28) = fM_keepers_151 τ' ∧ _
          rw [← eτ4, u1, z_bde]
          have sl3 : ∀ i, i < k + 1 → (s ||| 2 ^ k).testBit i = kUb (kUb sl k false) k true i := fun i hi => by
            rw [yh_set]
            unfold kUb
            by_cases c : i = k
            · rw [c, if_pos rfl]; simp
            · rw [if_neg c, if_neg c, hsl i (by omega)]; simp [c]
          refine kM_tail (Or.inr rfl) (kMs_g h4 u2 u4) u3 k6 (fun q => absurd q (by decide)) (by omega) (by omega) (fun e' τ q1 q2 q3 q4 => ?_)
          exact ihn (m - 1) _ _ (by omega) sl3 (fun i hi => by rw [yh_set, hs0 i (by omega)]; simp; omega) e' τ (by omega) q2 q3 q4
        · have ek : kK τ3 = fM_readKeeper_204 τ3 := by
            unfold kK
            by_cases c3 : τ3.1 (100, 0, 0) 16 = 3
            · rw [if_pos c3, if_neg (fun q => ?_)]
              have ct : kA b t (kE b t (kA b t e1')) < t := Classical.byContradiction fun q' => by
                rw [gh2 (by omega)] at c3
                exact absurd c3 (by decide)
              have co : kOk b t (kA b t (kE b t (kA b t e1'))) := Classical.byContradiction fun q' => by
                rw [(gh3 ct).1 q'] at c3
                exact absurd c3 (by decide)
              have cq : b (kA b t (kE b t (kA b t e1'))) ≠ 59 := fun q' => by
                rw [((gh3 ct).2 co).2.1 q'] at c3
                exact absurd c3 (by decide)
              obtain ⟨x1, x2, -⟩ := ((gh3 ct).2 co).2.2 cq
              have o6 := co.2
              rw [x2] at q
              exact cS ⟨ct, co, (kl_cmp.trans (kPk_is (v := 126896627347060) a1.2.1 (by decide) x1 (by omega) (by decide +kernel) (by decide))).mp q⟩
            · rw [if_neg c3]
          rw [ek]
          refine kM_tail (Or.inl rfl) h3 s3 k4 (fun _ q1 q2 q3 => cS ⟨q1, q2, q3⟩) (by omega) (by omega) (fun e' τ q1 q2 q3 q4 => ?_)
          exact ihn (m - 1) _ _ (by omega) sl2 (fun i hi => hs0 i (by omega)) e' τ (by omega) q2 q3 q4
      · rw [if_pos (show ¬ kOk b t (kA b t e1') from cO1)]
        have c16 := (gg3 hat1).1 cO1
        exact bad 1 (by decide) (by decide) (m1 c16) (by rw [c16]; decide)
    · rw [if_neg cK]
      have n1 : ¬ τ.1 (100, 0, 0) 16 = 1 := by
        by_cases c59 : b (kA b t e) = 59
        · rw [((g3 hat).2 cO).2.1 c59]; decide
        · rw [(((g3 hat).2 cO).2.2 c59).2.2]
          by_cases c : kIs b 0 (kA b t e) (kE b t (kA b t e)) = true ∨ kIs b 1 (kA b t e) (kE b t (kA b t e)) = true
          · rw [if_pos c]; decide
          · rw [if_neg c]; decide
      have e1 : fM_readKeeper τ = fM_readKeeper_33 τ := by
        unfold fM_readKeeper
        by_cases c3 : τ.1 (100, 0, 0) 16 = 3
        · rw [if_pos c3]
          by_cases cc : lg_cmp (τ.2 (100, 0, 0) 17) 118083237733746 = 0
          · rw [if_pos cc, a5, if_pos gr, kr, a6, if_pos]
            have cq : b (kA b t e) ≠ 59 := fun q' => by
              rw [((g3 hat).2 cO).2.1 q'] at c3
              exact absurd c3 (by decide)
            obtain ⟨x1, x2, -⟩ := ((g3 hat).2 cO).2.2 cq
            rw [x2] at cc
            have is0 := (kl_cmp.trans (kPk_is (g := 0) (v := 118083237733746) a1.2.1 (by decide) x1 (by omega) (by decide +kernel) (by decide))).mp cc
            have : k = 7 := by
              have : ¬ k < 7 := fun q => cK ⟨is0, q⟩
              have := a2.2.1
              omega
            rw [this]
            decide +kernel
          · rw [if_neg cc]
        · rw [if_neg c3]
      rw [e1, kM_rk33 a3 g1 (Or.inr ⟨n1, rfl⟩), z_bde]
      exact kM_bad (by decide) (by decide) a5 a9
  · rw [if_pos cO]
    have c16 := (g3 hat).1 cO
    have e1 : fM_readKeeper τ = fM_readKeeper_33 τ := by
      unfold fM_readKeeper
      rw [c16, if_neg (by decide)]
    rw [e1, kM_rk33 a3 g1 (Or.inl ⟨c16, rfl⟩), z_bde]
    exact kM_bad (by decide) (by decide) a5 a9
end kmodel4
