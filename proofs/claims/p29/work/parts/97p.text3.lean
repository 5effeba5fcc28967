/-! the text: the class reads it -/
section kclass2
variable {t : Nat} {b : Nat → Nat} {σ0 σ : zS} {e k : Nat} {nm ln : Nat → Nat} {sl : Nat → Bool}
theorem kT_114 {a : Nat} (x : Int32) (h8 : σ.1 (31, 0, 0) 8 = nI a) : fT_takeToken_114 x σ = some (x, kBm σ 2 a) := by
  unfold fT_takeToken_114 fT_blame
  rw [h8]
  rfl
theorem kT_take0 {a : Nat} (h : kC t b σ0 σ e k nm ln sl) (h8 : σ.1 (31, 0, 0) 8 = nI a) (hae : a ≤ e) : fT_takeToken 0 σ = if kIs b 0 a e = true ∧ k < 7 then some (1, σ) else some (0, kBm σ 2 a) := by
  obtain ⟨a1, a2, ⟨a3, a4, a5, a6⟩, a7, a8⟩ := h
  unfold fT_takeToken
  rw [if_pos rfl, kT_is a1 (by decide) h8 a6 hae a2.2, z_bde]
  by_cases c : kIs b 0 a e = true
  · rw [if_pos c, if_neg (by decide), a3]
    by_cases c7 : k < 7
    · rw [if_neg (fun q => by
        rw [show (7 : Int32) = nI 7 from by decide +kernel] at q
        have := (nI_leI (by decide) (by omega)).mp q
        omega), if_pos ⟨c, c7⟩]
    · rw [if_pos (by
        rw [show (7 : Int32) = nI 7 from by decide +kernel]
        exact nI_le (by omega) (by omega)), if_neg (fun q => c7 q.2), kT_114 _ h8]
  · rw [if_neg c, if_pos rfl, if_neg (fun q => c q.1), kT_114 _ h8]
theorem kT_take1 {a : Nat} (h : kC t b σ0 σ e k nm ln sl) (h8 : σ.1 (31, 0, 0) 8 = nI a) (hae : a ≤ e) (hat : a < t) (hk : k < 7) : fT_takeToken 1 σ = if kLe (b a) = true ∧ ¬ kIs b 0 a e = true ∧ ¬ kIs b 1 a e = true then (if (z_fst (fun i => kNm b (nm i) (ln i) a e) k 0).isSome = true then some (2, kBm σ 3 a) else some (2, z_up (z_up (z_up (z_up σ (33, 0, 0) k (nI a)) (34, 0, 0) k (nI (e - a))) (35, 0, 0) k 0) (31, 0, 0) 5 (nI (k + 1)))) else some (1, kBm σ 2 a) := by
  obtain ⟨a1, a2, ⟨a3, a4, a5, a6⟩, a7, a8⟩ := id h
  have tn := kC_name_2 h hk h8 hae k 0 z_fu (by omega) (z_fu_big (by omega))
  rw [nI_0] at tn
  unfold fT_takeToken
  rw [if_neg (by decide), if_pos rfl, h8, kT_letter a1 hat, z_bde]
  by_cases c : kLe (b a) = true
  · rw [if_pos c, if_neg (by decide), kT_is a1 (by decide) h8 a6 hae a2.2, z_bde]
    by_cases c0 : kIs b 0 a e = true
    · rw [if_pos c0, if_neg (by decide), if_neg (fun q => q.2.1 c0), kT_114 _ h8]
    · rw [if_neg c0, if_pos rfl, kT_is a1 (by decide) h8 a6 hae a2.2, z_bde]
      by_cases c1 : kIs b 1 a e = true
      · rw [if_pos c1, if_neg (by decide), if_neg (fun q => q.2.2 c1), kT_114 _ h8]
      · rw [if_neg c1, if_pos rfl, if_pos ⟨c, c0, c1⟩]
        unfold fT_takeName
        rw [tn]
        by_cases cn : (z_fst (fun i => kNm b (nm i) (ln i) a e) k 0).isSome = true
        · rw [if_pos cn, if_pos cn, z_bde]
        · rw [if_neg cn, if_neg cn, z_bde]
  · rw [if_neg c, if_pos rfl, if_neg (fun q => c q.1), kT_114 _ h8]
theorem kT_take2 {a due : Nat} (h : kC t b σ0 σ e k nm ln sl) (h8 : σ.1 (31, 0, 0) 8 = nI a) (hae : a ≤ e) (hk : 1 ≤ k) (hd : due = 2 ∨ due = 3) : fT_takeToken (nI due) σ = if kIs b 2 a e = true then some (0, σ) else if due = 2 ∧ kIs b 1 a e = true then some (3, z_up σ (35, 0, 0) (k - 1) 1) else some (nI due, kBm σ 2 a) := by
  obtain ⟨a1, a2, ⟨a3, a4, a5, a6⟩, a7, a8⟩ := id h
  unfold fT_takeToken
  rw [if_neg (by rcases hd with rfl | rfl <;> decide +kernel), if_neg (by rcases hd with rfl | rfl <;> decide +kernel), kT_is a1 (by decide) h8 a6 hae a2.2, z_bde]
  by_cases c : kIs b 2 a e = true
  · rw [if_pos c, if_neg (by decide), if_pos c]
  · rw [if_neg c, if_pos rfl, if_neg c]
    by_cases c2 : due = 2
    · rw [if_pos (by rw [c2]; decide +kernel), kT_is a1 (by decide) h8 a6 hae a2.2, z_bde]
      by_cases c1 : kIs b 1 a e = true
      · rw [if_pos c1, if_neg (by decide), if_pos ⟨c2, c1⟩, (kC_silent h hk).1, z_bde]
      · rw [if_neg c1, if_pos rfl, if_neg (fun q => c1 q.2), kT_114 _ h8]
    · rw [if_neg (fun q => c2 ((nI_eq (a := due) (b := 2) (by omega) (by decide)).mp (q.trans (by decide +kernel)))), if_neg (fun q => c2 q.1), kT_114 _ h8]
end kclass2
set_option maxHeartbeats 1000000 in
theorem kC_run {t : Nat} {b : Nat → Nat} {σ0 : zS} : ∀ (m due e k i F : Nat) (nm ln : Nat → Nat) (sl : Nat → Bool) (σ : zS), kC t b σ0 σ e k nm ln sl → t < m + e → due ≤ 3 → (due = 1 → k < 7) → (2 ≤ due → 1 ≤ k) → i ≤ e → 401 < F + i → ∃ σ', fT_parse_24 F (nI due) (nI i) σ = some ((), σ') ∧ kRs σ0 σ' (kRun b t m due e k nm ln sl) := by
  intro m
  induction m with
  | zero =>
    intro due e k i F nm ln sl σ h hm
    exact absurd hm (by have := h.2.1.2; omega)
  | succ m ih =>
    intro due e k i F nm ln sl σ h hm hd h1 h2 hi hF
    obtain ⟨a1, a2, ⟨a3, a4, a5, a6⟩, a7, a8⟩ := id h
    have h400 := a1.1
    obtain ⟨F, rfl⟩ : ∃ k, F = k + 1 := ⟨F - 1, by omega⟩
    obtain ⟨l1, l2⟩ := kA_le (b := b) a2.2
    have fnd := kT_find a1 a6 a2.2
    rw [kRun]
    obtain ⟨a, ea⟩ : ∃ a, a = kA b t e := ⟨_, rfl⟩
    rw [← ea] at l1 l2 fnd ⊢
    by_cases cA : a = t
    · rw [if_pos cA, fT_parse_24.eq_2]
      by_cases c4 : (400 : Int32) ≤ nI i
      · rw [if_pos c4]
        exact kC_57 h hd
      · rw [if_neg c4, a4, if_pos rfl, fnd.1 cA, z_bde, if_pos rfl]
        exact kC_57 (kC_8 h) hd
    · rw [if_neg cA]
      have hat : a < t := by omega
      have i4 : ¬ (400 : Int32) ≤ nI i := fun q => by
        have := (nI_le_lit (a := 400) (by decide +kernel) (by decide) (by omega)).mp q
        omega
      rw [fT_parse_24.eq_2, if_neg i4, a4, if_pos rfl]
      by_cases cO : kOk b t a
      · rw [if_neg (fun q => q cO), (fnd.2 hat).1 cO, z_bde, if_neg (by decide)]
        obtain ⟨k1, k2⟩ := kE_le (b := b) hat
        obtain ⟨o1, o2⟩ := cO
        obtain ⟨e', ee⟩ : ∃ e', e' = kE b t a := ⟨_, rfl⟩
        rw [← ee] at k1 k2 o1 o2 ⊢
        have h' := kC_9 (e' := e') k2 (kC_8 (x := nI a) h)
        have h8' : (z_up (z_up σ (31, 0, 0) 8 (nI a)) (31, 0, 0) 9 (nI e')).1 (31, 0, 0) 8 = nI a := by rw [z_up_s, upd_n _ _ (by decide), z_up_s, upd_s]
        obtain ⟨σ1, e1⟩ : ∃ s, s = z_up (z_up σ (31, 0, 0) 8 (nI a)) (31, 0, 0) 9 (nI e') := ⟨_, rfl⟩
        rw [← e1] at h' h8' ⊢
        have go : ∀ (d' k' : Nat) (nm' ln' : Nat → Nat) (sl' : Nat → Bool) (ρ : zS), kC t b σ0 ρ e' k' nm' ln' sl' → d' ≤ 3 → (d' = 1 → k' < 7) → (2 ≤ d' → 1 ≤ k') → ∃ σ', fT_parse_24 F (nI d') (nI i + 1) ρ = some ((), σ') ∧ kRs σ0 σ' (kRun b t m d' e' k' nm' ln' sl') := by
          intro d' k' nm' ln' sl' ρ g1 g2 g3 g4
          rw [nI_1]
          exact ih d' e' k' (i + 1) F nm' ln' sl' ρ g1 (by omega) g2 g3 g4 (by omega) (by omega)
        have bad : ∀ (x : Int32) (f : Nat), 1 ≤ f → f ≤ 4 → ∃ σ', fT_parse_24 F x (nI i + 1) (kBm σ1 f a) = some ((), σ') ∧ kRs σ0 σ' (f, a, k, sl) := by
          intro x f f1 f2
          obtain ⟨F, rfl⟩ : ∃ k, F = k + 1 := ⟨F - 1, by omega⟩
          exact kBm_24 x _ f1 f2 h'.2.2.2.2
        by_cases d0 : due = 0
        · subst d0
          rw [if_pos rfl, nI_0, kT_take0 h' h8' k1]
          by_cases c : kIs b 0 a e' = true ∧ k < 7
          · rw [if_pos c, if_pos c, z_bde]
            exact go 1 k nm ln sl σ1 h' (by decide) (fun _ => c.2) (fun q => absurd q (by decide))
          · rw [if_neg c, if_neg c, z_bde]
            exact bad 0 2 (by decide) (by decide)
        rw [if_neg d0]
        by_cases d1 : due = 1
        · subst d1
          rw [if_pos rfl, show nI 1 = 1 from by decide +kernel, kT_take1 h' h8' k1 hat (h1 rfl)]
          by_cases c : kLe (b a) = true ∧ ¬ kIs b 0 a e' = true ∧ ¬ kIs b 1 a e' = true
          · rw [if_pos c, if_pos c]
            by_cases cn : (z_fst (fun i => kNm b (nm i) (ln i) a e') k 0).isSome = true
            · rw [if_pos cn, if_pos cn, z_bde]
              exact bad 2 3 (by decide) (by decide)
            · rw [if_neg cn, if_neg cn, z_bde]
              exact go 2 (k + 1) _ _ _ _ (kC_named h' (h1 rfl) k1) (by decide) (fun q => absurd q (by decide)) (fun _ => by omega)
          · rw [if_neg c, if_neg c, z_bde]
            exact bad 1 2 (by decide) (by decide)
        have d23 : due = 2 ∨ due = 3 := by omega
        rw [if_neg d1, kT_take2 h' h8' k1 (h2 (by omega)) d23]
        by_cases c : kIs b 2 a e' = true
        · rw [if_pos c, if_pos c, z_bde]
          exact go 0 k nm ln sl σ1 h' (by decide) (fun q => absurd q (by decide)) (fun q => absurd q (by decide))
        rw [if_neg c, if_neg c]
        by_cases c2 : due = 2 ∧ kIs b 1 a e' = true
        · rw [if_pos c2, if_pos c2, z_bde]
          exact go 3 k nm ln _ _ (kC_silent h' (h2 (by omega))).2 (by decide) (fun q => absurd q (by decide)) (fun _ => h2 (by omega))
        · rw [if_neg c2, if_neg c2, z_bde]
          exact bad (nI due) 2 (by decide) (by decide)
      · rw [if_pos cO, (fnd.2 hat).2 cO, z_bde, if_pos rfl]
        exact kBm_57 (σ := z_up (z_up σ (31, 0, 0) 8 (nI a)) (31, 0, 0) 9 (nI (kE b t a))) (f := 1) (p := a) (nI due) (by decide) (by decide) (kFr_up (kFr_up a8 (by decide) (by decide)) (by decide) (by decide))
/-- parse -/
theorem kC_parse {t : Nat} {b : Nat → Nat} {σ : zS} (h : kT t b σ) (nm ln : Nat → Nat) (sl : Nat → Bool) : ∃ σ', fT_parse σ = some ((), σ') ∧ kRs σ σ' (kRun b t (t + 1) 0 0 0 nm ln sl) := by
  obtain ⟨F, hF, eF⟩ := z_fu_ex
  have h0 : kC t b σ (z_up (z_up (z_up (z_up σ (31, 0, 0) 5 0) (31, 0, 0) 6 0) (31, 0, 0) 7 (-1)) (31, 0, 0) 9 0) 0 0 nm ln sl := by
    refine ⟨kT_up (kT_up (kT_up (kT_up h (by decide) (fun _ => by decide)) (by decide) (fun _ => by decide)) (by decide) (fun _ => by decide)) (by decide) (fun _ => by decide), ⟨by decide, by omega⟩, ⟨?_, ?_, ?_, ?_⟩, fun i hi => by omega, kFr_up (kFr_up (kFr_up (kFr_up ⟨fun _ _ => rfl, rfl⟩ (by decide) (by decide)) (by decide) (by decide)) (by decide) (by decide)) (by decide) (by decide)⟩
    · rw [z_up_s, upd_n _ _ (by decide), z_up_s, upd_n _ _ (by decide), z_up_s, upd_n _ _ (by decide), z_up_s, upd_s, nI_0]
    · rw [z_up_s, upd_n _ _ (by decide), z_up_s, upd_n _ _ (by decide), z_up_s, upd_s]
    · rw [z_up_s, upd_n _ _ (by decide), z_up_s, upd_s]
    · rw [z_up_s, upd_s, nI_0]
  have := kC_run (t + 1) 0 0 0 0 F nm ln sl _ h0 (by omega) (by decide) (fun q => absurd q (by decide)) (fun q => absurd q (by decide)) (by omega) (by omega)
  rw [nI_0] at this
  unfold fT_parse
  rw [eF]
  exact this
