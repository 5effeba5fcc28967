/-! the text: the model's next token -/
def kGf (τ τ' : zS) : Prop := (∀ z : zJ, z ≠ (100, 0, 0) → τ'.1 z = τ.1 z) ∧ (∀ i, i ≠ 14 → i ≠ 15 → i ≠ 16 → τ'.1 (100, 0, 0) i = τ.1 (100, 0, 0) i) ∧ ∀ z : zJ, z ≠ (100, 0, 0) → τ'.2 z = τ.2 z
theorem kGf_up {τ τ' : zS} {i : Nat} {x : Int32} (h : kGf τ τ') (hi : i = 14 ∨ i = 15 ∨ i = 16) : kGf τ (z_up τ' (100, 0, 0) i x) := ⟨fun z hz => by rw [z_up_n _ _ _ hz]; exact h.1 z hz, fun j j1 j2 j3 => by rw [z_up_s, upd_n _ _ (by omega)]; exact h.2.1 j j1 j2 j3, h.2.2⟩
theorem kGf_upl {τ τ' : zS} {i : Nat} {x : Int64} (h : kGf τ τ') : kGf τ (z_upl τ' (100, 0, 0) i x) := ⟨h.1, h.2.1, fun z hz => by
  funext j
  rw [z_upl_at, if_neg (fun q => hz q.1), h.2.2 z hz]⟩
def kG (t : Nat) (b : Nat → Nat) (e : Nat) (τ : zS) : Prop := τ.1 (100, 0, 0) 14 = nI (kA b t e) ∧ (kA b t e = t → τ.1 (100, 0, 0) 16 = 0) ∧ (kA b t e < t → (¬ kOk b t (kA b t e) → τ.1 (100, 0, 0) 16 = 1) ∧ (kOk b t (kA b t e) → τ.1 (100, 0, 0) 15 = nI (kE b t (kA b t e)) ∧ (b (kA b t e) = 59 → τ.1 (100, 0, 0) 16 = 4) ∧ (b (kA b t e) ≠ 59 → (∀ j, j < kE b t (kA b t e) - kA b t e → kLe (b (kA b t e + j)) = true) ∧ τ.2 (100, 0, 0) 17 = lN (kPk b (kA b t e) (kE b t (kA b t e) - kA b t e)) ∧ τ.1 (100, 0, 0) 16 = if kIs b 0 (kA b t e) (kE b t (kA b t e)) = true ∨ kIs b 1 (kA b t e) (kE b t (kA b t e)) = true then 3 else 2)))
section kmodel2
variable {t : Nat} {b : Nat → Nat} {τ : zS}
set_option maxHeartbeats 1000000 in
theorem kM_goOn {e : Nat} (h : kMb t b τ) (h15 : τ.1 (100, 0, 0) 15 = nI e) (he : e ≤ t) : ∃ τ', fM_goOn τ = some ((), τ') ∧ kMb t b τ' ∧ kG t b e τ' ∧ kGf τ τ' := by
  have h400 := h.1
  have e0 : fM_goOn τ = fM_goOn_58 (z_up τ (100, 0, 0) 14 (nI (kA b t e))) := by
    unfold fM_goOn
    show fM_goOn_8 z_fu (z_up τ (100, 0, 0) 14 (τ.1 (100, 0, 0) 15)) = _
    rw [h15, kM_skip (t - e) e z_fu _ (kMb_up h (by decide) (fun _ => by decide)) (by rw [z_up_s, upd_s]) (by omega) (z_fu_big (by omega)), z_up_up]
    rfl
  obtain ⟨l1, l2⟩ := kA_le (b := b) he
  unfold kG kOk
  obtain ⟨a, ea⟩ : ∃ a, a = kA b t e := ⟨_, rfl⟩
  rw [← ea] at e0 l1 l2 ⊢
  have g0 : kGf τ τ := ⟨fun _ _ => rfl, fun _ _ _ _ => rfl, fun _ _ => rfl⟩
  obtain ⟨τ4, e4⟩ : ∃ s, s = z_up (z_up τ (100, 0, 0) 14 (nI a)) (100, 0, 0) 15 (nI (a + 1)) := ⟨_, rfl⟩
  have hT : kMb t b (z_up τ (100, 0, 0) 14 (nI a)) := kMb_up h (by decide) (fun _ => by decide)
  have hT4 : kMb t b τ4 := by rw [e4]; exact kMb_up hT (by decide) (fun _ => by decide)
  have g4 : kGf τ τ4 := by rw [e4]; exact kGf_up (kGf_up g0 (by decide)) (by decide)
  have r8 : (z_up τ (100, 0, 0) 14 (nI a)).1 (100, 0, 0) 14 = nI a := by rw [z_up_s, upd_s]
  have r14 : τ4.1 (100, 0, 0) 14 = nI a := by rw [e4, z_up_s, upd_n _ _ (by decide)]; exact r8
  have r15 : τ4.1 (100, 0, 0) 15 = nI (a + 1) := by rw [e4, z_up_s, upd_s]
  have e1 : fM_goOn τ = if τ4.1 (100, 0, 0) 14 < τ4.1 (100, 0, 0) 6 then z_bd (fM_isLetter (nI (if a < t then b a else 0)) τ4) (fun r6 σ6 => if r6 = 0 then (if nI (if a < t then b a else 0) = 59 then some ((), z_up σ6 (100, 0, 0) 16 4) else some ((), z_up σ6 (100, 0, 0) 16 1)) else fM_goOn_119 z_fu σ6) else some ((), z_up (z_up (z_up τ4 (100, 0, 0) 16 0) (100, 0, 0) 14 ((z_up τ4 (100, 0, 0) 16 0).1 (100, 0, 0) 6)) (100, 0, 0) 15 ((z_up (z_up τ4 (100, 0, 0) 16 0) (100, 0, 0) 14 ((z_up τ4 (100, 0, 0) 16 0).1 (100, 0, 0) 6)).1 (100, 0, 0) 6)) := by
    rw [e0]
    unfold fM_goOn_58
    rw [r8, kM_sign hT (by omega), z_bde, r8, nI_1, ← e4]
    rfl
  rw [e1, r14, hT4.2.2.1]
  by_cases cA : a = t
  · rw [if_neg (nI_nlt (by omega) (by omega))]
    refine ⟨_, rfl, kMb_up (kMb_up (kMb_up hT4 (by decide) (fun _ => by decide)) (by decide) (fun _ => by decide)) (by decide) (fun _ => by decide), ⟨?_, fun _ => ?_, fun q => absurd q (by omega)⟩, kGf_up (kGf_up (kGf_up g4 (by decide)) (by decide)) (by decide)⟩
    · rw [z_up_s, upd_n _ _ (by decide), z_up_s, upd_s, z_up_s, upd_n _ _ (by decide), hT4.2.2.1, cA]
    · rw [z_up_s, upd_n _ _ (by decide), z_up_s, upd_n _ _ (by decide), z_up_s, upd_s]
  have hat : a < t := by omega
  have hb := h.2.1 a
  rw [if_pos (nI_lt hat (by omega)), if_pos hat, kM_letter hb, z_bde]
  by_cases cl : kLe (b a) = true
  · have c59 : b a ≠ 59 := by have := kLe_r cl; omega
    have eE : kE b t a = kSk (fun j => kLe (b j)) (t - (a + 1)) (a + 1) := by
      unfold kE
      rw [if_neg c59, show t - a = t - (a + 1) + 1 by omega, kSk, if_pos cl]
    obtain ⟨k1, k2, k3⟩ := kSk_ge (fun j => kLe (b j)) (t - (a + 1)) (a + 1)
    rw [← eE] at k1 k2 k3
    obtain ⟨e', ee⟩ : ∃ e', e' = kE b t a := ⟨_, rfl⟩
    rw [← ee] at k1 k2 k3 eE ⊢
    have hl : ∀ j, j < e' - a → kLe (b (a + j)) = true := fun j hj => by
      by_cases c : j = 0
      · rw [c]; exact cl
      · exact k3 (a + j) (by omega) (by omega)
    rw [if_pos cl, if_neg (by decide), kM_end (t - (a + 1)) (a + 1) z_fu τ4 hT4 r15 (by omega) (z_fu_big (by omega)), ← eE, r14]
    have pk := kM_pack (a := a) (e' := e') (min e' (a + 8) - a) 0 z_fu (z_upl (z_up τ4 (100, 0, 0) 15 (nI e')) (100, 0, 0) 17 0) (kMb_upl (kMb_up hT4 (by decide) (fun _ => by decide))) (by rw [z_upl_1, z_up_s, upd_n _ _ (by decide)]; exact r14) (by rw [z_upl_1, z_up_s, upd_s]) (by omega) (by omega) (fun j hj => hl j (by omega)) (by rw [z_upl_at, if_pos ⟨rfl, rfl⟩]; rfl) (z_fu_big (by omega))
    rw [Nat.add_zero, Nat.zero_add, z_upl_upl] at pk
    rw [pk]
    obtain ⟨τ5, e5⟩ : ∃ s, s = z_upl (z_up τ4 (100, 0, 0) 15 (nI e')) (100, 0, 0) 17 (lN (kPk b a (min e' (a + 8) - a))) := ⟨_, rfl⟩
    rw [← e5]
    have s14 : τ5.1 (100, 0, 0) 14 = nI a := by rw [e5, z_upl_1, z_up_s, upd_n _ _ (by decide)]; exact r14
    have s15 : τ5.1 (100, 0, 0) 15 = nI e' := by rw [e5, z_upl_1, z_up_s, upd_s]
    have s17 : τ5.2 (100, 0, 0) 17 = lN (kPk b a (min e' (a + 8) - a)) := by rw [e5, z_upl_at, if_pos ⟨rfl, rfl⟩]
    have hT5 : kMb t b τ5 := by rw [e5]; exact kMb_upl (kMb_up hT4 (by decide) (fun _ => by decide))
    have g5 : kGf τ τ5 := by rw [e5]; exact kGf_upl (kGf_up g4 (by decide))
    have fin : ∀ v : Int32, (e' ≤ a + 8 → v = if kIs b 0 a e' = true ∨ kIs b 1 a e' = true then 3 else 2) → (¬ e' ≤ a + 8 → v = 1) → ∃ τ', some ((), z_up τ5 (100, 0, 0) 16 v) = some ((), τ') ∧ kMb t b τ' ∧ (τ'.1 (100, 0, 0) 14 = nI a ∧ (a = t → τ'.1 (100, 0, 0) 16 = 0) ∧ (a < t → (¬ (a < e' ∧ e' ≤ a + 8) → τ'.1 (100, 0, 0) 16 = 1) ∧ ((a < e' ∧ e' ≤ a + 8) → τ'.1 (100, 0, 0) 15 = nI e' ∧ (b a = 59 → τ'.1 (100, 0, 0) 16 = 4) ∧ (b a ≠ 59 → (∀ j, j < e' - a → kLe (b (a + j)) = true) ∧ τ'.2 (100, 0, 0) 17 = lN (kPk b a (e' - a)) ∧ τ'.1 (100, 0, 0) 16 = if kIs b 0 a e' = true ∨ kIs b 1 a e' = true then 3 else 2)))) ∧ kGf τ τ' := by
      intro v v1 v2
      refine ⟨_, rfl, kMb_up hT5 (by decide) (fun _ => by decide), ⟨?_, fun q => absurd q cA, fun _ => ⟨fun q => ?_, fun q => ⟨?_, fun q' => absurd q' c59, fun _ => ⟨hl, ?_, ?_⟩⟩⟩⟩, kGf_up g5 (by decide)⟩
      · rw [z_up_s, upd_n _ _ (by decide)]; exact s14
      · rw [z_up_s, upd_s, v2 (fun q' => q ⟨by omega, q'⟩)]
      · rw [z_up_s, upd_n _ _ (by decide)]; exact s15
      · show τ5.2 (100, 0, 0) 17 = _
        rw [s17, show min e' (a + 8) - a = e' - a by omega]
      · rw [z_up_s, upd_s, v1 q.2]
    unfold fM_goOn_199
    rw [s14, s15, s17, pk_sub (by omega), show (8 : Int32) = nI 8 from by decide +kernel]
    by_cases c8 : e' ≤ a + 8
    · rw [if_pos ((nI_leI (by omega) (by decide)).mpr (by omega)), show min e' (a + 8) - a = e' - a by omega]
      have i0 : lg_cmp (lN (kPk b a (e' - a))) 118083237733746 = 0 ↔ kIs b 0 a e' = true := kl_cmp.trans (kPk_is (v := 118083237733746) h.2.1 (by decide) hl (by omega) (by decide +kernel) (by decide))
      have i1 : lg_cmp (lN (kPk b a (e' - a))) 126896627347060 = 0 ↔ kIs b 1 a e' = true := kl_cmp.trans (kPk_is (v := 126896627347060) h.2.1 (by decide) hl (by omega) (by decide +kernel) (by decide))
      by_cases c0 : kIs b 0 a e' = true
      · rw [if_pos (i0.mpr c0)]
        exact fin 3 (fun _ => by rw [if_pos (Or.inl c0)]) (fun q => absurd c8 q)
      · rw [if_neg (fun q => c0 (i0.mp q))]
        by_cases c1 : kIs b 1 a e' = true
        · rw [if_pos (i1.mpr c1)]
          exact fin 3 (fun _ => by rw [if_pos (Or.inr c1)]) (fun q => absurd c8 q)
        · rw [if_neg (fun q => c1 (i1.mp q))]
          exact fin 2 (fun _ => by rw [if_neg (fun q => q.elim c0 c1)]) (fun q => absurd c8 q)
    · rw [if_neg (fun q => by have := (nI_leI (by omega) (by decide)).mp q; omega)]
      exact fin 1 (fun q => absurd q c8) (fun _ => rfl)
  · have cl' : ¬ kLe (b a) = true := cl
    rw [if_neg cl, if_pos rfl]
    by_cases c59 : b a = 59
    · have eE : kE b t a = a + 1 := if_pos c59
      rw [if_pos (by rw [c59]; decide +kernel), eE]
      refine ⟨_, rfl, kMb_up hT4 (by decide) (fun _ => by decide), ⟨?_, fun q => absurd q cA, fun _ => ⟨fun q => absurd ⟨by omega, by omega⟩ q, fun _ => ⟨?_, fun _ => ?_, fun q' => absurd c59 q'⟩⟩⟩, kGf_up g4 (by decide)⟩
      · rw [z_up_s, upd_n _ _ (by decide)]; exact r14
      · rw [z_up_s, upd_n _ _ (by decide)]; exact r15
      · rw [z_up_s, upd_s]
    · have eE : kE b t a = a := by
        unfold kE
        rw [if_neg c59, show t - a = t - (a + 1) + 1 by omega, kSk, if_neg cl']
      rw [if_neg (fun q' => c59 ((nI_eq (a := b a) (b := 59) (by omega) (by decide)).mp (q'.trans (by decide +kernel)))), eE]
      refine ⟨_, rfl, kMb_up hT4 (by decide) (fun _ => by decide), ⟨?_, fun q => absurd q cA, fun _ => ⟨fun _ => ?_, fun q => absurd q.1 (by omega)⟩⟩, kGf_up g4 (by decide)⟩
      · rw [z_up_s, upd_n _ _ (by decide)]; exact r14
      · rw [z_up_s, upd_s]
end kmodel2
