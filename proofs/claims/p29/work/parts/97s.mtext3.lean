/-! the text: the model reads it -/
def kMf (τ0 : zS) (rb : Nat) (τ : zS) : Prop := (∀ z : zJ, z ≠ (100, 0, 0) → z ≠ (102, 0, 0) → z ≠ (106, 0, 0) → z ≠ (107, 0, 0) → τ.1 z = τ0.1 z) ∧ (∀ i, i ≠ rb → τ.1 (106, 0, 0) i = τ0.1 (106, 0, 0) i ∧ τ.1 (107, 0, 0) i = τ0.1 (107, 0, 0) i) ∧ ∀ i, i < 6 ∨ i = 12 ∨ 17 < i → τ.1 (100, 0, 0) i = τ0.1 (100, 0, 0) i
theorem kMf_g {τ0 τ τ' : zS} {rb : Nat} (h : kMf τ0 rb τ) (g : kGf τ τ') : kMf τ0 rb τ' := ⟨fun z z0 z1 z2 z3 => by rw [g.1 z z0]; exact h.1 z z0 z1 z2 z3, fun i hi => by rw [g.1 (106, 0, 0) (by decide), g.1 (107, 0, 0) (by decide)]; exact h.2.1 i hi, fun i hi => by rw [g.2.1 i (by omega) (by omega) (by omega)]; exact h.2.2 i hi⟩
theorem kMf_0 {τ0 τ : zS} {rb i : Nat} {x : Int32} (h : kMf τ0 rb τ) (hi : ¬ (i < 6 ∨ i = 12 ∨ 17 < i)) : kMf τ0 rb (z_up τ (100, 0, 0) i x) := ⟨fun z z0 z1 z2 z3 => by rw [z_up_n _ _ _ z0]; exact h.1 z z0 z1 z2 z3, fun j hj => by rw [z_up_n _ _ _ (by decide), z_up_n _ _ _ (by decide)]; exact h.2.1 j hj, fun j hj => by rw [z_up_s, upd_n _ _ (by omega)]; exact h.2.2 j hj⟩
theorem kMf_6 {τ0 τ : zS} {rb : Nat} {x : Int32} (h : kMf τ0 rb τ) : kMf τ0 rb (z_up τ (106, 0, 0) rb x) := ⟨fun z z0 z1 z2 z3 => by rw [z_up_n _ _ _ z2]; exact h.1 z z0 z1 z2 z3, fun j hj => by rw [z_up_s, upd_n _ _ hj, z_up_n _ _ _ (by decide)]; exact h.2.1 j hj, fun j hj => by rw [z_up_n _ _ _ (by decide)]; exact h.2.2 j hj⟩
theorem kMf_7 {τ0 τ : zS} {rb : Nat} {x : Int32} (h : kMf τ0 rb τ) : kMf τ0 rb (z_up τ (107, 0, 0) rb x) := ⟨fun z z0 z1 z2 z3 => by rw [z_up_n _ _ _ z3]; exact h.1 z z0 z1 z2 z3, fun j hj => by rw [z_up_s, upd_n _ _ hj, z_up_n _ _ _ (by decide)]; exact h.2.1 j hj, fun j hj => by rw [z_up_n _ _ _ (by decide)]; exact h.2.2 j hj⟩
def kMs (t : Nat) (b : Nat → Nat) (τ0 : zS) (rb : Nat) (τ : zS) (k n s : Nat) (nm ln : Nat → Nat) : Prop := kMb t b τ ∧ (rb < 2 ∧ k ≤ 7 ∧ n ≤ 7 ∧ s < 128) ∧ (τ.1 (100, 0, 0) 7 = 0 ∧ τ.1 (100, 0, 0) 8 = -1 ∧ τ.1 (100, 0, 0) 13 = nI rb ∧ τ.1 (106, 0, 0) rb = nI k ∧ τ.1 (107, 0, 0) rb = nI s) ∧ (∀ i, i < n → τ.2 (108, 0, 0) (7 * rb + i) = lN (kPk b (nm i) (ln i)) ∧ ln i ≤ 8 ∧ ∀ j, j < ln i → kLe (b (nm i + j)) = true) ∧ kMf τ0 rb τ
/-- a fault -/
def kBn (τ : zS) (f p : Nat) : zS := z_up (z_up τ (100, 0, 0) 7 (nI f)) (100, 0, 0) 8 (nI p)
def kMr (τ0 : zS) (rb : Nat) (τ' : zS) (r : kO) : Prop := r.1 ≤ 4 ∧ τ'.1 (100, 0, 0) 7 = nI r.1 ∧ τ'.1 (100, 0, 0) 8 = (if r.1 = 0 then -1 else nI r.2.1) ∧ τ'.1 (100, 0, 0) 13 = nI rb ∧ kMf τ0 rb τ' ∧ (r.1 = 0 → ∃ s, s < 128 ∧ τ'.1 (106, 0, 0) rb = nI r.2.2.1 ∧ τ'.1 (107, 0, 0) rb = nI s ∧ r.2.2.1 ≤ 7 ∧ (∀ i, i < r.2.2.1 → s.testBit i = r.2.2.2 i) ∧ ∀ i, r.2.2.1 ≤ i → s.testBit i = false)
section kmodel3
variable {t : Nat} {b : Nat → Nat} {τ0 τ : zS} {rb k n s : Nat} {nm ln : Nat → Nat} {sl : Nat → Bool}
theorem kMs_g {τ' : zS} (h : kMs t b τ0 rb τ k n s nm ln) (hb : kMb t b τ') (g : kGf τ τ') : kMs t b τ0 rb τ' k n s nm ln := by
  obtain ⟨a1, a2, ⟨a3, a4, a5, a6, a7⟩, a8, a9⟩ := h
  refine ⟨hb, a2, ⟨?_, ?_, ?_, ?_, ?_⟩, fun i hi => ?_, kMf_g a9 g⟩
  · rw [g.2.1 7 (by decide) (by decide) (by decide)]; exact a3
  · rw [g.2.1 8 (by decide) (by decide) (by decide)]; exact a4
  · rw [g.2.1 13 (by decide) (by decide) (by decide)]; exact a5
  · rw [g.1 _ (by decide)]; exact a6
  · rw [g.1 _ (by decide)]; exact a7
  · rw [g.2.2 _ (by decide)]; exact a8 i hi
theorem kM_good (h : τ.1 (100, 0, 0) 7 = 0) : fM_isGood τ = some (1, τ) := by
  unfold fM_isGood
  rw [h, if_pos rfl]
theorem kBn_good {f p : Nat} (hf : 1 ≤ f) (hf4 : f ≤ 4) : fM_isGood (kBn τ f p) = some (0, kBn τ f p) := by
  have h6 : (kBn τ f p).1 (100, 0, 0) 7 = nI f := by unfold kBn; rw [z_up_s, upd_n _ _ (by decide), z_up_s, upd_s]
  unfold fM_isGood
  rw [h6, if_neg (nI_ne0 (by omega) (by omega))]
theorem kM_fails {f p : Nat} (h : τ.1 (100, 0, 0) 7 = 0) : fM_fails (nI f) (nI p) τ = some ((), kBn τ f p) := by
  unfold fM_fails
  rw [h, if_pos (by decide)]
  rfl
theorem kM_misp {a : Nat} (h : τ.1 (100, 0, 0) 7 = 0) (h14 : τ.1 (100, 0, 0) 14 = nI a) : (τ.1 (100, 0, 0) 16 = 1 → fM_misplaced τ = some ((), kBn τ 1 a)) ∧ (¬ τ.1 (100, 0, 0) 16 = 1 → fM_misplaced τ = some ((), kBn τ 2 a)) := by
  unfold fM_misplaced
  rw [h14]
  have e1 := kM_fails (τ := τ) (f := 1) (p := a) h
  have e2 := kM_fails (τ := τ) (f := 2) (p := a) h
  rw [show nI 1 = 1 from by decide +kernel] at e1
  rw [show nI 2 = 2 from by decide +kernel] at e2
  constructor
  · intro c; rw [if_pos c, e1, z_bde]
  · intro c; rw [if_neg c, e2, z_bde]
theorem kM_bad {F f p : Nat} (hf : 1 ≤ f) (hf4 : f ≤ 4) (h13 : τ.1 (100, 0, 0) 13 = nI rb) (h : kMf τ0 rb τ) : ∃ τ', fM_keepers_90 (F + 1) (kBn τ f p) = fM_keepers_151 τ' ∧ kMr τ0 rb τ' (f, p, k, sl) := by
  have g := kBn_good (τ := τ) (p := p) hf hf4
  refine ⟨kBn τ f p, ?_, hf4, ?_, ?_, ?_, kMf_0 (kMf_0 h (by decide)) (by decide), fun q => absurd q (show ¬ f = 0 by omega)⟩
  · rw [fM_keepers_90.eq_2, g, z_bde, if_pos rfl]
    unfold fM_keepers_111
    rw [g, z_bde, if_pos rfl]
  · unfold kBn; rw [z_up_s, upd_n _ _ (by decide), z_up_s, upd_s]
  · rw [if_neg (show ¬ f = 0 by omega)]; unfold kBn; rw [z_up_s, upd_s]
  · unfold kBn; rw [z_up_s, upd_n _ _ (by decide), z_up_s, upd_n _ _ (by decide)]; exact h13
theorem kIs2_iff {a e : Nat} (hb : ∀ j, b j < 256) : kIs b 2 a e = true ↔ e - a = 1 ∧ b a = 59 := by
  have hl : z_len.getD 2 0 = 1 := by decide +kernel
  have hc : z_ch 2 0 = nI 59 := by decide +kernel
  have h0 := hb a
  unfold kIs
  rw [hl, Bool.and_eq_true, decide_eq_true_eq]
  have hs : z_fst (fun i => !decide (nI (b (a + i)) = z_ch 2 i)) 1 0 = if (!decide (nI (b (a + 0)) = z_ch 2 0)) = true then some 0 else none := rfl
  rw [hs, hc, Nat.add_zero]
  by_cases c : b a = 59
  · rw [c]
    simp [eq_comm]
  · rw [decide_eq_false (fun q => c ((nI_eq (by omega) (by decide)).mp q))]
    simp [c]
/-- the rest of reading a keeper, behind its name -/
def kK (σ14 : zS) : Option (Unit × zS) :=
  if (σ14.1 (100, 0, 0) 16) = 3 then
    (if (lg_cmp (σ14.2 (100, 0, 0) 17) 126896627347060) = 0 then
      (if z_in (σ14.1 (100, 0, 0) 13) 2 = true then (
      if z_in (σ14.1 (100, 0, 0) 13) 2 = true then (
      if z_in (σ14.1 (100, 0, 0) 13) 2 = true then (
      z_let (z_up σ14 (107, 0, 0) ((σ14.1 (100, 0, 0) 13).toNatClampNeg) ((σ14.1 (107, 0, 0) (σ14.1 (100, 0, 0) 13).toNatClampNeg) ||| (1 <<< ((σ14.1 (106, 0, 0) (σ14.1 (100, 0, 0) 13).toNatClampNeg) &&& 31)))) (fun σ28 =>
      z_bd (fM_goOn σ28) (fun _ σ29 =>
      fM_readKeeper_204 σ29))) else none) else none) else none)
    else
      (fM_readKeeper_204 σ14))
  else
    (fM_readKeeper_204 σ14)
theorem kM_63f (h : ¬ τ.1 (100, 0, 0) 7 = 0) (h13 : τ.1 (100, 0, 0) 13 = nI rb) (hrb : rb < 2) (h6 : τ.1 (106, 0, 0) rb = nI k) (hk : k ≤ 7) : ∀ m i F, i + m = k → m < F → fM_readKeeper_63 F (nI i) τ = some ((), τ) := by
  have g : fM_isGood τ = some (0, τ) := by unfold fM_isGood; rw [if_neg h]
  have gr : z_in (nI rb) 2 = true := nI_inz hrb (by decide)
  have kr : (nI rb).toNatClampNeg = rb := nI_clamp (by omega)
  intro m
  induction m with
  | zero =>
    intro i F hi hF
    obtain ⟨F, rfl⟩ : ∃ k, F = k + 1 := ⟨F - 1, by omega⟩
    rw [fM_readKeeper_63.eq_2, h13, if_pos gr, kr, h6, if_pos ((nI_leI (by omega) (by omega)).mpr (by omega)), g, z_bde, if_pos rfl]
  | succ m ih =>
    intro i F hi hF
    obtain ⟨F, rfl⟩ : ∃ k, F = k + 1 := ⟨F - 1, by omega⟩
    rw [fM_readKeeper_63.eq_2, h13, if_pos gr, kr, h6, if_neg (fun q => by have := (nI_leI (by omega) (by omega)).mp q; omega), g, z_bde, if_pos rfl]
    show fM_readKeeper_63 F (nI i + 1) τ = _
    rw [nI_1]
    exact ih (i + 1) F (by omega) (by omega)
theorem kM_63 {a e : Nat} (h : kMs t b τ0 rb τ k k s nm ln) (hk : k < 7) (h14 : τ.1 (100, 0, 0) 14 = nI a) (h17 : τ.2 (100, 0, 0) 17 = lN (kPk b a (e - a))) (hl : ∀ j, j < e - a → kLe (b (a + j)) = true) (h8 : e - a ≤ 8) : ∀ m i F, i + m = k → m < F → fM_readKeeper_63 F (nI i) τ = if (z_fst (fun i => kNm b (nm i) (ln i) a e) m i).isSome = true then some ((), kBn τ 3 a) else z_bd (fM_goOn (z_upl τ (108, 0, 0) (7 * rb + k) (lN (kPk b a (e - a))))) (fun _ σ14 => kK σ14) := by
  obtain ⟨a1, a2, ⟨a3, a4, a5, a6, a7⟩, a8, a9⟩ := h
  have g := kM_good a3
  have gr : z_in (nI rb) 2 = true := nI_inz a2.1 (by decide)
  have kr : (nI rb).toNatClampNeg = rb := nI_clamp (by omega)
  have e7 : ∀ i, (7 : Int32) * nI rb + nI i = nI (7 * rb + i) := fun i => by rw [show (7 : Int32) = nI 7 from by decide +kernel, pk_mul, nI_add]
  have f3 := kM_fails (τ := τ) (f := 3) (p := a) a3
  rw [show nI 3 = 3 from by decide +kernel] at f3
  intro m
  induction m with
  | zero =>
    intro i F hi hF
    obtain ⟨F, rfl⟩ : ∃ k, F = k + 1 := ⟨F - 1, by omega⟩
    rw [fM_readKeeper_63.eq_2, a5, if_pos gr, kr, a6, if_pos ((nI_leI (by omega) (by omega)).mpr (by omega)), g, z_bde, if_neg (by decide), a5, if_pos gr, kr, a6, e7, if_pos (nI_inz (by omega) (by decide)), nI_clamp (n := 7 * rb + k) (by omega), h17]
    rfl
  | succ m ih =>
    intro i F hi hF
    obtain ⟨F, rfl⟩ : ∃ k, F = k + 1 := ⟨F - 1, by omega⟩
    have hs : z_fst (fun i => kNm b (nm i) (ln i) a e) (m + 1) i = if kNm b (nm i) (ln i) a e = true then some i else z_fst (fun i => kNm b (nm i) (ln i) a e) m (i + 1) := rfl
    obtain ⟨r1, r2, r3⟩ := a8 i (by omega)
    have cmp : lg_cmp (lN (kPk b (nm i) (ln i))) (lN (kPk b a (e - a))) = 0 ↔ kNm b (nm i) (ln i) a e = true := kl_cmp.trans (kPk_nm hl h8 r3 r2)
    rw [fM_readKeeper_63.eq_2, a5, if_pos gr, kr, a6, if_neg (fun q => by have := (nI_leI (by omega) (by omega)).mp q; omega), g, z_bde, if_neg (by decide), a5, e7, if_pos (nI_inz (by omega) (by decide)), nI_clamp (n := 7 * rb + i) (by omega), r1, h17, hs]
    by_cases c : kNm b (nm i) (ln i) a e = true
    · rw [if_pos (cmp.mpr c), if_pos c, if_pos (show (some i).isSome = true from rfl), h14, f3, z_bde]
      show fM_readKeeper_63 F (nI i + 1) (kBn τ 3 a) = _
      rw [nI_1]
      refine kM_63f (rb := rb) (k := k) ?_ ?_ a2.1 ?_ a2.2.1 m (i + 1) F (by omega) (by omega)
      · unfold kBn; rw [z_up_s, upd_n _ _ (by decide), z_up_s, upd_s]; decide +kernel
      · unfold kBn; rw [z_up_s, upd_n _ _ (by decide), z_up_s, upd_n _ _ (by decide)]; exact a5
      · unfold kBn; rw [z_up_n _ _ _ (by decide), z_up_n _ _ _ (by decide)]; exact a6
    · rw [if_neg (fun q => c (cmp.mp q)), if_neg c]
      show fM_readKeeper_63 F (nI i + 1) τ = _
      rw [nI_1]
      exact ih (i + 1) F (by omega) (by omega)
/-- the sign behind a keeper, or a fault -/
theorem kM_204 {e : Nat} (h : kMs t b τ0 rb τ k n s nm ln) (hg : kG t b e τ) : (kA b t e < t → kOk b t (kA b t e) → b (kA b t e) = 59 → fM_readKeeper_204 τ = z_bd (fM_goOn τ) (fun _ σ19 => if z_in (σ19.1 (100, 0, 0) 13) 2 = true then (if z_in (σ19.1 (100, 0, 0) 13) 2 = true then some ((), z_up σ19 (106, 0, 0) ((σ19.1 (100, 0, 0) 13).toNatClampNeg) ((σ19.1 (106, 0, 0) (σ19.1 (100, 0, 0) 13).toNatClampNeg) + 1)) else none) else none)) ∧ (kA b t e = t → fM_readKeeper_204 τ = some ((), kBn τ 2 (kA b t e))) ∧ (kA b t e < t → ¬ kOk b t (kA b t e) → fM_readKeeper_204 τ = some ((), kBn τ 1 (kA b t e))) ∧ (kA b t e < t → kOk b t (kA b t e) → b (kA b t e) ≠ 59 → fM_readKeeper_204 τ = some ((), kBn τ 2 (kA b t e))) := by
  obtain ⟨a1, a2, ⟨a3, a4, a5, a6, a7⟩, a8, a9⟩ := h
  obtain ⟨g1, g2, g3⟩ := hg
  obtain ⟨m1, m2⟩ := kM_misp a3 g1
  have fin : ∀ f, 1 ≤ f → f ≤ 4 → fM_readKeeper_216 (kBn τ f (kA b t e)) = some ((), kBn τ f (kA b t e)) := fun f f1 f2 => by
    unfold fM_readKeeper_216
    rw [kBn_good f1 f2, z_bde, if_pos rfl]
  unfold fM_readKeeper_204
  refine ⟨fun q1 q2 q3 => ?_, fun q1 => ?_, fun q1 q2 => ?_, fun q1 q2 q3 => ?_⟩
  · rw [((g3 q1).2 q2).2.1 q3, if_pos rfl]
    unfold fM_readKeeper_216
    rw [kM_good a3, z_bde, if_neg (by decide)]
    rfl
  · rw [g2 q1] at m2 ⊢
    rw [if_neg (by decide), m2 (by decide), z_bde, fin 2 (by decide) (by decide)]
  · have e16 := (g3 q1).1 q2
    rw [e16] at m1 ⊢
    rw [if_neg (by decide), m1 rfl, z_bde, fin 1 (by decide) (by decide)]
  · have e16 := (((g3 q1).2 q2).2.2 q3).2.2
    have n4 : ¬ τ.1 (100, 0, 0) 16 = 4 ∧ ¬ τ.1 (100, 0, 0) 16 = 1 := by
      rw [e16]
      by_cases c : kIs b 0 (kA b t e) (kE b t (kA b t e)) = true ∨ kIs b 1 (kA b t e) (kE b t (kA b t e)) = true
      · rw [if_pos c]; decide
      · rw [if_neg c]; decide
    rw [if_neg n4.1, m2 n4.2, z_bde, fin 2 (by decide) (by decide)]
end kmodel3
