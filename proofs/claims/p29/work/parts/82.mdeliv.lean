/-! the model delivers -/
section mdeliv
variable {τ0 τ : zS} {W : yW} {k : Nat}
/-- the hand is no slot -/
theorem mR_40 {W' : yW} (h : mR τ0 τ W) (a : yA W 0) (h1 : ∀ z f, (z.2.2 ≠ 40 ∨ z.1 < 20) → W'.1 z f = W.1 z f) (h2 : ∀ z : zJ, (z.2.2 ≠ 40 ∨ z.1 < 20) → W'.2.1 z = W.2.1 z) : mR τ0 τ W' := by
  refine ⟨mS_c h.1 (fun _ _ => rfl) (fun f => h1 _ _ (by simp)) (fun k => h1 _ _ (by simp)), ⟨fun k hk => ?_, fun s hs => ?_, ?_⟩, h.2.2⟩
  · rw [h1 _ _ (by simp)] at hk
    exact mK_c (h.2.1.1 k hk) (fun _ _ _ => rfl) (a.2.1 k) (fun t i ht => h1 _ _ (by simp; omega)) (fun t ht => h2 _ (by simp; omega))
  · exact mL_c (h.2.1.2.1 s hs) (fun _ _ _ => rfl) (a.2.2.1 s) (fun t i ht => h1 _ _ (by simp; omega)) (fun t ht => h2 _ (by simp; omega))
  · exact mD_c h.2.1.2.2 (fun _ _ _ => rfl) a.2.2.2 (fun t i ht => h1 _ _ (Or.inl (by simp)))
theorem sCopyL_2 (w0 i0 w1 i1 : Nat) (W : yW) {z : zJ} (h1 : z ≠ (21, w0, i0)) (h2 : z ≠ (23, w0, i0)) : (sCopyL w0 i0 w1 i1 W).2.1 z = W.2.1 z := by
  unfold sCopyL
  rw [yCp_2 h2, yCp_2 h1]
  rfl
/-- a letter is dropped -/
theorem m_dropL {s : Nat} (h : mR τ0 τ W) (a : yA W 0) (hs : s < 40) : fM_putSlot (nI s) 0 (-1) τ = some ((), z_upR τ (103, 0, 0) (upd (al τ) (2240 + 64 * s + 0) (-1))) ∧ mR τ0 (z_upR τ (103, 0, 0) (upd (al τ) (2240 + 64 * s + 0) (-1))) (yI W (20, 0, s) 0 0) := by
  refine ⟨?_, mR_s h a hs (fun i hi => upd_n _ _ (by omega)) (fun z i hz => yI_z _ _ (fun e => by rw [e] at hz; simp at hz)) (fun z hz => rfl) ?_⟩
  · rw [show (0 : Int32) = nI 0 from by decide +kernel, eM_putSlot τ _ hs (by decide)]
    rfl
  · unfold mL
    rw [yI_s]
    exact ⟨by show upd (al τ) (2240 + 64 * s) (-1) (2240 + 64 * s) = _; rw [upd_s]; decide +kernel, fun e => absurd rfl e⟩
theorem yA_out {s : Nat} (a : yA W 0) (h6 : W.1 (20, 0, s) 0 = 3 → W.1 (20, 0, s) 6 ≤ 5) : yA (sCopyL 0 40 0 s W) 0 ∧ yA (sOut s W) 0 := by
  have q : yA (sCopyL 0 40 0 s W) 0 := by
    refine ⟨by rw [sCopyL_at]; simp; exact a.1, fun j => by rw [sCopyL_at, sCopyL_at]; simp; exact a.2.1 j, fun j => ?_, by rw [sCopyL_at]; simp; exact a.2.2.2⟩
    by_cases ej : j = 40
    · subst ej
      rw [sCopyL_at, sCopyL_at, if_pos ⟨rfl, by decide⟩, if_pos ⟨rfl, by decide⟩]
      exact h6
    · rw [sCopyL_at, sCopyL_at]
      simp [ej]
      exact a.2.2.1 j
  refine ⟨q, ?_⟩
  unfold sOut
  refine ⟨by rw [yI_z _ _ (by simp)]; exact q.1, fun j => by rw [yI_z _ _ (by simp), yI_z _ _ (by simp)]; exact q.2.1 j, fun j => ?_, by rw [yI_z _ _ (by simp)]; exact q.2.2.2⟩
  rw [yI_i _ _ (show 6 ≠ 0 by decide), yI_at]
  split
  · intro e; omega
  · exact q.2.2.1 j
theorem m_out {s : Nat} (h : mR τ0 τ W) (a : yA W 0) (hs : s < 40) : mR τ0 (z_upR τ (103, 0, 0) (upd (al τ) (2240 + 64 * s + 0) (-1))) (sOut s W) := by
  have h1 : mR τ0 τ (sCopyL 0 40 0 s W) := mR_40 h a (fun z f hz => by
    rw [sCopyL_at, if_neg, if_neg, if_neg]
    · rintro ⟨e, -⟩; rw [e] at hz; simp at hz
    · rintro ⟨e, -⟩; rw [e] at hz; simp at hz
    · rintro ⟨e, -⟩; rw [e] at hz; simp at hz) (fun z hz => sCopyL_2 _ _ _ _ _ (fun e => by rw [e] at hz; simp at hz) (fun e => by rw [e] at hz; simp at hz))
  exact (m_dropL h1 (yA_out a (a.2.2.1 s)).1 hs).2
/-- the hand as the slot was -/
theorem mHd_out {s : Nat} {H : Nat → Int32} (h : mR τ0 τ W) (a : yA W 0) (hs : s < 40) (h0 : W.1 (20, 0, s) 0 ≠ 0) (hH : ∀ j, j < 64 → H j = al τ (2240 + 64 * s + j)) : mHd H (sOut s W) := by
  obtain ⟨m1, m2⟩ := h.2.1.2.1 s hs
  obtain ⟨n1, n2, n3⟩ := m2 h0
  have h6 := a.2.2.1 s
  have o20 : ∀ f, f < 9 → (sOut s W).1 (20, 0, 40) f = W.1 (20, 0, s) f := fun f hf => by
    rw [sOut_at, if_neg (by simp; omega), if_pos ⟨rfl, Nat.lt_succ_of_lt hf⟩]
  unfold mHd
  rw [o20 0 (by decide), o20 6 (by decide)]
  refine ⟨by rw [hH 0 (by decide)]; exact m1, fun f f1 f2 => by rw [hH f (by omega), o20 f f2]; exact n1 f f1 f2, fun e j hj => ?_, fun e => ?_⟩
  · have := h6 e
    have c : (cE (sOut s W)).1 (21, 0, 40) j = (cE W).1 (21, 0, s) j := by
      rw [cE_at, cE_at, sOut_at, if_neg (by simp), if_neg (by simp), if_pos ⟨rfl, by omega⟩]
      have r : (sOut s W).2.1 (21, 0, 40) j = W.2.1 (21, 0, s) j := by
        show (sCopyL 0 40 0 s W).2.1 (21, 0, 40) j = _
        unfold sCopyL
        rw [yCp_2 (by simp)]
        show (z_upR (sCopyN 0 40 0 s W).2 (21, 0, 40) _).1 (21, 0, 40) j = _
        rw [z_upR_s]
        unfold va_cpy
        rw [if_pos (by omega), Nat.zero_add, Nat.sub_zero]
        rfl
      rw [r]
    rw [hH _ (by omega), c, ← Nat.add_assoc]
    exact n2 e j hj
  · have r : ∀ q, q < 20 → (sOut s W).2.1 (23, 0, 40) q = W.2.1 (23, 0, s) q := fun q hq => by
      show (sCopyL 0 40 0 s W).2.1 (23, 0, 40) q = _
      unfold sCopyL
      show (z_upR (yCp (sCopyN 0 40 0 s W) (21, 0, s) (21, 0, 40) 0 0 30).2 (23, 0, 40) _).1 (23, 0, 40) q = _
      rw [z_upR_s]
      unfold va_cpy
      rw [if_pos (by omega), Nat.zero_add, Nat.sub_zero, yCp_2 (by simp)]
      rfl
    exact zl_lay_2 r (zl_lay_c (fun q hq => by rw [hH _ (by omega), ← Nat.add_assoc]) (n3 e))
def zHa (s i : Nat) (B H : Nat → Int32) : Nat → Int32 := fun j => if i ≤ j ∧ j < 64 then B (2240 + 64 * s + j) else H j
/-- what a keeper does with the letter in hand -/
theorem m_gets {s : Nat} {Lf : Nat → Nat} (h : mR τ0 τ W) (hH : mHd (τ0.1 (109, 0, 0)) W) (a : yA W 0) (hE : yEn W) (hB : ∀ z i, W.1 z i < 35000) (hk : k < W.1 (0, 0, 0) 3) (hr : W.1 (20, 0, 40) 2 = k) (hf : W.1 (20, 0, 40) 1 < 7) (hs : sEmp W = some s) (h0 : W.1 (20, 0, 40) 0 ≠ 0) (h5' : W.1 (20, 0, 40) 0 ≤ 5) (hro : W.1 (10, 0, k) 4 ≤ 2) (h9 : W.1 (10, 0, k) 9 < 128) (h5 : W.1 (10, 0, k) 5 ≤ W.1 (10, 0, k) 8) (h8 : W.1 (10, 0, k) 8 ≤ W.1 (10, 0, k) 7)
    (k1 : W.1 (20, 0, 40) 0 = 1 → W.1 (20, 0, 40) 8 = 0) (k2 : W.1 (20, 0, 40) 0 = 2 ∨ W.1 (20, 0, 40) 0 = 4 → W.1 (20, 0, 40) 4 ≤ 1) (k3 : W.1 (20, 0, 40) 0 = 3 → W.1 (20, 0, 40) 6 ≤ 5)
    (ht : W.1 (10, 0, k) 4 = 1 → ∀ e, W.1 (10, 0, k) 8 < e → e ≤ W.1 (10, 0, k) 7 → sTm W k e ≠ W.1 (10, 0, k) 2) (hn : W.1 (10, 0, k) 4 = 2 → 1 ≤ W.1 (16, 0, k) (W.1 (20, 0, 40) 1))
    (hD : W.1 (20, 0, 40) 0 = 3 → W.1 (10, 0, k) 2 ≤ W.1 (20, 0, 40) 3 → W.1 (10, 0, k) 4 ≠ 2 → ∀ e, W.1 (10, 0, k) 5 < e → e ≤ W.1 (10, 0, k) 8 → sTm W k e = Lf e) (hL : W.1 (20, 0, 40) 0 = 3 → ∀ j, j < W.1 (20, 0, 40) 6 → W.1 (21, 0, 40) (6 * j) = Lf (W.1 (20, 0, 40) 4 + 1 + j)) :
    ∃ τ', fM_deliver_104 (nI k) τ = some (sGetsR k W, τ') ∧ mR τ0 τ' (sGets k W) := by
  have hB4 : ∀ z i, W.1 z i < 40000 := fun z i => by have := hB z i; omega
  have g0 : τ.1 (109, 0, 0) 0 = iI ((W.1 (20, 0, 40) 0 : Int) - 1) := by
    rw [h.2.2.1 (109, 0, 0) (by decide)]
    exact hH.1
  have v := fun (c : Nat) => (W.1 (20, 0, 40) 0 = c)
  have V := yV3
  have b0 := hB (20, 0, 40) 0
  have q0 : (τ.1 (109, 0, 0) 0 = 0) = (W.1 (20, 0, 40) 0 = 1) := by rw [g0]; exact yV3.1 _ (by omega)
  have q1 : (τ.1 (109, 0, 0) 0 = 1) = (W.1 (20, 0, 40) 0 = 2) := by rw [g0]; exact yV3.2.1 _ (by omega)
  have q2 : (τ.1 (109, 0, 0) 0 = 2) = (W.1 (20, 0, 40) 0 = 3) := by rw [g0]; exact yV3.2.2.1 _ (by omega)
  have q3 : (τ.1 (109, 0, 0) 0 = 3) = (W.1 (20, 0, 40) 0 = 4) := by rw [g0]; exact yV3.2.2.2.1 _ (by omega)
  have hsn : ¬ sEmp W = none := by rw [hs]; simp
  unfold fM_deliver_104 sGets sGetsR
  by_cases c1 : W.1 (20, 0, 40) 0 = 1
  · have ga := m_getsAsk (k := k) (s := s) h hH a hB4 hk hr (k1 c1) (by omega) hs
    unfold sVoteC sAhead at ga
    rw [if_pos (by rw [q0]; exact c1), if_pos c1, if_pos c1, if_neg hsn]
    by_cases c : (W.1 (10, 0, k) 3 = 0 ∨ W.1 (10, 0, k) 3 = W.1 (20, 0, 40) 1 + 1) ∧ W.1 (10, 0, k) 0 ≠ 0 ∧ W.1 (10, 0, k) 2 = W.1 (20, 0, 40) 3 ∧ ¬ (W.1 (20, 0, 40) 5 < sTm W k (W.1 (10, 0, k) 7) ∨ (sTm W k (W.1 (10, 0, k) 7) = W.1 (20, 0, 40) 5 ∧ W.1 (20, 0, 40) 4 < W.1 (10, 0, k) 7))
    · obtain ⟨t1, e1, h1⟩ := ga.1 c
      exact ⟨t1, by rw [e1, z_bde], by rw [if_pos c]; exact h1⟩
    · obtain ⟨t1, e1, h1⟩ := ga.2 c
      exact ⟨t1, by rw [e1, z_bde], by rw [if_neg c]; exact h1⟩
  rw [if_neg (by rw [q0]; exact c1), if_neg c1, if_neg c1]
  by_cases c2 : W.1 (20, 0, 40) 0 = 2
  · obtain ⟨t1, e1, h1⟩ := m_getsBallot (k := k) h hH a hE hB hk hf h9 hro (k2 (Or.inl c2)) h5 ht
    rw [if_pos (by rw [q1]; exact c2), if_pos c2, if_pos (Or.inl c2)]
    exact ⟨t1, by rw [e1, z_bde], h1⟩
  rw [if_neg (by rw [q1]; exact c2), if_neg c2]
  have hor : ¬ W.1 (20, 0, 40) 0 = 4 → ¬ (W.1 (20, 0, 40) 0 = 2 ∨ W.1 (20, 0, 40) 0 = 4) := fun c4 e => e.elim c2 c4
  by_cases c3 : W.1 (20, 0, 40) 0 = 3
  · obtain ⟨t1, e1, h1⟩ := m_getsAppend (k := k) (s := s) (Lf := Lf) h hH a hE hB4 hk hr hro c3 (k3 c3) h5 h8 hs (hD c3) (hL c3)
    rw [if_pos (by rw [q2]; exact c3), if_neg (hor (fun e => absurd (c3.symm.trans e) (by decide))), if_neg hsn, if_neg (fun e => absurd (c3.symm.trans e) (by decide))]
    exact ⟨t1, by rw [e1, z_bde], h1⟩
  rw [if_neg (by rw [q2]; exact c3)]
  by_cases c4 : W.1 (20, 0, 40) 0 = 4
  · obtain ⟨t1, e1, h1⟩ := m_getsAns (k := k) h hH a hE hB4 hk hf hro h5 hn (k2 (Or.inr c4))
    rw [if_pos (by rw [q3]; exact c4), if_pos c4, if_pos (Or.inr c4)]
    exact ⟨t1, by rw [e1, z_bde], h1⟩
  · obtain ⟨t1, e1, h1⟩ := m_getsFolding (k := k) (s := s) h hH a hB4 hk hr hro (by omega) h5 h8 hs
    rw [if_neg (by rw [q3]; exact c4), if_neg (hor c4), if_neg hsn, if_neg c4]
    exact ⟨t1, by rw [e1, z_bde], h1⟩
theorem m_hand_12 {s x : Nat} (hs : s < 40) (τ : zS) : ∀ (m i n : Nat) (H : Nat → Int32), i + m = 64 → m < n → ∃ n', fM_deliver_12 n (nI s) (nI i) (z_upR τ (109, 0, 0) H) = fM_deliver_12 (n' + 1) (nI s) (nI 64) (z_upR τ (109, 0, 0) (zHa s i (al τ) H)) := by
  intro m
  induction m with
  | zero =>
    intro i n H hi hn
    obtain ⟨n, rfl⟩ : ∃ k, n = k + 1 := ⟨n - 1, by omega⟩
    have e1 : i = 64 := by omega
    subst e1
    have e2 : zHa s 64 (al τ) H = H := by
      funext j
      exact if_neg (by omega)
    exact ⟨n, by rw [e2]⟩
  | succ m ih =>
    intro i n H hi hn
    obtain ⟨n, rfl⟩ : ∃ k, n = k + 1 := ⟨n - 1, by omega⟩
    obtain ⟨n', q⟩ := ih (i + 1) n (upd H i (al τ (2240 + 64 * s + i))) (by omega) (by omega)
    refine ⟨n', ?_⟩
    have so : fM_slotOf (nI s) (nI i) (z_upR τ (109, 0, 0) H) = some (al τ (2240 + 64 * s + i), z_upR τ (109, 0, 0) H) := by
      rw [eM_slotOf _ hs (by omega)]
      show some ((z_upR τ (109, 0, 0) H).1 (103, 0, 0) (2240 + 64 * s + i), _) = _
      rw [(z_upR_o (103, 0, 0) (by decide)).1]
    have e3 : z_up (z_upR τ (109, 0, 0) H) (109, 0, 0) i (al τ (2240 + 64 * s + i)) = z_upR τ (109, 0, 0) (upd H i (al τ (2240 + 64 * s + i))) := by
      unfold z_up
      rw [z_upR_R, show (z_upR τ (109, 0, 0) H).1 (109, 0, 0) = H from z_upR_s]
    have e4 : zHa s (i + 1) (al τ) (upd H i (al τ (2240 + 64 * s + i))) = zHa s i (al τ) H := by
      funext j
      unfold zHa upd
      by_cases c1 : i + 1 ≤ j ∧ j < 64
      · rw [if_pos c1, if_pos (by omega)]
      · rw [if_neg c1]
        by_cases c2 : j = i
        · rw [if_pos c2, if_pos (by omega), c2]
        · rw [if_neg c2, if_neg (by omega)]
    rw [fM_deliver_12.eq_2, if_neg (fun hh => by have := (nI_le_lit (a := 64) (by decide +kernel) (by decide) (by omega)).mp hh; omega), so, z_bde, if_pos (nI_inz (by omega) (by decide)), nI_clamp (by omega), e3, z_let, z_let, nI_1, q, e4]
theorem sEmp_out {s : Nat} (hs : s < 40) : ∃ e, sEmp (sDel1 s W) = some e := by
  cases c : sEmp (sDel1 s W) with
  | some e => exact ⟨e, rfl⟩
  | none =>
    exfalso
    have := z_fst_none c s (by omega) (by omega)
    refine this (decide_eq_true ?_)
    rw [sDel1_at, if_neg (by simp), if_neg (by simp), sOut_at, if_pos ⟨rfl, rfl⟩]
theorem m_deliver {s : Nat} {Lf : Nat → Nat} (h : mR τ0 τ W) (a : yA W 0) (hE : yEn W) (hB : ∀ z i, W.1 z i < 35000) (hs : s < 40) (h0 : W.1 (20, 0, s) 0 ≠ 0) (h5' : W.1 (20, 0, s) 0 ≤ 5) (hr : W.1 (20, 0, s) 2 < W.1 (0, 0, 0) 3) (hf : W.1 (20, 0, s) 1 < W.1 (0, 0, 0) 3)
    (hK : ∀ k, k < W.1 (0, 0, 0) 3 → W.1 (10, 0, k) 5 ≤ W.1 (10, 0, k) 8 ∧ W.1 (10, 0, k) 8 ≤ W.1 (10, 0, k) 7 ∧ W.1 (10, 0, k) 9 < 128 ∧ W.1 (10, 0, k) 1 ≤ 1 ∧ W.1 (10, 0, k) 4 ≤ 2 ∧ (W.1 (10, 0, k) 4 = 2 → ∀ o, o < W.1 (0, 0, 0) 3 → 1 ≤ W.1 (16, 0, k) o) ∧ (W.1 (10, 0, k) 4 = 1 → ∀ e, W.1 (10, 0, k) 8 < e → e ≤ W.1 (10, 0, k) 7 → sTm W k e ≠ W.1 (10, 0, k) 2))
    (k1 : W.1 (20, 0, s) 0 = 1 → W.1 (20, 0, s) 8 = 0) (k2 : W.1 (20, 0, s) 0 = 2 ∨ W.1 (20, 0, s) 0 = 4 → W.1 (20, 0, s) 4 ≤ 1)
    (hD : W.1 (20, 0, s) 0 = 3 → W.1 (10, 0, W.1 (20, 0, s) 2) 2 ≤ W.1 (20, 0, s) 3 → (W.1 (10, 0, W.1 (20, 0, s) 2) 2 = W.1 (20, 0, s) 3 → W.1 (10, 0, W.1 (20, 0, s) 2) 4 ≠ 2) → ∀ e, W.1 (10, 0, W.1 (20, 0, s) 2) 5 < e → e ≤ W.1 (10, 0, W.1 (20, 0, s) 2) 8 → sTm W (W.1 (20, 0, s) 2) e = Lf e) (hL : W.1 (20, 0, s) 0 = 3 → ∀ j, j < W.1 (20, 0, s) 6 → W.1 (21, 0, s) (6 * j) = Lf (W.1 (20, 0, s) 4 + 1 + j)) :
    ∃ τ' H, (if W.1 (10, 0, W.1 (20, 0, s) 2) 1 = 0 then fM_deliver (nI s) τ = some (sGetsR (W.1 (20, 0, s) 2) (sDel1 s W), τ') ∧ mR (z_upR τ0 (109, 0, 0) H) τ' (sGets (W.1 (20, 0, s) 2) (sDel1 s W)) else fM_deliver (nI s) τ = some (0, τ') ∧ mR (z_upR τ0 (109, 0, 0) H) τ' (sOut s W)) := by
  have hN := mR_N h
  have hB5 : ∀ z i, W.1 z i < 50000 := fun z i => by have := hB z i; omega
  obtain ⟨kk1, kk2, kk3, kk4, kk5, kk6, kk7⟩ := hK _ hr
  have b2 := hB (10, 0, W.1 (20, 0, s) 2) 2
  have b3 := hB (20, 0, s) 3
  obtain ⟨H, eH⟩ : ∃ H, H = zHa s 0 (al τ) (τ.1 (109, 0, 0)) := ⟨_, rfl⟩
  -- the hand is filled
  have hT : mR (z_upR τ0 (109, 0, 0) H) (z_upR τ (109, 0, 0) H) W := by
    refine ⟨?_, ?_, fun z hz => ?_, h.2.2.2⟩
    · unfold mS
      rw [(z_upR_o (100, 0, 0) (by decide)).1, (z_upR_o (106, 0, 0) (by decide)).1, (z_upR_o (107, 0, 0) (by decide)).1]
      exact h.1
    · show mW ((z_upR τ (109, 0, 0) H).1 (103, 0, 0)) W 0
      rw [(z_upR_o (103, 0, 0) (by decide)).1]
      exact h.2.1
    · by_cases ez : z = (109, 0, 0)
      · rw [ez, show (z_upR τ (109, 0, 0) H).1 (109, 0, 0) = H from z_upR_s, show (z_upR τ0 (109, 0, 0) H).1 (109, 0, 0) = H from z_upR_s]
      · rw [(z_upR_o z ez).1, (z_upR_o z ez).1]
        exact h.2.2.1 z hz
  have alT : al (z_upR τ (109, 0, 0) H) = al τ := by
    funext j
    show (z_upR τ (109, 0, 0) H).1 (103, 0, 0) j = _
    rw [(z_upR_o (103, 0, 0) (by decide)).1]
  have dL := m_dropL hT a hs
  have mO := m_out hT a hs
  rw [alT] at dL mO
  have mHo : mHd ((z_upR τ0 (109, 0, 0) H).1 (109, 0, 0)) (sOut s W) := by
    rw [show (z_upR τ0 (109, 0, 0) H).1 (109, 0, 0) = H from z_upR_s]
    refine mHd_out h a hs h0 (fun j hj => ?_)
    rw [eH]
    exact if_pos (by omega)
  have o20 : ∀ f, f < 9 → (sOut s W).1 (20, 0, 40) f = W.1 (20, 0, s) f := fun f hf => by
    rw [sOut_at, if_neg (by simp; omega), if_pos ⟨rfl, Nat.lt_succ_of_lt hf⟩]
  have o10 : ∀ k f, (sOut s W).1 (10, 0, k) f = W.1 (10, 0, k) f := fun k f => by
    rw [sOut_at, if_neg (by simp), if_neg (by simp), if_neg (by simp), if_neg (by simp)]
  have oN : ∀ f, (sOut s W).1 (0, 0, 0) f = W.1 (0, 0, 0) f := fun f => by
    rw [sOut_at, if_neg (by simp), if_neg (by simp), if_neg (by simp), if_neg (by simp)]
  have aO := (yA_out a (a.2.2.1 s)).2
  have hkO : W.1 (20, 0, s) 2 < (sOut s W).1 (0, 0, 0) 3 := by rw [oN]; exact hr
  have moO := m_of mO hkO
  have mhO := m_hand mO mHo
  simp only [o20 1 (by decide), o20 2 (by decide), o20 3 (by decide), o20 4 (by decide), o20 5 (by decide), o20 6 (by decide), o20 7 (by decide), o20 8 (by decide)] at mhO
  simp only [o10] at moO
  -- up to the letter's receiver
  have start : fM_deliver (nI s) τ = (if nI (W.1 (10, 0, W.1 (20, 0, s) 2) 1) = 1 then some (0, z_upR (z_upR τ (109, 0, 0) H) (103, 0, 0) (upd (al τ) (2240 + 64 * s + 0) (-1))) else (if nI (W.1 (20, 0, s) 3) ≤ nI (W.1 (10, 0, W.1 (20, 0, s) 2) 2) then fM_deliver_104 (nI (W.1 (20, 0, s) 2)) (z_upR (z_upR τ (109, 0, 0) H) (103, 0, 0) (upd (al τ) (2240 + 64 * s + 0) (-1))) else z_bd (fM_put (nI (W.1 (20, 0, s) 2)) 0 (nI (W.1 (20, 0, s) 3)) (z_upR (z_upR τ (109, 0, 0) H) (103, 0, 0) (upd (al τ) (2240 + 64 * s + 0) (-1)))) (fun _ σ19 => z_bd (fM_put (nI (W.1 (20, 0, s) 2)) 1 (-1) σ19) (fun _ σ20 => z_bd (fM_put (nI (W.1 (20, 0, s) 2)) 5 0 σ20) (fun _ σ21 => fM_deliver_104 (nI (W.1 (20, 0, s) 2)) σ21))))) := by
    unfold fM_deliver
    obtain ⟨n, hz, ez⟩ := z_fu_ex
    rw [ez, m_hasLetter h hB5 hs, z_bde, if_neg h0, if_neg (by decide)]
    obtain ⟨n', q⟩ := m_hand_12 (s := s) (x := 0) hs τ 64 0 n (τ.1 (109, 0, 0)) rfl (by omega)
    rw [z_upR_id, nI_0, ← eH] at q
    rw [q, fM_deliver_12.eq_2, if_pos (by decide +kernel), dL.1, z_bde, z_let, mhO.2.1, moO.2.2.2.2.2.2.2, z_bde]
    rw [moO.1, z_bde, mhO.2.2.1]
  by_cases cf : W.1 (10, 0, W.1 (20, 0, s) 2) 1 = 0
  · have d20 : ∀ f, f < 9 → (sDel1 s W).1 (20, 0, 40) f = W.1 (20, 0, s) f := fun f hf => by
      rw [sDel1_at, if_neg (by simp), if_neg (by simp), o20 f hf]
    have dz : ∀ (z : zJ) f, z ≠ (10, 0, W.1 (20, 0, s) 2) → (sDel1 s W).1 z f = (sOut s W).1 z f := fun z f hz => by
      rw [sDel1_at, if_neg (fun e => hz e.2.1), if_neg (fun e => hz e.2.1)]
    have d10 : ∀ f, f ≠ 2 → f ≠ 3 → f ≠ 4 → f ≠ 9 → f ≠ 10 → (sDel1 s W).1 (10, 0, W.1 (20, 0, s) 2) f = W.1 (10, 0, W.1 (20, 0, s) 2) f := fun f f1 f2 f3 f4 f5 => by
      rw [sDel1_at, if_neg (by omega), if_neg (by omega), o10]
    have dr2 : (sDel1 s W).2 = (sOut s W).2 := by
      unfold sDel1
      split
      · rfl
      · rfl
    have d4 : (sDel1 s W).1 (10, 0, W.1 (20, 0, s) 2) 4 = if W.1 (10, 0, W.1 (20, 0, s) 2) 2 < W.1 (20, 0, s) 3 then 0 else W.1 (10, 0, W.1 (20, 0, s) 2) 4 := by
      rw [sDel1_at, if_neg (by omega), o10]
      simp
    have d9 : (sDel1 s W).1 (10, 0, W.1 (20, 0, s) 2) 9 = if W.1 (10, 0, W.1 (20, 0, s) 2) 2 < W.1 (20, 0, s) 3 then 0 else W.1 (10, 0, W.1 (20, 0, s) 2) 9 := by
      rw [sDel1_at, if_neg (by omega), o10]
      simp
    have d2 : (sDel1 s W).1 (10, 0, W.1 (20, 0, s) 2) 2 = if W.1 (10, 0, W.1 (20, 0, s) 2) 2 < W.1 (20, 0, s) 3 then W.1 (20, 0, s) 3 else W.1 (10, 0, W.1 (20, 0, s) 2) 2 := by
      rw [sDel1_at, o10]
      simp
    have dT : ∀ e, sTm (sDel1 s W) (W.1 (20, 0, s) 2) e = sTm W (W.1 (20, 0, s) 2) e := fun e => by
      unfold sTm
      rw [d10 5 (by decide) (by decide) (by decide) (by decide) (by decide), d10 6 (by decide) (by decide) (by decide) (by decide) (by decide), dz _ _ (by simp), sOut_at]
      simp
    have aD : yA (sDel1 s W) 0 := by
      unfold sDel1
      split
      · exact yA_I (yA_I (yA_I (yA_I (yA_I aO (by simp)) (by simp)) (by simp)) (by simp)) (by simp)
      · exact aO
    obtain ⟨e, he⟩ := sEmp_out (W := W) hs
    -- in its term
    have ent : ∃ τ2, fM_deliver (nI s) τ = fM_deliver_104 (nI (W.1 (20, 0, s) 2)) τ2 ∧ mR (z_upR τ0 (109, 0, 0) H) τ2 (sDel1 s W) := by
      rw [start, if_neg (by rw [cf]; decide +kernel)]
      by_cases ct : W.1 (10, 0, W.1 (20, 0, s) 2) 2 < W.1 (20, 0, s) 3
      · rw [if_neg (nI_ge ct (by omega))]
        obtain ⟨t1, e1, h1⟩ := mw_term (v := W.1 (20, 0, s) 3) mO aO hkO
        obtain ⟨t2, e2, h2⟩ := mw_vote (v := 0) (x := -1) h1 (yA_I aO (by simp)) (by rw [yI_z _ _ (by simp)]; exact hkO) (by decide +kernel)
        obtain ⟨t3, e3, h3⟩ := m_follow h2 (yA_I (yA_I aO (by simp)) (by simp)) (by rw [yI_z _ _ (by simp), yI_z _ _ (by simp)]; exact hkO)
        refine ⟨t3, by rw [e1, z_bde, e2, z_bde, e3, z_bde], ?_⟩
        have : sDel1 s W = sFollow (W.1 (20, 0, s) 2) (yI (yI (sOut s W) (10, 0, W.1 (20, 0, s) 2) 2 (W.1 (20, 0, s) 3)) (10, 0, W.1 (20, 0, s) 2) 3 0) := if_pos ct
        rw [this]
        exact h3
      · refine ⟨_, by rw [if_pos (nI_le (by omega) (by omega))], ?_⟩
        have : sDel1 s W = sOut s W := if_neg ct
        rw [this]
        exact mO
    obtain ⟨t2, e2, h2⟩ := ent
    have g := m_gets (k := W.1 (20, 0, s) 2) (s := e) (Lf := Lf) h2 (mHd_c mHo (fun f => dz _ _ (by simp)) (fun f => dz _ _ (by simp)) (fun t => by rw [dr2])) aD (sDel1_E hE) (sDel1_B hB) (by rw [dz _ _ (by simp), oN]; exact hr) (d20 2 (by decide)) (by rw [d20 1 (by decide)]; omega) he (by rw [d20 0 (by decide)]; exact h0) (by rw [d20 0 (by decide)]; exact h5') (by rw [d4]; split <;> omega) (by rw [d9]; split <;> omega) (by rw [d10 5 (by decide) (by decide) (by decide) (by decide) (by decide), d10 8 (by decide) (by decide) (by decide) (by decide) (by decide)]; exact kk1) (by rw [d10 7 (by decide) (by decide) (by decide) (by decide) (by decide), d10 8 (by decide) (by decide) (by decide) (by decide) (by decide)]; exact kk2) (by rw [d20 0 (by decide), d20 8 (by decide)]; exact k1) (by rw [d20 0 (by decide), d20 4 (by decide)]; exact k2) (by rw [d20 0 (by decide), d20 6 (by decide)]; exact a.2.2.1 s) (fun q e x1 x2 => by
      rw [d4] at q
      rw [d10 8 (by decide) (by decide) (by decide) (by decide) (by decide)] at x1
      rw [d10 7 (by decide) (by decide) (by decide) (by decide) (by decide)] at x2
      by_cases ct : W.1 (10, 0, W.1 (20, 0, s) 2) 2 < W.1 (20, 0, s) 3
      · rw [if_pos ct] at q; omega
      · rw [if_neg ct] at q
        rw [dT, d2, if_neg ct]
        exact kk7 q e x1 x2) (fun q => by
      rw [d4] at q
      by_cases ct : W.1 (10, 0, W.1 (20, 0, s) 2) 2 < W.1 (20, 0, s) 3
      · rw [if_pos ct] at q; omega
      · rw [if_neg ct] at q
        rw [d20 1 (by decide), dz _ _ (by simp), sOut_at, if_neg (by simp), if_neg (by simp), if_neg (by simp), if_neg (by simp)]
        exact kk6 q _ hf) (fun q0 q1 q2 e x1 x2 => by
      rw [d20 0 (by decide)] at q0
      rw [d2, d20 3 (by decide)] at q1
      rw [d4] at q2
      rw [d10 5 (by decide) (by decide) (by decide) (by decide) (by decide)] at x1
      rw [d10 8 (by decide) (by decide) (by decide) (by decide) (by decide)] at x2
      rw [dT]
      refine hD q0 ?_ ?_ e x1 x2
      · by_cases ct : W.1 (10, 0, W.1 (20, 0, s) 2) 2 < W.1 (20, 0, s) 3
        · omega
        · rw [if_neg ct] at q1; exact q1
      · intro ee
        rw [if_neg (by omega)] at q2
        exact q2) (fun q0 j hj => by
      rw [d20 0 (by decide)] at q0
      rw [d20 6 (by decide)] at hj
      have := a.2.2.1 s q0
      rw [d20 4 (by decide), dz _ _ (by simp), sOut_at, if_neg (by simp), if_neg (by simp), if_pos ⟨rfl, by omega⟩]
      exact hL q0 j hj)
    obtain ⟨t3, e3, h3⟩ := g
    exact ⟨t3, H, by rw [if_pos cf]; exact ⟨by rw [e2]; exact e3, h3⟩⟩
  · have cf1 : W.1 (10, 0, W.1 (20, 0, s) 2) 1 = 1 := by omega
    exact ⟨_, H, by rw [if_neg cf]; exact ⟨by rw [start, if_pos (by rw [cf1]; decide +kernel)], mO⟩⟩
end mdeliv
