/-! what the model reads, by numbers -/
section mread
variable {τ0 τ : zS} {W : yW} {k : Nat}
theorem mR_N (h : mR τ0 τ W) : W.1 (0, 0, 0) 3 ≤ 7 := h.1.1.1
theorem m_many (h : mR τ0 τ W) : fM_many τ = some (nI (W.1 (0, 0, 0) 3), τ) := by
  obtain ⟨⟨-, b, s, b1, b2, b3, b4, -⟩, -⟩ := h
  unfold fM_many
  rw [b3, if_pos (nI_inz b1 (by decide)), nI_clamp (by omega), b4]
theorem y_bit : ∀ b, b < 128 → ∀ i, i < 31 → (nI b >>> (nI i &&& 31)) &&& 1 = nI (if b.testBit i then 1 else 0) := by decide +kernel
theorem y_bits31 : ∀ b, b < 128 → z_cnt (fun o => b.testBit o) 31 0 = sBits b := by decide +kernel
theorem m_bits_4 {b : Nat} (hb : b < 128) (τ : zS) : ∀ (m i n c : Nat), i + m = 31 → m < n → fM_bitsOf_4 n (nI b) (nI c) (nI i) τ = some (nI (c + z_cnt (fun o => b.testBit o) m i), τ) := by
  intro m
  induction m with
  | zero =>
    intro i n c hi hn
    obtain ⟨n, rfl⟩ : ∃ k, n = k + 1 := ⟨n - 1, by omega⟩
    rw [fM_bitsOf_4.eq_2, if_pos ((nI_le_lit (a := 31) (by decide +kernel) (by decide) (by omega)).mpr (by omega))]
    rfl
  | succ m ih =>
    intro i n c hi hn
    obtain ⟨n, rfl⟩ : ∃ k, n = k + 1 := ⟨n - 1, by omega⟩
    rw [fM_bitsOf_4.eq_2, if_neg (fun hh => by have := (nI_le_lit (a := 31) (by decide +kernel) (by decide) (by omega)).mp hh; omega), y_bit b hb i (by omega)]
    simp only [z_let, nI_add, nI_1]
    rw [ih (i + 1) n _ (by omega) (by omega)]
    show some (nI (c + _ + z_cnt _ m (i + 1)), τ) = some (nI (c + ((if b.testBit i = true then 1 else 0) + z_cnt _ m (i + 1))), τ)
    rw [Nat.add_assoc]
theorem m_bits {b : Nat} (hb : b < 128) (τ : zS) : fM_bitsOf (nI b) τ = some (nI (sBits b), τ) := by
  unfold fM_bitsOf
  obtain ⟨n, hz, ez⟩ := z_fu_ex
  rw [ez]
  have h := m_bits_4 hb τ 31 0 n 0 rfl (by omega)
  rw [nI_0, Nat.zero_add, y_bits31 b hb] at h
  exact h
theorem m_isKeeper (h : mR τ0 τ W) (hk : k < W.1 (0, 0, 0) 3) : fM_isKeeper (nI k) τ = some (1, τ) := by
  have hN := mR_N h
  unfold fM_isKeeper
  rw [m_many h, z_bde, eM_isIn, y_sub1 (by omega), if_pos ⟨nI_pos' (by omega), nI_le (by omega) (by omega)⟩, z_bde, if_pos (by decide)]
theorem m_noKeeper {x : Int32} (h : mR τ0 τ W) (hx : ∀ k, k < W.1 (0, 0, 0) 3 → x ≠ nI k) : fM_isKeeper x τ = some (0, τ) := by
  have hN := mR_N h
  unfold fM_isKeeper
  rw [m_many h, z_bde, eM_isIn, if_neg, z_bde, if_pos (by decide)]
  rintro ⟨h1, h2⟩
  obtain ⟨j, hj, rfl⟩ := nI_of (i32_nlt.mpr h1)
  by_cases e : W.1 (0, 0, 0) 3 = 0
  · rw [e] at h2
    have : ¬ nI j < 0 := nI_pos hj
    rw [i32_nlt] at this
    have e2 : (nI 0 : Int32) - 1 = -1 := by decide +kernel
    rw [e2, Int32.le_iff_toInt_le] at h2
    rw [Int32.le_iff_toInt_le] at this
    have e3 : (-1 : Int32).toInt = -1 := by decide +kernel
    have e4 : (0 : Int32).toInt = 0 := by decide +kernel
    omega
  · rw [y_sub1 (by omega)] at h2
    exact hx j (by have := (nI_leI hj (by omega)).mp h2; omega) rfl
theorem m_isVoter (h : mR τ0 τ W) (hk : k < W.1 (0, 0, 0) 3) : fM_isVoter (nI k) τ = some (if W.1 (10, 0, k) 0 = 0 then 0 else 1, τ) := by
  have hN := mR_N h
  obtain ⟨⟨-, b, s, b1, b2, b3, b4, b5, b6, b7⟩, -⟩ := h
  unfold fM_isVoter
  rw [b3, if_pos (nI_inz b1 (by decide)), nI_clamp (by omega), b5, y_bit s b2 k (by omega)]
  by_cases c : W.1 (10, 0, k) 0 = 0
  · rw [if_pos ((b6 k hk).mp c), if_pos c, if_neg (by decide)]
  · rw [if_neg (fun e => c ((b6 k hk).mpr e)), if_neg c, if_pos (by decide)]
theorem m_voters (h : mR τ0 τ W) : fM_voters τ = some (nI (W.1 (0, 0, 0) 4), τ) := by
  have hN := mR_N h
  unfold fM_voters
  rw [m_many h, z_bde]
  obtain ⟨⟨-, b, s, b1, b2, b3, b4, b5, b6, b7⟩, -⟩ := h
  rw [b3, if_pos (nI_inz b1 (by decide)), nI_clamp (by omega), b5, m_bits b2, z_bde]
  rw [iI_nat, iI_nat, iI_nat, iI_sub]
  congr 2
  congr 1
  omega
theorem m_most (h : mR τ0 τ W) : fM_most τ = some (nI (sMost W), τ) := by
  have hN := mR_N h
  obtain ⟨n1, n2, n3⟩ := h.1.1
  unfold fM_most sMost
  rw [m_many h, z_bde]
  by_cases c : W.1 (0, 0, 0) 3 = 0
  · rw [c, if_pos nI_0, if_pos (by omega), nI_0]
  · rw [if_neg (nI_ne0 (by omega) (by omega)), if_neg (by omega), m_voters h, z_bde, y_half _ (by omega), nI_1]
theorem m_of (h : mR τ0 τ W) (hk : k < W.1 (0, 0, 0) 3) : fM_of (nI k) 0 τ = some (nI (W.1 (10, 0, k) 2), τ) ∧ fM_of (nI k) 1 τ = some (iI ((W.1 (10, 0, k) 3 : Int) - 1), τ) ∧ fM_of (nI k) 2 τ = some (nI (W.1 (10, 0, k) 5), τ) ∧ fM_of (nI k) 3 τ = some (nI (W.1 (10, 0, k) 6), τ) ∧ fM_of (nI k) 4 τ = some (nI (W.1 (10, 0, k) 7), τ) ∧ fM_of (nI k) 5 τ = some (nI (W.1 (10, 0, k) 4), τ) ∧ fM_of (nI k) 6 τ = some (nI (W.1 (10, 0, k) 8), τ) ∧ fM_of (nI k) 9 τ = some (nI (W.1 (10, 0, k) 1), τ) := by
  have hN := mR_N h
  have k7 : k < 7 := by omega
  obtain ⟨⟨a1, a2, a3, a4, a5, a6, a7, a8⟩, -⟩ := h.2.1.1 k hk
  have e := fun (g : Int32) (w : Nat) (hg : g = nI w) (hw : w < 320) => show fM_of (nI k) g τ = some (al τ (320 * k + w), τ) from by rw [hg]; exact eM_of τ k7 hw
  exact ⟨(e 0 0 (by decide +kernel) (by decide)).trans (by rw [a1]), (e 1 1 (by decide +kernel) (by decide)).trans (by rw [a2]), (e 2 2 (by decide +kernel) (by decide)).trans (by rw [a3]), (e 3 3 (by decide +kernel) (by decide)).trans (by rw [a4]), (e 4 4 (by decide +kernel) (by decide)).trans (by rw [a5]), (e 5 5 (by decide +kernel) (by decide)).trans (by rw [a6]), (e 6 6 (by decide +kernel) (by decide)).trans (by rw [a7]), (e 9 9 (by decide +kernel) (by decide)).trans (by rw [a8])⟩
theorem m_of7 (h : mR τ0 τ W) (hk : k < W.1 (0, 0, 0) 3) (hr : W.1 (10, 0, k) 4 ≠ 0) : fM_of (nI k) 7 τ = some (nI (W.1 (10, 0, k) 9), τ) := by
  have hN := mR_N h
  rw [show (7 : Int32) = nI 7 from by decide +kernel, eM_of τ (by omega) (by decide), (h.2.1.1 k hk).2.1 hr]
theorem m_of8 (h : mR τ0 τ W) (hk : k < W.1 (0, 0, 0) 3) (hr : W.1 (10, 0, k) 4 = 2) : fM_of (nI k) 8 τ = some (nI (W.1 (10, 0, k) 10), τ) ∧ (∀ o, o < 7 → fM_of (nI k) (nI (50 + o)) τ = some (nI (W.1 (16, 0, k) o), τ) ∧ fM_of (nI k) (nI (57 + o)) τ = some (nI (W.1 (17, 0, k) o), τ) ∧ fM_of (nI k) (nI (64 + o)) τ = some (nI (W.1 (18, 0, k) o), τ)) := by
  have hN := mR_N h
  obtain ⟨a1, a2⟩ := (h.2.1.1 k hk).2.2.1 hr
  refine ⟨?_, fun o ho => ⟨?_, ?_, ?_⟩⟩
  · rw [show (8 : Int32) = nI 8 from by decide +kernel, eM_of τ (by omega) (by decide), a1]
  · rw [eM_of τ (by omega) (by omega), (a2 o ho).1]
  · rw [eM_of τ (by omega) (by omega), (a2 o ho).2.1]
  · rw [eM_of τ (by omega) (by omega), (a2 o ho).2.2]
theorem m_isUp (h : mR τ0 τ W) (hk : k < W.1 (0, 0, 0) 3) (hf : W.1 (10, 0, k) 1 ≤ 1) : fM_isUp (nI k) τ = some (if W.1 (10, 0, k) 1 = 0 then 1 else 0, τ) := by
  unfold fM_isUp
  rw [m_isKeeper h hk, z_bde, if_neg (by decide), (m_of h hk).2.2.2.2.2.2.2, z_bde]
  by_cases c : W.1 (10, 0, k) 1 = 0
  · rw [if_pos c, c, if_pos nI_0]
  · rw [if_neg c, if_neg (nI_ne0 (by omega) (by omega))]
theorem m_noUp {x : Int32} (h : mR τ0 τ W) (hx : ∀ k, k < W.1 (0, 0, 0) 3 → x ≠ nI k) : fM_isUp x τ = some (0, τ) := by
  unfold fM_isUp
  rw [m_noKeeper h hx, z_bde, if_pos rfl]
theorem m_doesLead (h : mR τ0 τ W) (hk : k < W.1 (0, 0, 0) 3) (hf : W.1 (10, 0, k) 1 ≤ 1) (hr : W.1 (10, 0, k) 4 ≤ 2) : fM_doesLead (nI k) τ = some (if W.1 (10, 0, k) 1 = 0 ∧ W.1 (10, 0, k) 4 = 2 then 1 else 0, τ) := by
  unfold fM_doesLead
  rw [m_isUp h hk hf, z_bde]
  by_cases c : W.1 (10, 0, k) 1 = 0
  · rw [if_pos c, if_neg (by decide), (m_of h hk).2.2.2.2.2.1, z_bde]
    by_cases c2 : W.1 (10, 0, k) 4 = 2
    · rw [if_pos (show nI (W.1 (10, 0, k) 4) = 2 from by rw [c2]; decide +kernel), if_pos ⟨c, c2⟩]
    · have c3 : ¬ nI (W.1 (10, 0, k) 4) = 2 := by
        rw [show (2 : Int32) = nI 2 from by decide +kernel]
        exact fun e => c2 ((nI_eq (by omega) (by decide)).mp e)
      rw [if_neg c3, if_neg (fun e => c2 e.2)]
  · rw [if_neg c, if_pos rfl, if_neg (fun e => c e.1)]
theorem m_noLead {x : Int32} (h : mR τ0 τ W) (hx : ∀ k, k < W.1 (0, 0, 0) 3 → x ≠ nI k) : fM_doesLead x τ = some (0, τ) := by
  unfold fM_doesLead
  rw [m_noUp h hx, z_bde, if_pos rfl]
theorem m_kind {s : Nat} (h : mR τ0 τ W) (hB : ∀ z i, W.1 z i < 50000) (hs : s < 40) : (al τ (2240 + 64 * s) < 0 ↔ W.1 (20, 0, s) 0 = 0) ∧ (0 ≤ al τ (2240 + 64 * s) ↔ ¬ W.1 (20, 0, s) 0 = 0) := by
  have b := hB (20, 0, s) 0
  rw [(h.2.1.2.1 s hs).1, show (0 : Int32) = iI 0 from by decide +kernel, iI_lt (by omega) (by omega) (by omega) (by omega), iI_le (by omega) (by omega) (by omega) (by omega)]
  omega
theorem m_empty (h : mR τ0 τ W) (hB : ∀ z i, W.1 z i < 50000) : fM_empty τ = some (z_oI (sEmp W), τ) := by
  have e : z_fst (fun s => decide (¬ 0 ≤ al τ (2240 + 64 * s))) 40 0 = sEmp W := z_fst_congr 40 0 (fun j _ hj => by
    refine decide_eq_decide.mpr ?_
    rw [(m_kind h hB (s := j) (by omega)).2]
    exact Classical.not_not)
  rw [eM_empty, e]
theorem m_letters (h : mR τ0 τ W) (hB : ∀ z i, W.1 z i < 50000) : fM_letters τ = some (nI (sCnt W), τ) := by
  have e : z_cnt (fun s => decide (¬ al τ (2240 + 64 * s) < 0)) 40 0 = sCnt W := z_cnt_congr 40 0 (fun j _ hj => by
    refine decide_eq_decide.mpr ?_
    rw [(m_kind h hB (s := j) (by omega)).1])
  rw [eM_letters, e]
theorem m_hasLetter {s : Nat} (h : mR τ0 τ W) (hB : ∀ z i, W.1 z i < 50000) (hs : s < 40) : fM_hasLetter (nI s) τ = some (if W.1 (20, 0, s) 0 = 0 then 0 else 1, τ) := by
  unfold fM_hasLetter
  rw [eM_isIn, if_pos ⟨nI_pos' (by omega), (by rw [show (39 : Int32) = nI 39 from by decide +kernel]; exact nI_le (by omega) (by decide))⟩, z_bde, if_neg (by decide), eM_slotOf0 τ hs, z_bde]
  by_cases c : W.1 (20, 0, s) 0 = 0
  · rw [if_pos ((m_kind h hB hs).1.mpr c), if_pos c]
  · rw [if_neg (fun e => c ((m_kind h hB hs).1.mp e)), if_neg c]
theorem m_noLetter {x : Int32} (τ : zS) (hx : ∀ s, s < 40 → x ≠ nI s) : fM_hasLetter x τ = some (0, τ) := by
  unfold fM_hasLetter
  rw [eM_isIn, if_neg, z_bde, if_pos rfl]
  rintro ⟨h1, h2⟩
  obtain ⟨j, hj, rfl⟩ := nI_of (i32_nlt.mpr h1)
  rw [show (39 : Int32) = nI 39 from by decide +kernel, nI_leI hj (by decide)] at h2
  exact hx j (by omega) rfl
theorem m_entryAt {e : Nat} (h : mR τ0 τ W) (hk : k < W.1 (0, 0, 0) 3) (h1 : W.1 (10, 0, k) 5 < e) : fM_entryAt (nI k) (nI e) τ = some (nI (320 * k + 80 + 6 * (e - W.1 (10, 0, k) 5 - 1)), τ) := by
  unfold fM_entryAt
  rw [(m_of h hk).2.2.1, z_bde]
  congr 2
  rw [show (320 : Int32) = nI 320 from by decide +kernel, show (80 : Int32) = nI 80 from by decide +kernel, show (6 : Int32) = nI 6 from by decide +kernel, pk_mul, nI_add, show nI e - nI (W.1 (10, 0, k) 5) - 1 = nI (e - W.1 (10, 0, k) 5 - 1) from by
    rw [iI_nat, iI_nat, iI_nat, show (1 : Int32) = iI 1 from by decide +kernel, iI_sub, iI_sub]
    congr 1
    omega, pk_mul, nI_add]
theorem m_entry {e q : Nat} (h : mR τ0 τ W) (hk : k < W.1 (0, 0, 0) 3) (h1 : W.1 (10, 0, k) 5 < e) (h2 : e ≤ W.1 (10, 0, k) 7) (hq : q < 6) : al τ (320 * k + 80 + 6 * (e - W.1 (10, 0, k) 5 - 1) + q) = (cE W).1 (11, 0, k) (6 * (e - W.1 (10, 0, k) 5 - 1) + q) := by
  rw [Nat.add_assoc (320 * k + 80)]
  exact (h.2.1.1 k hk).2.2.2.1 _ (by omega)
theorem m_termOf {e : Nat} (h : mR τ0 τ W) (hB : ∀ z i, W.1 z i < 50000) (hk : k < W.1 (0, 0, 0) 3) (h1 : W.1 (10, 0, k) 5 ≤ e) (h2 : e ≤ W.1 (10, 0, k) 7) (h3 : W.1 (10, 0, k) 7 ≤ W.1 (10, 0, k) 5 + 40) : fM_termOf (nI k) (nI e) τ = some (nI (sTm W k e), τ) := by
  have hN := mR_N h
  have b5 := hB (10, 0, k) 5
  unfold fM_termOf sTm
  rw [(m_of h hk).2.2.1, z_bde]
  by_cases c : e = W.1 (10, 0, k) 5
  · rw [if_pos c, if_neg (by rw [c]; exact nI_nlt (Nat.le_refl _) (by omega)), (m_of h hk).2.2.2.1, z_bde]
  · rw [if_neg c, if_pos (nI_lt (by omega) (by omega)), m_entryAt h hk (by omega), z_bde, if_pos (nI_inz (by omega) (by decide)), nI_clamp (by omega)]
    have q := m_entry (q := 0) h hk (show W.1 (10, 0, k) 5 < e by omega) h2 (by decide)
    simp only [Nat.add_zero, c11_t] at q
    exact congrArg (fun x => some (x, τ)) q
end mread
