/-! the model: command, read, fold -/
section mcmd
variable {τ0 τ : zS} {W : yW} {k : Nat}
theorem m_isInN {n : Nat} {x lo hi : Int32} (τ : zS) (hl : lo = 0) (hh : hi = nI (n - 1)) (h1 : 1 ≤ n) (h2 : n < 1000) : fM_isIn x lo hi τ = some (if ∃ j, j < n ∧ x = nI j then 1 else 0, τ) := by
  rw [eM_isIn, hl, hh]
  by_cases c : ∃ j, j < n ∧ x = nI j
  · obtain ⟨j, j1, rfl⟩ := c
    rw [if_pos ⟨nI_pos' (by omega), nI_le (by omega) (by omega)⟩, if_pos ⟨j, j1, rfl⟩]
  · rw [if_neg c, if_neg]
    rintro ⟨q1, q2⟩
    obtain ⟨j, hj, rfl⟩ := nI_of (i32_nlt.mpr q1)
    exact c ⟨j, by have := (nI_leI hj (by omega)).mp q2; omega, rfl⟩
theorem m_isIn99 {j : Nat} (τ : zS) (j1 : 1 ≤ j) (j2 : j ≤ 99) : fM_isIn (nI j) 1 99 τ = some (1, τ) := by
  rw [eM_isIn, if_pos ⟨(nI_le_lit (a := 1) (by decide +kernel) (by decide) (by omega)).mpr j1, by rw [show (99 : Int32) = nI 99 from by decide +kernel]; exact nI_le j2 (by decide)⟩]
theorem m_isIn99N {x : Int32} (τ : zS) (c : ∀ j, 1 ≤ j → j ≤ 99 → x ≠ nI j) : fM_isIn x 1 99 τ = some (0, τ) := by
  rw [eM_isIn, if_neg]
  rintro ⟨q1, q2⟩
  have g0 : ¬ x < 0 := fun g0 => by
    rw [Int32.lt_iff_toInt_lt] at g0
    rw [Int32.le_iff_toInt_le] at q1
    have e0 : (0 : Int32).toInt = 0 := by decide +kernel
    have e1 : (1 : Int32).toInt = 1 := by decide +kernel
    omega
  obtain ⟨j, hj, rfl⟩ := nI_of g0
  rw [show (99 : Int32) = nI 99 from by decide +kernel, nI_leI hj (by decide)] at q2
  exact c j ((nI_le_lit (a := 1) (by decide +kernel) (by decide) hj).mp q1) q2 rfl
theorem m_isInY {n j : Nat} {lo hi : Int32} (τ : zS) (hl : lo = 0) (hh : hi = nI (n - 1)) (h2 : n < 1000) (hj : j < n) : fM_isIn (nI j) lo hi τ = some (1, τ) := by
  rw [m_isInN τ hl hh (by omega) h2, if_pos ⟨j, hj, rfl⟩]
theorem m_isInO {n : Nat} {x lo hi : Int32} (τ : zS) (hl : lo = 0) (hh : hi = nI (n - 1)) (h1 : 1 ≤ n) (h2 : n < 1000) (c : ∀ j, j < n → x ≠ nI j) : fM_isIn x lo hi τ = some (0, τ) := by
  rw [m_isInN τ hl hh h1 h2, if_neg (fun ⟨j, j1, j2⟩ => c j j1 j2)]
/-- the row with a new entry of a leader -/
def zCm (p : Nat) (x0 x1 x2 x3 x4 x5 : Int32) (B : Nat → Int32) : Nat → Int32 := upd (upd (upd (upd (upd (upd B p x0) (p + 1) x1) (p + 2) x2) (p + 3) x3) (p + 4) x4) (p + 5) x5
theorem zCm_at (p : Nat) (x0 x1 x2 x3 x4 x5 : Int32) (B : Nat → Int32) (j : Nat) : zCm p x0 x1 x2 x3 x4 x5 B j = if j = p then x0 else if j = p + 1 then x1 else if j = p + 2 then x2 else if j = p + 3 then x3 else if j = p + 4 then x4 else if j = p + 5 then x5 else B j := by
  unfold zCm upd
  grind
theorem sCmd_at (k c n h e : Nat) (v : Int32) (W : yW) (z : zJ) (f : Nat) : (sCmd k c n h e v W).1 z f = if z = (10, 0, k) ∧ f = 7 then W.1 (10, 0, k) 7 + 1 else if z = (11, 0, k) ∧ f = 6 * (W.1 (10, 0, k) 7 - W.1 (10, 0, k) 5) then W.1 (10, 0, k) 2 else if z = (11, 0, k) ∧ f = 6 * (W.1 (10, 0, k) 7 - W.1 (10, 0, k) 5) + 1 then c else if z = (11, 0, k) ∧ f = 6 * (W.1 (10, 0, k) 7 - W.1 (10, 0, k) 5) + 2 then n else if z = (11, 0, k) ∧ f = 6 * (W.1 (10, 0, k) 7 - W.1 (10, 0, k) 5) + 3 then h else if z = (11, 0, k) ∧ f = 6 * (W.1 (10, 0, k) 7 - W.1 (10, 0, k) 5) + 4 then e else W.1 z f := by
  unfold sCmd
  dsimp only
  generalize 6 * (W.1 (10, 0, k) 7 - W.1 (10, 0, k) 5) = p
  rw [yR_1, yI_at, yI_at, yI_at, yI_at, yI_at, yI_at]
  by_cases c1 : z = (10, 0, k)
  · subst c1
    simp
  · by_cases c2 : z = (11, 0, k)
    · subst c2
      simp
      grind
    · simp [c1, c2]
theorem sCmd_2 (k c n h e : Nat) (v : Int32) (W : yW) (z : zJ) (f : Nat) : (sCmd k c n h e v W).2.1 z f = if z = (11, 0, k) ∧ f = 6 * (W.1 (10, 0, k) 7 - W.1 (10, 0, k) 5) + 5 then v else W.2.1 z f := by
  unfold sCmd
  dsimp only
  exact z_up_at _ _ _ _ _ _
theorem mK_cmd {B : Nat → Int32} {c n h e : Nat} {v : Int32} (hK : mK B W 0 k) (h5 : W.1 (10, 0, k) 5 ≤ W.1 (10, 0, k) 7) (h40 : W.1 (10, 0, k) 7 < W.1 (10, 0, k) 5 + 40) : mK (zCm (320 * k + 80 + 6 * (W.1 (10, 0, k) 7 - W.1 (10, 0, k) 5)) (nI (W.1 (10, 0, k) 2)) (nI c) (nI n) (nI h) (nI e) v (upd B (320 * k + 4) (nI (W.1 (10, 0, k) 7 + 1)))) (sCmd k c n h e v W) 0 k := by
  obtain ⟨⟨a1, a2, a3, a4, a5, a6, a7, a8⟩, b1, b2, b3, b4, b5⟩ := hK
  obtain ⟨p, ep⟩ : ∃ p, p = 6 * (W.1 (10, 0, k) 7 - W.1 (10, 0, k) 5) := ⟨_, rfl⟩
  have u : ∀ j, j < 320 * k + 80 + p → j ≠ 320 * k + 4 → zCm (320 * k + 80 + p) (nI (W.1 (10, 0, k) 2)) (nI c) (nI n) (nI h) (nI e) v (upd B (320 * k + 4) (nI (W.1 (10, 0, k) 7 + 1))) j = B j := fun j j1 j2 => by
    rw [zCm_at, if_neg (by omega), if_neg (by omega), if_neg (by omega), if_neg (by omega), if_neg (by omega), if_neg (by omega), upd_n _ _ j2]
  have e10 : ∀ f, (sCmd k c n h e v W).1 (10, 0, k) f = if f = 7 then W.1 (10, 0, k) 7 + 1 else W.1 (10, 0, k) f := fun f => by
    rw [sCmd_at]
    simp
  have eA : ∀ t f, t = 16 ∨ t = 17 ∨ t = 18 → (sCmd k c n h e v W).1 (t, 0, k) f = W.1 (t, 0, k) f := fun t f ht => by
    rw [sCmd_at]
    rcases ht with rfl | rfl | rfl <;> simp
  have e2 : ∀ t, t ≠ 11 → (sCmd k c n h e v W).2.1 (t, 0, k) = W.2.1 (t, 0, k) := fun t ht => funext fun f => by
    rw [sCmd_2, if_neg (by simp [ht])]
  rw [← ep]
  unfold mK
  simp only [e10, eA 16 _ (by omega), eA 17 _ (by omega), eA 18 _ (by omega), e2 13 (by decide), e2 15 (by decide), Nat.reduceEqDiff, if_false, if_true]
  refine ⟨⟨?_, ?_, ?_, ?_, ?_, ?_, ?_, ?_⟩, fun e => ?_, fun e => ⟨?_, fun q hq => ⟨?_, ?_, ?_⟩⟩, fun j hj => ?_, zl_lay_c (fun q hq => u _ (by omega) (by omega)) b4, zl_lay_c (fun q hq => u _ (by omega) (by omega)) b5⟩
  · rw [u _ (by omega) (by omega)]; exact a1
  · rw [u _ (by omega) (by omega)]; exact a2
  · rw [u _ (by omega) (by omega)]; exact a3
  · rw [u _ (by omega) (by omega)]; exact a4
  · rw [zCm_at, if_neg (by omega), if_neg (by omega), if_neg (by omega), if_neg (by omega), if_neg (by omega), if_neg (by omega), upd_s]
  · rw [u _ (by omega) (by omega)]; exact a6
  · rw [u _ (by omega) (by omega)]; exact a7
  · rw [u _ (by omega) (by omega)]; exact a8
  · rw [u _ (by omega) (by omega)]; exact b1 e
  · rw [u _ (by omega) (by omega)]; exact (b2 e).1
  · rw [u _ (by omega) (by omega)]; exact ((b2 e).2 q hq).1
  · rw [u _ (by omega) (by omega)]; exact ((b2 e).2 q hq).2.1
  · rw [u _ (by omega) (by omega)]; exact ((b2 e).2 q hq).2.2
  · have e1 : ∀ f, (sCmd k c n h e v W).1 (11, 0, k) f = if f = p then W.1 (10, 0, k) 2 else if f = p + 1 then c else if f = p + 2 then n else if f = p + 3 then h else if f = p + 4 then e else W.1 (11, 0, k) f := fun f => by
      rw [sCmd_at, ← ep]
      simp
    have r1 : ∀ f, (sCmd k c n h e v W).2.1 (11, 0, k) f = if f = p + 5 then v else W.2.1 (11, 0, k) f := fun f => by
      rw [sCmd_2, ← ep]
      simp
    have y0 : ∀ q, q < 5 → ye 11 (p + q) = 1 := fun q hq => by
      show (if (p + q) % 6 = 5 then 0 else 1) = 1
      rw [if_neg (by omega)]
    have y5 : ye 11 (p + 5) = 0 := by
      show (if (p + 5) % 6 = 5 then 0 else 1) = 0
      rw [if_pos (by omega)]
    rw [cE_at]
    show _ = yc (ye 11 j) _ _
    rw [e1, r1]
    by_cases cj : j < p
    · rw [u _ (by omega) (by omega), if_neg (by omega), if_neg (by omega), if_neg (by omega), if_neg (by omega), if_neg (by omega), if_neg (by omega)]
      exact b3 j (by omega)
    · rw [zCm_at]
      rcases (show j = p ∨ j = p + 1 ∨ j = p + 2 ∨ j = p + 3 ∨ j = p + 4 ∨ j = p + 5 by omega) with rfl | rfl | rfl | rfl | rfl | rfl
      · rw [if_pos rfl, if_pos rfl]; have := y0 0 (by decide); rw [Nat.add_zero] at this; rw [this]; rfl
      · rw [if_neg (by omega), if_pos (by omega), if_neg (by omega), if_pos rfl, y0 1 (by decide)]; rfl
      · rw [if_neg (by omega), if_neg (by omega), if_pos (by omega), if_neg (by omega), if_neg (by omega), if_pos rfl, y0 2 (by decide)]; rfl
      · rw [if_neg (by omega), if_neg (by omega), if_neg (by omega), if_pos (by omega), if_neg (by omega), if_neg (by omega), if_neg (by omega), if_pos rfl, y0 3 (by decide)]; rfl
      · rw [if_neg (by omega), if_neg (by omega), if_neg (by omega), if_neg (by omega), if_pos (by omega), if_neg (by omega), if_neg (by omega), if_neg (by omega), if_neg (by omega), if_pos rfl, y0 4 (by decide)]; rfl
      · rw [if_neg (by omega), if_neg (by omega), if_neg (by omega), if_neg (by omega), if_neg (by omega), if_pos (by omega), y5, if_pos rfl]; rfl
theorem m_command {c n h' e : Nat} {v : Int32} (h : mR τ0 τ W) (a : yA W 0) (hE : yEn W) (hB : ∀ z i, W.1 z i < 40000) (hk : k < W.1 (0, 0, 0) 3) (hf : W.1 (10, 0, k) 1 ≤ 1) (hr : W.1 (10, 0, k) 4 ≤ 2) (h5 : W.1 (10, 0, k) 5 ≤ W.1 (10, 0, k) 8) (h8 : W.1 (10, 0, k) 8 ≤ W.1 (10, 0, k) 7) (hc : c < 6) (n1 : 1 ≤ n) (n2 : n ≤ 99) (hh : h' ≤ 3) (he : e < 8) :
    (W.1 (10, 0, k) 1 = 0 ∧ W.1 (10, 0, k) 4 = 2 ∧ W.1 (10, 0, k) 7 < W.1 (10, 0, k) 5 + 40 → ∃ τ', fM_command (nI k) (nI c) (nI n) (nI h') (nI e) v τ = some (nI (W.1 (10, 0, k) 7 + 1), τ') ∧ mR τ0 τ' (sSettle k (sCmd k c n h' e v W))) ∧
    (¬ (W.1 (10, 0, k) 1 = 0 ∧ W.1 (10, 0, k) 4 = 2 ∧ W.1 (10, 0, k) 7 < W.1 (10, 0, k) 5 + 40) → fM_command (nI k) (nI c) (nI n) (nI h') (nI e) v τ = some (-1, τ)) := by
  have k7 : k < 7 := by have := a.1; omega
  have b7 := hB (10, 0, k) 7
  have b5 := hB (10, 0, k) 5
  have b2 := hB (10, 0, k) 2
  have l40 := a.2.1 k
  have mo := m_of h hk
  have es : nI (W.1 (10, 0, k) 7) - nI (W.1 (10, 0, k) 5) = nI (W.1 (10, 0, k) 7 - W.1 (10, 0, k) 5) := by
    rw [iI_nat, iI_nat, iI_nat, iI_sub]
    congr 1
    omega
  unfold fM_command
  rw [m_doesLead h hk hf hr, z_bde]
  refine ⟨fun hc' => ?_, fun hc' => ?_⟩
  · obtain ⟨c1, c2, c3⟩ := hc'
    have c12 : W.1 (10, 0, k) 1 = 0 ∧ W.1 (10, 0, k) 4 = 2 := ⟨c1, c2⟩
    rw [if_pos c12, if_neg (by decide), mo.2.2.2.2.1, z_bde, mo.2.2.1, z_bde, es, if_neg (fun q => by have := (nI_le_lit (a := 40) (by decide +kernel) (by decide) (by omega)).mp q; omega), m_isInY (n := 6) τ rfl (by decide +kernel) (by decide) hc, z_bde, if_neg (by decide), m_isIn99 τ n1 n2, z_bde, if_neg (by decide), m_isInY (n := 4) τ rfl (by decide +kernel) (by decide) (show h' < 4 by omega), z_bde, if_neg (by decide), m_isInY (n := 8) τ rfl (by decide +kernel) (by decide) he, z_bde, if_neg (by decide), mo.2.2.2.2.1, z_bde, nI_1]
    have pu : fM_put (nI k) 4 (nI (W.1 (10, 0, k) 7 + 1)) τ = some ((), z_upR τ (103, 0, 0) (upd (al τ) (320 * k + 4) (nI (W.1 (10, 0, k) 7 + 1)))) := by
      rw [show (4 : Int32) = nI 4 from by decide +kernel, eM_put _ _ k7 (by decide)]
      rfl
    obtain ⟨B1, eB1⟩ : ∃ B1, B1 = upd (al τ) (320 * k + 4) (nI (W.1 (10, 0, k) 7 + 1)) := ⟨_, rfl⟩
    obtain ⟨p, ep⟩ : ∃ p, p = 320 * k + 80 + 6 * (W.1 (10, 0, k) 7 - W.1 (10, 0, k) 5) := ⟨_, rfl⟩
    rw [← eB1] at pu
    have hK := (h.2.1.1 k hk).1
    have o4 : fM_of (nI k) 4 (z_upR τ (103, 0, 0) B1) = some (nI (W.1 (10, 0, k) 7 + 1), z_upR τ (103, 0, 0) B1) := by
      rw [show (4 : Int32) = nI 4 from by decide +kernel, eM_of _ k7 (by decide)]
      show some ((z_upR τ (103, 0, 0) B1).1 (103, 0, 0) (320 * k + 4), _) = _
      rw [z_upR_al, eB1, upd_s]
    have o0 : fM_of (nI k) 0 (z_upR τ (103, 0, 0) B1) = some (nI (W.1 (10, 0, k) 2), z_upR τ (103, 0, 0) B1) := by
      rw [show (0 : Int32) = nI 0 from by decide +kernel, eM_of _ k7 (by decide)]
      show some ((z_upR τ (103, 0, 0) B1).1 (103, 0, 0) (320 * k + 0), _) = _
      rw [z_upR_al, eB1, upd_n _ _ (by omega)]
      exact congrArg (fun x => some (x, _)) hK.1
    have o2 : fM_of (nI k) 2 (z_upR τ (103, 0, 0) B1) = some (nI (W.1 (10, 0, k) 5), z_upR τ (103, 0, 0) B1) := by
      rw [show (2 : Int32) = nI 2 from by decide +kernel, eM_of _ k7 (by decide)]
      show some ((z_upR τ (103, 0, 0) B1).1 (103, 0, 0) (320 * k + 2), _) = _
      rw [z_upR_al, eB1, upd_n _ _ (by omega)]
      exact congrArg (fun x => some (x, _)) hK.2.2.1
    have ea : fM_entryAt (nI k) (nI (W.1 (10, 0, k) 7 + 1)) (z_upR τ (103, 0, 0) B1) = some (nI p, z_upR τ (103, 0, 0) B1) := by
      unfold fM_entryAt
      rw [o2, z_bde, ep]
      congr 2
      rw [show (320 : Int32) = nI 320 from by decide +kernel, show (80 : Int32) = nI 80 from by decide +kernel, show (6 : Int32) = nI 6 from by decide +kernel, pk_mul, nI_add, show nI (W.1 (10, 0, k) 7 + 1) - nI (W.1 (10, 0, k) 5) - 1 = nI (W.1 (10, 0, k) 7 - W.1 (10, 0, k) 5) from by
        rw [iI_nat, iI_nat, iI_nat, show (1 : Int32) = iI 1 from by decide +kernel, iI_sub, iI_sub]
        congr 1
        omega, pk_mul, nI_add]
    have hR : mR τ0 (z_upR τ (103, 0, 0) (zCm p (nI (W.1 (10, 0, k) 2)) (nI c) (nI n) (nI h') (nI e) v B1)) (sCmd k c n h' e v W) := by
      refine mR_k h a hk (fun i hi => ?_) (fun z f hz => ?_) (fun z hz => ?_) ?_ ?_
      · rw [zCm_at, if_neg (by omega), if_neg (by omega), if_neg (by omega), if_neg (by omega), if_neg (by omega), if_neg (by omega), eB1, upd_n _ _ (by omega)]
      · have n1 : z ≠ (10, 0, k) := fun e => by rw [e] at hz; simp at hz
        have n2 : z ≠ (11, 0, k) := fun e => by rw [e] at hz; simp at hz
        rw [sCmd_at]
        simp [n1, n2]
      · exact funext fun f => by rw [sCmd_2, if_neg (fun e => by rw [e.1] at hz; simp at hz)]
      · rw [sCmd_at]
        simp
      · rw [ep, eB1]
        exact mK_cmd (h.2.1.1 k hk) (by omega) c3
    have s10 : ∀ f, f ≠ 7 → (sCmd k c n h' e v W).1 (10, 0, k) f = W.1 (10, 0, k) f := fun f hf => by rw [sCmd_at]; simp [hf]
    have s7 : (sCmd k c n h' e v W).1 (10, 0, k) 7 = W.1 (10, 0, k) 7 + 1 := by rw [sCmd_at]; simp
    have sz : ∀ (z : zJ) f, z ≠ (10, 0, k) → z ≠ (11, 0, k) → (sCmd k c n h' e v W).1 z f = W.1 z f := fun z f z1 z2 => by rw [sCmd_at]; simp [z1, z2]
    have sB : ∀ z f, (sCmd k c n h' e v W).1 z f < 50000 := fun z f => by
      have := hB z f
      rw [sCmd_at]
      split
      · omega
      · split
        · omega
        · split
          · omega
          · split
            · omega
            · split
              · omega
              · split
                · omega
                · omega
    have sA : yA (sCmd k c n h' e v W) 0 := ⟨by rw [sz _ _ (by simp) (by simp)]; exact a.1, fun j => by
      by_cases ej : j = k
      · rw [ej, s7, s10 5 (by decide)]; omega
      · rw [sz _ _ (by simp [ej]) (by simp), sz _ _ (by simp [ej]) (by simp)]; exact a.2.1 j, fun s => by rw [sz _ _ (by simp) (by simp), sz _ _ (by simp) (by simp)]; exact a.2.2.1 s, by rw [sz _ _ (by simp) (by simp)]; exact a.2.2.2⟩
    have sE : yEn (sCmd k c n h' e v W) := fun w j i => by
      have q := hE w j i
      rw [sz (21, w, j) i (by simp) (by simp), sCmd_at]
      refine ⟨fun hi => ⟨?_, (q.1 hi).2⟩, fun hi => ⟨?_, (q.2 hi).2⟩⟩
      · rw [if_neg (by simp), if_neg (by omega)]
        split
        · exact hc
        · rw [if_neg (by omega), if_neg (by omega), if_neg (by omega)]
          exact (q.1 hi).1
      · rw [if_neg (by simp), if_neg (by omega), if_neg (by omega), if_neg (by omega), if_neg (by omega)]
        split
        · exact he
        · exact (q.2 hi).1
    obtain ⟨t1, e1, h1⟩ := m_settles (k := k) hR sB sE sA (by rw [sz _ _ (by simp) (by simp)]; exact hk) (by rw [s10 4 (by decide)]; exact c2) (by rw [s10 5 (by decide), s10 8 (by decide)]; exact h5)
    have t7 : (sSettle k (sCmd k c n h' e v W)).1 (10, 0, k) 7 = W.1 (10, 0, k) 7 + 1 := by
      unfold sSettle
      split
      · exact s7
      · rw [sAdv_1, if_neg (by simp), s7]
    have tN : (sSettle k (sCmd k c n h' e v W)).1 (0, 0, 0) 3 = W.1 (0, 0, 0) 3 := by
      unfold sSettle
      split
      · exact sz _ _ (by simp) (by simp)
      · rw [sAdv_1, if_neg (by simp), sz _ _ (by simp) (by simp)]
    refine ⟨t1, ?_, h1⟩
    have p5 : p + 5 < 5000 := by omega
    have q : ∀ (x : Nat) (xi : Int32), xi = nI x → nI p + xi = nI (p + x) := fun x xi hx => nI_lit p hx
    have mo1 := m_of h1 (by rw [tN]; exact hk)
    rw [pu, z_bde, o4, z_bde, ea, z_bde, o0, z_bde, if_pos (nI_inz (by omega) (by decide)), q 1 1 (by decide +kernel), q 2 2 (by decide +kernel), q 3 3 (by decide +kernel), q 4 4 (by decide +kernel), q 5 5 (by decide +kernel), z_let, if_pos (nI_inz (by omega) (by decide)), z_let, if_pos (nI_inz (by omega) (by decide)), z_let, if_pos (nI_inz (by omega) (by decide)), z_let, if_pos (nI_inz (by omega) (by decide)), z_let, if_pos (nI_inz (by omega) (by decide)), z_let, nI_clamp (by omega), nI_clamp (by omega), nI_clamp (by omega), nI_clamp (by omega), nI_clamp (by omega), nI_clamp (by omega), z_up_R, z_up_R, z_up_R, z_up_R, z_up_R, z_up_R]
    show z_bd (fM_settles (nI k) (z_upR τ (103, 0, 0) (zCm p (nI (W.1 (10, 0, k) 2)) (nI c) (nI n) (nI h') (nI e) v B1))) _ = _
    rw [e1, z_bde, mo1.2.2.2.2.1, z_bde, t7]
  · by_cases c1 : W.1 (10, 0, k) 1 = 0 ∧ W.1 (10, 0, k) 4 = 2
    · rw [if_pos c1, if_neg (by decide), mo.2.2.2.2.1, z_bde, mo.2.2.1, z_bde, es, if_pos ((nI_le_lit (a := 40) (by decide +kernel) (by decide) (by omega)).mpr (by omega))]
    · rw [if_neg c1, if_pos rfl]
end mcmd
