/-! the model gets folds -/
def zFo (k i : Nat) (H B : Nat → Int32) : Nat → Int32 := fun j => if 320 * k + 10 ≤ j ∧ j < 320 * k + 10 + i then H (10 + (j - (320 * k + 10))) else if 320 * k + 30 ≤ j ∧ j < 320 * k + 30 + i then H (10 + (j - (320 * k + 30))) else B j
theorem zl_lay_2 {g h h' : Nat → Int32} (e : ∀ q, q < 20 → h' q = h q) (a : zl_lay g h) : zl_lay g h' := ⟨fun q hq => by rw [e q (by omega)]; exact a.1 q hq, fun k hk => by rw [e _ (by omega), e _ (by omega)]; exact a.2 k hk⟩
theorem mK_fold {B B1 H : Nat → Int32} {W W' : yW} {k e t l : Nat} (h : mK B W 0 k) (hr : W.1 (10, 0, k) 4 = 0) (h1 : ∀ i, 320 * k ≤ i → i < 320 * k + 80 → B1 i = B i) (w : ∀ f, W'.1 (10, 0, k) f = if f = 5 then e else if f = 6 then t else if f = 7 then l else if f = 8 then e else W.1 (10, 0, k) f) (hent : ∀ j, j < 6 * (l - e) → B1 (320 * k + 80 + j) = (cE W').1 (11, 0, k) j) (l1 : zl_lay (fun q => H (10 + q)) (W'.2.1 (13, 0, k))) (l2 : zl_lay (fun q => H (10 + q)) (W'.2.1 (15, 0, k))) : mK (zFo k 20 H (upd (upd (upd (upd B1 (320 * k + 2) (nI e)) (320 * k + 3) (nI t)) (320 * k + 4) (nI l)) (320 * k + 6) (nI e))) W' 0 k := by
  obtain ⟨⟨a1, a2, a3, a4, a5, a6, a7, a8⟩, b1, b2, b3, b4, b5⟩ := h
  have u : ∀ i, i < 10 → zFo k 20 H (upd (upd (upd (upd B1 (320 * k + 2) (nI e)) (320 * k + 3) (nI t)) (320 * k + 4) (nI l)) (320 * k + 6) (nI e)) (320 * k + i) = if i = 2 then nI e else if i = 3 then nI t else if i = 4 then nI l else if i = 6 then nI e else B (320 * k + i) := fun i hi => by
    have q := h1 (320 * k + i) (by omega) (by omega)
    unfold zFo upd
    rw [if_neg (by omega), if_neg (by omega), q]
    grind
  unfold mK
  simp only [w, Nat.reduceEqDiff, if_false, if_true]
  refine ⟨⟨?_, ?_, ?_, ?_, ?_, ?_, ?_, ?_⟩, fun e => absurd hr e, fun e => absurd e (by omega), fun j hj => ?_, zl_lay_c (fun q hq => ?_) l1, zl_lay_c (fun q hq => ?_) l2⟩
  · rw [u 0 (by decide)]; exact a1
  · rw [u 1 (by decide)]; exact a2
  · rw [u 2 (by decide)]; rfl
  · rw [u 3 (by decide)]; rfl
  · rw [u 4 (by decide)]; rfl
  · rw [u 5 (by decide)]; exact a6
  · rw [u 6 (by decide)]; rfl
  · rw [u 9 (by decide)]; exact a8
  · unfold zFo
    rw [if_neg (by omega), if_neg (by omega), upd_n _ _ (by omega), upd_n _ _ (by omega), upd_n _ _ (by omega), upd_n _ _ (by omega)]
    exact hent j hj
  · unfold zFo
    rw [if_pos (by omega), show 320 * k + 10 + q - (320 * k + 10) = q by omega]
  · unfold zFo
    rw [if_neg (by omega), if_pos (by omega), show 320 * k + 30 + q - (320 * k + 30) = q by omega]
theorem sTakeF_10 (k e t : Nat) (W : yW) (f : Nat) : (sTakeF k e t W).1 (10, 0, k) f = if f = 5 then e else if f = 6 then t else if f = 7 then (if W.1 (10, 0, k) 5 < e ∧ e ≤ W.1 (10, 0, k) 7 then W.1 (10, 0, k) 7 else e) else if f = 8 then e else W.1 (10, 0, k) f := by
  show (yCp (yI (yCp (yI (sForget k e W) (10, 0, k) 6 t) (23, 0, 40) (13, 0, k) 0 0 20) (10, 0, k) 8 e) (13, 0, k) (15, 0, k) 0 0 20).1 (10, 0, k) f = _
  unfold sForget
  by_cases c : W.1 (10, 0, k) 5 < e ∧ e ≤ W.1 (10, 0, k) 7
  · rw [if_pos c, if_pos c]
    simp only [yI_at, yCp_at, yRow_1, yR_1, Prod.mk.injEq, and_true, true_and, and_self, false_and, and_false, if_true, if_false, ne_eq, not_true_eq_false, not_false_eq_true, yLit, Nat.succ_ne_zero, reduceCtorEq, Nat.reduceEqDiff, ↓reduceIte]
    clear c
    grind
  · rw [if_neg c, if_neg c]
    simp only [yI_at, yCp_at, yRow_1, yR_1, Prod.mk.injEq, and_true, true_and, and_self, false_and, and_false, if_true, if_false, ne_eq, not_true_eq_false, not_false_eq_true, yLit, Nat.succ_ne_zero, reduceCtorEq, Nat.reduceEqDiff, ↓reduceIte]
    clear c
    grind
theorem sTakeF_2 (k e t : Nat) (W : yW) (hk : k < 7) : (∀ q, q < 20 → (sTakeF k e t W).2.1 (13, 0, k) q = W.2.1 (23, 0, 40) q) ∧ (∀ q, q < 20 → (sTakeF k e t W).2.1 (15, 0, k) q = W.2.1 (23, 0, 40) q) ∧ ∀ z : zJ, z ≠ (11, 0, k) → z ≠ (13, 0, k) → z ≠ (15, 0, k) → (sTakeF k e t W).2.1 z = W.2.1 z := by
  have f2 : ∀ z : zJ, z ≠ (11, 0, k) → (sForget k e W).2.1 z = W.2.1 z := fun z hz => by
    unfold sForget
    split
    · exact yCp_2 hz
    · rfl
  have a13 : (sTakeF k e t W).2.1 (13, 0, k) = va_cpy ((sForget k e W).2.1 (23, 0, 40)) ((sForget k e W).2.1 (13, 0, k)) 0 0 20 := by
    show (yCp (yI (yCp (yI (sForget k e W) (10, 0, k) 6 t) (23, 0, 40) (13, 0, k) 0 0 20) (10, 0, k) 8 e) (13, 0, k) (15, 0, k) 0 0 20).2.1 (13, 0, k) = _
    rw [yCp_2 (by simp)]
    exact z_upR_s
  have a15 : (sTakeF k e t W).2.1 (15, 0, k) = va_cpy (va_cpy ((sForget k e W).2.1 (23, 0, 40)) ((sForget k e W).2.1 (13, 0, k)) 0 0 20) ((yI (yCp (yI (sForget k e W) (10, 0, k) 6 t) (23, 0, 40) (13, 0, k) 0 0 20) (10, 0, k) 8 e).2.1 (15, 0, k)) 0 0 20 := by
    have : (yI (yCp (yI (sForget k e W) (10, 0, k) 6 t) (23, 0, 40) (13, 0, k) 0 0 20) (10, 0, k) 8 e).2.1 (13, 0, k) = va_cpy ((sForget k e W).2.1 (23, 0, 40)) ((sForget k e W).2.1 (13, 0, k)) 0 0 20 := z_upR_s
    rw [← this]
    exact z_upR_s
  refine ⟨fun q hq => ?_, fun q hq => ?_, fun z z1 z2 z3 => ?_⟩
  · rw [a13, f2 _ (by simp)]
    unfold va_cpy
    rw [if_pos (by omega), Nat.zero_add, Nat.sub_zero]
  · rw [a15, f2 (23, 0, 40) (by simp)]
    unfold va_cpy
    rw [if_pos (by omega), if_pos (by omega)]
    simp
  · show (yCp (yI (yCp (yI (sForget k e W) (10, 0, k) 6 t) (23, 0, 40) (13, 0, k) 0 0 20) (10, 0, k) 8 e) (13, 0, k) (15, 0, k) 0 0 20).2.1 z = _
    rw [yCp_2 z3]
    show (yCp (yI (sForget k e W) (10, 0, k) 6 t) (23, 0, 40) (13, 0, k) 0 0 20).2.1 z = _
    rw [yCp_2 z2]
    exact f2 z z1
section mfold
variable {τ0 τ : zS} {W : yW} {k : Nat}
theorem m_fo_189 {e : Nat} (hk : k < 7) (τ : zS) (B : Nat → Int32) : ∀ (m i n : Nat), i + m = 20 → m < n → fM_getsFolding_189 n (nI k) (nI e) (nI i) (z_upR τ (103, 0, 0) (zFo k i (τ.1 (109, 0, 0)) B)) = fM_getsFolding_242 (nI k) (nI e) (z_upR τ (103, 0, 0) (zFo k 20 (τ.1 (109, 0, 0)) B)) := by
  intro m
  induction m with
  | zero =>
    intro i n hi hn
    obtain ⟨n, rfl⟩ : ∃ k, n = k + 1 := ⟨n - 1, by omega⟩
    rw [fM_getsFolding_189.eq_2, if_pos ((nI_le_lit (a := 20) (by decide +kernel) (by decide) (by omega)).mpr (by omega)), show i = 20 by omega]
  | succ m ih =>
    intro i n hi hn
    obtain ⟨n, rfl⟩ : ∃ k, n = k + 1 := ⟨n - 1, by omega⟩
    have c := fun (g : Nat) (hg2 : g < 320) (B : Nat → Int32) (x : Int32) => show fM_put (nI k) (nI g) x (z_upR τ (103, 0, 0) B) = some ((), z_upR τ (103, 0, 0) (upd B (320 * k + g) x)) from by rw [eM_put _ _ hk hg2, z_up_R]
    have e2 : upd (upd (zFo k i (τ.1 (109, 0, 0)) B) (320 * k + (10 + i)) (τ.1 (109, 0, 0) (10 + i))) (320 * k + (30 + i)) (τ.1 (109, 0, 0) (10 + i)) = zFo k (i + 1) (τ.1 (109, 0, 0)) B := by
      funext j
      unfold upd zFo
      by_cases c1 : j = 320 * k + (30 + i)
      · rw [if_pos c1, if_neg (by omega), if_pos (by omega)]
        exact congrArg (τ.1 (109, 0, 0)) (by omega)
      · rw [if_neg c1]
        by_cases c2 : j = 320 * k + (10 + i)
        · rw [if_pos c2, if_pos (by omega)]
          exact congrArg (τ.1 (109, 0, 0)) (by omega)
        · rw [if_neg c2]
          by_cases c3 : 320 * k + 10 ≤ j ∧ j < 320 * k + 10 + i
          · rw [if_pos c3, if_pos (by omega)]
          · rw [if_neg c3]
            by_cases c4 : 320 * k + 30 ≤ j ∧ j < 320 * k + 30 + i
            · rw [if_pos c4, if_neg (by omega), if_pos (by omega)]
            · rw [if_neg c4, if_neg (by omega), if_neg (by omega)]
    rw [fM_getsFolding_189.eq_2, if_neg (fun hh => by have := (nI_le_lit (a := 20) (by decide +kernel) (by decide) (by omega)).mp hh; omega), show (10 : Int32) + nI i = nI (10 + i) from lit_nI i (by decide +kernel), show (30 : Int32) + nI i = nI (30 + i) from lit_nI i (by decide +kernel), if_pos (nI_inz (by omega) (by decide)), nI_clamp (by omega), (z_upR_o (109, 0, 0) (by decide)).1, c _ (by omega), z_bde, if_pos (nI_inz (by omega) (by decide)), (z_upR_o (109, 0, 0) (by decide)).1, c _ (by omega), z_bde, e2, z_let, nI_1]
    exact ih (i + 1) n (by omega) (by omega)
theorem m_fo_149 {e l x : Nat} (hk : k < 7) (τ : zS) (B : Nat → Int32) (hl : e + x = l) : fM_getsFolding_149 (nI k) (nI e) (nI x) (z_upR τ (103, 0, 0) B) = fM_getsFolding_242 (nI k) (nI e) (z_upR τ (103, 0, 0) (zFo k 20 (τ.1 (109, 0, 0)) (upd (upd (upd (upd B (320 * k + 2) (nI e)) (320 * k + 3) (τ.1 (109, 0, 0) 5)) (320 * k + 4) (nI l)) (320 * k + 6) (nI e)))) := by
  have c := fun (g : Nat) (gi : Int32) (hg : gi = nI g) (hg2 : g < 320) (B : Nat → Int32) (x : Int32) => show fM_put (nI k) gi x (z_upR τ (103, 0, 0) B) = some ((), z_upR τ (103, 0, 0) (upd B (320 * k + g) x)) from by rw [hg, eM_put _ _ hk hg2, z_up_R]
  unfold fM_getsFolding_149
  obtain ⟨n, hz, ez⟩ := z_fu_ex
  rw [ez, c 2 2 (by decide +kernel) (by decide), z_bde, (z_upR_o (109, 0, 0) (by decide)).1, c 3 3 (by decide +kernel) (by decide), z_bde, nI_add, hl, c 4 4 (by decide +kernel) (by decide), z_bde, c 6 6 (by decide +kernel) (by decide), z_bde]
  have q := m_fo_189 (k := k) (e := e) hk τ (upd (upd (upd (upd B (320 * k + 2) (nI e)) (320 * k + 3) (τ.1 (109, 0, 0) 5)) (320 * k + 4) (nI l)) (320 * k + 6) (nI e)) 20 0 n rfl (by omega)
  have e0 : ∀ B : Nat → Int32, zFo k 0 (τ.1 (109, 0, 0)) B = B := fun B => by
    funext j
    unfold zFo
    rw [if_neg (by omega), if_neg (by omega)]
  rw [e0, nI_0] at q
  exact q
theorem m_getsFolding {s : Nat} (h : mR τ0 τ W) (hH : mHd (τ0.1 (109, 0, 0)) W) (a : yA W 0) (hB : ∀ z i, W.1 z i < 40000) (hk : k < W.1 (0, 0, 0) 3) (hr : W.1 (20, 0, 40) 2 = k) (hro : W.1 (10, 0, k) 4 ≤ 2) (h3 : W.1 (20, 0, 40) 0 = 5) (h5 : W.1 (10, 0, k) 5 ≤ W.1 (10, 0, k) 8) (h8 : W.1 (10, 0, k) 8 ≤ W.1 (10, 0, k) 7) (hs : sEmp W = some s) : ∃ τ', fM_getsFolding (nI k) τ = some (if W.1 (20, 0, 40) 3 < W.1 (10, 0, k) 2 ∨ W.1 (10, 0, k) 4 ≠ 2 then 1 else 0, τ') ∧ mR τ0 τ' (sFromL k W) := by
  have hB5 : ∀ z i, W.1 z i < 50000 := fun z i => by have := hB z i; omega
  have k7 : k < 7 := by have := a.1; omega
  have mh := m_hand h hH
  have mo := m_of h hk
  have b2 := hB (10, 0, k) 2
  have c3 := hB (20, 0, 40) 3
  have c4 := hB (20, 0, 40) 4
  have c5 := hB (20, 0, 40) 5
  have b7 := hB (10, 0, k) 7
  have b5 := hB (10, 0, k) 5
  have b8 := hB (10, 0, k) 8
  have l40 := a.2.1 k
  unfold fM_getsFolding sFromL
  rw [mo.1, z_bde, mh.2.2.1]
  by_cases d1 : W.1 (20, 0, 40) 3 < W.1 (10, 0, k) 2
  · obtain ⟨t1, e1, h1⟩ := m_answersBack (y := 0) (n := 0) (s := s) (x2 := 0) h hH a hB5 (by rw [hr]; exact hk) hs (by decide) (by rw [nI_0])
    rw [hr, nI_0] at e1
    exact ⟨t1, by rw [if_neg (nI_ge d1 (by omega)), e1, z_bde, if_pos (Or.inl d1)], by rw [if_pos d1]; exact h1⟩
  · rw [if_pos (nI_le (by omega) (by omega)), mo.2.2.2.2.2.1, z_bde, if_neg d1]
    by_cases d2 : W.1 (10, 0, k) 4 = 2
    · exact ⟨τ, by rw [if_pos (by rw [d2]; decide +kernel), if_neg (by omega)], by rw [if_pos d2]; exact h⟩
    · rw [if_neg (by rw [show (2 : Int32) = nI 2 from by decide +kernel]; exact fun q => d2 ((nI_eq (by omega) (by decide)).mp q)), if_neg d2, if_pos (Or.inr d2)]
      obtain ⟨t1, e1, h1⟩ := m_follow h a hk
      have f10 : ∀ f, f ≠ 4 → f ≠ 9 → f ≠ 10 → (sFollow k W).1 (10, 0, k) f = W.1 (10, 0, k) f := fun f f1 f2 f3 => by
        rw [sFollow_at]; simp [f1, f2, f3]
      have fz : ∀ (z : zJ) f, z ≠ (10, 0, k) → (sFollow k W).1 z f = W.1 z f := fun z f hz => by
        rw [sFollow_at]; simp [hz]
      have hN : k < (sFollow k W).1 (0, 0, 0) 3 := by rw [fz _ _ (by simp)]; exact hk
      have hHf : mHd (τ0.1 (109, 0, 0)) (sFollow k W) := mHd_c hH (fun f => fz _ _ (by simp)) (fun f => fz _ _ (by simp)) (fun _ => rfl)
      have aF := yA_follow (k := k) a
      have fB : ∀ z i, (sFollow k W).1 z i < 40000 := fun z i => by
        have := hB z i
        rw [sFollow_at]
        split
        · omega
        · omega
      have mh1 := m_hand h1 hHf
      have mo1 := m_of h1 hN
      have e5 := f10 5 (by decide) (by decide) (by decide)
      have e7 := f10 7 (by decide) (by decide) (by decide)
      have e8 := f10 8 (by decide) (by decide) (by decide)
      have e20 : ∀ f, (sFollow k W).1 (20, 0, 40) f = W.1 (20, 0, 40) f := fun f => fz _ _ (by simp)
      have es : sEmp (sFollow k W) = some s := by rw [sEmp_follow]; exact hs
      have r0 : (sFollow k W).1 (10, 0, k) 4 = 0 := by rw [sFollow_at]; simp
      simp only [e20] at mh1
      have h109 : t1.1 (109, 0, 0) = τ0.1 (109, 0, 0) := h1.2.2.1 _ (by decide)
      have lay : zl_lay (fun q => t1.1 (109, 0, 0) (10 + q)) ((sFollow k W).2.1 (23, 0, 40)) := by
        rw [h109]
        exact hH.2.2.2 h3
      -- the answer, from any state behind
      have fin : ∀ (τ2 : zS) (W2 : yW), mR τ0 τ2 W2 → mHd (τ0.1 (109, 0, 0)) W2 → yA W2 0 → (∀ z i, W2.1 z i < 50000) → (∀ j f, W2.1 (20, 0, j) f = W.1 (20, 0, j) f) → W2.1 (0, 0, 0) 3 = W.1 (0, 0, 0) 3 → ∃ τ', fM_getsFolding_242 (nI k) (nI (W.1 (20, 0, 40) 4)) τ2 = some (1, τ') ∧ mR τ0 τ' (sReply 3 1 (W.1 (20, 0, 40) 4) W2) := fun τ2 W2 q1 q2 q3 q4 q5 q6 => by
        obtain ⟨t3, e3, h3'⟩ := m_answersBack (y := 1) (n := W.1 (20, 0, 40) 4) (s := s) (x2 := 1) q1 q2 q3 q4 (by rw [q5, q6, hr]; exact hk) (by rw [sEmp_c (W := W) (fun j => q5 j 0)]; exact hs) (by decide) (by decide +kernel)
        rw [q5, hr] at e3
        exact ⟨t3, by unfold fM_getsFolding_242; rw [e3, z_bde], h3'⟩
      -- with the fold taken over
      have tk : ∀ (W0 : yW) (B1 : Nat → Int32) (l : Nat), (∀ z f, z ≠ (10, 0, k) → W0.1 z f = (sFollow k W).1 z f) → W0.2 = (sFollow k W).2 → (∀ f, f ≠ 7 → W0.1 (10, 0, k) f = (sFollow k W).1 (10, 0, k) f) → W0.1 (10, 0, k) 7 ≤ W.1 (10, 0, k) 7 → (if W0.1 (10, 0, k) 5 < W.1 (20, 0, 40) 4 ∧ W.1 (20, 0, 40) 4 ≤ W0.1 (10, 0, k) 7 then W0.1 (10, 0, k) 7 else W.1 (20, 0, 40) 4) = l → l ≤ W.1 (20, 0, 40) 4 + 40 → (∀ i, i < 320 * k + 80 ∨ 320 * k + 320 ≤ i → B1 i = al t1 i) → (∀ j, j < 6 * (l - W.1 (20, 0, 40) 4) → B1 (320 * k + 80 + j) = (cE (sTakeF k (W.1 (20, 0, 40) 4) (W.1 (20, 0, 40) 5) W0)).1 (11, 0, k) j) → ∃ τ', fM_getsFolding_149 (nI k) (nI (W.1 (20, 0, 40) 4)) (nI (l - W.1 (20, 0, 40) 4)) (z_upR t1 (103, 0, 0) B1) = some (1, τ') ∧ mR τ0 τ' (sReply 3 1 (W.1 (20, 0, 40) 4) (sTakeF k (W.1 (20, 0, 40) 4) (W.1 (20, 0, 40) 5) W0)) := fun W0 B1 l z1 z2 z3 z4 z5 z6 z7 z8 => by
        have hl : W.1 (20, 0, 40) 4 + (l - W.1 (20, 0, 40) 4) = l := by
          have : W.1 (20, 0, 40) 4 ≤ l := by
            rw [← z5]
            split
            · omega
            · omega
          omega
        rw [m_fo_149 k7 t1 B1 hl, mh1.2.2.2.2.1]
        obtain ⟨w1, w2, w3⟩ := sTakeF_2 k (W.1 (20, 0, 40) 4) (W.1 (20, 0, 40) 5) W0 k7
        have tz : ∀ (z : zJ) f, z ≠ (10, 0, k) → z ≠ (11, 0, k) → z ≠ (13, 0, k) → z ≠ (15, 0, k) → (sTakeF k (W.1 (20, 0, 40) 4) (W.1 (20, 0, 40) 5) W0).1 z f = (sFollow k W).1 z f := fun z f x1 x2 x3 x4 => by
          rw [sTakeF_at x1 x2 x3 x4, z1 z f x1]
        have w10 : ∀ f, (sTakeF k (W.1 (20, 0, 40) 4) (W.1 (20, 0, 40) 5) W0).1 (10, 0, k) f = if f = 5 then W.1 (20, 0, 40) 4 else if f = 6 then W.1 (20, 0, 40) 5 else if f = 7 then l else if f = 8 then W.1 (20, 0, 40) 4 else (sFollow k W).1 (10, 0, k) f := fun f => by
          rw [sTakeF_10, z5]
          by_cases c : f = 7
          · rw [c]; rfl
          · rw [z3 f c]
        have hR := mR_k (W' := sTakeF k (W.1 (20, 0, 40) 4) (W.1 (20, 0, 40) 5) W0) (r := zFo k 20 (t1.1 (109, 0, 0)) (upd (upd (upd (upd B1 (320 * k + 2) (nI (W.1 (20, 0, 40) 4))) (320 * k + 3) (nI (W.1 (20, 0, 40) 5))) (320 * k + 4) (nI l)) (320 * k + 6) (nI (W.1 (20, 0, 40) 4)))) h1 aF hN (fun i hi => by
          unfold zFo
          rw [if_neg (by omega), if_neg (by omega), upd_n _ _ (by omega), upd_n _ _ (by omega), upd_n _ _ (by omega), upd_n _ _ (by omega)]
          exact z7 i (by omega)) (fun z f hz => tz z f (fun e => by rw [e] at hz; simp at hz) (fun e => by rw [e] at hz; simp at hz) (fun e => by rw [e] at hz; simp at hz) (fun e => by rw [e] at hz; simp at hz)) (fun z hz => by
          rw [w3 z (fun e => by rw [e] at hz; simp at hz) (fun e => by rw [e] at hz; simp at hz) (fun e => by rw [e] at hz; simp at hz), z2]) (by rw [w10]; rfl) (mK_fold (h1.2.1.1 k hN) r0 (fun i i1 i2 => z7 i (by omega)) w10 z8 (zl_lay_2 (fun q hq => by rw [w1 q hq, z2]) lay) (zl_lay_2 (fun q hq => by rw [w2 q hq, z2]) lay))
        refine fin _ _ hR (mHd_c hHf (fun f => tz _ _ (by simp) (by simp) (by simp) (by simp)) (fun f => tz _ _ (by simp) (by simp) (by simp) (by simp)) (fun t => by rw [w3 _ (by simp; omega) (by simp; omega) (by simp; omega), z2])) ?_ (sTakeF_B (fun z i => ?_) (by omega) (by omega)) (fun j f => by rw [tz _ _ (by simp) (by simp) (by simp) (by simp), fz _ _ (by simp)]) (by rw [tz _ _ (by simp) (by simp) (by simp) (by simp), fz _ _ (by simp)])
        · refine ⟨by rw [tz _ _ (by simp) (by simp) (by simp) (by simp)]; exact aF.1, fun j => ?_, fun s => by rw [tz _ _ (by simp) (by simp) (by simp) (by simp), tz _ _ (by simp) (by simp) (by simp) (by simp)]; exact aF.2.2.1 s, by rw [tz _ _ (by simp) (by simp) (by simp) (by simp)]; exact aF.2.2.2⟩
          by_cases ej : j = k
          · rw [ej, w10, w10]; simp; exact z6
          · rw [tz _ _ (by simp [ej]) (by simp) (by simp) (by simp), tz _ _ (by simp [ej]) (by simp) (by simp) (by simp)]; exact aF.2.1 j
        · by_cases ez : z = (10, 0, k)
          · rw [ez]
            by_cases ei : i = 7
            · rw [ei]; omega
            · rw [z3 i ei]; have := fB (10, 0, k) i; omega
          · rw [z1 z i ez]; have := fB z i; omega
      have id1 : t1 = z_upR t1 (103, 0, 0) (al t1) := (z_upR_id t1 (103, 0, 0)).symm
      have no : (sFold k (sFollow k W) = sTakeF k (W.1 (20, 0, 40) 4) (W.1 (20, 0, 40) 5) (yI (sFollow k W) (10, 0, k) 7 ((sFollow k W).1 (10, 0, k) 5))) → W.1 (10, 0, k) 8 < W.1 (20, 0, 40) 4 → ∃ τ', fM_getsFolding_99 (nI k) (nI (W.1 (20, 0, 40) 4)) t1 = some (1, τ') ∧ mR τ0 τ' (sReply 3 1 (W.1 (20, 0, 40) 4) (sFold k (sFollow k W))) := fun ef hlt => by
        rw [ef]
        have q := tk (yI (sFollow k W) (10, 0, k) 7 ((sFollow k W).1 (10, 0, k) 5)) (al t1) (W.1 (20, 0, 40) 4) (fun z f hz => yI_z _ _ hz) rfl (fun f hf => yI_i _ _ hf) (by rw [yI_s, e5]; omega) (by rw [yI_s, yI_i _ _ (by decide), if_neg (by omega)]) (by omega) (fun i _ => rfl) (fun j hj => by omega)
        rw [Nat.sub_self, nI_0, ← id1] at q
        unfold fM_getsFolding_99 fM_getsFolding_100 fM_getsFolding_117
        rw [if_pos rfl, if_pos rfl]
        exact q
      unfold sLdr
      rw [e20, e20, if_pos h3, e1, z_bde, z_let, mh1.2.2.2.1, mo1.2.2.2.2.2.2.1, z_bde, e8]
      by_cases d3 : W.1 (20, 0, 40) 4 ≤ W.1 (10, 0, k) 8
      · rw [if_pos (nI_le d3 (by omega))]
        have ef : sFold k (sFollow k W) = sFollow k W := if_pos (by rw [e20, e8]; exact d3)
        rw [ef]
        exact fin t1 (sFollow k W) h1 hHf aF (fun z i => by have := fB z i; omega) (fun j f => fz _ _ (by simp)) (fz _ _ (by simp))
      · rw [if_neg (nI_ge (by omega) (by omega)), mo1.2.2.2.2.1, z_bde, e7]
        have nf : ∀ q : Prop, (¬ (W.1 (10, 0, k) 5 < W.1 (20, 0, 40) 4 ∧ W.1 (20, 0, 40) 4 ≤ W.1 (10, 0, k) 7 ∧ sTm W k (W.1 (20, 0, 40) 4) = W.1 (20, 0, 40) 5)) → sFold k (sFollow k W) = sTakeF k (W.1 (20, 0, 40) 4) (W.1 (20, 0, 40) 5) (yI (sFollow k W) (10, 0, k) 7 ((sFollow k W).1 (10, 0, k) 5)) := fun _ hn => by
          unfold sFold
          rw [e20, e20, e5, e7, e8, sTm_follow, if_neg d3, if_neg hn]
        by_cases d4 : W.1 (10, 0, k) 7 < W.1 (20, 0, 40) 4
        · rw [if_pos (nI_lt d4 (by omega))]
          exact no (nf True (by omega)) (by omega)
        · rw [if_neg (nI_nlt (by omega) (by omega)), mo1.2.2.1, z_bde, e5]
          rw [if_neg (nI_ge (by omega) (by omega))]
          have tb : sTm W k (W.1 (20, 0, 40) 4) < 40000 := by
            unfold sTm
            split
            · exact hB _ _
            · exact hB _ _
          have tm := m_termOf (e := W.1 (20, 0, 40) 4) h1 (fun z i => by have := fB z i; omega) hN (by rw [e5]; omega) (by rw [e7]; omega) (aF.2.1 k)
          rw [sTm_follow] at tm
          rw [tm, z_bde, mh1.2.2.2.2.1]
          by_cases d5 : sTm W k (W.1 (20, 0, 40) 4) = W.1 (20, 0, 40) 5
          · rw [if_pos (by rw [d5])]
            have ef : sFold k (sFollow k W) = sTakeF k (W.1 (20, 0, 40) 4) (W.1 (20, 0, 40) 5) (sFollow k W) := by
              unfold sFold
              rw [e20, e20, e5, e7, e8, sTm_follow, if_neg d3, if_pos ⟨by omega, by omega, d5⟩]
            rw [ef]
            have q := tk (sFollow k W) (va_cpy (al t1) (al t1) (320 * k + 80 + 6 * (W.1 (20, 0, 40) 4 - W.1 (10, 0, k) 5)) (320 * k + 80) (6 * (W.1 (10, 0, k) 7 - W.1 (20, 0, 40) 4))) (W.1 (10, 0, k) 7) (fun z f hz => rfl) rfl (fun f hf => rfl) (by rw [e7]; exact Nat.le_refl _) (by rw [e5, e7, if_pos ⟨by omega, by omega⟩]) (by omega) (fun i hi => by
              unfold va_cpy
              rw [if_neg (by omega)]) (fun j hj => by
              have st : (cE (sTakeF k (W.1 (20, 0, 40) 4) (W.1 (20, 0, 40) 5) (sFollow k W))).1 (11, 0, k) j = (cE (sForget k (W.1 (20, 0, 40) 4) (sFollow k W))).1 (11, 0, k) j := by
                rw [cE_at, cE_at]
                have n1 : (sTakeF k (W.1 (20, 0, 40) 4) (W.1 (20, 0, 40) 5) (sFollow k W)).1 (11, 0, k) j = (sForget k (W.1 (20, 0, 40) 4) (sFollow k W)).1 (11, 0, k) j := by
                  show (yCp (yI (yCp (yI (sForget k (W.1 (20, 0, 40) 4) (sFollow k W)) (10, 0, k) 6 (W.1 (20, 0, 40) 5)) (23, 0, 40) (13, 0, k) 0 0 20) (10, 0, k) 8 (W.1 (20, 0, 40) 4)) (13, 0, k) (15, 0, k) 0 0 20).1 (11, 0, k) j = _
                  rw [yCp_at, if_neg (by simp), yI_z _ _ (by simp), yCp_at, if_neg (by simp), yI_z _ _ (by simp)]
                have n2 : (sTakeF k (W.1 (20, 0, 40) 4) (W.1 (20, 0, 40) 5) (sFollow k W)).2.1 (11, 0, k) = (sForget k (W.1 (20, 0, 40) 4) (sFollow k W)).2.1 (11, 0, k) := by
                  show (yCp (yI (yCp (yI (sForget k (W.1 (20, 0, 40) 4) (sFollow k W)) (10, 0, k) 6 (W.1 (20, 0, 40) 5)) (23, 0, 40) (13, 0, k) 0 0 20) (10, 0, k) 8 (W.1 (20, 0, 40) 4)) (13, 0, k) (15, 0, k) 0 0 20).2.1 (11, 0, k) = _
                  rw [yCp_2 (by simp)]
                  show (yCp (yI (sForget k (W.1 (20, 0, 40) 4) (sFollow k W)) (10, 0, k) 6 (W.1 (20, 0, 40) 5)) (23, 0, 40) (13, 0, k) 0 0 20).2.1 (11, 0, k) = _
                  rw [yCp_2 (by simp)]
                  rfl
                rw [n1, n2]
              rw [st]
              have sf : sForget k (W.1 (20, 0, 40) 4) (sFollow k W) = yI (yCp (sFollow k W) (11, 0, k) (11, 0, k) (6 * (W.1 (20, 0, 40) 4 - W.1 (10, 0, k) 5)) 0 (240 - 6 * (W.1 (20, 0, 40) 4 - W.1 (10, 0, k) 5))) (10, 0, k) 5 (W.1 (20, 0, 40) 4) := by
                unfold sForget
                rw [e5, e7, if_pos ⟨by omega, by omega⟩]
              rw [sf, yc_I11, cE_Cp j (fun x1 x2 => by
                show (if j % 6 = 5 then 0 else 1) = (if (6 * (W.1 (20, 0, 40) 4 - W.1 (10, 0, k) 5) + (j - 0)) % 6 = 5 then 0 else 1)
                by_cases c : j % 6 = 5
                · rw [if_pos c, if_pos (by omega)]
                · rw [if_neg c, if_neg (by omega)]), if_pos (by omega)]
              unfold va_cpy
              rw [if_pos (by omega)]
              have := (h1.2.1.1 k hN).2.2.2.1 (6 * (W.1 (20, 0, 40) 4 - W.1 (10, 0, k) 5) + (j - 0)) (by rw [e5, e7]; omega)
              rw [← this]
              exact congrArg (al t1) (by omega))
            unfold fM_getsFolding_100 fM_getsFolding_117
            have es1 : nI (W.1 (10, 0, k) 7) - nI (W.1 (20, 0, 40) 4) = nI (W.1 (10, 0, k) 7 - W.1 (20, 0, 40) 4) := by
              rw [iI_nat, iI_nat, iI_nat, iI_sub]
              congr 1
              omega
            have en := m_entryAt (e := W.1 (20, 0, 40) 4) h1 hN (by rw [e5]; omega)
            rw [e5] at en
            rw [if_neg (by decide), mo1.2.2.2.2.1, z_bde, e7, es1, if_neg (by decide), en, z_bde, show nI (320 * k + 80 + 6 * (W.1 (20, 0, 40) 4 - W.1 (10, 0, k) 5 - 1)) + 6 = nI (320 * k + 80 + 6 * (W.1 (20, 0, 40) 4 - W.1 (10, 0, k) 5)) from by
              rw [nI_lit (a := 6) _ (by decide +kernel)]
              congr 1
              omega, y_320 k 80 (by decide +kernel), show (6 : Int32) * nI (W.1 (10, 0, k) 7 - W.1 (20, 0, 40) 4) = nI (6 * (W.1 (10, 0, k) 7 - W.1 (20, 0, 40) 4)) from by rw [show (6 : Int32) = nI 6 from by decide +kernel, pk_mul], m_copy t1 (Or.inl (by omega)) (by omega) (by omega), z_bde]
            exact q
          · rw [if_neg (fun q => d5 ((nI_eq (by omega) (by omega)).mp q))]
            exact no (nf True (fun q => d5 q.2.2)) (by omega)
end mfold
