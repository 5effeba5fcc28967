/-! the model's done, settles, leads -/
theorem mTake_c {g ee ee' : Nat → Int32} {cl ce : Nat} (h2 : ee 2 = ee' 2) (h3 : ee 3 = ee' 3) (h5 : ee 5 = ee' 5) : mTake g ee cl ce = mTake g ee' cl ce := by
  unfold mTake
  rw [h2, h3, h5]
/-- the row with keeper k's cells written over, as a whole row -/
theorem mK_state {B B' : Nat → Int32} {W : yW} {w k t S : Nat} {r : Nat → Int32} (h : mK B W w k) (ht : (t = 13 ∧ S = 10) ∨ (t = 15 ∧ S = 30)) (h1 : ∀ i, i < 320 * k + S ∨ 320 * k + S + 20 ≤ i → B' i = B i) (hr : zl_lay (fun q => B' (320 * k + S + q)) r) : mK B' (yRow W (t, w, k) r) w k := by
  obtain ⟨⟨a1, a2, a3, a4, a5, a6, a7, a8⟩, b1, b2, b3, b4, b5⟩ := h
  have e11 : ∀ j, (cE (yRow W (t, w, k) r)).1 (11, w, k) j = (cE W).1 (11, w, k) j := fun j => by
    rw [cE_at, cE_at]
    show yc _ (W.1 (11, w, k) j) ((z_upR W.2 (t, w, k) r).1 (11, w, k) j) = _
    rw [(z_upR_o (11, w, k) (by simp; omega)).1]
  unfold mK
  simp only [yRow_1, e11]
  refine ⟨⟨?_, ?_, ?_, ?_, ?_, ?_, ?_, ?_⟩, fun e => ?_, fun e => ⟨?_, fun o ho => ⟨?_, ?_, ?_⟩⟩, fun j hj => ?_, ?_, ?_⟩
  · rw [h1 _ (by omega)]; exact a1
  · rw [h1 _ (by omega)]; exact a2
  · rw [h1 _ (by omega)]; exact a3
  · rw [h1 _ (by omega)]; exact a4
  · rw [h1 _ (by omega)]; exact a5
  · rw [h1 _ (by omega)]; exact a6
  · rw [h1 _ (by omega)]; exact a7
  · rw [h1 _ (by omega)]; exact a8
  · rw [h1 _ (by omega)]; exact b1 e
  · rw [h1 _ (by omega)]; exact (b2 e).1
  · rw [h1 _ (by omega)]; exact ((b2 e).2 o ho).1
  · rw [h1 _ (by omega)]; exact ((b2 e).2 o ho).2.1
  · rw [h1 _ (by omega)]; exact ((b2 e).2 o ho).2.2
  · rw [h1 _ (by omega)]; exact b3 j hj
  · rcases ht with ⟨rfl, rfl⟩ | ⟨rfl, rfl⟩
    · rw [show (yRow W (13, w, k) r).2.1 (13, w, k) = r from z_upR_s]
      exact hr
    · rw [show (yRow W (15, w, k) r).2.1 (13, w, k) = W.2.1 (13, w, k) from (z_upR_o (13, w, k) (by simp)).1]
      exact zl_lay_c (fun q hq => h1 _ (by omega)) b4
  · rcases ht with ⟨rfl, rfl⟩ | ⟨rfl, rfl⟩
    · rw [show (yRow W (13, w, k) r).2.1 (15, w, k) = W.2.1 (15, w, k) from (z_upR_o (15, w, k) (by simp)).1]
      exact zl_lay_c (fun q hq => h1 _ (by omega)) b5
    · rw [show (yRow W (15, w, k) r).2.1 (15, w, k) = r from z_upR_s]
      exact hr
section mdone
variable {τ0 τ : zS} {W : yW} {k : Nat}
theorem m_works {t S j : Nat} (h : mR τ0 τ W) (a : yA W 0) (hE : yEn W) (hk : k < W.1 (0, 0, 0) 3) (ht : (t = 13 ∧ S = 10) ∨ (t = 15 ∧ S = 30)) (hj : j < W.1 (10, 0, k) 7 - W.1 (10, 0, k) 5) : ∃ τ', fM_works (nI (320 * k + S)) (nI (320 * k + 80 + 6 * j)) τ = some ((), τ') ∧ mR τ0 τ' (sTake (t, 0, k) k (6 * j) W) := by
  have k7 : k < 7 := by have := h.1.1.1; omega
  have l40 := a.2.1 k
  have hK := h.2.1.1 k hk
  have en : ∀ q, q < 6 → al τ (320 * k + 80 + 6 * j + q) = (cE W).1 (11, 0, k) (6 * j + q) := fun q hq => by
    rw [Nat.add_assoc (320 * k + 80)]
    exact hK.2.2.2.1 _ (by omega)
  have c1 := ((hE 0 k (6 * j + 1)).1 (by omega)).1
  have c4 := ((hE 0 k (6 * j + 4)).2 (by omega)).1
  obtain ⟨t1, e1, s1, s2, s3, s4⟩ := eM_works (S := 320 * k + S) (B := 320 * k + 80 + 6 * j) (cl := W.1 (11, 0, k) (6 * j + 1)) (ce := W.1 (11, 0, k) (6 * j + 4)) τ (by omega) (by omega) (Or.inr (by omega)) c1 c4 ((en 1 (by decide)).trans (c11_r (by omega) (by decide))) ((en 4 (by decide)).trans (c11_r (by omega) (by decide)))
  refine ⟨t1, e1, ?_⟩
  have et : t1 = z_upR τ (103, 0, 0) (al t1) := by
    refine yS_ext (fun z i => ?_) s4
    by_cases ez : z = (103, 0, 0)
    · rw [ez, show (z_upR τ (103, 0, 0) (al t1)).1 (103, 0, 0) = al t1 from z_upR_s]
    · rw [(z_upR_o z ez).1, s3 z ez]
  rw [et]
  have lay : zl_lay (fun q => al τ (320 * k + S + q)) (W.2.1 (t, 0, k)) := by
    rcases ht with ⟨rfl, rfl⟩ | ⟨rfl, rfl⟩
    · exact hK.2.2.2.2.1
    · exact hK.2.2.2.2.2
  have ef : mTake (fun q => al τ (320 * k + S + q)) (fun q => al τ (320 * k + 80 + 6 * j + q)) (W.1 (11, 0, k) (6 * j + 1)) (W.1 (11, 0, k) (6 * j + 4)) = mTake (fun q => al τ (320 * k + S + q)) (fun q => (cE W).1 (11, 0, k) (6 * j + q)) (W.1 (11, 0, k) (6 * j + 1)) (W.1 (11, 0, k) (6 * j + 4)) := mTake_c (en 2 (by decide)) (en 3 (by decide)) (en 5 (by decide))
  refine mR_k h a hk (fun i hi => s2 i (by omega)) (fun z i _ => rfl) (fun z hz => ?_) rfl (mK_state hK ht (fun i hi => s2 i (by omega)) (zl_lay_c (fun q hq => ?_) (cTake_lay c1 c4 lay)))
  · exact (z_upR_o z (fun e => by rw [e] at hz; simp at hz; omega)).1
  · rw [s1 q hq, ef]
/-- the entries from e on work on the state, m of them -/
def sWk (t k : Nat) : Nat → Nat → yW → yW
  | 0, _, W => W
  | m + 1, e, W => sWk t k m (e + 1) (sTake (t, 0, k) k (6 * (e - W.1 (10, 0, k) 5 - 1)) W)
theorem sWk_1 (t k : Nat) : ∀ (m e : Nat) (W : yW), (sWk t k m e W).1 = W.1 := by
  intro m
  induction m with
  | zero => intro e W; rfl
  | succ m ih => intro e W; rw [sWk, ih]; rfl
theorem sFoldL_W (k : Nat) : ∀ (m e : Nat) (W : yW), sFoldL k m e W = sWk 13 k m e W := by
  intro m
  induction m with
  | zero => intro e W; rfl
  | succ m ih => intro e W; rw [sFoldL, sWk, ih]
theorem sTake_I (z : zJ) (k P f v : Nat) (W : yW) : sTake z k P (yI W (10, 0, k) f v) = yI (sTake z k P W) (10, 0, k) f v := by
  have e : ∀ j, (cE (yI W (10, 0, k) f v)).1 (11, 0, k) j = (cE W).1 (11, 0, k) j := fun j => yc_I11 W 0 k f v j
  unfold sTake
  simp only [e, yI_z W v (show ((11, 0, k) : zJ) ≠ (10, 0, k) by simp)]
  rfl
theorem sWk_I (k v : Nat) : ∀ (m e : Nat) (W : yW), sWk 15 k m e (yI W (10, 0, k) 8 v) = yI (sWk 15 k m e W) (10, 0, k) 8 v := by
  intro m
  induction m with
  | zero => intro e W; rfl
  | succ m ih =>
    intro e W
    rw [sWk, sWk, sTake_I, ih, yI_i _ _ (by decide)]
theorem yI_I (W : yW) (z : zJ) (i v v' : Nat) : yI (yI W z i v) z i v' = yI W z i v' := by
  refine Prod.ext (funext fun z' => funext fun i' => ?_) rfl
  rw [yI_at, yI_at, yI_at]
  split <;> rfl
theorem sAdv_W (k : Nat) : ∀ (m : Nat) (W : yW), W.1 (10, 0, k) 5 ≤ W.1 (10, 0, k) 8 → sAdv k m W = yI (sWk 15 k m (W.1 (10, 0, k) 8 + 1) W) (10, 0, k) 8 (W.1 (10, 0, k) 8 + m) := by
  intro m
  induction m with
  | zero =>
    intro W _
    refine Prod.ext (funext fun z' => funext fun i' => ?_) rfl
    show W.1 z' i' = _
    rw [yI_at]
    split
    · rename_i e; rw [e.1, e.2]; rfl
    · rfl
  | succ m ih =>
    intro W h5
    have e1 : (sAdv1 k W).1 (10, 0, k) 8 = W.1 (10, 0, k) 8 + 1 := by rw [sAdv1_1, yI_s]
    have e2 : (sAdv1 k W).1 (10, 0, k) 5 = W.1 (10, 0, k) 5 := by rw [sAdv1_1, yI_i _ _ (by decide)]
    rw [sAdv, ih _ (by rw [e1, e2]; omega), e1, sWk]
    unfold sAdv1
    rw [sTake_I, sWk_I, yI_I, show W.1 (10, 0, k) 8 + 1 - W.1 (10, 0, k) 5 - 1 = W.1 (10, 0, k) 8 - W.1 (10, 0, k) 5 by omega, show W.1 (10, 0, k) 8 + 1 + m = W.1 (10, 0, k) 8 + (m + 1) by omega]
theorem y_320 (k S : Nat) {x : Int32} (hx : x = nI S) : (320 : Int32) * nI k + x = nI (320 * k + S) := by
  rw [show (320 : Int32) = nI 320 from by decide +kernel, hx, pk_mul, nI_add]
theorem m_doneTo_10 {N' : Nat} (hN' : N' < 50000) (hE : yEn W) : ∀ (m e n : Nat) (τ : zS) (U : yW), U.1 = W.1 → yEn U → mR τ0 τ U → (∀ z i, U.1 z i < 50000) → yA U 0 → k < U.1 (0, 0, 0) 3 → U.1 (10, 0, k) 5 < e → N' ≤ U.1 (10, 0, k) 7 → e + m = N' + 1 → U.1 (10, 0, k) 8 < N' → m < n → ∃ τ', fM_doneTo_10 n (nI k) (nI N') (nI e) τ = some ((), τ') ∧ mR τ0 τ' (yI (sWk 15 k m e U) (10, 0, k) 8 N') := by
  intro m
  induction m with
  | zero =>
    intro e n τ U eU hEU h hB a hk h5 h7 hm h8 hn
    obtain ⟨n, rfl⟩ : ∃ k, n = k + 1 := ⟨n - 1, by omega⟩
    have b8 := hB (10, 0, k) 8
    obtain ⟨t1, e1, h1⟩ := mw_done (v := N') h a hk
    refine ⟨t1, ?_, h1⟩
    rw [fM_doneTo_10.eq_2, if_pos (nI_lt (by omega) (by omega)), (m_of h hk).2.2.2.2.2.2.1, z_bde, if_neg (fun hh => by have := (nI_leI (by omega) (by omega)).mp hh; omega), e1, z_bde]
  | succ m ih =>
    intro e n τ U eU hEU h hB a hk h5 h7 hm h8 hn
    obtain ⟨n, rfl⟩ : ∃ k, n = k + 1 := ⟨n - 1, by omega⟩
    obtain ⟨t1, e1, h1⟩ := m_works (t := 15) (S := 30) (j := e - U.1 (10, 0, k) 5 - 1) h a hEU hk (Or.inr ⟨rfl, rfl⟩) (by omega)
    obtain ⟨t2, e2, h2⟩ := ih (e + 1) n t1 (sTake (15, 0, k) k (6 * (e - U.1 (10, 0, k) 5 - 1)) U) eU hEU h1 hB a hk (by show U.1 (10, 0, k) 5 < e + 1; omega) h7 (by omega) h8 (by omega)
    refine ⟨t2, ?_, h2⟩
    rw [fM_doneTo_10.eq_2, if_neg (nI_nlt (by omega) (by omega)), m_entryAt h hk h5, z_bde, y_320 k 30 (by decide +kernel), e1, z_bde, z_let, nI_1, e2]
theorem m_doneTo {N' : Nat} (h : mR τ0 τ W) (hB : ∀ z i, W.1 z i < 50000) (hE : yEn W) (a : yA W 0) (hk : k < W.1 (0, 0, 0) 3) (h5 : W.1 (10, 0, k) 5 ≤ W.1 (10, 0, k) 8) (h7 : N' ≤ W.1 (10, 0, k) 7) : ∃ τ', fM_doneTo (nI k) (nI N') τ = some ((), τ') ∧ mR τ0 τ' (sAdv k (N' - W.1 (10, 0, k) 8) W) := by
  have b8 := hB (10, 0, k) 8
  have b7 := hB (10, 0, k) 7
  unfold fM_doneTo
  obtain ⟨n, hz, ez⟩ := z_fu_ex
  rw [ez, (m_of h hk).2.2.2.2.2.2.1, z_bde, z_let, nI_1]
  by_cases c : W.1 (10, 0, k) 8 < N'
  · obtain ⟨t1, e1, h1⟩ := m_doneTo_10 (k := k) (N' := N') (W := W) (τ0 := τ0) (by omega) hE (N' - W.1 (10, 0, k) 8) (W.1 (10, 0, k) 8 + 1) n τ W rfl hE h hB a hk (by omega) h7 (by omega) c (by omega)
    refine ⟨t1, e1, ?_⟩
    rw [sAdv_W k _ W h5, show W.1 (10, 0, k) 8 + (N' - W.1 (10, 0, k) 8) = N' by omega]
    exact h1
  · obtain ⟨n, rfl⟩ : ∃ k, n = k + 1 := ⟨n - 1, by omega⟩
    refine ⟨τ, ?_, ?_⟩
    · rw [fM_doneTo_10.eq_2, if_pos (nI_lt (by omega) (by omega)), (m_of h hk).2.2.2.2.2.2.1, z_bde, if_pos (nI_le (by omega) (by omega))]
    · rw [show N' - W.1 (10, 0, k) 8 = 0 by omega]
      exact h
theorem m_isSure_5 {e : Nat} (h : mR τ0 τ W) (hB : ∀ z i, W.1 z i < 50000) (hk : k < W.1 (0, 0, 0) 3) (hr : W.1 (10, 0, k) 4 = 2) (he : e < 50000) : ∀ (m i n c : Nat), i + m = W.1 (0, 0, 0) 3 → c ≤ i → m < n → fM_isSure_5 n (nI k) (nI e) (nI c) (nI i) τ = some (if sMost W ≤ c + z_cnt (fun i => decide (¬ W.1 (10, 0, i) 0 = 0) && (decide (i = k) || decide (e ≤ W.1 (17, 0, k) i))) m i then 1 else 0, τ) := by
  have hN := mR_N h
  have hM := sMost_le (W := W) (by have := h.1.1.2.1; omega)
  intro m
  induction m with
  | zero =>
    intro i n c hi hc hn
    obtain ⟨n, rfl⟩ : ∃ k, n = k + 1 := ⟨n - 1, by omega⟩
    rw [fM_isSure_5.eq_2, m_many h, z_bde, if_pos (nI_le (by omega) (by omega)), m_most h, z_bde, z_cnt]
    by_cases c1 : sMost W ≤ c + 0
    · rw [if_pos c1, if_neg (nI_nlt (by omega) (by omega))]
    · rw [if_neg c1, if_pos (nI_lt (by omega) (by omega))]
  | succ m ih =>
    intro i n c hi hc hn
    obtain ⟨n, rfl⟩ : ∃ k, n = k + 1 := ⟨n - 1, by omega⟩
    have b17 := hB (17, 0, k) i
    have ih1 := ih (i + 1) n c (by omega) (by omega) (by omega)
    have ih2 := ih (i + 1) n (c + 1) (by omega) (by omega) (by omega)
    rw [fM_isSure_5.eq_2, m_many h, z_bde, if_neg (nI_ge (by omega) (by omega)), m_isVoter h (by omega), z_bde, z_cnt]
    simp only [z_let, nI_1, y_add0]
    by_cases c0 : W.1 (10, 0, i) 0 = 0
    · rw [if_pos c0, if_pos rfl, ih1]
      simp only [c0, not_true_eq_false, decide_false, Bool.false_and, Bool.false_eq_true, if_false, Nat.zero_add]
    · rw [if_neg c0, if_neg (by decide)]
      by_cases c1 : i = k
      · subst c1
        rw [if_pos rfl, ih2]
        simp only [c0, not_false_eq_true, decide_true, Bool.true_and, Bool.true_or, if_true, Nat.add_assoc]
      · have nk : ¬ nI i = nI k := fun e => c1 ((nI_eq (by omega) (by omega)).mp e)
        rw [if_neg nk, show (57 : Int32) + nI i = nI (57 + i) from lit_nI i (by decide +kernel), ((m_of8 h hk hr).2 i (by omega)).2.1, z_bde]
        by_cases c2 : e ≤ W.1 (17, 0, k) i
        · rw [if_neg (nI_nlt c2 (by omega)), ih2]
          simp only [c0, c1, c2, not_false_eq_true, decide_true, decide_false, Bool.true_and, Bool.false_or, if_true, Nat.add_assoc]
        · rw [if_pos (nI_lt (by omega) (by omega)), ih1]
          simp only [c0, c1, c2, not_false_eq_true, decide_true, decide_false, Bool.true_and, Bool.false_or, Bool.false_eq_true, if_false, Nat.zero_add]
theorem m_isSure {e : Nat} (h : mR τ0 τ W) (hB : ∀ z i, W.1 z i < 50000) (hk : k < W.1 (0, 0, 0) 3) (hr : W.1 (10, 0, k) 4 = 2) (he : e < 50000) : fM_isSure (nI k) (nI e) τ = some (if sMost W ≤ sSure k e W then 1 else 0, τ) := by
  unfold fM_isSure
  obtain ⟨n, hz, ez⟩ := z_fu_ex
  rw [ez]
  have q := m_isSure_5 h hB hk hr he (W.1 (0, 0, 0) 3) 0 n 0 (by omega) (Nat.le_refl _) (by have := mR_N h; omega)
  rw [nI_0, Nat.zero_add] at q
  exact q
theorem m_settles_18 (h : mR τ0 τ W) (hB : ∀ z i, W.1 z i < 50000) (hE : yEn W) (a : yA W 0) (hk : k < W.1 (0, 0, 0) 3) (hr : W.1 (10, 0, k) 4 = 2) (h5 : W.1 (10, 0, k) 5 ≤ W.1 (10, 0, k) 8) : ∀ (e n : Nat), e ≤ W.1 (10, 0, k) 7 → e < n → ∃ τ', fM_settles_18 n (nI k) (nI e) τ = some ((), τ') ∧ mR τ0 τ' (match sFind (sSetP k W) (W.1 (10, 0, k) 8) e with | none => W | some e => sAdv k (e - W.1 (10, 0, k) 8) W) := by
  intro e
  have b2 := hB (10, 0, k) 2
  have b7 := hB (10, 0, k) 7
  have b8 := hB (10, 0, k) 8
  have l40 := a.2.1 k
  induction e with
  | zero =>
    intro n _ hn
    obtain ⟨n, rfl⟩ : ∃ k, n = k + 1 := ⟨n - 1, by omega⟩
    exact ⟨τ, by rw [fM_settles_18.eq_2, (m_of h hk).2.2.2.2.2.2.1, z_bde, if_pos (nI_le (by omega) (by omega))], h⟩
  | succ e ih =>
    intro n hle hn
    obtain ⟨n, rfl⟩ : ∃ k, n = k + 1 := ⟨n - 1, by omega⟩
    by_cases c0 : e + 1 ≤ W.1 (10, 0, k) 8
    · exact ⟨τ, by rw [fM_settles_18.eq_2, (m_of h hk).2.2.2.2.2.2.1, z_bde, if_pos (nI_le (by omega) (by omega))], by rw [sFind, if_pos c0]; exact h⟩
    · have tb : sTm W k (e + 1) < 50000 := by
        unfold sTm
        split
        · exact hB _ _
        · exact hB _ _
      have em : nI (e + 1) + (-1) = nI e := by
        rw [show nI (e + 1) + (-1 : Int32) = nI (e + 1) - 1 from by rw [show (-1 : Int32) = iI (-1) from by decide +kernel, iI_nat, iI_add, show (1 : Int32) = iI 1 from by decide +kernel, iI_sub]; rfl, nI_pred]
      obtain ⟨t1, e1, h1⟩ := ih n (by omega) (by omega)
      rw [fM_settles_18.eq_2, (m_of h hk).2.2.2.2.2.2.1, z_bde, if_neg (nI_ge (by omega) (by omega)), m_termOf h hB hk (by omega) hle l40, z_bde, (m_of h hk).1, z_bde, sFind, if_neg c0]
      by_cases c1 : sTm W k (e + 1) = W.1 (10, 0, k) 2
      · rw [if_pos (by rw [c1]), m_isSure h hB hk hr (by omega), z_bde]
        by_cases c2 : sMost W ≤ sSure k (e + 1) W
        · obtain ⟨t2, e2, h2⟩ := m_doneTo (N' := e + 1) h hB hE a hk h5 hle
          refine ⟨t2, ?_, ?_⟩
          · rw [if_pos c2, if_neg (by decide), e2, z_bde]
          · rw [if_pos (by unfold sSetP; rw [decide_eq_true c1, decide_eq_true c2]; rfl)]
            exact h2
        · refine ⟨t1, ?_, ?_⟩
          · rw [if_neg c2, if_pos rfl, z_let, em, e1]
          · rw [if_neg (by unfold sSetP; rw [decide_eq_false c2, Bool.and_false]; decide)]
            exact h1
      · refine ⟨t1, ?_, ?_⟩
        · rw [if_neg (fun hh => c1 ((nI_eq (by omega) (by omega)).mp hh)), z_let, em, e1]
        · rw [if_neg (by unfold sSetP; rw [decide_eq_false c1, Bool.false_and]; decide)]
          exact h1
theorem m_settles (h : mR τ0 τ W) (hB : ∀ z i, W.1 z i < 50000) (hE : yEn W) (a : yA W 0) (hk : k < W.1 (0, 0, 0) 3) (hr : W.1 (10, 0, k) 4 = 2) (h5 : W.1 (10, 0, k) 5 ≤ W.1 (10, 0, k) 8) : ∃ τ', fM_settles (nI k) τ = some ((), τ') ∧ mR τ0 τ' (sSettle k W) := by
  have b7 := hB (10, 0, k) 7
  unfold fM_settles
  obtain ⟨n, hz, ez⟩ := z_fu_ex
  rw [ez, (m_of h hk).2.2.2.2.2.1, z_bde, hr, if_pos (by decide +kernel), (m_of h hk).2.2.2.2.1, z_bde]
  exact m_settles_18 h hB hE a hk hr h5 (W.1 (10, 0, k) 7) n (Nat.le_refl _) (by omega)
/-- nothing to settle -/
theorem sSettle_no (hn : ∀ e, W.1 (10, 0, k) 8 < e → e ≤ W.1 (10, 0, k) 7 → sSetP k W e = false) : sSettle k W = W := by
  have q : ∀ e, e ≤ W.1 (10, 0, k) 7 → sFind (sSetP k W) (W.1 (10, 0, k) 8) e = none := by
    intro e
    induction e with
    | zero => intro _; rfl
    | succ e ih =>
      intro he
      rw [sFind]
      by_cases c : e + 1 ≤ W.1 (10, 0, k) 8
      · rw [if_pos c]
      · rw [if_neg c, if_neg (by rw [hn (e + 1) (by omega) he]; decide)]
        exact ih (by omega)
  unfold sSettle
  rw [q _ (Nat.le_refl _)]
end mdone
