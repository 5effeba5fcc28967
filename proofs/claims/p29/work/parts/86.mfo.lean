/-! the model: fold -/
theorem sForget_had {k e : Nat} {W : yW} (h1 : W.1 (10, 0, k) 5 < e) (h2 : e ≤ W.1 (10, 0, k) 7) : sForget k e W = yI (yCp W (11, 0, k) (11, 0, k) (6 * (e - W.1 (10, 0, k) 5)) 0 (240 - 6 * (e - W.1 (10, 0, k) 5))) (10, 0, k) 5 e := if_pos ⟨h1, h2⟩
theorem sForget_11 {k e : Nat} {W : yW} (h1 : W.1 (10, 0, k) 5 < e) (h2 : e ≤ W.1 (10, 0, k) 7) {j : Nat} (hj : j < 240 - 6 * (e - W.1 (10, 0, k) 5)) : (cE (sForget k e W)).1 (11, 0, k) j = (cE W).1 (11, 0, k) (6 * (e - W.1 (10, 0, k) 5) + j) ∧ (sForget k e W).1 (11, 0, k) j = W.1 (11, 0, k) (6 * (e - W.1 (10, 0, k) 5) + j) := by
  rw [sForget_had h1 h2]
  refine ⟨?_, ?_⟩
  · rw [yc_I11, cE_Cp j (fun x1 x2 => by
      show (if j % 6 = 5 then 0 else 1) = (if (6 * (e - W.1 (10, 0, k) 5) + (j - 0)) % 6 = 5 then 0 else 1)
      by_cases c : j % 6 = 5
      · rw [if_pos c, if_pos (by omega)]
      · rw [if_neg c, if_neg (by omega)]), if_pos (by omega), Nat.sub_zero]
  · rw [yI_z _ _ (by simp), yCp_at, if_pos ⟨rfl, by omega⟩, Nat.sub_zero]
theorem mK_shift {B : Nat → Int32} {W : yW} {k e t : Nat} (h : mK B W 0 k) (h1 : W.1 (10, 0, k) 5 < e) (h2 : e ≤ W.1 (10, 0, k) 7) (h40 : W.1 (10, 0, k) 7 ≤ W.1 (10, 0, k) 5 + 40) : mK (upd (upd (va_cpy B B (320 * k + 80 + 6 * (e - W.1 (10, 0, k) 5)) (320 * k + 80) (6 * (W.1 (10, 0, k) 7 - e))) (320 * k + 2) (nI e)) (320 * k + 3) (nI t)) (yI (sForget k e W) (10, 0, k) 6 t) 0 k := by
  obtain ⟨⟨a1, a2, a3, a4, a5, a6, a7, a8⟩, b1, b2, b3, b4, b5⟩ := h
  have u : ∀ j, j < 320 * k + 80 → j ≠ 320 * k + 2 → j ≠ 320 * k + 3 → upd (upd (va_cpy B B (320 * k + 80 + 6 * (e - W.1 (10, 0, k) 5)) (320 * k + 80) (6 * (W.1 (10, 0, k) 7 - e))) (320 * k + 2) (nI e)) (320 * k + 3) (nI t) j = B j := fun j j1 j2 j3 => by
    rw [upd_n _ _ j3, upd_n _ _ j2]
    unfold va_cpy
    rw [if_neg (by omega)]
  have e10 : ∀ f, (yI (sForget k e W) (10, 0, k) 6 t).1 (10, 0, k) f = if f = 6 then t else if f = 5 then e else W.1 (10, 0, k) f := fun f => by
    rw [sForget_had h1 h2, yI_at, yI_at, yCp_at, if_neg (show ¬ (((10, 0, k) : zJ) = (11, 0, k) ∧ 0 ≤ f ∧ f < 0 + (240 - 6 * (e - W.1 (10, 0, k) 5))) by simp)]
    simp
  have eA : ∀ t' f, t' = 16 ∨ t' = 17 ∨ t' = 18 → (yI (sForget k e W) (10, 0, k) 6 t).1 (t', 0, k) f = W.1 (t', 0, k) f := fun t' f ht => by
    rw [yI_z _ _ (by simp; omega), sForget_had h1 h2, yI_z _ _ (by simp; omega), yCp_at, if_neg (by simp; omega)]
  have e2 : ∀ t', t' ≠ 11 → (yI (sForget k e W) (10, 0, k) 6 t).2.1 (t', 0, k) = W.2.1 (t', 0, k) := fun t' ht => by
    rw [sForget_had h1 h2]
    exact yCp_2 (by simp [ht])
  unfold mK
  simp only [e10, eA 16 _ (by omega), eA 17 _ (by omega), eA 18 _ (by omega), e2 13 (by decide), e2 15 (by decide), Nat.reduceEqDiff, if_false, if_true]
  refine ⟨⟨?_, ?_, ?_, upd_s _ _ _, ?_, ?_, ?_, ?_⟩, fun e => ?_, fun e => ⟨?_, fun q hq => ⟨?_, ?_, ?_⟩⟩, fun j hj => ?_, zl_lay_c (fun q hq => u _ (by omega) (by omega) (by omega)) b4, zl_lay_c (fun q hq => u _ (by omega) (by omega) (by omega)) b5⟩
  · rw [u _ (by omega) (by omega) (by omega)]; exact a1
  · rw [u _ (by omega) (by omega) (by omega)]; exact a2
  · rw [upd_n _ _ (by omega), upd_s]
  · rw [u _ (by omega) (by omega) (by omega)]; exact a5
  · rw [u _ (by omega) (by omega) (by omega)]; exact a6
  · rw [u _ (by omega) (by omega) (by omega)]; exact a7
  · rw [u _ (by omega) (by omega) (by omega)]; exact a8
  · rw [u _ (by omega) (by omega) (by omega)]; exact b1 e
  · rw [u _ (by omega) (by omega) (by omega)]; exact (b2 e).1
  · rw [u _ (by omega) (by omega) (by omega)]; exact ((b2 e).2 q hq).1
  · rw [u _ (by omega) (by omega) (by omega)]; exact ((b2 e).2 q hq).2.1
  · rw [u _ (by omega) (by omega) (by omega)]; exact ((b2 e).2 q hq).2.2
  · rw [yc_I11, (sForget_11 h1 h2 (by omega)).1, upd_n _ _ (by omega), upd_n _ _ (by omega)]
    unfold va_cpy
    rw [if_pos (by omega), show 320 * k + 80 + 6 * (e - W.1 (10, 0, k) 5) + (320 * k + 80 + j - (320 * k + 80)) = 320 * k + 80 + (6 * (e - W.1 (10, 0, k) 5) + j) by omega]
    exact b3 _ (by omega)
theorem sTm_forget {k e x t : Nat} {W : yW} (h1 : W.1 (10, 0, k) 5 < e) (h2 : e ≤ W.1 (10, 0, k) 7) (h40 : W.1 (10, 0, k) 7 ≤ W.1 (10, 0, k) 5 + 40) (hx : e < x) (hx2 : x ≤ W.1 (10, 0, k) 7) : sTm (yI (sForget k e W) (10, 0, k) 6 t) k x = sTm W k x := by
  unfold sTm
  have e5 : (yI (sForget k e W) (10, 0, k) 6 t).1 (10, 0, k) 5 = e := by rw [yI_i _ _ (by decide), sForget_5]
  rw [e5, if_neg (by omega), if_neg (by omega), yI_z _ _ (by simp), (sForget_11 h1 h2 (by omega)).2, show 6 * (e - W.1 (10, 0, k) 5) + 6 * (x - e - 1) = 6 * (x - W.1 (10, 0, k) 5 - 1) by omega]
section mfo
variable {τ0 τ : zS} {W : yW} {k : Nat}
theorem sWk_2 (t k : Nat) : ∀ (m e : Nat) (V : yW) {z : zJ}, z ≠ (t, 0, k) → (sWk t k m e V).2.1 z = V.2.1 z := by
  intro m
  induction m with
  | zero => intro e V z _; rfl
  | succ m ih =>
    intro e V z hz
    rw [sWk, ih _ _ hz]
    exact (z_upR_o z hz).1
theorem m_fold_48 {e t : Nat} (τ0 : zS) : ∀ (m i n : Nat) (τ : zS) (U : yW), yEn U → mR τ0 τ U → (∀ z j, U.1 z j < 40000) → yA U 0 → k < U.1 (0, 0, 0) 3 → U.1 (10, 0, k) 4 ≤ 2 → U.1 (10, 0, k) 5 < i → U.1 (10, 0, k) 5 < e → e ≤ U.1 (10, 0, k) 8 → U.1 (10, 0, k) 8 ≤ U.1 (10, 0, k) 7 → i + m = e + 1 → (U.1 (10, 0, k) 4 = 2 → ∀ x, U.1 (10, 0, k) 8 < x → x ≤ U.1 (10, 0, k) 7 → sSetP k U x = false) → t < 40000 → m < n →
    ∃ τ', fM_fold_48 n (nI k) (nI e) (nI t) (nI i) τ = some (nI (U.1 (10, 0, k) 7 - e), τ') ∧ mR τ0 τ' (yI (sForget k e (sWk 13 k m i U)) (10, 0, k) 6 t) := by
  intro m
  induction m with
  | zero =>
    intro i n τ U hE h hB a hk hr hi h5 h8 h7 hm hset ht hn
    obtain ⟨n, rfl⟩ : ∃ k, n = k + 1 := ⟨n - 1, by omega⟩
    have k7 : k < 7 := by have := a.1; omega
    have b7 := hB (10, 0, k) 7
    have l40 := a.2.1 k
    have mo := m_of h hk
    have es : nI (U.1 (10, 0, k) 7) - nI e = nI (U.1 (10, 0, k) 7 - e) := by
      rw [iI_nat, iI_nat, iI_nat, iI_sub]
      congr 1
      omega
    have cp := m_copy (a := 320 * k + 80 + 6 * (e - U.1 (10, 0, k) 5)) (b := 320 * k + 80) (c := 6 * (U.1 (10, 0, k) 7 - e)) τ (Or.inl (by omega)) (by omega) (by omega)
    have c := fun (g : Nat) (gi : Int32) (hg : gi = nI g) (hg2 : g < 320) (B : Nat → Int32) (x : Int32) => show fM_put (nI k) gi x (z_upR τ (103, 0, 0) B) = some ((), z_upR τ (103, 0, 0) (upd B (320 * k + g) x)) from by rw [hg, eM_put _ _ k7 hg2, z_up_R]
    have sz : ∀ (z : zJ) f, z ≠ (10, 0, k) → z ≠ (11, 0, k) → (yI (sForget k e U) (10, 0, k) 6 t).1 z f = U.1 z f := fun z f z1 z2 => by
      rw [yI_z _ _ z1, sForget_had h5 (by omega), yI_z _ _ z1, yCp_at, if_neg (fun q => z2 q.1)]
    have s10 : ∀ f, f ≠ 5 → f ≠ 6 → (yI (sForget k e U) (10, 0, k) 6 t).1 (10, 0, k) f = U.1 (10, 0, k) f := fun f f1 f2 => by
      rw [yI_i _ _ f2, sForget_had h5 (by omega), yI_i _ _ f1, yCp_at, if_neg (by simp)]
    have s5 : (yI (sForget k e U) (10, 0, k) 6 t).1 (10, 0, k) 5 = e := by rw [yI_i _ _ (by decide), sForget_5]
    have hR := mR_k (W' := yI (sForget k e U) (10, 0, k) 6 t) h a hk (fun i hi => by
      rw [upd_n _ _ (by omega), upd_n _ _ (by omega)]
      unfold va_cpy
      rw [if_neg (by omega)]) (fun z f hz => sz z f (fun q => by rw [q] at hz; simp at hz) (fun q => by rw [q] at hz; simp at hz)) (fun z hz => by
      rw [sForget_had h5 (by omega)]
      exact yCp_2 (fun q => by rw [q] at hz; simp at hz)) (s10 0 (by decide) (by decide)) (mK_shift (t := t) (h.2.1.1 k hk) h5 (by omega) l40)
    have start : fM_fold_48 (n + 1) (nI k) (nI e) (nI t) (nI i) τ = z_bd (fM_settles (nI k) (z_upR τ (103, 0, 0) (upd (upd (va_cpy (al τ) (al τ) (320 * k + 80 + 6 * (e - U.1 (10, 0, k) 5)) (320 * k + 80) (6 * (U.1 (10, 0, k) 7 - e))) (320 * k + 2) (nI e)) (320 * k + 3) (nI t)))) (fun _ σ17 => some (nI (U.1 (10, 0, k) 7 - e), σ17)) := by
      rw [fM_fold_48.eq_2, if_pos (nI_lt (by omega) (by omega)), mo.2.2.2.2.1, z_bde, z_let, es, m_entryAt h hk h5, z_bde, show nI (320 * k + 80 + 6 * (e - U.1 (10, 0, k) 5 - 1)) + 6 = nI (320 * k + 80 + 6 * (e - U.1 (10, 0, k) 5)) from by
        rw [nI_lit (a := 6) _ (by decide +kernel)]
        congr 1
        omega, y_320 k 80 (by decide +kernel), show (6 : Int32) * nI (U.1 (10, 0, k) 7 - e) = nI (6 * (U.1 (10, 0, k) 7 - e)) from by rw [show (6 : Int32) = nI 6 from by decide +kernel, pk_mul], cp, z_bde, c 2 2 (by decide +kernel) (by decide), z_bde, c 3 3 (by decide +kernel) (by decide), z_bde]
    rw [start]
    by_cases c2 : U.1 (10, 0, k) 4 = 2
    · have aS : yA (yI (sForget k e U) (10, 0, k) 6 t) 0 := ⟨by rw [sz _ _ (by simp) (by simp)]; exact a.1, fun j => by
        by_cases ej : j = k
        · rw [ej, s5, s10 7 (by decide) (by decide)]; omega
        · rw [sz _ _ (by simp [ej]) (by simp), sz _ _ (by simp [ej]) (by simp)]; exact a.2.1 j, fun s => by rw [sz _ _ (by simp) (by simp), sz _ _ (by simp) (by simp)]; exact a.2.2.1 s, by rw [sz _ _ (by simp) (by simp)]; exact a.2.2.2⟩
      have sB : ∀ z j, (yI (sForget k e U) (10, 0, k) 6 t).1 z j < 50000 := fun z j => by
        have q := sForget_B (k := k) (e := e) hB (by omega) z j
        rw [yI_at]
        split
        · omega
        · omega
      have sE : yEn (yI (sForget k e U) (10, 0, k) 6 t) := by
        rw [sForget_had h5 (by omega)]
        exact yEn_I (yEn_I (yEn_Cp hE (by simp) (by simp) (by omega) (by omega)) (by simp) (by simp)) (by simp) (by simp)
      obtain ⟨t1, e1, h1⟩ := m_settles (k := k) hR sB sE aS (by rw [sz _ _ (by simp) (by simp)]; exact hk) (by rw [s10 4 (by decide) (by decide)]; exact c2) (by rw [s5, s10 8 (by decide) (by decide)]; exact h8)
      rw [sSettle_no (fun x x1 x2 => by
        rw [s10 8 (by decide) (by decide)] at x1
        rw [s10 7 (by decide) (by decide)] at x2
        have q := hset c2 x x1 x2
        unfold sSetP at q ⊢
        rw [sTm_forget h5 (by omega) l40 (by omega) x2, s10 2 (by decide) (by decide)]
        have e1 : sMost (yI (sForget k e U) (10, 0, k) 6 t) = sMost U := by
          unfold sMost
          rw [sz _ _ (by simp) (by simp)]
        have e2 : sSure k x (yI (sForget k e U) (10, 0, k) 6 t) = sSure k x U := by
          unfold sSure
          rw [sz _ _ (by simp) (by simp)]
          refine z_cnt_congr _ 0 (fun j _ _ => ?_)
          have e0 : (yI (sForget k e U) (10, 0, k) 6 t).1 (10, 0, j) 0 = U.1 (10, 0, j) 0 := by
            by_cases ej : j = k
            · rw [ej, s10 0 (by decide) (by decide)]
            · rw [sz _ _ (by simp [ej]) (by simp)]
          rw [e0, sz _ _ (by simp) (by simp)]
        rw [e1, e2]
        exact q)] at h1
      exact ⟨t1, by rw [e1, z_bde], h1⟩
    · have moR := m_of hR (by rw [sz _ _ (by simp) (by simp)]; exact hk)
      rw [s10 4 (by decide) (by decide)] at moR
      refine ⟨_, ?_, hR⟩
      unfold fM_settles
      rw [moR.2.2.2.2.2.1, z_bde, if_neg (by rw [show (2 : Int32) = nI 2 from by decide +kernel]; exact fun q => c2 ((nI_eq (by omega) (by decide)).mp q)), z_bde]
  | succ m ih =>
    intro i n τ U hE h hB a hk hr hi h5 h8 h7 hm hset ht hn
    obtain ⟨n, rfl⟩ : ∃ k, n = k + 1 := ⟨n - 1, by omega⟩
    have b7 := hB (10, 0, k) 7
    obtain ⟨t1, e1, h1⟩ := m_works (t := 13) (S := 10) (j := i - U.1 (10, 0, k) 5 - 1) h a hE hk (Or.inl ⟨rfl, rfl⟩) (by omega)
    obtain ⟨t2, e2, h2⟩ := ih (i + 1) n t1 (sTake (13, 0, k) k (6 * (i - U.1 (10, 0, k) 5 - 1)) U) hE h1 hB a hk hr (by show U.1 (10, 0, k) 5 < i + 1; omega) h5 h8 h7 (by omega) hset ht (by omega)
    refine ⟨t2, ?_, h2⟩
    rw [fM_fold_48.eq_2, if_neg (nI_nlt (by omega) (by omega)), m_entryAt h hk hi, z_bde, y_320 k 10 (by decide +kernel), e1, z_bde, z_let, nI_1, e2]
    rfl
theorem m_fold {e : Nat} (h : mR τ0 τ W) (a : yA W 0) (hE : yEn W) (hB : ∀ z i, W.1 z i < 40000) (hk : k < W.1 (0, 0, 0) 3) (hf : W.1 (10, 0, k) 1 = 0) (hr : W.1 (10, 0, k) 4 ≤ 2) (h1 : W.1 (10, 0, k) 5 < e) (h2 : e ≤ W.1 (10, 0, k) 8) (h8 : W.1 (10, 0, k) 8 ≤ W.1 (10, 0, k) 7) (hset : W.1 (10, 0, k) 4 = 2 → ∀ x, W.1 (10, 0, k) 8 < x → x ≤ W.1 (10, 0, k) 7 → sSetP k W x = false) : ∃ τ', fM_fold (nI k) (nI e) τ = some (nI (W.1 (10, 0, k) 7 - e), τ') ∧ mR τ0 τ' (sFoldTo k e W) := by
  have b8 := hB (10, 0, k) 8
  have b5 := hB (10, 0, k) 5
  have mo := m_of h hk
  have tb : sTm W k e < 40000 := by
    unfold sTm
    split
    · exact hB _ _
    · exact hB _ _
  unfold fM_fold sFoldTo
  obtain ⟨n, hz, ez⟩ := z_fu_ex
  rw [ez, m_isUp h hk (by omega), z_bde, if_pos hf, if_neg (by decide), mo.2.2.1, z_bde, if_neg (nI_ge h1 (by omega)), mo.2.2.2.2.2.2.1, z_bde, if_pos (nI_le h2 (by omega)), m_termOf h (fun z i => by have := hB z i; omega) hk (by omega) (by omega) (a.2.1 k), z_bde, mo.2.2.1, z_bde, z_let, nI_1, sFoldL_W]
  exact m_fold_48 (k := k) τ0 (e - W.1 (10, 0, k) 5) (W.1 (10, 0, k) 5 + 1) n τ W hE h hB a hk hr (by omega) h1 h2 h8 (by omega) hset tb (by omega)
theorem m_foldN {x : Int32} (h : mR τ0 τ W) (hB : ∀ z i, W.1 z i < 40000) (hk : k < W.1 (0, 0, 0) 3) (hf : W.1 (10, 0, k) 1 ≤ 1) (hn : W.1 (10, 0, k) 1 ≠ 0 ∨ ∀ e, W.1 (10, 0, k) 5 < e → e ≤ W.1 (10, 0, k) 8 → x ≠ nI e) : fM_fold (nI k) x τ = some (-1, τ) := by
  have b8 := hB (10, 0, k) 8
  have b5 := hB (10, 0, k) 5
  have mo := m_of h hk
  unfold fM_fold
  rw [m_isUp h hk hf, z_bde]
  by_cases c : W.1 (10, 0, k) 1 = 0
  · rw [if_pos c, if_neg (by decide), mo.2.2.1, z_bde]
    by_cases g1 : x ≤ nI (W.1 (10, 0, k) 5)
    · rw [if_pos g1]
    · rw [if_neg g1, mo.2.2.2.2.2.2.1, z_bde]
      have p : ¬ x < 0 := fun hx => by
        have h0 : (0 : Int32) ≤ nI (W.1 (10, 0, k) 5) := nI_pos' (by omega)
        rw [Int32.lt_iff_toInt_lt] at hx
        rw [Int32.le_iff_toInt_le] at h0 g1
        omega
      obtain ⟨j, hj, rfl⟩ := nI_of p
      have g1' : ¬ j ≤ W.1 (10, 0, k) 5 := fun q => g1 ((nI_leI hj (by omega)).mpr q)
      rw [if_neg]
      intro g2
      have g2' := (nI_leI hj (by omega)).mp g2
      rcases hn with q | q
      · exact q c
      · exact q j (by omega) g2' rfl
  · rw [if_neg c, if_pos rfl]
theorem m_foldN1 {x y : Int32} (h : mR τ0 τ W) (hx : ∀ k, k < W.1 (0, 0, 0) 3 → x ≠ nI k) : fM_fold x y τ = some (-1, τ) := by
  unfold fM_fold
  rw [m_noUp h hx, z_bde, if_pos rfl]
end mfo
