/-! the model gets entries -/
theorem cE_Cp {W : yW} {a b : zJ} {p q n : Nat} (i : Nat) (h : q ≤ i → i < q + n → ye b.1 i = ye a.1 (p + (i - q))) : (cE (yCp W a b p q n)).1 b i = if q ≤ i ∧ i < q + n then (cE W).1 a (p + (i - q)) else (cE W).1 b i := by
  rw [cE_at, cE_at, cE_at, yCp_at]
  show yc _ _ ((z_upR W.2 b (va_cpy (W.2.1 a) (W.2.1 b) p q n)).1 b i) = _
  rw [z_upR_s]
  unfold va_cpy
  by_cases c : q ≤ i ∧ i < q + n
  · rw [if_pos ⟨rfl, c⟩, if_pos c, if_pos c, h c.1 c.2]
  · rw [if_neg (fun e => c e.2), if_neg c, if_neg c]
theorem yCp_2 {W : yW} {a b : zJ} {p q n : Nat} {z : zJ} (h : z ≠ b) : (yCp W a b p q n).2.1 z = W.2.1 z := (z_upR_o z h).1
/-- one more entry -/
theorem mK_ent {B H : Nat → Int32} {W : yW} {k i r : Nat} (h : mK B W 0 k) (hr : W.1 (10, 0, k) 7 = r) (h5 : W.1 (10, 0, k) 5 ≤ r) (h40 : r < W.1 (10, 0, k) 5 + 40) (hH : ∀ j, j < 6 → H (10 + 6 * i + j) = (cE W).1 (21, 0, 40) (6 * i + j)) : mK (va_cpy H (upd B (320 * k + 4) (nI (r + 1))) (10 + 6 * i) (320 * k + 80 + 6 * (r - W.1 (10, 0, k) 5)) 6) (yCp (yI W (10, 0, k) 7 (r + 1)) (21, 0, 40) (11, 0, k) (6 * i) (6 * (r - W.1 (10, 0, k) 5)) 6) 0 k := by
  obtain ⟨⟨a1, a2, a3, a4, a5, a6, a7, a8⟩, b1, b2, b3, b4, b5⟩ := h
  have u : ∀ j, j < 320 * k + 80 → j ≠ 320 * k + 4 → va_cpy H (upd B (320 * k + 4) (nI (r + 1))) (10 + 6 * i) (320 * k + 80 + 6 * (r - W.1 (10, 0, k) 5)) 6 j = B j := fun j j1 j2 => by
    unfold va_cpy
    rw [if_neg (by omega), upd_n _ _ j2]
  have e10 : ∀ f, (yCp (yI W (10, 0, k) 7 (r + 1)) (21, 0, 40) (11, 0, k) (6 * i) (6 * (r - W.1 (10, 0, k) 5)) 6).1 (10, 0, k) f = if f = 7 then r + 1 else W.1 (10, 0, k) f := fun f => by
    rw [yCp_at, if_neg (by simp), yI_at]
    by_cases c : f = 7
    · rw [if_pos ⟨rfl, c⟩, if_pos c]
    · rw [if_neg (fun e => c e.2), if_neg c]
  have eA : ∀ t f, t = 16 ∨ t = 17 ∨ t = 18 → (yCp (yI W (10, 0, k) 7 (r + 1)) (21, 0, 40) (11, 0, k) (6 * i) (6 * (r - W.1 (10, 0, k) 5)) 6).1 (t, 0, k) f = W.1 (t, 0, k) f := fun t f ht => by
    rw [yCp_at, if_neg (by simp; omega), yI_z _ _ (by simp; omega)]
  have e2 : ∀ t, t ≠ 11 → (yCp (yI W (10, 0, k) 7 (r + 1)) (21, 0, 40) (11, 0, k) (6 * i) (6 * (r - W.1 (10, 0, k) 5)) 6).2.1 (t, 0, k) = W.2.1 (t, 0, k) := fun t ht => yCp_2 (by simp [ht])
  unfold mK
  simp only [e10, eA 16 _ (by omega), eA 17 _ (by omega), eA 18 _ (by omega), e2 13 (by decide), e2 15 (by decide), Nat.reduceEqDiff, if_false, if_true]
  refine ⟨⟨?_, ?_, ?_, ?_, ?_, ?_, ?_, ?_⟩, fun e => ?_, fun e => ⟨?_, fun q hq => ⟨?_, ?_, ?_⟩⟩, fun j hj => ?_, zl_lay_c (fun q hq => u _ (by omega) (by omega)) b4, zl_lay_c (fun q hq => u _ (by omega) (by omega)) b5⟩
  · rw [u _ (by omega) (by omega)]; exact a1
  · rw [u _ (by omega) (by omega)]; exact a2
  · rw [u _ (by omega) (by omega)]; exact a3
  · rw [u _ (by omega) (by omega)]; exact a4
  · unfold va_cpy
    rw [if_neg (by omega), upd_s]
  · rw [u _ (by omega) (by omega)]; exact a6
  · rw [u _ (by omega) (by omega)]; exact a7
  · rw [u _ (by omega) (by omega)]; exact a8
  · rw [u _ (by omega) (by omega)]; exact b1 e
  · rw [u _ (by omega) (by omega)]; exact (b2 e).1
  · rw [u _ (by omega) (by omega)]; exact ((b2 e).2 q hq).1
  · rw [u _ (by omega) (by omega)]; exact ((b2 e).2 q hq).2.1
  · rw [u _ (by omega) (by omega)]; exact ((b2 e).2 q hq).2.2
  · have ecp := cE_Cp (W := yI W (10, 0, k) 7 (r + 1)) (a := (21, 0, 40)) (b := (11, 0, k)) (p := 6 * i) (q := 6 * (r - W.1 (10, 0, k) 5)) (n := 6) j (fun x1 x2 => by
      show (if j % 6 = 5 then 0 else 1) = (if (6 * i + (j - 6 * (r - W.1 (10, 0, k) 5))) % 6 = 5 then 0 else 1)
      by_cases c : j % 6 = 5
      · rw [if_pos c, if_pos (by omega)]
      · rw [if_neg c, if_neg (by omega)])
    rw [ecp]
    unfold va_cpy
    by_cases c : 6 * (r - W.1 (10, 0, k) 5) ≤ j ∧ j < 6 * (r - W.1 (10, 0, k) 5) + 6
    · have q := hH (j - 6 * (r - W.1 (10, 0, k) 5)) (by omega)
      rw [if_pos (by omega), if_pos c, show 10 + 6 * i + (320 * k + 80 + j - (320 * k + 80 + 6 * (r - W.1 (10, 0, k) 5))) = 10 + 6 * i + (j - 6 * (r - W.1 (10, 0, k) 5)) by omega, q, cE_at, cE_at, yI_z _ _ (by simp)]
      rfl
    · rw [if_neg (by omega), if_neg c, upd_n _ _ (by omega), yc_I11]
      exact b3 j (by omega)
section mapp
variable {τ0 τ : zS} {W : yW} {k : Nat}
theorem m_takes_88 {e d B5 : Nat} (hk : k < 7) (τ : zS) (B : Nat → Int32) (hB5 : B (320 * k + 2) = nI B5) (h5 : B5 < e) (he : e ≤ B5 + 40) (hd : d + 6 ≤ 64) : ∀ (m i n : Nat), i + m = 6 → m < n → fM_takes_88 n (nI k) (nI e) (nI d) (nI i) (z_upR τ (103, 0, 0) (va_cpy (τ.1 (109, 0, 0)) B d (320 * k + 80 + 6 * (e - B5 - 1)) i)) = some (1, z_upR τ (103, 0, 0) (va_cpy (τ.1 (109, 0, 0)) B d (320 * k + 80 + 6 * (e - B5 - 1)) 6)) := by
  intro m
  induction m with
  | zero =>
    intro i n hi hn
    obtain ⟨n, rfl⟩ : ∃ k, n = k + 1 := ⟨n - 1, by omega⟩
    rw [fM_takes_88.eq_2, if_pos ((nI_le_lit (a := 6) (by decide +kernel) (by decide) (by omega)).mpr (by omega)), show i = 6 by omega]
  | succ m ih =>
    intro i n hi hn
    obtain ⟨n, rfl⟩ : ∃ k, n = k + 1 := ⟨n - 1, by omega⟩
    have ea : fM_entryAt (nI k) (nI e) (z_upR τ (103, 0, 0) (va_cpy (τ.1 (109, 0, 0)) B d (320 * k + 80 + 6 * (e - B5 - 1)) i)) = some (nI (320 * k + 80 + 6 * (e - B5 - 1)), z_upR τ (103, 0, 0) (va_cpy (τ.1 (109, 0, 0)) B d (320 * k + 80 + 6 * (e - B5 - 1)) i)) := by
      have o : fM_of (nI k) 2 (z_upR τ (103, 0, 0) (va_cpy (τ.1 (109, 0, 0)) B d (320 * k + 80 + 6 * (e - B5 - 1)) i)) = some (nI B5, z_upR τ (103, 0, 0) (va_cpy (τ.1 (109, 0, 0)) B d (320 * k + 80 + 6 * (e - B5 - 1)) i)) := by
        rw [show (2 : Int32) = nI 2 from by decide +kernel, eM_of _ hk (by decide)]
        show some ((z_upR τ (103, 0, 0) _).1 (103, 0, 0) (320 * k + 2), _) = _
        rw [z_upR_al]
        unfold va_cpy
        rw [if_neg (by omega), hB5]
      unfold fM_entryAt
      rw [o, z_bde]
      congr 2
      rw [show (320 : Int32) = nI 320 from by decide +kernel, show (80 : Int32) = nI 80 from by decide +kernel, show (6 : Int32) = nI 6 from by decide +kernel, pk_mul, nI_add, show nI e - nI B5 - 1 = nI (e - B5 - 1) from by
        rw [iI_nat, iI_nat, iI_nat, show (1 : Int32) = iI 1 from by decide +kernel, iI_sub, iI_sub]
        congr 1
        omega, pk_mul, nI_add]
    have e2 : upd (va_cpy (τ.1 (109, 0, 0)) B d (320 * k + 80 + 6 * (e - B5 - 1)) i) (320 * k + 80 + 6 * (e - B5 - 1) + i) (τ.1 (109, 0, 0) (d + i)) = va_cpy (τ.1 (109, 0, 0)) B d (320 * k + 80 + 6 * (e - B5 - 1)) (i + 1) := by
      funext j
      unfold upd va_cpy
      by_cases c1 : j = 320 * k + 80 + 6 * (e - B5 - 1) + i
      · rw [if_pos c1, if_pos (by omega)]
        exact congrArg (τ.1 (109, 0, 0)) (by omega)
      · rw [if_neg c1]
        by_cases c2 : 320 * k + 80 + 6 * (e - B5 - 1) ≤ j ∧ j < 320 * k + 80 + 6 * (e - B5 - 1) + i
        · rw [if_pos c2, if_pos (by omega)]
        · rw [if_neg c2, if_neg (by omega)]
    rw [fM_takes_88.eq_2, if_neg (fun hh => by have := (nI_le_lit (a := 6) (by decide +kernel) (by decide) (by omega)).mp hh; omega), ea, z_bde, nI_add, nI_add, if_pos (nI_inz (by omega) (by decide)), if_pos (nI_inz (by omega) (by decide)), nI_clamp (by omega), nI_clamp (by omega), (z_upR_o (109, 0, 0) (by decide)).1, z_up_R, e2, z_let, z_let, nI_1]
    exact ih (i + 1) n (by omega) (by omega)
/-- the new entry, behind the r-th, which is the last -/
theorem m_newEntry {r i : Nat} (h : mR τ0 τ W) (hH : mHd (τ0.1 (109, 0, 0)) W) (a : yA W 0) (hB : ∀ z i, W.1 z i < 50000) (hk : k < W.1 (0, 0, 0) 3) (hr : W.1 (10, 0, k) 7 = r) (h5 : W.1 (10, 0, k) 5 ≤ r) (h3 : W.1 (20, 0, 40) 0 = 3) (hi : i < W.1 (20, 0, 40) 6) (h6 : W.1 (20, 0, 40) 6 ≤ 5) :
    (r < W.1 (10, 0, k) 5 + 40 → ∃ τ', fM_takes_58 (nI k) (nI (r + 1)) (nI (10 + 6 * i)) τ = some (1, τ') ∧ mR τ0 τ' (yCp (yI W (10, 0, k) 7 (r + 1)) (21, 0, 40) (11, 0, k) (6 * i) (6 * (r - W.1 (10, 0, k) 5)) 6)) ∧ (¬ r < W.1 (10, 0, k) 5 + 40 → fM_takes_58 (nI k) (nI (r + 1)) (nI (10 + 6 * i)) τ = some (0, τ)) := by
  have k7 : k < 7 := by have := h.1.1.1; omega
  have b5 := hB (10, 0, k) 5
  have b7 := hB (10, 0, k) 7
  have l40 := a.2.1 k
  have es : nI r - nI (W.1 (10, 0, k) 5) = nI (r - W.1 (10, 0, k) 5) := by
    rw [iI_nat, iI_nat, iI_nat, iI_sub]
    congr 1
    omega
  have mo := m_of h hk
  unfold fM_takes_58
  rw [mo.2.2.2.2.1, z_bde, mo.2.2.1, z_bde, hr, es]
  refine ⟨fun c => ?_, fun c => ?_⟩
  · rw [if_pos (by rw [show (40 : Int32) = nI 40 from by decide +kernel]; exact nI_lt (by omega) (by decide))]
    have h109 : τ.1 (109, 0, 0) = τ0.1 (109, 0, 0) := h.2.2.1 _ (by decide)
    have hK := mK_ent (B := al τ) (H := τ.1 (109, 0, 0)) (i := i) (r := r) (h.2.1.1 k hk) hr h5 c (fun j hj => by rw [h109, Nat.add_assoc]; exact hH.2.2.1 h3 _ (by omega))
    refine ⟨z_upR τ (103, 0, 0) (va_cpy (τ.1 (109, 0, 0)) (upd (al τ) (320 * k + 4) (nI (r + 1))) (10 + 6 * i) (320 * k + 80 + 6 * (r - W.1 (10, 0, k) 5)) 6), ?_, ?_⟩
    · obtain ⟨n, hz, ez⟩ := z_fu_ex
      have pu : fM_put (nI k) 4 (nI (r + 1)) τ = some ((), z_upR τ (103, 0, 0) (upd (al τ) (320 * k + 4) (nI (r + 1)))) := by
        rw [show (4 : Int32) = nI 4 from by decide +kernel, eM_put _ _ k7 (by decide)]
        rfl
      have lp := m_takes_88 (k := k) (e := r + 1) (d := 10 + 6 * i) (B5 := W.1 (10, 0, k) 5) k7 τ (upd (al τ) (320 * k + 4) (nI (r + 1))) (by rw [upd_n _ _ (by omega)]; exact (h.2.1.1 k hk).1.2.2.1) (by omega) (by omega) (by omega) 6 0 n rfl (by omega)
      have e0 : va_cpy (τ.1 (109, 0, 0)) (upd (al τ) (320 * k + 4) (nI (r + 1))) (10 + 6 * i) (320 * k + 80 + 6 * (r + 1 - W.1 (10, 0, k) 5 - 1)) 0 = upd (al τ) (320 * k + 4) (nI (r + 1)) := by
        funext j
        unfold va_cpy
        rw [if_neg (by omega)]
      rw [e0, nI_0, show r + 1 - W.1 (10, 0, k) 5 - 1 = r - W.1 (10, 0, k) 5 by omega] at lp
      rw [pu, z_bde, ez]
      exact lp
    · refine mR_k h a hk (fun j hj => ?_) (fun z j hz => ?_) (fun z hz => ?_) (by rw [yCp_at, if_neg (by simp), yI_i _ _ (by decide)]) hK
      · unfold va_cpy
        rw [if_neg (by omega), upd_n _ _ (by omega)]
      · have n1 : z ≠ (10, 0, k) := fun e => by rw [e] at hz; simp at hz
        have n2 : z ≠ (11, 0, k) := fun e => by rw [e] at hz; simp at hz
        rw [yCp_at, if_neg (fun e => n2 e.1), yI_z _ _ n1]
      · exact yCp_2 (fun e => by rw [e] at hz; simp at hz)
  · rw [if_neg (by rw [show (40 : Int32) = nI 40 from by decide +kernel]; exact nI_nlt (by omega) (by omega))]
/-- entries: the loop -/
theorem m_ent {ahead : Nat} {Lf : Nat → Nat} (τ0 : zS) : ∀ (m i n b : Nat) (τ : zS) (W : yW), mR τ0 τ W → mHd (τ0.1 (109, 0, 0)) W → yA W 0 → (∀ z j, W.1 z j < b) → b + m ≤ 50000 → k < W.1 (0, 0, 0) 3 → W.1 (10, 0, k) 5 ≤ W.1 (10, 0, k) 8 → W.1 (10, 0, k) 8 ≤ W.1 (10, 0, k) 7 → W.1 (20, 0, 40) 0 = 3 → W.1 (20, 0, 40) 6 ≤ 5 → i + m = W.1 (20, 0, 40) 6 → ahead + i ≤ W.1 (10, 0, k) 7 → (∀ e, W.1 (10, 0, k) 5 < e → e ≤ W.1 (10, 0, k) 8 → sTm W k e = Lf e) → (∀ j, j < W.1 (20, 0, 40) 6 → W.1 (21, 0, 40) (6 * j) = Lf (ahead + 1 + j)) → m < n →
    ∃ τ', fM_getsAppend_177 n (nI k) (nI ahead) (nI (ahead + i)) (nI i) τ = fM_getsAppend_228 (nI k) (nI (sEnt k m (ahead + i) i W).1) τ' ∧ mR τ0 τ' (sEnt k m (ahead + i) i W).2 ∧ (sEnt k m (ahead + i) i W).1 ≤ (sEnt k m (ahead + i) i W).2.1 (10, 0, k) 7 := by
  intro m
  induction m with
  | zero =>
    intro i n b τ W h hH a hB hb hk h5 h8 h3 h6 hi hl hD hL hn
    obtain ⟨n, rfl⟩ : ∃ k, n = k + 1 := ⟨n - 1, by omega⟩
    have mh := m_hand h hH
    refine ⟨τ, ?_, h, hl⟩
    rw [fM_getsAppend_177.eq_2, mh.2.2.2.2.2.1, if_pos (nI_le (by omega) (by omega))]
    rfl
  | succ m ih =>
    intro i n b τ W h hH a hB hb hk h5 h8 h3 h6 hi hl hD hL hn
    obtain ⟨n, rfl⟩ : ∃ k, n = k + 1 := ⟨n - 1, by omega⟩
    have hB5 : ∀ z j, W.1 z j < 50000 := fun z j => by have := hB z j; omega
    have mh := m_hand h hH
    have mo := m_of h hk
    have b5 := hB5 (10, 0, k) 5
    have b7 := hB5 (10, 0, k) 7
    have bq := hB5 (21, 0, 40) (6 * i)
    have l40 := a.2.1 k
    have g1 : (nI ahead + 1) + nI i = nI (ahead + i + 1) := by
      rw [nI_1, nI_add]
      congr 1
      omega
    have g2 : (10 : Int32) + 6 * nI i = nI (10 + 6 * i) := by
      rw [show (10 : Int32) = nI 10 from by decide +kernel, show (6 : Int32) = nI 6 from by decide +kernel, pk_mul, nI_add]
    have h109 : τ.1 (109, 0, 0) = τ0.1 (109, 0, 0) := h.2.2.1 _ (by decide)
    have q109 : τ.1 (109, 0, 0) (10 + 6 * i) = nI (W.1 (21, 0, 40) (6 * i)) := by
      rw [h109, hH.2.2.1 h3 (6 * i) (by omega), c21_t]
    -- when it is taken
    have goes : ∀ (τ1 : zS) (W1 : yW), fM_takes (nI k) (nI (ahead + i + 1)) (nI (10 + 6 * i)) τ = some (1, τ1) → sEnt k (m + 1) (ahead + i) i W = sEnt k m (ahead + i + 1) (i + 1) W1 → mR τ0 τ1 W1 → mHd (τ0.1 (109, 0, 0)) W1 → yA W1 0 → (∀ z j, W1.1 z j < b + 1) → k < W1.1 (0, 0, 0) 3 → W1.1 (10, 0, k) 5 ≤ W1.1 (10, 0, k) 8 → W1.1 (10, 0, k) 8 ≤ W1.1 (10, 0, k) 7 → W1.1 (20, 0, 40) 0 = 3 → W1.1 (20, 0, 40) 6 = W.1 (20, 0, 40) 6 → ahead + i + 1 ≤ W1.1 (10, 0, k) 7 → (∀ e, W1.1 (10, 0, k) 5 < e → e ≤ W1.1 (10, 0, k) 8 → sTm W1 k e = Lf e) → (∀ j, W1.1 (21, 0, 40) (6 * j) = W.1 (21, 0, 40) (6 * j)) → ∃ τ', fM_getsAppend_177 (n + 1) (nI k) (nI ahead) (nI (ahead + i)) (nI i) τ = fM_getsAppend_228 (nI k) (nI (sEnt k (m + 1) (ahead + i) i W).1) τ' ∧ mR τ0 τ' (sEnt k (m + 1) (ahead + i) i W).2 ∧ (sEnt k (m + 1) (ahead + i) i W).1 ≤ (sEnt k (m + 1) (ahead + i) i W).2.1 (10, 0, k) 7 := fun τ1 W1 e1 e2 x1 x2 x3 x4 x5 x6 x7 x8 x9 x10 x11 x12 => by
      obtain ⟨t2, q1, q2, q3⟩ := ih (i + 1) n (b + 1) τ1 W1 x1 x2 x3 x4 (by omega) x5 x6 x7 x8 (by omega) (by omega) (by omega) x11 (fun j hj => by rw [x12]; exact hL j (by omega)) (by omega)
      rw [e2]
      refine ⟨t2, ?_, q2, q3⟩
      rw [fM_getsAppend_177.eq_2, mh.2.2.2.2.2.1, if_neg (nI_ge (by omega) (by omega)), nI_add, if_pos rfl, g1, g2, e1, z_bde, if_neg (by decide), z_let, z_let, nI_1, nI_1]
      exact q1
    by_cases c1 : ahead + i + 1 ≤ W.1 (10, 0, k) 5
    · -- folded
      refine goes τ W ?_ ?_ h hH a (fun z j => by have := hB z j; omega) hk h5 h8 h3 rfl (by omega) hD (fun _ => rfl)
      · unfold fM_takes
        rw [mo.2.2.1, z_bde, if_neg (nI_nlt (by omega) (by omega))]
      · rw [sEnt, if_pos (Or.inl c1)]
    · by_cases c2 : ahead + i + 1 ≤ W.1 (10, 0, k) 7 ∧ sTm W k (ahead + i + 1) = W.1 (21, 0, 40) (6 * i)
      · -- had
        refine goes τ W ?_ ?_ h hH a (fun z j => by have := hB z j; omega) hk h5 h8 h3 rfl c2.1 hD (fun _ => rfl)
        · unfold fM_takes
          rw [mo.2.2.1, z_bde, if_pos (nI_lt (by omega) (by omega)), mo.2.2.2.2.1, z_bde, if_neg (nI_nlt c2.1 (by omega)), m_termOf h hB5 hk (by omega) c2.1 l40, z_bde, if_pos (nI_inz (by omega) (by decide)), nI_clamp (by omega), q109, if_pos (by rw [c2.2])]
        · rw [sEnt, if_pos (Or.inr c2)]
      · -- cut and grow
        have nc : ¬ (ahead + i + 1 ≤ W.1 (10, 0, k) 5 ∨ (ahead + i + 1 ≤ W.1 (10, 0, k) 7 ∧ sTm W k (ahead + i + 1) = W.1 (21, 0, 40) (6 * i))) := fun q => by
          rcases q with q | q
          · exact c1 q
          · exact c2 q
        have hdone : W.1 (10, 0, k) 8 ≤ ahead + i := by
          by_cases e : W.1 (10, 0, k) 8 ≤ ahead + i
          · exact e
          · exfalso
            refine c2 ⟨by omega, ?_⟩
            rw [hD _ (by omega) (by omega), hL i (by omega)]
            congr 1
            omega
        have ec : sCut k (ahead + i + 1) W = yI W (10, 0, k) 7 (ahead + i) := by
          unfold sCut
          congr 1
          omega
        -- cut
        have cut : ∃ τ1, fM_takes (nI k) (nI (ahead + i + 1)) (nI (10 + 6 * i)) τ = fM_takes_58 (nI k) (nI (ahead + i + 1)) (nI (10 + 6 * i)) τ1 ∧ mR τ0 τ1 (yI W (10, 0, k) 7 (ahead + i)) := by
          by_cases c3 : ahead + i + 1 ≤ W.1 (10, 0, k) 7
          · have c4 : sTm W k (ahead + i + 1) ≠ W.1 (21, 0, 40) (6 * i) := fun e => c2 ⟨c3, e⟩
            have tb : sTm W k (ahead + i + 1) < 50000 := by
              unfold sTm
              split
              · exact hB5 _ _
              · exact hB5 _ _
            obtain ⟨t1, e1, h1⟩ := mw_last (v := ahead + i) h a hk (fun j hj => (h.2.1.1 k hk).2.2.2.1 j (by omega))
            refine ⟨t1, ?_, h1⟩
            unfold fM_takes fM_takes_39
            rw [mo.2.2.1, z_bde, if_pos (nI_lt (by omega) (by omega)), mo.2.2.2.2.1, z_bde, if_neg (nI_nlt c3 (by omega)), m_termOf h hB5 hk (by omega) c3 l40, z_bde, if_pos (nI_inz (by omega) (by decide)), nI_clamp (by omega), q109, if_neg (fun q => c4 ((nI_eq (by omega) (by omega)).mp q)), mo.2.2.2.2.1, z_bde, if_neg (nI_nlt c3 (by omega)), nI_pred, e1, z_bde]
          · have e7 : W.1 (10, 0, k) 7 = ahead + i := by omega
            refine ⟨τ, ?_, ?_⟩
            · unfold fM_takes fM_takes_39
              rw [mo.2.2.1, z_bde, if_pos (nI_lt (by omega) (by omega)), mo.2.2.2.2.1, z_bde, if_pos (nI_lt (by omega) (by omega)), mo.2.2.2.2.1, z_bde, if_pos (nI_lt (by omega) (by omega))]
            · rw [← e7, yI_self]
              exact h
        obtain ⟨t1, e1, h1⟩ := cut
        have v7 : (yI W (10, 0, k) 7 (ahead + i)).1 (10, 0, k) 7 = ahead + i := yI_s _ _ _ _
        have v5 : (yI W (10, 0, k) 7 (ahead + i)).1 (10, 0, k) 5 = W.1 (10, 0, k) 5 := yI_i _ _ (by decide)
        have v8 : (yI W (10, 0, k) 7 (ahead + i)).1 (10, 0, k) 8 = W.1 (10, 0, k) 8 := yI_i _ _ (by decide)
        have v20 : ∀ f, (yI W (10, 0, k) 7 (ahead + i)).1 (20, 0, 40) f = W.1 (20, 0, 40) f := fun f => yI_z _ _ (by simp)
        have v21 : ∀ f, (yI W (10, 0, k) 7 (ahead + i)).1 (21, 0, 40) f = W.1 (21, 0, 40) f := fun f => yI_z _ _ (by simp)
        have vN : (yI W (10, 0, k) 7 (ahead + i)).1 (0, 0, 0) 3 = W.1 (0, 0, 0) 3 := yI_z _ _ (by simp)
        have aV : yA (yI W (10, 0, k) 7 (ahead + i)) 0 := ⟨by rw [vN]; exact a.1, fun j => by
          by_cases ej : j = k
          · rw [ej, v7, v5]; omega
          · rw [yI_z _ _ (by simp [ej]), yI_z _ _ (by simp [ej])]; exact a.2.1 j, fun s => by rw [yI_z _ _ (by simp), yI_z _ _ (by simp)]; exact a.2.2.1 s, by rw [yI_z _ _ (by simp)]; exact a.2.2.2⟩
        have hV : mHd (τ0.1 (109, 0, 0)) (yI W (10, 0, k) 7 (ahead + i)) := mHd_c hH v20 v21 (fun _ => rfl)
        have bV : ∀ z j, (yI W (10, 0, k) 7 (ahead + i)).1 z j < b := fun z j => by
          have := hB z j
          have := hB (10, 0, k) 7
          rw [yI_at]
          split
          · omega
          · omega
        have ne := m_newEntry (k := k) (r := ahead + i) (i := i) h1 hV aV (fun z j => by have := bV z j; omega) (by rw [vN]; exact hk) v7 (by rw [v5]; omega) (by rw [v20]; exact h3) (by rw [v20]; omega) (by rw [v20]; exact h6)
        rw [v5] at ne
        by_cases c5 : ahead + i < W.1 (10, 0, k) 5 + 40
        · obtain ⟨t2, e2, h2⟩ := ne.1 c5
          have w10 : ∀ f, (yCp (yI (yI W (10, 0, k) 7 (ahead + i)) (10, 0, k) 7 (ahead + i + 1)) (21, 0, 40) (11, 0, k) (6 * i) (6 * (ahead + i - W.1 (10, 0, k) 5)) 6).1 (10, 0, k) f = if f = 7 then ahead + i + 1 else W.1 (10, 0, k) f := fun f => by
            rw [yCp_at, if_neg (by simp), yI_at]
            by_cases c : f = 7
            · rw [if_pos ⟨rfl, c⟩, if_pos c]
            · rw [if_neg (fun e => c e.2), if_neg c, yI_i _ _ c]
          have wz : ∀ (z : zJ) f, z ≠ (10, 0, k) → z ≠ (11, 0, k) → (yCp (yI (yI W (10, 0, k) 7 (ahead + i)) (10, 0, k) 7 (ahead + i + 1)) (21, 0, 40) (11, 0, k) (6 * i) (6 * (ahead + i - W.1 (10, 0, k) 5)) 6).1 z f = W.1 z f := fun z f z1 z2 => by
            rw [yCp_at, if_neg (fun e => z2 e.1), yI_z _ _ z1, yI_z _ _ z1]
          refine goes t2 _ (e1.trans e2) ?_ h2 (mHd_c hH (fun f => wz _ _ (by simp) (by simp)) (fun f => wz _ _ (by simp) (by simp)) (fun t => yCp_2 (by simp; have := a.1; omega))) ?_ (fun z j => ?_) (by rw [wz _ _ (by simp) (by simp)]; exact hk) (by rw [w10, w10]; exact h5) (by rw [w10, w10]; simp; omega) (by rw [wz _ _ (by simp) (by simp)]; exact h3) (wz _ _ (by simp) (by simp)) (by rw [w10]; simp) (fun e x1 x2 => ?_) (fun j => wz _ _ (by simp) (by simp))
          · rw [sEnt, if_neg nc, ec, v7, if_pos c5]
          · refine ⟨by rw [wz _ _ (by simp) (by simp)]; exact a.1, fun j => ?_, fun s => by rw [wz _ _ (by simp) (by simp), wz _ _ (by simp) (by simp)]; exact a.2.2.1 s, by rw [wz _ _ (by simp) (by simp)]; exact a.2.2.2⟩
            by_cases ej : j = k
            · rw [ej, w10, w10]; simp; omega
            · rw [wz _ _ (by simp [ej]) (by simp [ej]), wz _ _ (by simp [ej]) (by simp [ej])]; exact a.2.1 j
          · have q : ∀ z j, (yI (yI W (10, 0, k) 7 (ahead + i)) (10, 0, k) 7 (ahead + i + 1)).1 z j < b + 1 := fun z j => by
              have := bV z j
              have := hB (10, 0, k) 7
              rw [yI_at]
              split
              · omega
              · omega
            rw [yCp_at]
            split
            · exact q _ _
            · exact q _ _
          · rw [w10] at x1 x2
            simp at x1 x2
            rw [← hD e x1 x2]
            unfold sTm
            rw [w10, w10]
            simp
            rw [if_neg (by omega), if_neg (by omega), yCp_at, if_neg (by omega), yI_z _ _ (by simp), yI_z _ _ (by simp)]
        · -- no room
          have en : sEnt k (m + 1) (ahead + i) i W = (ahead + i, yI W (10, 0, k) 7 (ahead + i)) := by
            rw [sEnt, if_neg nc, ec, v7, if_neg c5]
          rw [en]
          refine ⟨t1, ?_, h1, by show ahead + i ≤ (yI W (10, 0, k) 7 (ahead + i)).1 (10, 0, k) 7; rw [v7]; exact Nat.le_refl _⟩
          rw [fM_getsAppend_177.eq_2, mh.2.2.2.2.2.1, if_neg (nI_ge (by omega) (by omega)), nI_add, if_pos rfl, g1, g2, e1, ne.2 c5, z_bde, if_pos rfl, z_let, nI_1]
          obtain ⟨n, rfl⟩ : ∃ k, n = k + 1 := ⟨n - 1, by omega⟩
          have mh1 := m_hand h1 hV
          rw [fM_getsAppend_177.eq_2, mh1.2.2.2.2.2.1, v20]
          by_cases c6 : W.1 (20, 0, 40) 6 ≤ i + 1
          · rw [if_pos (nI_le c6 (by omega))]
          · rw [if_neg (nI_ge (by omega) (by omega)), nI_add, if_neg (fun q => by have := (nI_eq (by omega) (by omega)).mp q; omega)]
end mapp
