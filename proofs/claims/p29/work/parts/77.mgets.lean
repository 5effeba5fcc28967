/-! the model gets: asks, ballots, answers -/
theorem m_copy_3 {a b c : Nat} (τ : zS) (hd : b ≤ a ∨ a + c ≤ b) (ha : a + c ≤ 5000) (hb : b + c ≤ 5000) (B : Nat → Int32) : ∀ (m i n : Nat), i + m = c → m < n → fM_copy_3 n (nI a) (nI b) (nI c) (nI i) (z_upR τ (103, 0, 0) (va_cpy B B a b i)) = some ((), z_upR τ (103, 0, 0) (va_cpy B B a b c)) := by
  intro m
  induction m with
  | zero =>
    intro i n hi hn
    obtain ⟨n, rfl⟩ : ∃ k, n = k + 1 := ⟨n - 1, by omega⟩
    rw [fM_copy_3.eq_2, if_pos (nI_le (by omega) (by omega)), show i = c by omega]
  | succ m ih =>
    intro i n hi hn
    obtain ⟨n, rfl⟩ : ∃ k, n = k + 1 := ⟨n - 1, by omega⟩
    have e1 : (z_upR τ (103, 0, 0) (va_cpy B B a b i)).1 (103, 0, 0) (a + i) = B (a + i) := by
      rw [z_upR_al]
      unfold va_cpy
      rw [if_neg (by omega)]
    have e2 : upd (va_cpy B B a b i) (b + i) (B (a + i)) = va_cpy B B a b (i + 1) := by
      funext j
      unfold upd va_cpy
      by_cases c1 : j = b + i
      · rw [if_pos c1, if_pos (by omega), c1]
        congr 1
        omega
      · rw [if_neg c1]
        by_cases c2 : b ≤ j ∧ j < b + i
        · rw [if_pos c2, if_pos (by omega)]
        · rw [if_neg c2, if_neg (by omega)]
    rw [fM_copy_3.eq_2, if_neg (nI_ge (by omega) (by omega)), nI_add, nI_add, if_pos (nI_inz (by omega) (by decide)), if_pos (nI_inz (by omega) (by decide)), nI_clamp (by omega), nI_clamp (by omega), e1, z_up_R, e2, z_let, z_let, nI_1]
    exact ih (i + 1) n (by omega) (by omega)
theorem m_copy {a b c : Nat} (τ : zS) (hd : b ≤ a ∨ a + c ≤ b) (ha : a + c ≤ 5000) (hb : b + c ≤ 5000) : fM_copy (nI a) (nI b) (nI c) τ = some ((), z_upR τ (103, 0, 0) (va_cpy (al τ) (al τ) a b c)) := by
  unfold fM_copy
  obtain ⟨n, hz, ez⟩ := z_fu_ex
  rw [ez]
  have q := m_copy_3 τ hd ha hb (al τ) c 0 n (by omega) (by omega)
  have e0 : va_cpy (al τ) (al τ) a b 0 = al τ := by
    funext j
    unfold va_cpy
    rw [if_neg (by omega)]
  rw [e0, show z_upR τ (103, 0, 0) (al τ) = τ from z_upR_id τ (103, 0, 0), nI_0] at q
  exact q
/-- the letter in hand -/
def mHd (H : Nat → Int32) (W : yW) : Prop := H 0 = iI ((W.1 (20, 0, 40) 0 : Int) - 1) ∧ (∀ f, 1 ≤ f → f < 9 → H f = nI (W.1 (20, 0, 40) f)) ∧ (W.1 (20, 0, 40) 0 = 3 → ∀ j, j < 6 * W.1 (20, 0, 40) 6 → H (10 + j) = (cE W).1 (21, 0, 40) j) ∧ (W.1 (20, 0, 40) 0 = 5 → zl_lay (fun q => H (10 + q)) (W.2.1 (23, 0, 40)))
theorem mR_fr {τ0 τ : zS} {W W' : yW} (f : yFr W W') (h : mR τ0 τ W) : mR τ0 τ W' := by
  have n : ∀ t w k i, t ≠ 19 → t ≠ 20 → W'.1 (t, w, k) i = W.1 (t, w, k) i := fun t w k i t1 t2 => f.2 (t, w, k) i t1 (fun e => absurd e t2)
  have n20 : ∀ w k i, i < 9 → W'.1 (20, w, k) i = W.1 (20, w, k) i := fun w k i hi => f.2 (20, w, k) i (by simp) (fun _ => by omega)
  have c : ∀ t w k j, t ≠ 19 → t ≠ 20 → (cE W').1 (t, w, k) j = (cE W).1 (t, w, k) j := fun t w k j t1 t2 => by rw [cE_at, cE_at, n t w k j t1 t2, f.1]
  refine ⟨mS_c h.1 (fun z hz => rfl) (fun f => n _ _ _ _ (by decide) (by decide)) (fun j => n _ _ _ _ (by decide) (by decide)), ⟨fun k hk => ?_, fun s hs => ?_, ?_⟩, h.2.2⟩
  · rw [n 0 _ _ _ (by decide) (by decide)] at hk
    have q := h.2.1.1 k hk
    unfold mK at q ⊢
    simp only [n 10 0 k _ (by decide) (by decide), n 16 0 k _ (by decide) (by decide), n 17 0 k _ (by decide) (by decide), n 18 0 k _ (by decide) (by decide), c 11 0 k _ (by decide) (by decide), f.1]
    exact q
  · have q := h.2.1.2.1 s hs
    unfold mL at q ⊢
    rw [n20 0 s 0 (by decide), n20 0 s 6 (by decide)]
    refine ⟨q.1, fun h0 => ⟨fun g g1 g2 => ?_, fun h3 j hj => ?_, fun h5 => ?_⟩⟩
    · rw [n20 0 s g g2]; exact (q.2 h0).1 g g1 g2
    · rw [c 21 0 s _ (by decide) (by decide)]; exact (q.2 h0).2.1 h3 j hj
    · rw [f.1]; exact (q.2 h0).2.2 h5
  · have q := h.2.1.2.2
    unfold mD at q ⊢
    simp only [n 4 0 0 _ (by decide) (by decide), n 5 0 0 _ (by decide) (by decide), n 6 0 0 _ (by decide) (by decide), n 7 0 0 _ (by decide) (by decide), n 8 0 0 _ (by decide) (by decide)]
    exact q
theorem mHd_fr {H : Nat → Int32} {W W' : yW} (f : yFr W W') (h : mHd H W) : mHd H W' := by
  have n20 : ∀ i, i < 9 → W'.1 (20, 0, 40) i = W.1 (20, 0, 40) i := fun i hi => f.2 (20, 0, 40) i (by simp) (fun _ => by omega)
  have c : ∀ j, (cE W').1 (21, 0, 40) j = (cE W).1 (21, 0, 40) j := fun j => by rw [cE_at, cE_at, f.2 (21, 0, 40) j (by simp) (by simp), f.1]
  unfold mHd at h ⊢
  rw [n20 0 (by decide), n20 6 (by decide)]
  refine ⟨h.1, fun g g1 g2 => ?_, fun h3 j hj => ?_, fun h5 => ?_⟩
  · rw [n20 g g2]; exact h.2.1 g g1 g2
  · rw [c]; exact h.2.2.1 h3 j hj
  · rw [f.1]; exact h.2.2.2 h5
theorem yA_fr {W W' : yW} {w : Nat} (f : yFr W W') (h : yA W w) : yA W' w := by
  have n : ∀ t k i, t ≠ 19 → t ≠ 20 → W'.1 (t, w, k) i = W.1 (t, w, k) i := fun t k i t1 t2 => f.2 (t, w, k) i t1 (fun e => absurd e t2)
  have n20 : ∀ k i, i < 9 → W'.1 (20, w, k) i = W.1 (20, w, k) i := fun k i hi => f.2 (20, w, k) i (by simp) (fun _ => by omega)
  refine ⟨by rw [n 0 _ _ (by decide) (by decide)]; exact h.1, fun k => ?_, fun s => ?_, by rw [n 4 _ _ (by decide) (by decide)]; exact h.2.2.2⟩
  · rw [n 10 _ _ (by decide) (by decide), n 10 _ _ (by decide) (by decide)]; exact h.2.1 k
  · rw [n20 _ _ (by decide), n20 _ _ (by decide)]; exact h.2.2.1 s
theorem mHd_c {H : Nat → Int32} {W W' : yW} (h : mHd H W) (h1 : ∀ f, W'.1 (20, 0, 40) f = W.1 (20, 0, 40) f) (h2 : ∀ f, W'.1 (21, 0, 40) f = W.1 (21, 0, 40) f) (h3 : ∀ t, W'.2.1 (t, 0, 40) = W.2.1 (t, 0, 40)) : mHd H W' := by
  have e21 : ∀ j, (cE W').1 (21, 0, 40) j = (cE W).1 (21, 0, 40) j := fun j => by rw [cE_at, cE_at, h2, h3]
  unfold mHd at h ⊢
  simp only [h1, e21, h3]
  exact h
section mgets
variable {τ0 τ : zS} {W : yW} {k : Nat}
theorem m_hand (h : mR τ0 τ W) (hH : mHd (τ0.1 (109, 0, 0)) W) : τ.1 (109, 0, 0) 1 = nI (W.1 (20, 0, 40) 1) ∧ τ.1 (109, 0, 0) 2 = nI (W.1 (20, 0, 40) 2) ∧ τ.1 (109, 0, 0) 3 = nI (W.1 (20, 0, 40) 3) ∧ τ.1 (109, 0, 0) 4 = nI (W.1 (20, 0, 40) 4) ∧ τ.1 (109, 0, 0) 5 = nI (W.1 (20, 0, 40) 5) ∧ τ.1 (109, 0, 0) 6 = nI (W.1 (20, 0, 40) 6) ∧ τ.1 (109, 0, 0) 7 = nI (W.1 (20, 0, 40) 7) ∧ τ.1 (109, 0, 0) 8 = nI (W.1 (20, 0, 40) 8) := by
  rw [h.2.2.1 (109, 0, 0) (by decide)]
  have q := hH.2.1
  exact ⟨q 1 (by decide) (by decide), q 2 (by decide) (by decide), q 3 (by decide) (by decide), q 4 (by decide) (by decide), q 5 (by decide) (by decide), q 6 (by decide) (by decide), q 7 (by decide) (by decide), q 8 (by decide) (by decide)⟩
theorem sReply_s {kd y n s : Nat} (hs : sEmp W = some s) : sReply kd y n W = yI (sLet s kd (W.1 (20, 0, 40) 2) (W.1 (20, 0, 40) 1) y n (W.1 (20, 0, 40) 8) W) (20, 0, s) 9 (W.1 (20, 0, 40) 9) := by
  unfold sReply
  rw [hs]
  rfl
theorem m_answersBack {y n s : Nat} {x2 : Int32} (h : mR τ0 τ W) (hH : mHd (τ0.1 (109, 0, 0)) W) (a : yA W 0) (hB : ∀ z i, W.1 z i < 50000) (hk : W.1 (20, 0, 40) 2 < W.1 (0, 0, 0) 3) (hs : sEmp W = some s) (hy : y ≤ 1) (hx : x2 = nI y) : ∃ τ', fM_answersBack (nI (W.1 (20, 0, 40) 2)) x2 (nI n) τ = some (1, τ') ∧ mR τ0 τ' (sReply 3 y n W) := by
  have s40 := (sEmp_lt hs).1
  have mh := m_hand h hH
  refine ⟨z_upR τ (103, 0, 0) (upd (zNew s (nI 3) (nI (W.1 (20, 0, 40) 2)) (nI (W.1 (20, 0, 40) 1)) (nI (W.1 (10, 0, W.1 (20, 0, 40) 2) 2)) (nI y) (nI n) (al τ)) (2240 + 64 * s + 8) (nI (W.1 (20, 0, 40) 8))), ?_, ?_⟩
  rotate_left
  · rw [sReply_s hs]
    exact mR_fr (yFr_9 _ _ _ _) <| mR_let (s := s) (kd := 3) (a := W.1 (20, 0, 40) 2) (b := W.1 (20, 0, 40) 1) (y := y) (n := n) (r := W.1 (20, 0, 40) 8) h a s40 (by decide)
  · have go : ∀ t4, t4 = nI y → fM_answersBack_18 (nI n) 3 (nI (W.1 (20, 0, 40) 2)) (τ.1 (109, 0, 0) 1) t4 τ = some (1, z_upR τ (103, 0, 0) (upd (zNew s (nI 3) (nI (W.1 (20, 0, 40) 2)) (nI (W.1 (20, 0, 40) 1)) (nI (W.1 (10, 0, W.1 (20, 0, 40) 2) 2)) (nI y) (nI n) (al τ)) (2240 + 64 * s + 8) (nI (W.1 (20, 0, 40) 8)))) := fun t4 ht => by
      unfold fM_answersBack_18
      rw [mh.1, ht, show (3 : Int32) = nI 3 from by decide +kernel, m_sends h hB hs hk, z_bde, show (8 : Int32) = nI 8 from by decide +kernel, (z_upR_o (109, 0, 0) (by decide)).1, mh.2.2.2.2.2.2.2, eM_putSlot _ _ s40 (by decide), z_up_R, z_bde]
    unfold fM_answersBack
    rw [hx]
    by_cases c : y = 0
    · rw [if_pos (by rw [c, nI_0])]
      exact go 0 (by rw [c, nI_0])
    · have c1 : y = 1 := by omega
      rw [if_neg (by rw [c1]; decide +kernel)]
      exact go 1 (by rw [c1]; decide +kernel)
theorem m_getsAsk {s : Nat} (h : mR τ0 τ W) (hH : mHd (τ0.1 (109, 0, 0)) W) (a : yA W 0) (hB : ∀ z i, W.1 z i < 40000) (hk : k < W.1 (0, 0, 0) 3) (hr : W.1 (20, 0, 40) 2 = k) (h8 : W.1 (20, 0, 40) 8 = 0) (h57 : W.1 (10, 0, k) 5 ≤ W.1 (10, 0, k) 7) (hs : sEmp W = some s) :
    (sVoteC k W → ∃ τ', fM_getsAsk (nI k) τ = some (1, τ') ∧ mR τ0 τ' (sReply 1 1 0 (yI W (10, 0, k) 3 (W.1 (20, 0, 40) 1 + 1)))) ∧ (¬ sVoteC k W → ∃ τ', fM_getsAsk (nI k) τ = some (1, τ') ∧ mR τ0 τ' (sReply 1 0 0 W)) := by
  have hB5 : ∀ z i, W.1 z i < 50000 := fun z i => by have := hB z i; omega
  have mh := m_hand h hH
  have mo := m_of h hk
  have b3 := hB (10, 0, k) 3
  have b2 := hB (10, 0, k) 2
  have b7 := hB (10, 0, k) 7
  have c1 := hB (20, 0, 40) 1
  have c3 := hB (20, 0, 40) 3
  have c4 := hB (20, 0, 40) 4
  have c5 := hB (20, 0, 40) 5
  have tm := m_termOf (e := W.1 (10, 0, k) 7) h hB5 hk h57 (Nat.le_refl _) (a.2.1 k)
  have tb : sTm W k (W.1 (10, 0, k) 7) < 40000 := by
    unfold sTm
    split
    · exact hB _ _
    · exact hB _ _
  obtain ⟨tn, en, hn⟩ := m_letter (s := s) (kd := 1) (a := k) (b := W.1 (20, 0, 40) 1) (y := 0) (n := 0) h hB5 a hs hk (by decide)
  rw [show nI 1 = 1 from by decide +kernel, nI_0] at en
  have rn : sReply 1 0 0 W = yI (sLet s 1 k (W.1 (20, 0, 40) 1) 0 0 0 W) (20, 0, s) 9 (W.1 (20, 0, 40) 9) := by rw [sReply_s hs, hr, h8]
  have hn := mR_fr (yFr_9 _ 0 s (W.1 (20, 0, 40) 9)) hn
  rw [← rn] at hn
  obtain ⟨tv, ev, hv⟩ := mw_vote (v := W.1 (20, 0, 40) 1 + 1) (x := nI (W.1 (20, 0, 40) 1)) h a hk (by rw [iI_nat]; congr 1; omega)
  have es : sEmp (yI W (10, 0, k) 3 (W.1 (20, 0, 40) 1 + 1)) = some s := by
    rw [sEmp_c (W := W) (fun j => yI_z _ _ (by simp))]
    exact hs
  obtain ⟨ty, ey, hy⟩ := m_letter (s := s) (kd := 1) (a := k) (b := W.1 (20, 0, 40) 1) (y := 1) (n := 0) hv (fun z i => by
    have := hB z i
    rw [yI_at]
    split
    · omega
    · omega) (yA_I a (by simp)) es (by rw [yI_z _ _ (by simp)]; exact hk) (by decide)
  rw [show nI 1 = 1 from by decide +kernel, nI_0] at ey
  have ry : sReply 1 1 0 (yI W (10, 0, k) 3 (W.1 (20, 0, 40) 1 + 1)) = yI (sLet s 1 k (W.1 (20, 0, 40) 1) 1 0 0 (yI W (10, 0, k) 3 (W.1 (20, 0, 40) 1 + 1))) (20, 0, s) 9 (W.1 (20, 0, 40) 9) := by
    rw [sReply_s es, yI_z _ _ (by simp), yI_z _ _ (by simp), yI_z _ _ (by simp), yI_z _ _ (by simp), hr, h8]
  have hy := mR_fr (yFr_9 _ 0 s (W.1 (20, 0, 40) 9)) hy
  rw [← ry] at hy
  -- no
  have no : ∀ (x2 : Int32), x2 = nI (W.1 (20, 0, 40) 1) → fM_getsAsk_125 (nI k) x2 τ = some (1, tn) := fun x2 e => by
    unfold fM_getsAsk_125 fM_getsAsk_126 fM_getsAsk_140
    rw [if_pos rfl, if_pos rfl, e, en, z_bde]
  have yes : ∀ (x2 : Int32), x2 = nI (W.1 (20, 0, 40) 1) → fM_getsAsk_126 (nI k) x2 1 τ = some (1, ty) := fun x2 e => by
    unfold fM_getsAsk_126 fM_getsAsk_140
    rw [if_neg (by decide), e, ev, z_bde, if_neg (by decide), ey, z_bde]
  -- the last gate
  have g86 : ∀ (x2 x4 t0 : Int32), x2 = nI (W.1 (20, 0, 40) 1) → fM_getsAsk_86 (nI k) x2 x4 t0 τ = some (1, if W.1 (10, 0, k) 0 ≠ 0 ∧ W.1 (10, 0, k) 2 = W.1 (20, 0, 40) 3 ∧ x4 ≠ 0 ∧ t0 = 0 then ty else tn) := fun x2 x4 t0 e => by
    unfold fM_getsAsk_86
    rw [m_isVoter h hk, z_bde]
    by_cases d0 : W.1 (10, 0, k) 0 = 0
    · rw [if_pos d0, if_pos rfl, no x2 e, if_neg (fun q => q.1 d0)]
    · rw [if_neg d0, if_neg (by decide), mo.1, z_bde, mh.2.2.1]
      by_cases d2 : W.1 (10, 0, k) 2 = W.1 (20, 0, 40) 3
      · rw [if_pos (by rw [d2])]
        by_cases d4 : x4 = 0
        · rw [if_pos d4, no x2 e, if_neg (fun q => q.2.2.1 d4)]
        · rw [if_neg d4]
          by_cases d5 : t0 = 0
          · rw [if_pos d5, yes x2 e, if_pos ⟨d0, d2, d4, d5⟩]
          · rw [if_neg d5, no x2 e, if_neg (fun q => d5 q.2.2.2)]
      · rw [if_neg (fun q => d2 ((nI_eq (by omega) (by omega)).mp q)), no x2 e, if_neg (fun q => d2 q.2.1)]
  have g39 : ∀ (x2 t0 : Int32), x2 = nI (W.1 (20, 0, 40) 1) → fM_getsAsk_39 (nI k) x2 (nI (W.1 (10, 0, k) 7)) t0 τ = some (1, if W.1 (10, 0, k) 0 ≠ 0 ∧ W.1 (10, 0, k) 2 = W.1 (20, 0, 40) 3 ∧ t0 ≠ 0 ∧ ¬ (W.1 (20, 0, 40) 5 < sTm W k (W.1 (10, 0, k) 7) ∨ (sTm W k (W.1 (10, 0, k) 7) = W.1 (20, 0, 40) 5 ∧ W.1 (20, 0, 40) 4 < W.1 (10, 0, k) 7)) then ty else tn) := fun x2 t0 e => by
    unfold fM_getsAsk_39 fM_getsAsk_81 fM_getsAsk_85
    rw [tm, z_bde, mh.2.2.2.2.1]
    by_cases d1 : W.1 (20, 0, 40) 5 < sTm W k (W.1 (10, 0, k) 7)
    · rw [if_pos (nI_lt d1 (by omega)), g86 x2 t0 1 e, if_neg (fun q => absurd q.2.2.2 (by decide)), if_neg (fun q => q.2.2.2 (Or.inl d1))]
    · rw [if_neg (nI_nlt (by omega) (by omega)), tm, z_bde, mh.2.2.2.2.1]
      by_cases d2 : sTm W k (W.1 (10, 0, k) 7) = W.1 (20, 0, 40) 5
      · rw [if_pos (by rw [d2]), mh.2.2.2.1]
        by_cases d3 : W.1 (10, 0, k) 7 ≤ W.1 (20, 0, 40) 4
        · rw [if_pos (nI_le d3 (by omega)), g86 x2 t0 0 e]
          have : ¬ (W.1 (20, 0, 40) 5 < sTm W k (W.1 (10, 0, k) 7) ∨ (sTm W k (W.1 (10, 0, k) 7) = W.1 (20, 0, 40) 5 ∧ W.1 (20, 0, 40) 4 < W.1 (10, 0, k) 7)) := by omega
          simp only [this, not_false_eq_true, and_true]
        · rw [if_neg (nI_ge (by omega) (by omega)), g86 x2 t0 1 e, if_neg (fun q => absurd q.2.2.2 (by decide)), if_neg (fun q => q.2.2.2 (Or.inr ⟨d2, by omega⟩))]
      · rw [if_neg (fun q => d2 ((nI_eq (by omega) (by omega)).mp q)), g86 x2 t0 0 e]
        have : ¬ (W.1 (20, 0, 40) 5 < sTm W k (W.1 (10, 0, k) 7) ∨ (sTm W k (W.1 (10, 0, k) 7) = W.1 (20, 0, 40) 5 ∧ W.1 (20, 0, 40) 4 < W.1 (10, 0, k) 7)) := by omega
        simp only [this, not_false_eq_true, and_true]
  have all : fM_getsAsk (nI k) τ = some (1, if (W.1 (10, 0, k) 3 = 0 ∨ W.1 (10, 0, k) 3 = W.1 (20, 0, 40) 1 + 1) ∧ W.1 (10, 0, k) 0 ≠ 0 ∧ W.1 (10, 0, k) 2 = W.1 (20, 0, 40) 3 ∧ ¬ (W.1 (20, 0, 40) 5 < sTm W k (W.1 (10, 0, k) 7) ∨ (sTm W k (W.1 (10, 0, k) 7) = W.1 (20, 0, 40) 5 ∧ W.1 (20, 0, 40) 4 < W.1 (10, 0, k) 7)) then ty else tn) := by
    unfold fM_getsAsk fM_getsAsk_34
    rw [z_let, mh.1, mo.2.2.2.2.1, z_bde, mo.2.1, z_bde]
    by_cases d1 : W.1 (10, 0, k) 3 = 0
    · rw [if_pos (by rw [yV1 (by omega)]; exact d1), g39 _ 1 rfl]
      simp only [d1, true_or, true_and, ne_eq, show ¬ ((1 : Int32) = 0) from by decide, not_false_eq_true]
    · rw [if_neg (by rw [yV1 (by omega)]; exact d1), mo.2.1, z_bde]
      by_cases d2 : W.1 (10, 0, k) 3 = W.1 (20, 0, 40) 1 + 1
      · rw [if_pos (by rw [yV2 (by omega) (by omega)]; exact d2), g39 _ 1 rfl]
        simp only [d2, or_true, true_and, ne_eq, show ¬ ((1 : Int32) = 0) from by decide, not_false_eq_true]
      · rw [if_neg (by rw [yV2 (by omega) (by omega)]; exact d2), g39 _ 0 rfl]
        simp only [d1, d2, or_self, false_and, ne_eq, not_true_eq_false, and_false]
  unfold sVoteC sAhead
  refine ⟨fun hc => ⟨ty, ?_, hy⟩, fun hc => ⟨tn, ?_, hn⟩⟩
  · rw [all, if_pos hc]
  · rw [all, if_neg hc]
theorem m_getsBallot (h : mR τ0 τ W) (hH : mHd (τ0.1 (109, 0, 0)) W) (a : yA W 0) (hE : yEn W) (hB : ∀ z i, W.1 z i < 35000) (hk : k < W.1 (0, 0, 0) 3) (hf : W.1 (20, 0, 40) 1 < 7) (h9 : W.1 (10, 0, k) 9 < 128) (hr : W.1 (10, 0, k) 4 ≤ 2) (h1 : W.1 (20, 0, 40) 4 ≤ 1) (h5 : W.1 (10, 0, k) 5 ≤ W.1 (10, 0, k) 8) (ht : W.1 (10, 0, k) 4 = 1 → ∀ e, W.1 (10, 0, k) 8 < e → e ≤ W.1 (10, 0, k) 7 → sTm W k e ≠ W.1 (10, 0, k) 2) : ∃ τ', fM_getsBallot (nI k) τ = some (0, τ') ∧ mR τ0 τ' (sBallot k W) := by
  have hN := mR_N h
  have mh := m_hand h hH
  have mo := m_of h hk
  have b2 := hB (10, 0, k) 2
  have c3 := hB (20, 0, 40) 3
  unfold fM_getsBallot sBallot
  rw [mo.2.2.2.2.2.1, z_bde]
  by_cases d1 : W.1 (10, 0, k) 4 = 1
  · rw [if_pos (by rw [d1]; decide +kernel), mo.1, z_bde, mh.2.2.1]
    by_cases d2 : W.1 (10, 0, k) 2 = W.1 (20, 0, 40) 3
    · rw [if_pos (by rw [d2]), mh.2.2.2.1]
      by_cases d3 : W.1 (20, 0, 40) 4 = 1
      · rw [if_neg (by rw [d3]; decide +kernel), if_pos ⟨d1, d2, d3⟩, m_of7 h hk (by omega), z_bde, mh.1, y_or _ h9 _ hf]
        obtain ⟨t1, e1, h1'⟩ := mw_ballots (v := W.1 (10, 0, k) 9 ||| 2 ^ W.1 (20, 0, 40) 1) h a hk
        have lt := y_or_lt _ h9 _ hf
        obtain ⟨t2, e2, h2⟩ := m_leads (k := k) h1' (fun z i => by
          have := hB z i
          rw [yI_at]
          split
          · omega
          · omega) (yEn_I hE (by simp) (by simp)) (yA_I a (by simp)) (by rw [yI_z _ _ (by simp)]; exact hk) (by rw [yI_i _ _ (by decide)]; exact d1) (by rw [yI_s]; exact lt) (by rw [yI_i _ _ (by decide), yI_i _ _ (by decide)]; exact h5) (fun e x1 x2 => by
          rw [yI_i _ _ (by decide)] at x1 x2 ⊢
          have es : sTm (yI W (10, 0, k) 9 (W.1 (10, 0, k) 9 ||| 2 ^ W.1 (20, 0, 40) 1)) k e = sTm W k e := by
            unfold sTm
            simp only [yI_at, yCp_at, yRow_1, yR_1, Prod.mk.injEq, and_true, true_and, and_self, false_and, and_false, if_true, if_false, ne_eq, not_true_eq_false, not_false_eq_true, yLit, Nat.succ_ne_zero, reduceCtorEq, Nat.reduceEqDiff, ↓reduceIte]
          rw [es]
          exact ht d1 e x1 x2)
        exact ⟨t2, by rw [e1, z_bde, e2, z_bde], h2⟩
      · exact ⟨τ, by rw [if_pos (by rw [show W.1 (20, 0, 40) 4 = 0 by omega, nI_0])], by rw [if_neg (fun q => d3 q.2.2)]; exact h⟩
    · exact ⟨τ, by rw [if_neg (fun q => d2 ((nI_eq (by omega) (by omega)).mp q))], by rw [if_neg (fun q => d2 q.2.1)]; exact h⟩
  · exact ⟨τ, by rw [if_neg (by rw [show (1 : Int32) = nI 1 from by decide +kernel]; exact fun q => d1 ((nI_eq (by omega) (by decide)).mp q))], by rw [if_neg (fun q => d1 q.1)]; exact h⟩
end mgets
