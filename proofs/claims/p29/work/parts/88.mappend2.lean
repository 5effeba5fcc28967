/-! the model: append, all of it -/
theorem yI_b {W : yW} {z : zJ} {i v b : Nat} (h : ∀ z i, W.1 z i < b) (hv : v < b) : ∀ z' i', (yI W z i v).1 z' i' < b := fun z' i' => by
  rw [yI_at]
  split
  · exact hv
  · exact h z' i'
theorem yCp_b {W : yW} {a a' : zJ} {p q n b : Nat} (h : ∀ z i, W.1 z i < b) : ∀ z' i', (yCp W a a' p q n).1 z' i' < b := fun z' i' => by
  rw [yCp_at]
  split
  · exact h _ _
  · exact h _ _
theorem sWrite_b {W : yW} {s kd a c t b : Nat} (h : ∀ z i, W.1 z i < b) (h0 : kd + 1 < b) (h1 : a < b) (h2 : c < b) (h3 : t < b) : ∀ z i, (sWrite s kd a c t W).1 z i < b := sWrite_b0 h h0 h1 h2 h3
theorem sPut_b {k s x b : Nat} : ∀ (m i : Nat) (V : yW), (∀ z j, V.1 z j < b) → i + m < b → ∀ z j, (sPut k s x m i V).1 z j < b := by
  intro m
  induction m with
  | zero => intro i V h _; exact h
  | succ m ih =>
    intro i V h hb
    exact ih (i + 1) _ (yI_b (yCp_b h) (by omega)) (by omega)
theorem sTm_b {W : yW} {k e b : Nat} (h : ∀ z i, W.1 z i < b) : sTm W k e < b := by
  unfold sTm
  split
  · exact h _ _
  · exact h _ _
theorem sSend_b {W : yW} {k o s b : Nat} (h : ∀ z i, W.1 z i < b) (h7 : k < 7) (o7 : o < 7) (hb : 10 < b) : ∀ z i, (sSend k o s W).1 z i < b + 1 := by
  have h' : ∀ z i, W.1 z i < b + 1 := fun z i => by have := h z i; omega
  have q := fun kd (hk : kd < 9) => sWrite_b (s := s) (kd := kd) (a := k) (c := o) (t := W.1 (10, 0, k) 2) h' (by omega) (by omega) (by omega) (h' _ _)
  have r := h (10, 0, k) 10
  have x := h (16, 0, k) o
  unfold sSend
  split
  · exact yCp_b (yI_b (yI_b (yI_b (yI_b (q 4 (by decide)) (by omega)) (by omega)) (h' _ _)) (h' _ _))
  · exact sPut_b _ _ _ (yI_b (yI_b (yI_b (yI_b (yI_b (q 2 (by decide)) (by omega)) (by omega)) (by omega)) (sTm_b h')) (h' _ _)) (by omega)
section mappend2
variable {τ0 τ : zS} {W : yW} {k : Nat}
theorem m_append {o s : Nat} (h : mR τ0 τ W) (a : yA W 0) (hE : yEn W) (hB : ∀ z i, W.1 z i < 30000) (hk : k < W.1 (0, 0, 0) 3) (ho : o < W.1 (0, 0, 0) 3) (hne : k ≠ o) (hf : W.1 (10, 0, k) 1 = 0) (hr : W.1 (10, 0, k) 4 = 2) (h5 : W.1 (10, 0, k) 5 ≤ W.1 (10, 0, k) 8) (h8 : W.1 (10, 0, k) 8 ≤ W.1 (10, 0, k) 7) (h1 : 1 ≤ W.1 (16, 0, k) o) (hnx : W.1 (16, 0, k) o ≤ W.1 (10, 0, k) 7 + 1) (hs : sEmp W = some s) (hset : ∀ x, W.1 (10, 0, k) 8 < x → x ≤ W.1 (10, 0, k) 7 → sSetP k W x = false) : ∃ τ', fM_append (nI k) (nI o) τ = some (nI s, τ') ∧ mR τ0 τ' (sSend k o s W) := by
  have hN := mR_N h
  have k7 : k < 7 := by omega
  have hB5 : ∀ z i, W.1 z i < 50000 := fun z i => by have := hB z i; omega
  have s40 := (sEmp_lt hs).1
  have b16 := hB (16, 0, k) o
  have b5 := hB (10, 0, k) 5
  have b7 := hB (10, 0, k) 7
  have b8 := hB (10, 0, k) 8
  have l40 := a.2.1 k
  have mo := m_of h hk
  obtain ⟨V, eV⟩ : ∃ V, V = yI W (10, 0, k) 10 (W.1 (10, 0, k) 10 + 1) := ⟨_, rfl⟩
  obtain ⟨t1, e1, m1⟩ := mw_round (v := W.1 (10, 0, k) 10 + 1) h a hk
  rw [← eV] at m1
  have aV : yA V 0 := by rw [eV]; exact yA_I a (by simp)
  have vz : ∀ (z : zJ) f, ¬ (z = (10, 0, k) ∧ f = 10) → V.1 z f = W.1 z f := fun z f hz => by rw [eV, yI_n _ _ hz]
  have vr : V.2 = W.2 := by rw [eV]; rfl
  have v10 : V.1 (10, 0, k) 10 = W.1 (10, 0, k) 10 + 1 := by rw [eV, yI_s]
  have hkV : k < V.1 (0, 0, 0) 3 := by rw [vz _ _ (by simp)]; exact hk
  have BV : ∀ z i, V.1 z i < 50000 := fun z i => by
    have := hB z i
    have := hB (10, 0, k) 10
    rw [eV, yI_at]
    split
    · omega
    · omega
  have hsV : sEmp V = some s := by rw [sEmp_c (W := W) (fun j => vz _ _ (by simp))]; exact hs
  have mo1 := m_of m1 hkV
  have hrV : V.1 (10, 0, k) 4 = 2 := by rw [vz _ _ (by simp)]; exact hr
  have m81 := m_of8 m1 hkV hrV
  -- settling is nothing
  have fin : ∀ (τ2 : zS) (W' : yW), mR τ0 τ2 W' → (∀ (z : zJ) f, (z.2.2 ≠ s ∨ z.1 < 20) → W'.1 z f = V.1 z f) → yA W' 0 → yEn W' → (∀ z i, W'.1 z i < 50000) → ∃ τ', z_bd (fM_settles (nI k) τ2) (fun _ σ26 => some (nI s, σ26)) = some (nI s, τ') ∧ mR τ0 τ' W' := fun τ2 W' q1 q2 q3 q4 q5 => by
    have w10 : ∀ f, f ≠ 10 → W'.1 (10, 0, k) f = W.1 (10, 0, k) f := fun f hf => by rw [q2 _ _ (by simp), vz _ _ (by simp [hf])]
    have w00 : ∀ j, W'.1 (10, 0, j) 0 = W.1 (10, 0, j) 0 := fun j => by rw [q2 _ _ (by simp), vz _ _ (by simp)]
    have w11 : ∀ f, W'.1 (11, 0, k) f = W.1 (11, 0, k) f := fun f => by rw [q2 _ _ (by simp), vz _ _ (by simp)]
    have w17 : ∀ f, W'.1 (17, 0, k) f = W.1 (17, 0, k) f := fun f => by rw [q2 _ _ (by simp), vz _ _ (by simp)]
    have w0 : ∀ f, W'.1 (0, 0, 0) f = W.1 (0, 0, 0) f := fun f => by rw [q2 _ _ (by simp), vz _ _ (by simp)]
    obtain ⟨t2, e2, h2⟩ := m_settles (k := k) q1 q5 q4 q3 (by rw [w0]; exact hk) (by rw [w10 4 (by decide)]; exact hr) (by rw [w10 5 (by decide), w10 8 (by decide)]; exact h5)
    rw [sSettle_no (fun x x1 x2 => by
      rw [w10 8 (by decide)] at x1
      rw [w10 7 (by decide)] at x2
      have q := hset x x1 x2
      unfold sSetP at q ⊢
      have e1 : sTm W' k x = sTm W k x := by
        unfold sTm
        rw [w10 5 (by decide), w10 6 (by decide), w11]
      have e2 : sMost W' = sMost W := by unfold sMost; rw [w0]
      have e3 : sSure k x W' = sSure k x W := by
        unfold sSure
        rw [w0]
        exact z_cnt_congr _ 0 (fun j _ _ => by rw [w00, w17])
      rw [e1, e2, e3, w10 2 (by decide)]
      exact q)] at h2
    exact ⟨t2, by rw [e2, z_bde], h2⟩
  have start : fM_append (nI k) (nI o) τ = if nI (W.1 (10, 0, k) 5) < nI (W.1 (16, 0, k) o) then fM_append_71 (nI k) (nI o) (nI (W.1 (16, 0, k) o)) 0 t1 else fM_append_71 (nI k) (nI o) (nI (W.1 (16, 0, k) o)) 1 t1 := by
    unfold fM_append
    have c12 : W.1 (10, 0, k) 1 = 0 ∧ W.1 (10, 0, k) 4 = 2 := ⟨hf, hr⟩
    have e16 := (m81.2 o (by omega)).1
    rw [vz _ _ (by simp)] at e16
    have e5 := mo1.2.2.1
    rw [vz _ _ (by simp)] at e5
    rw [m_doesLead h hk (by omega) (by omega), z_bde, if_pos c12, if_neg (by decide), m_isKeeper h ho, z_bde, if_neg (by decide), if_neg (fun q => hne ((nI_eq (by omega) (by omega)).mp q)), m_empty h hB5, hs, z_bde]
    show (if (0 : Int32) ≤ nI s then _ else _) = _
    rw [if_pos (nI_pos' (by omega)), (m_of8 h hk hr).1, z_bde, nI_1, e1, z_bde, show (50 : Int32) + nI o = nI (50 + o) from lit_nI o (by decide +kernel), e16, z_bde, e5, z_bde]
  have o8 : ∀ B : Nat → Int32, (∀ i, i < 2240 → B i = al t1 i) → fM_of (nI k) 8 (z_upR t1 (103, 0, 0) B) = some (nI (W.1 (10, 0, k) 10 + 1), z_upR t1 (103, 0, 0) B) := fun B q => by
    rw [show (8 : Int32) = nI 8 from by decide +kernel, eM_of _ k7 (by decide)]
    show some ((z_upR t1 (103, 0, 0) B).1 (103, 0, 0) (320 * k + 8), _) = _
    rw [z_upR_al, q _ (by omega)]
    have := ((m1.2.1.1 k hkV).2.2.1 hrV).1
    rw [v10] at this
    exact congrArg (fun x => some (x, _)) this
  have ps := fun (g : Nat) (gi : Int32) (hg : gi = nI g) (hg2 : g < 64) (B : Nat → Int32) (x : Int32) => show fM_putSlot (nI s) gi x (z_upR t1 (103, 0, 0) B) = some ((), z_upR t1 (103, 0, 0) (upd B (2240 + 64 * s + g) x)) from by rw [hg, eM_putSlot _ _ s40 hg2, z_up_R]
  have g10 : ((2240 : Int32) + 64 * nI s) + 10 = nI (2240 + 64 * s + 10) := by
    rw [show (2240 : Int32) = nI 2240 from by decide +kernel, show (64 : Int32) = nI 64 from by decide +kernel, show (10 : Int32) = nI 10 from by decide +kernel, pk_mul, nI_add, nI_add]
  have v2 : V.1 (10, 0, k) 2 = W.1 (10, 0, k) 2 := vz _ _ (by simp)
  rw [start]
  by_cases c : W.1 (16, 0, k) o ≤ W.1 (10, 0, k) 5
  · -- the fold
    rw [if_neg (nI_nlt c (by omega))]
    obtain ⟨f1, f2, f3, f4⟩ := sSend_f (W := W) (k := k) (o := o) (s := s) c
    have sd := m_sends (s := s) (a := k) (x1 := 4) (x3 := nI o) (x4 := nI (W.1 (10, 0, k) 5)) (x5 := nI (W.1 (10, 0, k) 6)) m1 BV hsV hkV
    rw [v2] at sd
    obtain ⟨R0, eR0⟩ : ∃ R0, R0 = zNew s 4 (nI k) (nI o) (nI (W.1 (10, 0, k) 2)) (nI (W.1 (10, 0, k) 5)) (nI (W.1 (10, 0, k) 6)) (al t1) := ⟨_, rfl⟩
    rw [← eR0] at sd
    have r0 : ∀ i, (i < 2240 + 64 * s ∨ 2240 + 64 * s + 64 ≤ i) → R0 i = al t1 i := fun i hi => by
      rw [eR0, zNew_at]
      grind
    have cp := m_copy (a := 320 * k + 10) (b := 2240 + 64 * s + 10) (c := 20) (z_upR t1 (103, 0, 0) (upd R0 (2240 + 64 * s + 8) (nI (W.1 (10, 0, k) 10 + 1)))) (Or.inr (by omega)) (by omega) (by omega)
    rw [show al (z_upR t1 (103, 0, 0) (upd R0 (2240 + 64 * s + 8) (nI (W.1 (10, 0, k) 10 + 1)))) = upd R0 (2240 + 64 * s + 8) (nI (W.1 (10, 0, k) 10 + 1)) from z_upR_al _ _, z_upR_R] at cp
    have hR : mR τ0 (z_upR t1 (103, 0, 0) (va_cpy (upd R0 (2240 + 64 * s + 8) (nI (W.1 (10, 0, k) 10 + 1))) (upd R0 (2240 + 64 * s + 8) (nI (W.1 (10, 0, k) 10 + 1))) (320 * k + 10) (2240 + 64 * s + 10) 20)) (sSend k o s W) := by
      refine mR_s m1 aV s40 (fun i hi => ?_) (fun z f hz => by rw [f2 z f hz, eV]) (fun z hz => by rw [f3 z (fun e => by rw [e] at hz; simp at hz), vr]) ?_
      · unfold va_cpy
        rw [if_neg (by omega), upd_n _ _ (by omega), r0 i (by omega)]
      · have rf : ∀ f, f < 9 → va_cpy (upd R0 (2240 + 64 * s + 8) (nI (W.1 (10, 0, k) 10 + 1))) (upd R0 (2240 + 64 * s + 8) (nI (W.1 (10, 0, k) 10 + 1))) (320 * k + 10) (2240 + 64 * s + 10) 20 (2240 + 64 * s + f) = if f = 0 then 4 else if f = 1 then nI k else if f = 2 then nI o else if f = 3 then nI (W.1 (10, 0, k) 2) else if f = 4 then nI (W.1 (10, 0, k) 5) else if f = 5 then nI (W.1 (10, 0, k) 6) else if f = 8 then nI (W.1 (10, 0, k) 10 + 1) else 0 := fun f hf => by
          unfold va_cpy upd
          rw [if_neg (by omega), eR0, zNew_at]
          rcases (show f = 0 ∨ f = 1 ∨ f = 2 ∨ f = 3 ∨ f = 4 ∨ f = 5 ∨ f = 6 ∨ f = 7 ∨ f = 8 by omega) with rfl | rfl | rfl | rfl | rfl | rfl | rfl | rfl | rfl <;> simp
        unfold mL
        rw [f1 0 (by decide)]
        refine ⟨(rf 0 (by decide)).trans (show (4 : Int32) = iI (((5 : Nat) : Int) - 1) from by decide +kernel), fun _ => ⟨fun f g1 g2 => ?_, fun e => absurd e (by simp), fun _ => ?_⟩⟩
        · rw [rf f g2, f1 f g2]
          rcases (show f = 1 ∨ f = 2 ∨ f = 3 ∨ f = 4 ∨ f = 5 ∨ f = 6 ∨ f = 7 ∨ f = 8 by omega) with rfl | rfl | rfl | rfl | rfl | rfl | rfl | rfl <;> simp [nI_0]
        · refine zl_lay_2 f4 (zl_lay_c (fun q hq => ?_) (h.2.1.1 k hk).2.2.2.2.1)
          have mk := (m1.2.1.1 k hkV)
          unfold va_cpy
          rw [if_pos (by omega), upd_n _ _ (by omega), r0 _ (by omega), show 320 * k + 10 + (2240 + 64 * s + 10 + q - (2240 + 64 * s + 10)) = 320 * k + 10 + q by omega]
          have : t1.1 (103, 0, 0) = upd (al τ) (320 * k + 8) (nI (W.1 (10, 0, k) 10 + 1)) := by
            have e1' := e1
            rw [show (8 : Int32) = nI 8 from by decide +kernel, eM_put _ _ k7 (by decide)] at e1'
            have := congrArg (fun z => (z.map (fun p => p.2.1 (103, 0, 0)))) e1'
            simp at this
            rw [← this, z_up_s]
          show t1.1 (103, 0, 0) (320 * k + 10 + q) = _
          rw [this, upd_n _ _ (by omega)]
    obtain ⟨t3, e3, h3⟩ := fin _ _ hR (fun z f hz => by rw [f2 z f hz, eV]) (by
      refine ⟨by rw [f2 _ _ (by simp), ← eV]; exact aV.1, fun j => by rw [f2 _ _ (by simp), f2 _ _ (by simp), ← eV]; exact aV.2.1 j, fun j => ?_, by rw [f2 _ _ (by simp), ← eV]; exact aV.2.2.2⟩
      by_cases ej : j = s
      · rw [ej, f1 0 (by decide)]; intro e; simp at e
      · rw [f2 _ _ (by simp [ej]), f2 _ _ (by simp [ej]), ← eV]; exact aV.2.2.1 j) (fun w j i => by
      have q := hE w j i
      unfold sSend
      rw [if_pos c]
      have n : ∀ (z : zJ), (z.1 = 11 ∨ z.1 = 21) → (yCp (yI (yI (yI (yI (sWrite s 4 k o (W.1 (10, 0, k) 2) W) (10, 0, k) 10 (W.1 (10, 0, k) 10 + 1)) (20, 0, s) 8 (W.1 (10, 0, k) 10 + 1)) (20, 0, s) 4 (W.1 (10, 0, k) 5)) (20, 0, s) 5 (W.1 (10, 0, k) 6)) (13, 0, k) (23, 0, s) 0 0 20).1 z i = W.1 z i := fun z hz => by
        have n1 : ∀ t x y, t ≠ 11 → t ≠ 21 → z ≠ (t, x, y) := fun t x y t1 t2 e => by rw [e] at hz; simp at hz; omega
        rw [yCp_at, if_neg (fun e => n1 23 0 s (by decide) (by decide) e.1), yI_z _ _ (n1 20 0 s (by decide) (by decide)), yI_z _ _ (n1 20 0 s (by decide) (by decide)), yI_z _ _ (n1 20 0 s (by decide) (by decide)), yI_z _ _ (n1 10 0 k (by decide) (by decide)), sWrite_at _ (n1 20 0 s (by decide) (by decide))]
      rw [n _ (Or.inl rfl), n _ (Or.inr rfl)]
      exact q) (fun z i => by have := sSend_b (o := o) (s := s) hB k7 (by omega) (by decide) z i; omega)
    refine ⟨t3, ?_, h3⟩
    unfold fM_append_71 fM_append_118
    have e5 := mo1.2.2.1
    rw [vz _ _ (by simp)] at e5
    have e6 := mo1.2.2.2.1
    rw [vz _ _ (by simp)] at e6
    rw [if_neg (by decide), e5, z_bde, e6, z_bde, sd, z_bde, o8 _ (fun i hi => r0 i (by omega)), z_bde, ps 8 8 (by decide +kernel) (by decide), z_bde, if_neg (by decide), y_320 k 10 (by decide +kernel), g10, show (20 : Int32) = nI 20 from by decide +kernel, cp, z_bde]
    exact e3
  · -- entries
    rw [if_pos (nI_lt (by omega) (by omega))]
    obtain ⟨f1, f2, f3, f4⟩ := sSend_e (W := W) (k := k) (o := o) (s := s) c
    obtain ⟨x, ex⟩ : ∃ x, x = W.1 (16, 0, k) o := ⟨_, rfl⟩
    obtain ⟨q, eq⟩ : ∃ q, q = min 5 (W.1 (10, 0, k) 7 + 1 - W.1 (16, 0, k) o) := ⟨_, rfl⟩
    rw [← eq] at f1 f4
    have tb : sTm W k (x - 1) < 30000 := by
      unfold sTm
      split
      · exact hB _ _
      · exact hB _ _
    have sd := m_sends (s := s) (a := k) (x1 := 2) (x3 := nI o) (x4 := nI (x - 1)) (x5 := nI (sTm W k (x - 1))) m1 BV hsV hkV
    rw [v2] at sd
    obtain ⟨R0, eR0⟩ : ∃ R0, R0 = zNew s 2 (nI k) (nI o) (nI (W.1 (10, 0, k) 2)) (nI (x - 1)) (nI (sTm W k (x - 1))) (al t1) := ⟨_, rfl⟩
    rw [← eR0] at sd
    have r0 : ∀ i, (i < 2240 + 64 * s ∨ 2240 + 64 * s + 64 ≤ i) → R0 i = al t1 i := fun i hi => by
      rw [eR0, zNew_at]
      grind
    obtain ⟨R2, eR2⟩ : ∃ R2, R2 = upd (upd (upd R0 (2240 + 64 * s + 8) (nI (W.1 (10, 0, k) 10 + 1))) (2240 + 64 * s + 6) (nI q)) (2240 + 64 * s + 7) (nI (W.1 (10, 0, k) 8)) := ⟨_, rfl⟩
    have r2 : ∀ i, (i < 2240 + 64 * s ∨ 2240 + 64 * s + 64 ≤ i) → R2 i = al t1 i := fun i hi => by
      rw [eR2, upd_n _ _ (by omega), upd_n _ _ (by omega), upd_n _ _ (by omega), r0 i hi]
    obtain ⟨R, eR⟩ : ∃ R, R = va_cpy R2 R2 (320 * k + 80 + 6 * (x - W.1 (10, 0, k) 5 - 1)) (2240 + 64 * s + 10) (6 * q) := ⟨_, rfl⟩
    have hK1 := m1.2.1.1 k hkV
    have hR : mR τ0 (z_upR t1 (103, 0, 0) R) (sSend k o s W) := by
      refine mR_s m1 aV s40 (fun i hi => ?_) (fun z f hz => by rw [f2 z f hz, eV]) (fun z hz => by rw [f3 z (fun e => by rw [e] at hz; simp at hz), vr]) ?_
      · rw [eR]
        unfold va_cpy
        rw [if_neg (by omega), r2 i (by omega)]
      · have rf : ∀ f, f < 9 → R (2240 + 64 * s + f) = if f = 0 then 2 else if f = 1 then nI k else if f = 2 then nI o else if f = 3 then nI (W.1 (10, 0, k) 2) else if f = 4 then nI (x - 1) else if f = 5 then nI (sTm W k (x - 1)) else if f = 6 then nI q else if f = 7 then nI (W.1 (10, 0, k) 8) else nI (W.1 (10, 0, k) 10 + 1) := fun f hf => by
          rw [eR]
          unfold va_cpy
          rw [if_neg (by omega), eR2]
          unfold upd
          rw [eR0, zNew_at]
          rcases (show f = 0 ∨ f = 1 ∨ f = 2 ∨ f = 3 ∨ f = 4 ∨ f = 5 ∨ f = 6 ∨ f = 7 ∨ f = 8 by omega) with rfl | rfl | rfl | rfl | rfl | rfl | rfl | rfl | rfl <;> simp
        unfold mL
        rw [f1 0 (by decide), f1 6 (by decide)]
        refine ⟨(rf 0 (by decide)).trans (show (2 : Int32) = iI (((3 : Nat) : Int) - 1) from by decide +kernel), fun _ => ⟨fun f g1 g2 => ?_, fun _ j hj => ?_, fun e => absurd e (by simp)⟩⟩
        · rw [rf f g2, f1 f g2, ← ex]
          rcases (show f = 1 ∨ f = 2 ∨ f = 3 ∨ f = 4 ∨ f = 5 ∨ f = 6 ∨ f = 7 ∨ f = 8 by omega) with rfl | rfl | rfl | rfl | rfl | rfl | rfl | rfl <;> simp
        · have hj : j < 6 * q := hj
          obtain ⟨g1, g2⟩ := f4 j hj
          have en : (cE (sSend k o s W)).1 (21, 0, s) j = (cE W).1 (11, 0, k) (6 * (x - W.1 (10, 0, k) 5 - 1) + j) := by
            rw [cE_at, cE_at, g1, g2, ← ex]
            have : ye 21 j = ye 11 (6 * (x - W.1 (10, 0, k) 5 - 1) + j) := by
              show (if j % 6 = 5 then 0 else 1) = (if (6 * (x - W.1 (10, 0, k) 5 - 1) + j) % 6 = 5 then 0 else 1)
              by_cases c : j % 6 = 5
              · rw [if_pos c, if_pos (by omega)]
              · rw [if_neg c, if_neg (by omega)]
            show yc (ye 21 j) _ _ = yc (ye 11 _) _ _
            rw [this]
          have mk := hK1.2.2.2.1 (6 * (x - W.1 (10, 0, k) 5 - 1) + j) (by rw [vz _ _ (by simp), vz _ _ (by simp)]; omega)
          rw [en, eR]
          unfold va_cpy
          rw [if_pos (by omega), r2 _ (by omega), show 320 * k + 80 + 6 * (x - W.1 (10, 0, k) 5 - 1) + (2240 + 64 * s + 10 + j - (2240 + 64 * s + 10)) = 320 * k + 80 + (6 * (x - W.1 (10, 0, k) 5 - 1) + j) by omega, mk, eV, yc_I11]
    obtain ⟨t3, e3, h3⟩ := fin _ _ hR (fun z f hz => by rw [f2 z f hz, eV]) (by
      refine ⟨by rw [f2 _ _ (by simp), ← eV]; exact aV.1, fun j => by rw [f2 _ _ (by simp), f2 _ _ (by simp), ← eV]; exact aV.2.1 j, fun j => ?_, by rw [f2 _ _ (by simp), ← eV]; exact aV.2.2.2⟩
      by_cases ej : j = s
      · rw [ej, f1 6 (by decide)]; intro _; simp; omega
      · rw [f2 _ _ (by simp [ej]), f2 _ _ (by simp [ej]), ← eV]; exact aV.2.2.1 j) (fun w j i => by
      have qq := hE w j i
      have n11 : (sSend k o s W).1 (11, w, j) i = W.1 (11, w, j) i := by rw [f2 _ _ (by simp), yI_z _ _ (by simp)]
      rw [n11]
      by_cases e21 : ((21, w, j) : zJ) = (21, 0, s)
      · rw [e21]
        unfold sSend
        rw [if_neg c, sPut_at _ _ _ _ _ _ _ _ (by simp only [sWrite_at _ (show ((10, 0, k) : zJ) ≠ (20, 0, s) by simp), yI_at, yCp_at, yRow_1, yR_1, Prod.mk.injEq, and_true, true_and, and_self, false_and, and_false, if_true, if_false, ne_eq, not_true_eq_false, not_false_eq_true, yLit, Nat.succ_ne_zero, reduceCtorEq, Nat.reduceEqDiff, ↓reduceIte]; omega), if_neg (by simp)]
        have e5 : (yI (yI (yI (yI (yI (sWrite s 2 k o (W.1 (10, 0, k) 2) W) (10, 0, k) 10 (W.1 (10, 0, k) 10 + 1)) (20, 0, s) 8 (W.1 (10, 0, k) 10 + 1)) (20, 0, s) 4 (W.1 (16, 0, k) o - 1)) (20, 0, s) 5 (sTm W k (W.1 (16, 0, k) o - 1))) (20, 0, s) 7 (W.1 (10, 0, k) 8)).1 (10, 0, k) 5 = W.1 (10, 0, k) 5 := by
          simp only [sWrite_at _ (show ((10, 0, k) : zJ) ≠ (20, 0, s) by simp), yI_at, yCp_at, yRow_1, yR_1, Prod.mk.injEq, and_true, true_and, and_self, false_and, and_false, if_true, if_false, ne_eq, not_true_eq_false, not_false_eq_true, yLit, Nat.succ_ne_zero, reduceCtorEq, Nat.reduceEqDiff, ↓reduceIte]
        have e11 : ∀ f, (yI (yI (yI (yI (yI (sWrite s 2 k o (W.1 (10, 0, k) 2) W) (10, 0, k) 10 (W.1 (10, 0, k) 10 + 1)) (20, 0, s) 8 (W.1 (10, 0, k) 10 + 1)) (20, 0, s) 4 (W.1 (16, 0, k) o - 1)) (20, 0, s) 5 (sTm W k (W.1 (16, 0, k) o - 1))) (20, 0, s) 7 (W.1 (10, 0, k) 8)).1 (11, 0, k) f = W.1 (11, 0, k) f := fun f => by
          simp only [sWrite_at _ (show ((11, 0, k) : zJ) ≠ (20, 0, s) by simp), yI_at, yCp_at, yRow_1, yR_1, Prod.mk.injEq, and_true, true_and, and_self, false_and, and_false, if_true, if_false, ne_eq, not_true_eq_false, not_false_eq_true, yLit, Nat.succ_ne_zero, reduceCtorEq, Nat.reduceEqDiff, ↓reduceIte]
        have e21' : ∀ f, (yI (yI (yI (yI (yI (sWrite s 2 k o (W.1 (10, 0, k) 2) W) (10, 0, k) 10 (W.1 (10, 0, k) 10 + 1)) (20, 0, s) 8 (W.1 (10, 0, k) 10 + 1)) (20, 0, s) 4 (W.1 (16, 0, k) o - 1)) (20, 0, s) 5 (sTm W k (W.1 (16, 0, k) o - 1))) (20, 0, s) 7 (W.1 (10, 0, k) 8)).1 (21, 0, s) f = W.1 (21, 0, s) f := fun f => by
          simp only [sWrite_at _ (show ((21, 0, s) : zJ) ≠ (20, 0, s) by simp), yI_at, yCp_at, yRow_1, yR_1, Prod.mk.injEq, and_true, true_and, and_self, false_and, and_false, if_true, if_false, ne_eq, not_true_eq_false, not_false_eq_true, yLit, Nat.succ_ne_zero, reduceCtorEq, Nat.reduceEqDiff, ↓reduceIte]
        rw [e5, e11, e21']
        have qs := hE 0 s i
        have qk := hE 0 k (6 * (W.1 (16, 0, k) o - W.1 (10, 0, k) 5 - 1) + i)
        refine ⟨fun hi => ⟨(qq.1 hi).1, ?_⟩, fun hi => ⟨(qq.2 hi).1, ?_⟩⟩
        · split
          · exact (qk.1 (by omega)).1
          · exact (qs.1 hi).2
        · split
          · exact (qk.2 (by omega)).1
          · exact (qs.2 hi).2
      · have n21 : (sSend k o s W).1 (21, w, j) i = W.1 (21, w, j) i := by
          unfold sSend
          rw [if_neg c, sPut_at _ _ _ _ _ _ _ _ (by simp only [sWrite_at _ (show ((10, 0, k) : zJ) ≠ (20, 0, s) by simp), yI_at, yCp_at, yRow_1, yR_1, Prod.mk.injEq, and_true, true_and, and_self, false_and, and_false, if_true, if_false, ne_eq, not_true_eq_false, not_false_eq_true, yLit, Nat.succ_ne_zero, reduceCtorEq, Nat.reduceEqDiff, ↓reduceIte]; omega), if_neg (by simp), if_neg (fun e => e21 e.1)]
          simp only [sWrite_at _ (show ((21, w, j) : zJ) ≠ (20, 0, s) by simp), yI_at, yCp_at, yRow_1, yR_1, Prod.mk.injEq, and_true, true_and, and_self, false_and, and_false, if_true, if_false, ne_eq, not_true_eq_false, not_false_eq_true, yLit, Nat.succ_ne_zero, reduceCtorEq, Nat.reduceEqDiff, ↓reduceIte]
        rw [n21]
        exact qq) (fun z i => by have := sSend_b (o := o) (s := s) hB k7 (by omega) (by decide) z i; omega)
    refine ⟨t3, ?_, h3⟩
    have y20 : (nI (W.1 (10, 0, k) 7) - nI x) + 1 = nI (W.1 (10, 0, k) 7 + 1 - x) := by
      rw [iI_nat, iI_nat, iI_nat, show (1 : Int32) = iI 1 from by decide +kernel, iI_sub, iI_add]
      congr 1
      omega
    have o4 : ∀ B : Nat → Int32, (∀ i, i < 2240 → B i = al t1 i) → fM_of (nI k) 4 (z_upR t1 (103, 0, 0) B) = some (nI (W.1 (10, 0, k) 7), z_upR t1 (103, 0, 0) B) := fun B qq => by
      rw [show (4 : Int32) = nI 4 from by decide +kernel, eM_of _ k7 (by decide)]
      show some ((z_upR t1 (103, 0, 0) B).1 (103, 0, 0) (320 * k + 4), _) = _
      rw [z_upR_al, qq _ (by omega)]
      have := hK1.1.2.2.2.2.1
      rw [vz _ _ (by simp)] at this
      exact congrArg (fun x => some (x, _)) this
    have o6 : ∀ B : Nat → Int32, (∀ i, i < 2240 → B i = al t1 i) → fM_of (nI k) 6 (z_upR t1 (103, 0, 0) B) = some (nI (W.1 (10, 0, k) 8), z_upR t1 (103, 0, 0) B) := fun B qq => by
      rw [show (6 : Int32) = nI 6 from by decide +kernel, eM_of _ k7 (by decide)]
      show some ((z_upR t1 (103, 0, 0) B).1 (103, 0, 0) (320 * k + 6), _) = _
      rw [z_upR_al, qq _ (by omega)]
      have := hK1.1.2.2.2.2.2.2.1
      rw [vz _ _ (by simp)] at this
      exact congrArg (fun x => some (x, _)) this
    have f193 : fM_append_193 (nI k) (nI x) (nI s) (nI q) (z_upR t1 (103, 0, 0) (upd R0 (2240 + 64 * s + 8) (nI (W.1 (10, 0, k) 10 + 1)))) = some (nI s, t3) := by
      unfold fM_append_193
      obtain ⟨n, hz, ez⟩ := z_fu_ex
      rw [ez, ps 6 6 (by decide +kernel) (by decide), z_bde, o6 _ (fun i hi => by rw [upd_n _ _ (by omega), upd_n _ _ (by omega), r0 i (by omega)]), z_bde, ps 7 7 (by decide +kernel) (by decide), z_bde, ← eR2]
      have lp := m_append_223 (k := k) (s := s) (x := x) (c := q) t1 R2 k7 (W.1 (10, 0, k) 5) (by rw [r2 _ (by omega)]; have := hK1.1.2.2.1; rw [vz _ _ (by simp)] at this; exact this) (by omega) rfl rfl s40 (by omega) (by omega) q 0 n (by omega) (by omega)
      have e0 : va_cpy R2 R2 (320 * k + 80 + 6 * (x - W.1 (10, 0, k) 5 - 1)) (2240 + 64 * s + 10) (6 * 0) = R2 := by
        funext j
        unfold va_cpy
        rw [if_neg (by omega)]
      rw [e0, nI_0, ← eR] at lp
      rw [lp]
      exact e3
    have tm := m_termOf (e := x - 1) m1 BV hkV (by rw [vz _ _ (by simp)]; omega) (by rw [vz _ _ (by simp)]; omega) (aV.2.1 k)
    have etm : sTm V k (x - 1) = sTm W k (x - 1) := by
      unfold sTm
      rw [vz _ _ (by simp), vz _ _ (by simp), vz _ _ (by simp)]
    rw [etm] at tm
    unfold fM_append_71 fM_append_118
    rw [← ex, if_pos rfl, y_sub1 (by omega), tm, z_bde, sd, z_bde, o8 _ (fun i hi => r0 i (by omega)), z_bde, ps 8 8 (by decide +kernel) (by decide), z_bde, if_pos rfl, o4 _ (fun i hi => by rw [upd_n _ _ (by omega), r0 i (by omega)]), z_bde, z_let, y20]
    by_cases c5 : 5 ≤ W.1 (10, 0, k) 7 + 1 - x
    · rw [if_pos ((nI_le_lit (a := 5) (by decide +kernel) (by decide) (by omega)).mpr c5), show (5 : Int32) = nI q from by rw [show q = 5 by omega]; decide +kernel]
      exact f193
    · rw [if_neg (fun e => c5 ((nI_le_lit (a := 5) (by decide +kernel) (by decide) (by omega)).mp e)), show W.1 (10, 0, k) 7 + 1 - x = q by omega]
      exact f193
theorem m_appendN1 {x y : Int32} (h : mR τ0 τ W) (hx : ∀ k, k < W.1 (0, 0, 0) 3 → x ≠ nI k) : fM_append x y τ = some (-1, τ) := by
  unfold fM_append
  rw [m_noLead h hx, z_bde, if_pos rfl]
theorem m_appendN2 {y : Int32} (h : mR τ0 τ W) (hk : k < W.1 (0, 0, 0) 3) (hf : W.1 (10, 0, k) 1 ≤ 1) (hr : W.1 (10, 0, k) 4 ≤ 2) (hy : ∀ c, c < W.1 (0, 0, 0) 3 → y ≠ nI c) : fM_append (nI k) y τ = some (-1, τ) := by
  unfold fM_append
  rw [m_doesLead h hk hf hr, z_bde]
  by_cases c1 : W.1 (10, 0, k) 1 = 0 ∧ W.1 (10, 0, k) 4 = 2
  · rw [if_pos c1, if_neg (by decide), m_noKeeper h hy, z_bde, if_pos rfl]
  · rw [if_neg c1, if_pos rfl]
theorem m_appendN {o : Nat} (h : mR τ0 τ W) (hB : ∀ z i, W.1 z i < 50000) (hk : k < W.1 (0, 0, 0) 3) (ho : o < W.1 (0, 0, 0) 3) (hf : W.1 (10, 0, k) 1 ≤ 1) (hr : W.1 (10, 0, k) 4 ≤ 2) (hn : ¬ (W.1 (10, 0, k) 1 = 0 ∧ W.1 (10, 0, k) 4 = 2 ∧ k ≠ o) ∨ sEmp W = none) : fM_append (nI k) (nI o) τ = some (-1, τ) := by
  have hN := mR_N h
  unfold fM_append
  rw [m_doesLead h hk hf hr, z_bde]
  by_cases c1 : W.1 (10, 0, k) 1 = 0 ∧ W.1 (10, 0, k) 4 = 2
  · rw [if_pos c1, if_neg (by decide), m_isKeeper h ho, z_bde, if_neg (by decide)]
    by_cases c2 : k = o
    · rw [if_pos (by rw [c2])]
    · have c3 : sEmp W = none := hn.resolve_left (fun q => q ⟨c1.1, c1.2, c2⟩)
      rw [if_neg (fun q => c2 ((nI_eq (by omega) (by omega)).mp q)), m_empty h hB, c3, z_bde]
      exact if_neg (by decide +kernel)
  · rw [if_neg c1, if_pos rfl]
theorem m_askN {x : Int32} (h : mR τ0 τ W) (hx : ∀ k, k < W.1 (0, 0, 0) 3 → x ≠ nI k) : fM_ask x τ = some (-1, τ) := by
  unfold fM_ask
  rw [m_noUp h hx, z_bde, if_pos rfl]
theorem m_deliverN {x : Int32} (τ : zS) (hx : ∀ s, s < 40 → x ≠ nI s) : fM_deliver x τ = some (-1, τ) := by
  unfold fM_deliver
  rw [m_noLetter τ hx, z_bde, if_pos rfl]
theorem m_deliver0 {s : Nat} (h : mR τ0 τ W) (hB : ∀ z i, W.1 z i < 50000) (hs : s < 40) (h0 : W.1 (20, 0, s) 0 = 0) : fM_deliver (nI s) τ = some (-1, τ) := by
  unfold fM_deliver
  rw [m_hasLetter h hB hs, z_bde, if_pos h0, if_pos rfl]
end mappend2
