/-! a world as at first; the class's begin -/
theorem xInv_new {X : Nat → Nat → Nat → Nat} (h1 : X 0 0 3 ≤ 7) (h2 : X 0 0 4 = yVot (X 0 0 3) (X 10)) (h3 : X 0 0 4 = 0 → X 0 0 3 = 0) (hk : ∀ v, v < X 0 0 3 → X 10 v 0 ≤ 1 ∧ ∀ f, 1 ≤ f → f ≤ 10 → X 10 v f = 0) (hs : ∀ s, s < 40 → X 20 s 0 = 0) (h4 : X 4 0 4 = 0) : xInv X := by
  have kf : ∀ v, v < X 0 0 3 → X 10 v 1 = 0 ∧ X 10 v 2 = 0 ∧ X 10 v 3 = 0 ∧ X 10 v 4 = 0 ∧ X 10 v 5 = 0 ∧ X 10 v 6 = 0 ∧ X 10 v 7 = 0 ∧ X 10 v 8 = 0 ∧ X 10 v 9 = 0 ∧ X 10 v 10 = 0 := fun v hv => by
    have := (hk v hv).2
    exact ⟨this 1 (by decide) (by decide), this 2 (by decide) (by decide), this 3 (by decide) (by decide), this 4 (by decide) (by decide), this 5 (by decide) (by decide), this 6 (by decide) (by decide), this 7 (by decide) (by decide), this 8 (by decide) (by decide), this 9 (by decide) (by decide), this 10 (by decide) (by decide)⟩
  refine ⟨⟨h1, h2, h3⟩, fun v hv => ?_, fun s hs' e => ?_, fun i hi => by omega, fun _ _ => 0, fun _ => 0, fun _ => 0, fun _ _ => 0, fun _ _ => 0, fun _ _ _ => 0, fun _ _ => 0, fun _ _ => 0, fun _ _ => 0, ⟨?_, fun v hv => ?_, fun s hs' => ?_, fun v hv e e1 e2 => ?_⟩⟩
  · obtain ⟨f1, f2, f3, f4, f5, f6, f7, f8, f9, f10⟩ := kf v hv
    refine ⟨⟨(hk v hv).1, by omega, by omega, by omega, fun q => by omega⟩, fun _ => f9, fun _ => f10, fun q => by omega, fun j q => ?_, fun q => by omega⟩
    rw [f9, Nat.zero_testBit] at q
    cases q
  · rw [hs s hs'] at e; omega
  · refine ⟨⟨fun _ => rfl, fun _ _ => rfl, fun _ _ => rfl⟩, fun t n q1 q2 => ?_, fun _ _ _ _ _ => Nat.le_refl 0, fun t c q => ?_, fun t c q => absurd rfl q, fun t v c _ q => ?_, fun v T _ => ⟨Nat.le_refl 0, fun q => ?_⟩⟩
    · have q2 : n ≤ 0 := q2
      omega
    · have q : 0 = c + 1 := q
      omega
    · have q : 0 = c + 1 := q
      omega
    · have q : 0 < 0 := q
      omega
  · obtain ⟨f1, f2, f3, f4, f5, f6, f7, f8, f9, f10⟩ := kf v hv
    refine ⟨⟨by omega, by omega, rfl⟩, fun n q1 q2 => by omega, ⟨f3.symm, fun _ _ => rfl⟩, fun q => by omega, fun q => by omega, Or.inl f8, fun T m q1 q2 => ?_, fun t c T m q => ?_⟩
    · have q2 : m ≤ 0 := q2
      omega
    · have q : 0 = c + 1 := q
      omega
  · have e := hs s hs'
    exact ⟨by omega, fun q => absurd e q, fun q => by omega, fun q => by omega, fun q => by omega, fun q => by omega, fun q => by omega⟩
  · obtain ⟨f1, f2, f3, f4, f5, f6, f7, f8, f9, f10⟩ := kf v hv
    unfold xTm
    rw [if_pos (by omega)]
    exact f6
theorem cE_re {W : yW} {σ' : zS} (h : ∀ z : zJ, z.1 < 30 → σ'.1 z = (cE W).1 z) : σ' = cE (W.1, σ') := by
  refine yS_ext (fun z i => ?_) rfl
  by_cases c : ye z.1 i = 0
  · rw [cE_0 c]
  · have hz : z.1 < 30 := Classical.byContradiction fun q => c (by
      unfold ye
      rw [if_neg (by omega), if_neg (by omega), if_neg (by omega), if_neg (by omega)])
    rw [h z hz, cE_at, cE_at]
    unfold yc
    by_cases c1 : ye z.1 i = 1
    · rw [if_pos c1, if_pos c1]
    · rw [if_neg c1, if_neg c1]
      by_cases c2 : ye z.1 i = 2
      · rw [if_pos c2, if_pos c2]
      · exfalso
        have : ye z.1 i ≤ 2 := by unfold ye; grind
        omega
/-- a state is cleared -/
def sClr (z : zJ) (W : yW) : yW := yRow W z (fun j => if j < 20 then 0 else W.2.1 z j)
theorem x_clear_2 {t k : Nat} (ht : t = 12 ∨ t = 14) : ∀ (m i F : Nat) (W : yW), i + m = 20 → m < F → fS_clear_2 (t, 0, k) F (nI i) (cE W) = some ((), cE (yRow W (t + 1, 0, k) (fun j => if i ≤ j ∧ j < 20 then 0 else W.2.1 (t + 1, 0, k) j))) := by
  have yz : ∀ i, ye (t + 1) i = 0 := fun i => by rcases ht with rfl | rfl <;> rfl
  intro m
  induction m with
  | zero =>
    intro i F W hi hF
    obtain ⟨F, rfl⟩ : ∃ k, F = k + 1 := ⟨F - 1, by omega⟩
    rw [fS_clear_2.eq_2, if_pos ((nI_le_lit (a := 20) (by decide +kernel) (by decide) (by omega)).mpr (by omega))]
    congr 3
    refine Prod.ext rfl (yS_ext (fun z' i' => ?_) rfl)
    show W.2.1 z' i' = (if z' = (t + 1, 0, k) then _ else W.2.1 z') i'
    by_cases c : z' = (t + 1, 0, k)
    · rw [if_pos c, if_neg (by omega), c]
    · rw [if_neg c]
  | succ m ih =>
    intro i F W hi hF
    obtain ⟨F, rfl⟩ : ∃ k, F = k + 1 := ⟨F - 1, by omega⟩
    rw [fS_clear_2.eq_2, if_neg (fun hh => by have := (nI_le_lit (a := 20) (by decide +kernel) (by decide) (by omega)).mp hh; omega), if_pos (nI_inz (by omega) (by decide)), nI_clamp (by omega)]
    show fS_clear_2 (t, 0, k) F (nI i + 1) (z_up (cE W) (t + 1, 0, k) i 0) = _
    rw [nI_1, cU0 (z := (t + 1, 0, k)) (i := i) (yz i), ih (i + 1) F _ (by omega) (by omega)]
    congr 3
    refine Prod.ext rfl (yS_ext (fun z' i' => ?_) rfl)
    show (if z' = (t + 1, 0, k) then (fun j => if i + 1 ≤ j ∧ j < 20 then 0 else (z_up W.2 (t + 1, 0, k) i 0).1 (t + 1, 0, k) j) else (z_up W.2 (t + 1, 0, k) i 0).1 z') i' = (if z' = (t + 1, 0, k) then (fun j => if i ≤ j ∧ j < 20 then 0 else W.2.1 (t + 1, 0, k) j) else W.2.1 z') i'
    by_cases c : z' = (t + 1, 0, k)
    · rw [if_pos c, if_pos c]
      show (if i + 1 ≤ i' ∧ i' < 20 then 0 else (z_up W.2 (t + 1, 0, k) i 0).1 (t + 1, 0, k) i') = if i ≤ i' ∧ i' < 20 then 0 else W.2.1 (t + 1, 0, k) i'
      rw [z_up_at]
      grind
    · rw [if_neg c, if_neg c, z_up_n _ _ _ c]
theorem x_clear {t k : Nat} (ht : t = 12 ∨ t = 14) (W : yW) : fS_clear (t, 0, k) (cE W) = some ((), cE (sClr (t + 1, 0, k) W)) := by
  have := x_clear_2 (k := k) ht 20 0 z_fu W (by omega) (z_fu_big (by decide))
  rw [nI_0] at this
  unfold fS_clear
  rw [this]
  unfold sClr
  simp only [Nat.zero_le, true_and]
def sKb (i v : Nat) (W : yW) : yW := sFollow i (sClr (15, 0, i) (sClr (13, 0, i) (yI (yI (yI (yI (yI (yI (yI (yI W (10, 0, i) 0 v) (10, 0, i) 1 0) (10, 0, i) 2 0) (10, 0, i) 3 0) (10, 0, i) 5 0) (10, 0, i) 6 0) (10, 0, i) 7 0) (10, 0, i) 8 0)))
theorem x_kb {i v : Nat} (hv : v ≤ 1) (W : yW) : fK_begin 0 i (nI v) (cE W) = some ((), cE (sKb i v W)) := by
  unfold fK_begin
  rw [if_pos (by rcases (show v = 0 ∨ v = 1 by omega) with rfl | rfl <;> decide +kernel)]
  simp only [z_let, yWr]
  rw [x_clear (Or.inl rfl), z_bde, x_clear (Or.inr rfl), z_bde, x_follow, z_bde]
  rfl
theorem sKb_1 (i v : Nat) (W : yW) (z : zJ) (j : Nat) : (sKb i v W).1 z j = if z = (10, 0, i) ∧ j ≤ 10 then (if j = 0 then v else 0) else W.1 z j := by
  unfold sKb
  rw [sFollow_at]
  show (if z = (10, 0, i) ∧ (j = 4 ∨ j = 9 ∨ j = 10) then 0 else (yI (yI (yI (yI (yI (yI (yI (yI W (10, 0, i) 0 v) (10, 0, i) 1 0) (10, 0, i) 2 0) (10, 0, i) 3 0) (10, 0, i) 5 0) (10, 0, i) 6 0) (10, 0, i) 7 0) (10, 0, i) 8 0).1 z j) = _
  simp only [yI_at]
  by_cases c : z = (10, 0, i)
  · simp only [c, true_and]
    by_cases c2 : j ≤ 10
    · rcases (show j = 0 ∨ j = 1 ∨ j = 2 ∨ j = 3 ∨ j = 4 ∨ j = 5 ∨ j = 6 ∨ j = 7 ∨ j = 8 ∨ j = 9 ∨ j = 10 by omega) with rfl | rfl | rfl | rfl | rfl | rfl | rfl | rfl | rfl | rfl | rfl <;> simp
    · grind
  · simp only [c, false_and, if_false]
theorem sKb_2 (i v : Nat) (W : yW) (z : zJ) (j : Nat) : (sKb i v W).2.1 z j = if (z = (13, 0, i) ∨ z = (15, 0, i)) ∧ j < 20 then 0 else W.2.1 z j := by
  show (if z = (15, 0, i) then (fun j => if j < 20 then 0 else (if ((15, 0, i) : zJ) = (13, 0, i) then (fun j => if j < 20 then 0 else W.2.1 (13, 0, i) j) else W.2.1 (15, 0, i)) j) else (if z = (13, 0, i) then (fun j => if j < 20 then 0 else W.2.1 (13, 0, i) j) else W.2.1 z)) j = _
  by_cases c : z = (15, 0, i)
  · rw [if_pos c]
    show (if j < 20 then 0 else (if ((15, 0, i) : zJ) = (13, 0, i) then (fun j => if j < 20 then 0 else W.2.1 (13, 0, i) j) else W.2.1 (15, 0, i)) j) = _
    rw [if_neg (show ¬ ((15, 0, i) : zJ) = (13, 0, i) by simp)]
    by_cases c2 : j < 20
    · rw [if_pos c2, if_pos ⟨Or.inr c, c2⟩]
    · rw [if_neg c2, if_neg (fun q => c2 q.2), c]
  · rw [if_neg c]
    by_cases c1 : z = (13, 0, i)
    · rw [if_pos c1]
      show (if j < 20 then 0 else W.2.1 (13, 0, i) j) = _
      by_cases c2 : j < 20
      · rw [if_pos c2, if_pos ⟨Or.inl c1, c2⟩]
      · rw [if_neg c2, if_neg (fun q => c2 q.2), c1]
    · rw [if_neg c1, if_neg (fun q => q.1.elim c1 c)]
theorem x_pclear_2 : ∀ (m i F : Nat) (W : yW), i + m = 40 → m < F → ∃ W', fP_clear_2 0 F (nI i) (cE W) = some ((), cE W') ∧ (∀ z j, W'.1 z j = if z.1 = 20 ∧ z.2.1 = 0 ∧ i ≤ z.2.2 ∧ z.2.2 < 40 ∧ j = 0 then 0 else W.1 z j) ∧ W'.2 = W.2 := by
  intro m
  induction m with
  | zero =>
    intro i F W hi hF
    obtain ⟨F, rfl⟩ : ∃ k, F = k + 1 := ⟨F - 1, by omega⟩
    rw [fP_clear_2.eq_2, if_pos ((nI_le_lit (a := 40) (by decide +kernel) (by decide) (by omega)).mpr (by omega))]
    exact ⟨W, rfl, fun z j => by rw [if_neg (by omega)], rfl⟩
  | succ m ih =>
    intro i F W hi hF
    obtain ⟨F, rfl⟩ : ∃ k, F = k + 1 := ⟨F - 1, by omega⟩
    rw [fP_clear_2.eq_2, if_neg (fun hh => by have := (nI_le_lit (a := 40) (by decide +kernel) (by decide) (by omega)).mp hh; omega), if_pos (nI_inz (by omega) (by decide)), nI_clamp (by omega)]
    obtain ⟨W', e1, e2, e3⟩ := ih (i + 1) F (yI W (20, 0, i) 0 0) (by omega) (by omega)
    refine ⟨W', ?_, fun z j => ?_, e3⟩
    · show fP_clear_2 0 F (nI i + 1) (z_up (cE W) (20, 0, i) 0 (-1)) = _
      rw [nI_1, cU2m (z := (20, 0, i)) (i := 0) rfl]
      exact e1
    · rw [e2, yI_at]
      obtain ⟨z1, z2, z3⟩ := z
      simp only [Prod.mk.injEq]
      grind
theorem x_begin_23 {K : Nat} {sl : Nat → Bool} (hK : K ≤ 7) : ∀ (m i F : Nat) (W : yW), i + m = K → m < F → W.1 (0, 0, 0) 3 = K → (∀ j, j < K → W.2.1 (35, 0, 0) j = if sl j = true then 1 else 0) → ∃ W', fW_begin_23 0 F (nI i) (cE W) = some ((), cE W') ∧ (∀ z j, W'.1 z j = if z.1 = 10 ∧ z.2.1 = 0 ∧ i ≤ z.2.2 ∧ z.2.2 < K ∧ j ≤ 10 then (if j = 0 then (if sl z.2.2 = true then 0 else 1) else 0) else if z.1 = 20 ∧ z.2.1 = 0 ∧ z.2.2 < 40 ∧ j = 0 then 0 else if z = (4, 0, 0) ∧ j = 4 then 0 else W.1 z j) ∧ (∀ z j, W'.2.1 z j = if (z.1 = 13 ∨ z.1 = 15) ∧ z.2.1 = 0 ∧ i ≤ z.2.2 ∧ z.2.2 < K ∧ j < 20 then 0 else W.2.1 z j) ∧ W'.2.2 = W.2.2 := by
  intro m
  induction m with
  | zero =>
    intro i F W hi hF h3 hs
    obtain ⟨F, rfl⟩ : ∃ k, F = k + 1 := ⟨F - 1, by omega⟩
    obtain ⟨W1, e1, e2, e3⟩ := x_pclear_2 40 0 z_fu W (by omega) (z_fu_big (by decide))
    rw [nI_0] at e1
    rw [fW_begin_23.eq_2, cE_1 (z := (0, 0, 0)) (i := 3) rfl, h3, if_pos ((nI_leI (by omega) (by omega)).mpr (by omega))]
    unfold fP_clear
    rw [e1, z_bde]
    refine ⟨yI W1 (4, 0, 0) 4 0, ?_, fun z j => ?_, fun z j => ?_, by rw [yI_r, e3]⟩
    · show some ((), z_up (cE W1) (4, 0, 0) 4 0) = _
      rw [cU10 (z := (4, 0, 0)) (i := 4) rfl]
    · rw [yI_at, e2]
      obtain ⟨z1, z2, z3⟩ := z
      simp only [Prod.mk.injEq]
      grind
    · rw [yI_r, e3, if_neg (by omega)]
  | succ m ih =>
    intro i F W hi hF h3 hs
    obtain ⟨F, rfl⟩ : ∃ k, F = k + 1 := ⟨F - 1, by omega⟩
    have st : fW_begin_23 0 (F + 1) (nI i) (cE W) = fW_begin_23 0 F (nI (i + 1)) (cE (sKb i (if sl i = true then 0 else 1) W)) := by
      have r35 : (cE W).1 (35, 0, 0) i = if sl i = true then 1 else 0 := by rw [cE_0 (z := (35, 0, 0)) rfl]; exact hs i (by omega)
      rw [fW_begin_23.eq_2, cE_1 (z := (0, 0, 0)) (i := 3) rfl, h3, if_neg (fun q => by have := (nI_leI (by omega) (by omega)).mp q; omega), if_pos (nI_inz (by omega) (by decide)), if_pos (nI_inz (by omega) (by decide)), nI_clamp (by omega), r35]
      have k0 := x_kb (i := i) (v := 0) (by decide) W
      have k1 := x_kb (i := i) (v := 1) (by decide) W
      rw [nI_0] at k0
      rw [show nI 1 = 1 from by decide +kernel] at k1
      by_cases c : sl i = true
      · rw [if_pos c, if_neg (by decide), k0, z_bde, if_pos c]
        show fW_begin_23 0 F (nI i + 1) _ = _
        rw [nI_1]
      · rw [if_neg c, if_pos rfl, k1, z_bde, if_neg c]
        show fW_begin_23 0 F (nI i + 1) _ = _
        rw [nI_1]
    obtain ⟨W', e1, e2, e3, e4⟩ := ih (i + 1) F (sKb i (if sl i = true then 0 else 1) W) (by omega) (by omega) (by rw [sKb_1, if_neg (by simp)]; exact h3) (fun j hj => by rw [sKb_2, if_neg (by simp)]; exact hs j hj)
    refine ⟨W', st.trans e1, fun z j => ?_, fun z j => ?_, e4⟩
    · rw [e2, sKb_1]
      obtain ⟨z1, z2, z3⟩ := z
      simp only [Prod.mk.injEq]
      grind
    · rw [e3, sKb_2]
      obtain ⟨z1, z2, z3⟩ := z
      simp only [Prod.mk.injEq]
      grind
/-- the class's begin: W' is the world as at first -/
theorem x_begin {K : Nat} {sl : Nat → Bool} (hK : K ≤ 7) (W : yW) (h5 : W.2.1 (31, 0, 0) 5 = nI K) (hs : ∀ j, j < K → W.2.1 (35, 0, 0) j = if sl j = true then 1 else 0) : ∃ W', fW_begin 0 (cE W) = some ((), cE W') ∧ (∀ z j, W'.1 z j = if z.1 = 10 ∧ z.2.1 = 0 ∧ z.2.2 < K ∧ j ≤ 10 then (if j = 0 then (if sl z.2.2 = true then 0 else 1) else 0) else if z.1 = 20 ∧ z.2.1 = 0 ∧ z.2.2 < 40 ∧ j = 0 then 0 else if z = (4, 0, 0) ∧ j = 4 then 0 else if z = (0, 0, 0) ∧ j = 3 then K else if z = (0, 0, 0) ∧ j = 4 then z_cnt (fun i => !sl i) K 0 else W.1 z j) ∧ (∀ z j, W'.2.1 z j = if (z.1 = 13 ∨ z.1 = 15) ∧ z.2.1 = 0 ∧ z.2.2 < K ∧ j < 20 then 0 else W.2.1 z j) ∧ W'.2.2 = W.2.2 := by
  have c5 : (cE W).1 (31, 0, 0) 5 = nI K := by rw [cE_0 (z := (31, 0, 0)) rfl]; exact h5
  have cv := kC_cnt (σ := cE (yI W (0, 0, 0) 3 K)) (k := K) (sl := sl) (by rw [cE_0 (z := (31, 0, 0)) rfl, yI_r]; exact h5) hK (fun j hj => by rw [cE_0 (z := (35, 0, 0)) rfl, yI_r]; exact hs j hj) K 0 z_fu 0 (by omega) (z_fu_big (by omega))
  rw [Nat.zero_add, nI_0] at cv
  obtain ⟨W', e1, e2, e3, e4⟩ := x_begin_23 (sl := sl) hK K 0 z_fu (yI (yI W (0, 0, 0) 3 K) (0, 0, 0) 4 (z_cnt (fun i => !sl i) K 0)) (by omega) (z_fu_big (by omega)) (by rw [yI_i _ _ (by decide), yI_s]) (fun j hj => by rw [yI_r, yI_r]; exact hs j hj)
  rw [nI_0] at e1
  refine ⟨W', ?_, fun z j => ?_, fun z j => ?_, e4⟩
  · unfold fW_begin
    rw [c5, if_neg (by
      rw [show (7 : Int32) = nI 7 from by decide +kernel]
      exact nI_nlt hK (by decide)), cU1 (z := (0, 0, 0)) (i := 3) rfl]
    unfold fT_countVoters
    simp only [z_let]
    rw [cv, z_bde, cU1 (z := (0, 0, 0)) (i := 4) rfl]
    exact e1
  · rw [e2, yI_at, yI_at]
    obtain ⟨z1, z2, z3⟩ := z
    simp only [Prod.mk.injEq]
    grind
  · rw [e3]
    simp only [yI_r, Nat.zero_le, true_and]
