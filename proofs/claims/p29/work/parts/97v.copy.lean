/-! worlds are copied -/
def zCs (P : Nat → Nat → Nat → Bool) (w0 w1 : Nat) (σ : zS) : zS := (fun z i => if z.2.1 = w0 ∧ P z.1 z.2.2 i = true then σ.1 (z.1, w1, z.2.2) i else σ.1 z i, σ.2)
def pAdd (P Q : Nat → Nat → Nat → Bool) : Nat → Nat → Nat → Bool := fun t k i => P t k i || Q t k i
def pC (t k i : Nat) : Nat → Nat → Nat → Bool := fun t' k' i' => decide (t' = t) && (decide (k' = k) && decide (i' = i))
def pN (t k n : Nat) : Nat → Nat → Nat → Bool := fun t' k' i' => decide (t' = t) && (decide (k' = k) && decide (i' < n))
theorem zCs_c {P Q : Nat → Nat → Nat → Bool} {w0 w1 : Nat} {σ : zS} (h : ∀ t k i, P t k i = Q t k i) : zCs P w0 w1 σ = zCs Q w0 w1 σ := by
  unfold zCs
  simp only [h]
theorem zCs_0 {w0 w1 : Nat} {σ : zS} : zCs (fun _ _ _ => false) w0 w1 σ = σ := by
  refine yS_ext (fun z i => ?_) rfl
  show (if z.2.1 = w0 ∧ false = true then _ else σ.1 z i) = _
  rw [if_neg (by simp)]
section zcopy
variable {P : Nat → Nat → Nat → Bool} {w0 w1 : Nat} {σ : zS}
theorem zCs_r (hw : w0 ≠ w1) {t k i : Nat} : (zCs P w0 w1 σ).1 (t, w1, k) i = σ.1 (t, w1, k) i := if_neg (fun q => hw q.1.symm)
theorem zCs_up (hw : w0 ≠ w1) (t k i : Nat) : z_up (zCs P w0 w1 σ) (t, w0, k) i ((zCs P w0 w1 σ).1 (t, w1, k) i) = zCs (pAdd P (pC t k i)) w0 w1 σ := by
  rw [zCs_r hw]
  refine yS_ext (fun z' i' => ?_) rfl
  rw [z_up_at]
  obtain ⟨z1, z2, z3⟩ := z'
  show (if ((z1, z2, z3) : zJ) = (t, w0, k) ∧ i' = i then σ.1 (t, w1, k) i else if z2 = w0 ∧ P z1 z3 i' = true then σ.1 (z1, w1, z3) i' else σ.1 (z1, z2, z3) i') = if z2 = w0 ∧ (P z1 z3 i' || (decide (z1 = t) && (decide (z3 = k) && decide (i' = i)))) = true then σ.1 (z1, w1, z3) i' else σ.1 (z1, z2, z3) i'
  by_cases c : z1 = t ∧ z3 = k ∧ i' = i
  · obtain ⟨rfl, rfl, rfl⟩ := c
    by_cases c2 : z2 = w0
    · subst c2; simp
    · simp [c2]
  · have e : (decide (z1 = t) && (decide (z3 = k) && decide (i' = i))) = false := by
      simp
      intro a1 a2 a3
      exact c ⟨a1, a2, a3⟩
    rw [e, Bool.or_false, if_neg (fun q => by
      have q1 := q.1
      simp only [Prod.mk.injEq] at q1
      exact c ⟨q1.1, q1.2.2, q.2⟩)]
theorem zCs_cp (hw : w0 ≠ w1) (t k : Nat) {n : Nat} {N : Int32} (hN : N.toNatClampNeg = n) : z_cpR (zCs P w0 w1 σ) (t, w1, k) (t, w0, k) 0 0 N = zCs (pAdd P (pN t k n)) w0 w1 σ := by
  refine yS_ext (fun z' i' => ?_) rfl
  obtain ⟨z1, z2, z3⟩ := z'
  show (if ((z1, z2, z3) : zJ) = (t, w0, k) then va_cpy ((zCs P w0 w1 σ).1 (t, w1, k)) ((zCs P w0 w1 σ).1 (t, w0, k)) (0 : Int32).toNatClampNeg (0 : Int32).toNatClampNeg N.toNatClampNeg else (zCs P w0 w1 σ).1 (z1, z2, z3)) i' = if z2 = w0 ∧ (P z1 z3 i' || (decide (z1 = t) && (decide (z3 = k) && decide (i' < n)))) = true then σ.1 (z1, w1, z3) i' else σ.1 (z1, z2, z3) i'
  rw [hN, show (0 : Int32).toNatClampNeg = 0 from by decide +kernel]
  by_cases c : ((z1, z2, z3) : zJ) = (t, w0, k)
  · rw [if_pos c]
    simp only [Prod.mk.injEq] at c
    obtain ⟨rfl, rfl, rfl⟩ := c
    by_cases c2 : i' < n
    · rw [pk_cpy_in (by omega) (by omega), zCs_r hw, Nat.sub_zero, Nat.zero_add]
      simp [c2]
    · rw [pk_cpy_out (by omega)]
      have e : (decide (z1 = z1) && (decide (z3 = z3) && decide (i' < n))) = false := by simp; omega
      rw [e, Bool.or_false]
      rfl
  · rw [if_neg c]
    show (if z2 = w0 ∧ P z1 z3 i' = true then σ.1 (z1, w1, z3) i' else σ.1 (z1, z2, z3) i') = _
    by_cases c2 : z2 = w0
    · have e : (decide (z1 = t) && (decide (z3 = k) && decide (i' < n))) = false := by
        simp
        intro a1 a2
        exact absurd (by rw [a1, a2, c2]) c
      rw [e, Bool.or_false]
    · rw [if_neg (fun q => c2 q.1), if_neg (fun q => c2 q.1)]
theorem zCs_st (hw : w0 ≠ w1) (t k : Nat) : fS_copyFrom (t, w0, k) (t, w1, k) (zCs P w0 w1 σ) = some ((), zCs (pAdd P (pN (t + 1) k 20)) w0 w1 σ) := by
  unfold fS_copyFrom
  rw [if_pos (by decide +kernel)]
  show some ((), z_cpR (zCs P w0 w1 σ) (t + 1, w1, k) (t + 1, w0, k) 0 0 20) = _
  rw [zCs_cp hw (t + 1) k (n := 20) (by decide +kernel)]
theorem zCs_u0 (hw : w0 ≠ w1) (t k : Nat) : z_up (zCs P w0 w1 σ) (t, w0, k) 0 ((zCs P w0 w1 σ).1 (t, w1, k) 0) = zCs (pAdd P (pN t k 1)) w0 w1 σ := by
  rw [zCs_up hw]
  refine zCs_c (fun t' k' i' => ?_)
  unfold pAdd pC pN
  congr 3
  exact decide_eq_decide.mpr (by omega)
theorem zCs_un (hw : w0 ≠ w1) (t k j : Nat) : z_up (zCs (pAdd P (pN t k j)) w0 w1 σ) (t, w0, k) j ((zCs (pAdd P (pN t k j)) w0 w1 σ).1 (t, w1, k) j) = zCs (pAdd P (pN t k (j + 1))) w0 w1 σ := by
  rw [zCs_up hw]
  refine zCs_c (fun t' k' i' => ?_)
  unfold pAdd pC pN
  have e : decide (i' < j + 1) = (decide (i' < j) || decide (i' = j)) := by
    rw [Bool.eq_iff_iff]
    simp only [Bool.or_eq_true, decide_eq_true_eq]
    omega
  rw [e]
  generalize decide (t' = t) = x1
  generalize decide (k' = k) = x2
  cases x1 <;> cases x2 <;> simp only [Bool.and_false, Bool.false_and, Bool.or_false, Bool.true_and, Bool.or_assoc]
def qK (t i : Nat) : Bool := (decide (t = 10) && decide (i < 11)) || ((decide (t = 11) && decide (i < 240)) || ((decide (t = 13) && decide (i < 20)) || ((decide (t = 15) && decide (i < 20)) || ((decide (t = 16) && decide (i < 7)) || ((decide (t = 17) && decide (i < 7)) || ((decide (t = 18) && decide (i < 7)) || (decide (t = 19) && decide (i < 7))))))))
def qL (t i : Nat) : Bool := (decide (t = 20) && decide (i < 10)) || ((decide (t = 21) && decide (i < 30)) || (decide (t = 23) && decide (i < 20)))
set_option maxHeartbeats 1000000 in
theorem z_kcopy {k : Nat} (hw : w0 ≠ w1) (h0 : z_b01 (σ.1 (10, w1, k) 0) = true) (h1 : z_b01 (σ.1 (10, w1, k) 1) = true) : fK_copyFrom w0 k w1 k (zCs P w0 w1 σ) = some ((), zCs (pAdd P (fun t' k' i' => decide (k' = k) && qK t' i')) w0 w1 σ) := by
  unfold fK_copyFrom
  rw [if_pos (by rw [zCs_r hw]; exact h0), zCs_u0 hw, z_let, if_pos (by rw [zCs_r hw]; exact h1), zCs_un hw, z_let, zCs_un hw, z_let, zCs_un hw, z_let, zCs_un hw, z_let, zCs_un hw, z_let, zCs_un hw, z_let, zCs_un hw, z_let, zCs_un hw, z_let, zCs_un hw, z_let, zCs_un hw, z_let, if_pos (by decide +kernel), zCs_cp hw 11 k (n := 240) (by decide +kernel), z_let, zCs_st hw, z_bde, zCs_st hw, z_bde, if_pos (by decide +kernel), zCs_cp hw 16 k (n := 7) (by decide +kernel), z_let, if_pos (by decide +kernel), zCs_cp hw 17 k (n := 7) (by decide +kernel), z_let, if_pos (by decide +kernel), zCs_cp hw 18 k (n := 7) (by decide +kernel), z_let, if_pos (by decide +kernel), zCs_cp hw 19 k (n := 7) (by decide +kernel), z_let]
  refine congrArg (fun s => some ((), s)) (zCs_c (fun t' k' i' => ?_))
  show _ = (P t' k' i' || (decide (k' = k) && qK t' i'))
  unfold pAdd pN qK
  generalize decide (k' = k) = x2
  cases x2 <;> simp only [Bool.and_false, Bool.false_and, Bool.or_false, Bool.true_and, Bool.or_assoc, Nat.reduceAdd]
set_option maxHeartbeats 1000000 in
theorem z_lcopy {k : Nat} (hw : w0 ≠ w1) : fL_copyFrom w0 k w1 k (zCs P w0 w1 σ) = some ((), zCs (pAdd P (fun t' k' i' => decide (k' = k) && qL t' i')) w0 w1 σ) := by
  unfold fL_copyFrom
  rw [zCs_u0 hw, z_let, zCs_un hw, z_let, zCs_un hw, z_let, zCs_un hw, z_let, zCs_un hw, z_let, zCs_un hw, z_let, zCs_un hw, z_let, zCs_un hw, z_let, zCs_un hw, z_let, zCs_un hw, z_let, if_pos (by decide +kernel), zCs_cp hw 21 k (n := 30) (by decide +kernel), z_let, zCs_st hw, z_bde]
  refine congrArg (fun s => some ((), s)) (zCs_c (fun t' k' i' => ?_))
  show _ = (P t' k' i' || (decide (k' = k) && qL t' i'))
  unfold pAdd pN qL
  generalize decide (k' = k) = x2
  cases x2 <;> simp only [Bool.and_false, Bool.false_and, Bool.or_false, Bool.true_and, Bool.or_assoc, Nat.reduceAdd]
theorem z_pcopy_2 (hw : w0 ≠ w1) : ∀ (m i F : Nat) (P : Nat → Nat → Nat → Bool), i + m = 40 → m < F → fP_copyFrom_2 w0 w1 F (nI i) (zCs P w0 w1 σ) = some ((), zCs (pAdd P (fun t' k' i' => decide (i ≤ k' ∧ k' < 40) && qL t' i')) w0 w1 σ) := by
  intro m
  induction m with
  | zero =>
    intro i F P hi hF
    obtain ⟨F, rfl⟩ : ∃ k, F = k + 1 := ⟨F - 1, by omega⟩
    rw [fP_copyFrom_2.eq_2, if_pos ((nI_le_lit (a := 40) (by decide +kernel) (by decide) (by omega)).mpr (by omega))]
    refine congrArg (fun s => some ((), s)) (zCs_c (fun t' k' i' => ?_))
    show P t' k' i' = (P t' k' i' || (decide (i ≤ k' ∧ k' < 40) && qL t' i'))
    rw [decide_eq_false (by omega), Bool.false_and, Bool.or_false]
  | succ m ih =>
    intro i F P hi hF
    obtain ⟨F, rfl⟩ : ∃ k, F = k + 1 := ⟨F - 1, by omega⟩
    rw [fP_copyFrom_2.eq_2, if_neg (fun hh => by have := (nI_le_lit (a := 40) (by decide +kernel) (by decide) (by omega)).mp hh; omega), if_pos (nI_inz (by omega) (by decide)), if_pos (nI_inz (by omega) (by decide)), nI_clamp (by omega), z_lcopy hw, z_bde]
    show fP_copyFrom_2 w0 w1 F (nI i + 1) _ = _
    rw [nI_1, ih (i + 1) F _ (by omega) (by omega)]
    refine congrArg (fun s => some ((), s)) (zCs_c (fun t' k' i' => ?_))
    show ((P t' k' i' || (decide (k' = i) && qL t' i')) || (decide (i + 1 ≤ k' ∧ k' < 40) && qL t' i')) = (P t' k' i' || (decide (i ≤ k' ∧ k' < 40) && qL t' i'))
    cases P t' k' i' with
    | true => rfl
    | false =>
      cases qL t' i' with
      | false => simp
      | true =>
        rw [Bool.eq_iff_iff]
        simp only [Bool.or_eq_true, Bool.and_eq_true, decide_eq_true_eq, Bool.false_eq_true, false_or, and_true]
        omega
def qR (t k i : Nat) : Bool := pN 5 0 40 t k i || (pN 6 0 40 t k i || (pN 7 0 40 t k i || (pN 8 0 40 t k i || pC 4 0 4 t k i)))
theorem z_rcopy (hw : w0 ≠ w1) : fR_copyFrom w0 w1 (zCs P w0 w1 σ) = some ((), zCs (pAdd P qR) w0 w1 σ) := by
  unfold fR_copyFrom
  rw [if_pos (by decide +kernel), zCs_cp hw 5 0 (n := 40) (by decide +kernel), z_let, if_pos (by decide +kernel), zCs_cp hw 6 0 (n := 40) (by decide +kernel), z_let, if_pos (by decide +kernel), zCs_cp hw 7 0 (n := 40) (by decide +kernel), z_let, if_pos (by decide +kernel), zCs_cp hw 8 0 (n := 40) (by decide +kernel), z_let, zCs_up hw, z_let]
  refine congrArg (fun s => some ((), s)) (zCs_c (fun t' k' i' => ?_))
  unfold pAdd qR
  simp only [Bool.or_assoc]
theorem z_wcopy_18 (hw : w0 ≠ w1) (hb : ∀ k, k < 7 → z_b01 (σ.1 (10, w1, k) 0) = true ∧ z_b01 (σ.1 (10, w1, k) 1) = true) : ∀ (m i F : Nat) (P : Nat → Nat → Nat → Bool), i + m = 7 → m < F → fW_copyFrom_18 w0 w1 F (nI i) (zCs P w0 w1 σ) = some ((), zCs (pAdd (pAdd (pAdd P (fun t' k' i' => decide (i ≤ k' ∧ k' < 7) && qK t' i')) (fun t' k' i' => decide (0 ≤ k' ∧ k' < 40) && qL t' i')) qR) w0 w1 σ) := by
  intro m
  induction m with
  | zero =>
    intro i F P hi hF
    obtain ⟨F, rfl⟩ : ∃ k, F = k + 1 := ⟨F - 1, by omega⟩
    have pc := z_pcopy_2 (σ := σ) hw 40 0 z_fu P (by omega) (z_fu_big (by decide))
    rw [nI_0] at pc
    rw [fW_copyFrom_18.eq_2, if_pos ((nI_le_lit (a := 7) (by decide +kernel) (by decide) (by omega)).mpr (by omega))]
    unfold fP_copyFrom
    rw [pc, z_bde, z_rcopy hw, z_bde]
    refine congrArg (fun s => some ((), s)) (zCs_c (fun t' k' i' => ?_))
    show ((P t' k' i' || (decide (0 ≤ k' ∧ k' < 40) && qL t' i')) || qR t' k' i') = (((P t' k' i' || (decide (i ≤ k' ∧ k' < 7) && qK t' i')) || (decide (0 ≤ k' ∧ k' < 40) && qL t' i')) || qR t' k' i')
    rw [decide_eq_false (show ¬ (i ≤ k' ∧ k' < 7) by omega), Bool.false_and, Bool.or_false]
  | succ m ih =>
    intro i F P hi hF
    obtain ⟨F, rfl⟩ : ∃ k, F = k + 1 := ⟨F - 1, by omega⟩
    have b := hb i (by omega)
    rw [fW_copyFrom_18.eq_2, if_neg (fun hh => by have := (nI_le_lit (a := 7) (by decide +kernel) (by decide) (by omega)).mp hh; omega), if_pos (nI_inz (by omega) (by decide)), if_pos (nI_inz (by omega) (by decide)), nI_clamp (by omega), z_kcopy hw b.1 b.2, z_bde]
    show fW_copyFrom_18 w0 w1 F (nI i + 1) _ = _
    rw [nI_1, ih (i + 1) F _ (by omega) (by omega)]
    refine congrArg (fun s => some ((), s)) (zCs_c (fun t' k' i' => ?_))
    have e : ((decide (k' = i) && qK t' i') || (decide (i + 1 ≤ k' ∧ k' < 7) && qK t' i')) = (decide (i ≤ k' ∧ k' < 7) && qK t' i') := by
      cases qK t' i' with
      | false => simp
      | true =>
        rw [Bool.eq_iff_iff]
        simp only [Bool.or_eq_true, Bool.and_eq_true, decide_eq_true_eq, and_true]
        omega
    show ((((P t' k' i' || (decide (k' = i) && qK t' i')) || (decide (i + 1 ≤ k' ∧ k' < 7) && qK t' i')) || (decide (0 ≤ k' ∧ k' < 40) && qL t' i')) || qR t' k' i') = (((P t' k' i' || (decide (i ≤ k' ∧ k' < 7) && qK t' i')) || (decide (0 ≤ k' ∧ k' < 40) && qL t' i')) || qR t' k' i')
    rw [← e, Bool.or_assoc (P t' k' i')]
/-- what is copied of a world -/
def pWd : Nat → Nat → Nat → Bool := pAdd (pAdd (pAdd (pAdd (pAdd (fun _ _ _ => false) (pC 0 0 3)) (pC 0 0 4)) (fun t' k' i' => decide (0 ≤ k' ∧ k' < 7) && qK t' i')) (fun t' k' i' => decide (0 ≤ k' ∧ k' < 40) && qL t' i')) qR
theorem z_wcopy (hw : w0 ≠ w1) (hb : ∀ k, k < 7 → z_b01 (σ.1 (10, w1, k) 0) = true ∧ z_b01 (σ.1 (10, w1, k) 1) = true) : fW_copyFrom w0 w1 σ = some ((), zCs pWd w0 w1 σ) := by
  have e0 : fW_copyFrom w0 w1 σ = fW_copyFrom w0 w1 (zCs (fun _ _ _ => false) w0 w1 σ) := by rw [zCs_0]
  have c := z_wcopy_18 hw hb 7 0 z_fu (pAdd (pAdd (fun _ _ _ => false) (pC 0 0 3)) (pC 0 0 4)) (by omega) (z_fu_big (by decide))
  rw [nI_0] at c
  rw [e0]
  unfold fW_copyFrom
  rw [zCs_up hw, z_let, zCs_up hw, z_let, c]
  rfl
end zcopy
def yCs (P : Nat → Nat → Nat → Bool) (w0 w1 : Nat) (W : yW) : yW := (fun z i => if z.2.1 = w0 ∧ P z.1 z.2.2 i = true then W.1 (z.1, w1, z.2.2) i else W.1 z i, zCs P w0 w1 W.2)
theorem cE_cs (P : Nat → Nat → Nat → Bool) (w0 w1 : Nat) (W : yW) : zCs P w0 w1 (cE W) = cE (yCs P w0 w1 W) := by
  refine yS_ext (fun z i => ?_) rfl
  show (if z.2.1 = w0 ∧ P z.1 z.2.2 i = true then yc (ye z.1 i) (W.1 (z.1, w1, z.2.2) i) (W.2.1 (z.1, w1, z.2.2) i) else yc (ye z.1 i) (W.1 z i) (W.2.1 z i)) = yc (ye z.1 i) (if z.2.1 = w0 ∧ P z.1 z.2.2 i = true then W.1 (z.1, w1, z.2.2) i else W.1 z i) (if z.2.1 = w0 ∧ P z.1 z.2.2 i = true then W.2.1 (z.1, w1, z.2.2) i else W.2.1 z i)
  by_cases c : z.2.1 = w0 ∧ P z.1 z.2.2 i = true
  · rw [if_pos c, if_pos c, if_pos c]
  · rw [if_neg c, if_neg c, if_neg c]
def yNew (w : Nat) (W : yW) : yW := (fun z i => if z.1 < 30 ∧ z.2.1 = w then (if z.1 = 10 ∧ i = 3 then 1 else 0) else W.1 z i, z_new W.2 w)
theorem cE_new (w : Nat) (W : yW) : z_new (cE W) w = cE (yNew w W) := by
  refine yS_ext (fun z i => ?_) rfl
  show (if z.1 < 30 ∧ z.2.1 = w then (if z.1 = 20 then (fun k => if k = 0 then (-1 : Int32) else 0) else (fun _ => 0)) else (cE W).1 z) i = yc (ye z.1 i) (if z.1 < 30 ∧ z.2.1 = w then (if z.1 = 10 ∧ i = 3 then 1 else 0) else W.1 z i) ((if z.1 < 30 ∧ z.2.1 = w then (if z.1 = 20 then (fun k => if k = 0 then (-1 : Int32) else 0) else (fun _ => 0)) else W.2.1 z) i)
  by_cases c : z.1 < 30 ∧ z.2.1 = w
  · rw [if_pos c, if_pos c, if_pos c]
    by_cases c2 : z.1 = 20
    · rw [if_pos c2, c2]
      by_cases c3 : i = 0
      · subst c3; decide +kernel
      · have y1 : ye 20 i = 1 := by unfold ye; rw [if_neg (by decide), if_pos rfl, if_neg c3]
        rw [y1, if_neg (show ¬ ((20 : Nat) = 10 ∧ i = 3) from fun q => absurd q.1 (by decide))]
        show (if i = 0 then (-1 : Int32) else 0) = nI 0
        rw [if_neg c3, nI_0]
    · rw [if_neg c2]
      show (0 : Int32) = yc (ye z.1 i) (if z.1 = 10 ∧ i = 3 then 1 else 0) 0
      by_cases c3 : z.1 = 10 ∧ i = 3
      · rw [if_pos c3, c3.1, c3.2]; decide +kernel
      · rw [if_neg c3]
        unfold yc
        by_cases y1 : ye z.1 i = 1
        · rw [if_pos y1, nI_0]
        · rw [if_neg y1, if_neg (fun y2 => ?_)]
          unfold ye at y2
          by_cases d1 : z.1 = 10
          · rw [if_pos d1, if_neg (fun q => c3 ⟨d1, q⟩)] at y2
            omega
          · rw [if_neg d1, if_neg c2] at y2
            by_cases d2 : z.1 = 11 ∨ z.1 = 21
            · rw [if_pos d2] at y2
              by_cases d3 : i % 6 = 5
              · rw [if_pos d3] at y2; omega
              · rw [if_neg d3] at y2; omega
            · rw [if_neg d2] at y2
              by_cases d3 : z.1 = 0 ∨ z.1 = 4 ∨ z.1 = 5 ∨ z.1 = 6 ∨ z.1 = 7 ∨ z.1 = 8 ∨ z.1 = 16 ∨ z.1 = 17 ∨ z.1 = 18 ∨ z.1 = 19
              · rw [if_pos d3] at y2; omega
              · rw [if_neg d3] at y2; omega
  · rw [if_neg c, if_neg c, if_neg c]
    rfl
theorem pWd_t : (pWd 0 0 3 = true ∧ pWd 0 0 4 = true ∧ pWd 4 0 4 = true) ∧ (∀ k i, k < 7 → i ≤ 10 → pWd 10 k i = true) ∧ (∀ k i, k < 7 → i < 240 → pWd 11 k i = true) ∧ (∀ k i, k < 7 → i < 20 → pWd 13 k i = true ∧ pWd 15 k i = true) ∧ (∀ k i, k < 7 → i < 7 → pWd 16 k i = true ∧ pWd 17 k i = true ∧ pWd 18 k i = true) ∧ (∀ k i, k < 40 → i ≤ 8 → pWd 20 k i = true) ∧ (∀ k i, k < 40 → i < 30 → pWd 21 k i = true) ∧ (∀ k i, k < 40 → i < 20 → pWd 23 k i = true) ∧ ∀ i, i < 40 → pWd 5 0 i = true ∧ pWd 6 0 i = true ∧ pWd 7 0 i = true ∧ pWd 8 0 i = true := by
  refine ⟨⟨rfl, rfl, rfl⟩, fun k i hk hi => ?_, fun k i hk hi => ?_, fun k i hk hi => ⟨?_, ?_⟩, fun k i hk hi => ⟨?_, ?_, ?_⟩, fun k i hk hi => ?_, fun k i hk hi => ?_, fun k i hk hi => ?_, fun i hi => ⟨?_, ?_, ?_, ?_⟩⟩ <;> simp [pWd, pAdd, pC, pN, qK, qL, qR, *] <;> omega
