/-! history: the model's search; judge, order of both -/
def yhQ (n : Nat) (H : Nat → Nat → Int32) (τ : zS) : Prop := τ.1 (100, 0, 0) 26 = nI n ∧ ∀ j, j < n → τ.1 (110, 0, 0) j = H 0 j ∧ τ.1 (111, 0, 0) j = H 1 j ∧ τ.1 (112, 0, 0) j = H 2 j ∧ τ.1 (113, 0, 0) j = H 3 j ∧ τ.1 (114, 0, 0) j = H 4 j
def yhU (τ τ' : zS) : Prop := (∀ z : zJ, z ≠ (115, 0, 0) → z ≠ (116, 0, 0) → τ'.1 z = τ.1 z) ∧ τ'.2 = τ.2
theorem yhU_tr {a b c : zS} (h : yhU a b) (h' : yhU b c) : yhU a c := ⟨fun z z1 z2 => (h'.1 z z1 z2).trans (h.1 z z1 z2), h'.2.trans h.2⟩
theorem yhQ_u {n : Nat} {H : Nat → Nat → Int32} {τ τ' : zS} (h : yhQ n H τ) (o : yhU τ τ') : yhQ n H τ' := by
  unfold yhQ
  rw [o.1 (100, 0, 0) (by decide) (by decide), o.1 (110, 0, 0) (by decide) (by decide), o.1 (111, 0, 0) (by decide) (by decide), o.1 (112, 0, 0) (by decide) (by decide), o.1 (113, 0, 0) (by decide) (by decide), o.1 (114, 0, 0) (by decide) (by decide)]
  exact h
theorem yhU_5 (τ : zS) (k : Nat) (x : Int32) : yhU τ (z_up τ (115, 0, 0) k x) := ⟨fun _ z1 _ => z_up_n _ _ _ z1, rfl⟩
theorem yhU_6 (τ : zS) (k : Nat) (x : Int32) : yhU τ (z_up τ (116, 0, 0) k x) := ⟨fun _ _ z2 => z_up_n _ _ _ z2, rfl⟩
theorem yhTr_fn {C : Nat → Bool} {f : Nat → Option (List Nat)} (h : ∀ j, ¬ C j = true → f j = none) : ∀ k i, z_fst C k i = none → yhTr f k i = none := by
  intro k
  induction k with
  | zero => intro i _; rfl
  | succ k ih =>
    intro i e
    have hs : z_fst C (k + 1) i = if C i = true then some i else z_fst C k (i + 1) := rfl
    rw [hs] at e
    by_cases c : C i = true
    · rw [if_pos c] at e; cases e
    · rw [if_neg c] at e
      rw [yhTr_n (h i c)]
      exact ih (i + 1) e
theorem yhTr_fs {C : Nat → Bool} {f : Nat → Option (List Nat)} (h : ∀ j, ¬ C j = true → f j = none) : ∀ k i i', z_fst C k i = some i' → ∃ k', i' + (k' + 1) = i + k ∧ yhTr f k i = yhTr f (k' + 1) i' := by
  intro k
  induction k with
  | zero => intro i i' e; cases e
  | succ k ih =>
    intro i i' e
    have hs : z_fst C (k + 1) i = if C i = true then some i else z_fst C k (i + 1) := rfl
    rw [hs] at e
    by_cases c : C i = true
    · rw [if_pos c] at e
      cases e
      exact ⟨k, rfl, rfl⟩
    · rw [if_neg c] at e
      obtain ⟨k', e1, e2⟩ := ih (i + 1) i' e
      exact ⟨k', by omega, by rw [yhTr_n (h i c), e2]⟩
section yhist2
variable {n : Nat} {H : Nat → Nat → Int32}
theorem yh_come_39 {i c : Nat} {τ : zS} (hq : yhQ n H τ) (h9 : n ≤ 9) (hi : i < n) (hc : c < 512) (hle : H 0 i ≤ H 1 i) : ∀ m j F, j + m = n → m < F → fM_canCome_39 F (nI i) (nI c) (nI j) τ = some (if (z_fst (yhX H i c) m j).isNone = true then 1 else 0, τ) := by
  obtain ⟨h7, hr⟩ := hq
  intro m
  induction m with
  | zero =>
    intro j F hj hF
    obtain ⟨F, rfl⟩ : ∃ k, F = k + 1 := ⟨F - 1, by omega⟩
    rw [fM_canCome_39.eq_2, h7, if_pos ((nI_leI (by omega) (by omega)).mpr (by omega))]
    rfl
  | succ m ih =>
    intro j F hj hF
    obtain ⟨F, rfl⟩ : ∃ k, F = k + 1 := ⟨F - 1, by omega⟩
    have hs : z_fst (yhX H i c) (m + 1) j = if yhX H i c j = true then some j else z_fst (yhX H i c) m (j + 1) := rfl
    have goon : z_let (nI j + 1) (fun y => fM_canCome_39 F (nI i) (nI c) y τ) = fM_canCome_39 F (nI i) (nI c) (nI (j + 1)) τ := by
      show fM_canCome_39 F (nI i) (nI c) (nI j + 1) τ = _
      rw [nI_1]
    rw [fM_canCome_39.eq_2, h7, if_neg (fun q => by have := (nI_leI (by omega) (by omega)).mp q; omega), hs]
    by_cases ei : j = i
    · subst ei
      have hx : yhX H j c j = false := by unfold yhX; rw [decide_eq_false (i32_nlt.mpr hle), Bool.and_false]
      rw [if_pos rfl, hx, if_neg (show ¬ false = true by decide), goon]
      exact ih (j + 1) F (by omega) (by omega)
    rw [if_neg (fun q => ei ((nI_eq (by omega) (by omega)).mp q)), yh_bit (by omega) (by omega)]
    by_cases b : c.testBit j = true
    · have hx : yhX H i c j = false := by unfold yhX; rw [b]; rfl
      rw [if_pos b, if_neg (by decide), hx, if_neg (show ¬ false = true by decide), goon]
      exact ih (j + 1) F (by omega) (by omega)
    · have b' : c.testBit j = false := by simpa using b
      rw [if_neg b, if_pos rfl, if_pos (nI_inz (by omega) (by decide)), if_pos (nI_inz (by omega) (by decide)), nI_clamp (by omega), nI_clamp (by omega), (hr i hi).1, (hr j (by omega)).2.1]
      by_cases q : H 0 i ≤ H 1 j
      · have hx : yhX H i c j = false := by unfold yhX; rw [b', decide_eq_false (i32_nlt.mpr q)]; rfl
        rw [if_pos q, hx, if_neg (show ¬ false = true by decide), goon]
        exact ih (j + 1) F (by omega) (by omega)
      · have hx : yhX H i c j = true := by unfold yhX; rw [b', decide_eq_true (Classical.byContradiction fun q' => q (i32_nlt.mp q'))]; rfl
        rw [if_neg q, hx, if_pos rfl]
        rfl
theorem yh_come {i c : Nat} {x : Int32} {τ : zS} (hq : yhQ n H τ) (h9 : n ≤ 9) (hi : i < n) (hc : c < 512) (hle : H 0 i ≤ H 1 i) : fM_canCome (nI i) (nI c) x τ = some (if yhC n H i c x = true then 1 else 0, τ) := by
  have gi : z_in (nI i) 9 = true := nI_inz (by omega) (by decide)
  have ki : (nI i).toNatClampNeg = i := nI_clamp (by omega)
  obtain ⟨-, -, r2, r3, r4⟩ := hq.2 i hi
  unfold fM_canCome yhC yhN
  rw [yh_bit (by omega) (by omega)]
  by_cases b : c.testBit i = true
  · rw [if_pos b, if_pos rfl, b]; rfl
  · have b' : c.testBit i = false := by simpa using b
    rw [if_neg b, if_neg (by decide), if_pos gi, if_pos gi, ki, r2, r3, eM_answers, z_bde, if_pos gi, r4, b']
    by_cases ca : mAn (H 2 i) x (H 3 i) = H 4 i
    · have q := yh_come_39 hq h9 hi hc hle n 0 z_fu (by omega) (z_fu_big (by omega))
      rw [nI_0] at q
      rw [if_pos ca, decide_eq_true ca, Bool.and_true, q]
      rfl
    · rw [if_neg ca, decide_eq_false ca, Bool.and_false]
      rfl
theorem yh_61 {K : Int32 → Int32 → zS → Option (Int32 × zS)} {d c : Nat} {τ : zS} (hq : yhQ n H τ) (h9 : n ≤ 9) (hd : d < n) (hc : c < 512) (hle : ∀ i, i < n → H 0 i ≤ H 1 i) : ∀ k i F, i + k = n → k < F → fM_findOrder_61 K F (nI d) (nI c) (nI i) τ = fM_findOrder_90 K (nI d) (nI c) (nI ((z_fst (fun i => yhC n H i c (τ.1 (116, 0, 0) d)) k i).getD n)) τ := by
  intro k
  induction k with
  | zero =>
    intro i F hi hF
    obtain ⟨F, rfl⟩ : ∃ k, F = k + 1 := ⟨F - 1, by omega⟩
    have e : i = n := by omega
    subst e
    rw [fM_findOrder_61.eq_2, hq.1, if_pos ((nI_leI (by omega) (by omega)).mpr (by omega))]
    rfl
  | succ k ih =>
    intro i F hi hF
    obtain ⟨F, rfl⟩ : ∃ k, F = k + 1 := ⟨F - 1, by omega⟩
    have hs : z_fst (fun i => yhC n H i c (τ.1 (116, 0, 0) d)) (k + 1) i = if yhC n H i c (τ.1 (116, 0, 0) d) = true then some i else z_fst (fun i => yhC n H i c (τ.1 (116, 0, 0) d)) k (i + 1) := rfl
    rw [fM_findOrder_61.eq_2, hq.1, if_neg (fun q => by have := (nI_leI (by omega) (by omega)).mp q; omega), if_pos (nI_inz (by omega) (by decide)), nI_clamp (n := d) (by omega), yh_come hq h9 (by omega) hc (hle i (by omega)), z_bde, hs]
    by_cases q : yhC n H i c (τ.1 (116, 0, 0) d) = true
    · rw [if_pos q, if_neg (by decide), if_pos q]
      rfl
    · rw [if_neg q, if_pos rfl, if_neg q]
      show fM_findOrder_61 K F (nI d) (nI c) (nI i + 1) τ = _
      rw [nI_1]
      exact ih (i + 1) F (by omega) (by omega)
/-- how many turns -/
def yhT : Nat → Nat
  | 0 => 1
  | m + 1 => 10 + 9 * yhT m
theorem yhT_s (m : Nat) : yhT (m + 1) = 10 + 9 * yhT m := rfl
def yhE (n : Nat) (H : Nat → Nat → Int32) (d m c u T F : Nat) (o : Option (List Nat)) (τ : zS) : Prop := ∃ F' τ', F ≤ F' + T ∧ yhU τ τ' ∧ (∀ j, j < d → τ'.1 (115, 0, 0) j = τ.1 (115, 0, 0) j) ∧ (∀ j, j ≤ d → τ'.1 (116, 0, 0) j = τ.1 (116, 0, 0) j) ∧ (o = none → fM_findOrder_18 F (nI d) (nI u) τ = fM_findOrder_18 F' (iI ((d : Int) - 1)) (nI c) τ') ∧ ∀ l, o = some l → fM_findOrder_18 F (nI d) (nI u) τ = some (1, τ') ∧ ∀ j, j < m → τ'.1 (115, 0, 0) (d + j) = nI (l.getD j 0)
theorem yh_m1 (d : Nat) : nI d + (-1) = iI ((d : Int) - 1) := by
  rw [iI_nat, show (-1 : Int32) = iI (-1) from by decide +kernel, iI_add]
  rfl
theorem yh_d1 (d : Nat) : iI (((d + 1 : Nat) : Int) - 1) = nI d := by
  rw [iI_nat]
  congr 1
  omega
set_option maxHeartbeats 2000000 in
theorem yh_find (h9 : n ≤ 9) (hle : ∀ i, i < n → H 0 i ≤ H 1 i) : ∀ (m d c : Nat) (τ : zS) (F : Nat), d + m = n → c < 512 → yhQ n H τ → τ.1 (115, 0, 0) d = -1 → yhT m ≤ F → yhE n H d m c c (yhT m) F (yhGo n H m c (τ.1 (116, 0, 0) d)) τ := by
  intro m
  induction m with
  | zero =>
    intro d c τ F hd hc hq h1 hF
    have hF : 1 ≤ F := hF
    obtain ⟨F, rfl⟩ : ∃ k, F = k + 1 := ⟨F - 1, by omega⟩
    refine ⟨F, τ, Nat.le_refl _, ⟨fun _ _ _ => rfl, rfl⟩, fun _ _ => rfl, fun _ _ => rfl, (fun q => by cases q), fun l q => ⟨?_, fun j hj => by omega⟩⟩
    rw [fM_findOrder_18.eq_2, if_neg (nI_pos (by omega)), hq.1, if_pos ((nI_leI (by omega) (by omega)).mpr (by omega)), if_pos (by rw [show d = n by omega])]
  | succ m ihm =>
    have inner : ∀ (k i d c u : Nat) (τ : zS) (F : Nat), d + (m + 1) = n → c < 512 → i + k = n → yhQ n H τ → τ.1 (115, 0, 0) d = iI ((i : Int) - 1) → ((i = 0 ∧ u = c) ∨ ∃ i0, i = i0 + 1 ∧ c.testBit i0 = false ∧ u = c ||| 2 ^ i0) → (k + 1) + k * yhT m ≤ F → yhE n H d (m + 1) c u ((k + 1) + k * yhT m) F (yhTr (yhF n H m c (τ.1 (116, 0, 0) d)) k i) τ := by
      intro k
      induction k using Nat.strongRecOn with
      | _ k ihk =>
      intro i d c u τ F hd hc hi hq hrow hu hF
      obtain ⟨F, rfl⟩ : ∃ k, F = k + 1 := ⟨F - 1, by omega⟩
      have gd : z_in (nI d) 10 = true := nI_inz (by omega) (by decide)
      have gd1 : z_in (nI d) 11 = true := nI_inz (by omega) (by decide)
      have kd : (nI d).toNatClampNeg = d := nI_clamp (by omega)
      have e0 : fM_findOrder_18 (F + 1) (nI d) (nI u) τ = fM_findOrder_61 (fM_findOrder_18 F) z_fu (nI d) (nI c) (nI i) τ := by
        rw [fM_findOrder_18.eq_2, if_neg (nI_pos (by omega)), hq.1, if_neg (fun q => by have := (nI_leI (by omega) (by omega)).mp q; omega), if_pos gd, kd, hrow]
        rcases hu with ⟨rfl, rfl⟩ | ⟨i0, rfl, hb, rfl⟩
        · rw [if_pos (by decide +kernel), if_pos gd]
          rfl
        · rw [yh_d1, if_neg (nI_pos (by omega)), if_pos gd, yh_clr c hc i0 (by omega) hb]
          show (if z_in (nI d) 10 = true then fM_findOrder_61 (fM_findOrder_18 F) z_fu (nI d) (nI c) (nI i0 + 1) τ else none) = _
          rw [if_pos gd, nI_1]
      rw [yh_61 hq h9 (by omega) hc hle k i z_fu hi (z_fu_big (by omega))] at e0
      have hCf : ∀ j, ¬ yhC n H j c (τ.1 (116, 0, 0) d) = true → yhF n H m c (τ.1 (116, 0, 0) d) j = none := fun j hj => if_neg hj
      cases ez : z_fst (fun i => yhC n H i c (τ.1 (116, 0, 0) d)) k i with
      | none =>
        rw [ez] at e0
        have et := yhTr_fn hCf k i ez
        rw [et]
        refine ⟨F, z_up (z_up τ (115, 0, 0) d (nI n)) (115, 0, 0) d (-1), by omega, yhU_tr (yhU_5 _ _ _) (yhU_5 _ _ _), fun j hj => ?_, fun j hj => ?_, fun _ => ?_, fun l q => by cases q⟩
        · rw [z_up_s, upd_n _ _ (by omega), z_up_s, upd_n _ _ (by omega)]
        · rw [z_up_n _ _ _ (by decide), z_up_n _ _ _ (by decide)]
        · rw [e0]
          show fM_findOrder_90 (fM_findOrder_18 F) (nI d) (nI c) (nI n) τ = _
          unfold fM_findOrder_90
          rw [if_pos gd, kd]
          show (if nI n = (z_up τ (115, 0, 0) d (nI n)).1 (100, 0, 0) 26 then (if z_in (nI d) 10 = true then fM_findOrder_18 F (nI d + (-1)) (nI c) (z_up (z_up τ (115, 0, 0) d (nI n)) (115, 0, 0) d (-1)) else none) else _) = _
          rw [z_up_n _ _ _ (by decide), hq.1, if_pos rfl, if_pos gd, yh_m1]
      | some i' =>
        rw [ez] at e0
        obtain ⟨z1, z2, z3, -⟩ := z_fst_some ez
        obtain ⟨k', ek, et⟩ := yhTr_fs hCf k i i' ez
        rw [et]
        have hi' : i' < n := by omega
        have gi : z_in (nI i') 9 = true := nI_inz (by omega) (by decide)
        have ki : (nI i').toNatClampNeg = i' := nI_clamp (by omega)
        have hb : c.testBit i' = false := by
          have z3 : yhC n H i' c (τ.1 (116, 0, 0) d) = true := z3
          unfold yhC yhN at z3
          rw [Bool.and_eq_true, Bool.and_eq_true] at z3
          simpa using z3.1.1
        obtain ⟨x, ex⟩ : ∃ x, x = τ.1 (116, 0, 0) d := ⟨_, rfl⟩
        obtain ⟨τ3, e3⟩ : ∃ t, t = z_up (z_up (z_up τ (115, 0, 0) d (nI i')) (116, 0, 0) (d + 1) (mAf (H 2 i') x (H 3 i'))) (115, 0, 0) (d + 1) (-1) := ⟨_, rfl⟩
        have u3 : yhU τ τ3 := by rw [e3]; exact yhU_tr (yhU_tr (yhU_5 _ _ _) (yhU_6 _ _ _)) (yhU_5 _ _ _)
        have r3 : τ3.1 (115, 0, 0) (d + 1) = -1 := by rw [e3, z_up_s, upd_s]
        have r4 : τ3.1 (115, 0, 0) d = nI i' := by rw [e3, z_up_s, upd_n _ _ (by omega), z_up_n _ _ _ (by decide), z_up_s, upd_s]
        have r5 : ∀ j, j < d → τ3.1 (115, 0, 0) j = τ.1 (115, 0, 0) j := fun j hj => by rw [e3, z_up_s, upd_n _ _ (by omega), z_up_n _ _ _ (by decide), z_up_s, upd_n _ _ (by omega)]
        have r6 : τ3.1 (116, 0, 0) (d + 1) = mAf (H 2 i') x (H 3 i') := by rw [e3, z_up_n _ _ _ (by decide), z_up_s, upd_s]
        have r7 : ∀ j, j ≤ d → τ3.1 (116, 0, 0) j = τ.1 (116, 0, 0) j := fun j hj => by rw [e3, z_up_n _ _ _ (by decide), z_up_s, upd_n _ _ (by omega), z_up_n _ _ _ (by decide)]
        have e1 : fM_findOrder_18 (F + 1) (nI d) (nI u) τ = fM_findOrder_18 F (nI (d + 1)) (nI (c ||| 2 ^ i')) τ3 := by
          rw [e0]
          show fM_findOrder_90 (fM_findOrder_18 F) (nI d) (nI c) (nI i') τ = _
          obtain ⟨-, -, q2, q3, -⟩ := hq.2 i' hi'
          have a1 : ∀ z : zJ, z ≠ (115, 0, 0) → (z_up τ (115, 0, 0) d (nI i')).1 z = τ.1 z := fun z hz => z_up_n _ _ _ hz
          unfold fM_findOrder_90
          rw [if_pos gd, kd]
          simp only [z_let]
          rw [a1 (100, 0, 0) (by decide), hq.1, if_neg (fun q => by have := (nI_eq (by omega) (by omega)).mp q; omega), if_pos gi, if_pos gd1, if_pos gi, ki, a1 (112, 0, 0) (by decide), a1 (113, 0, 0) (by decide), a1 (116, 0, 0) (by decide), q2, q3, ← ex, eM_after, z_bde, nI_1, if_pos (nI_inz (by omega) (by decide)), if_pos (nI_inz (by omega) (by decide)), nI_clamp (n := d + 1) (by omega), yh_or (by omega), e3]
        have hT : (k' + 1) * yhT m ≤ k * yhT m := Nat.mul_le_mul_right _ (by omega)
        rw [Nat.add_mul, Nat.one_mul] at hT
        obtain ⟨F1, τ4, p1, p2, p3, p4, p5, p6⟩ := ihm (d + 1) (c ||| 2 ^ i') τ3 F (by omega) (yh_lt hc (by omega)) (yhQ_u hq u3) r3 (by omega)
        rw [r6] at p5 p6
        have hf : yhF n H m c (τ.1 (116, 0, 0) d) i' = yhGo n H m (c ||| 2 ^ i') (mAf (H 2 i') x (H 3 i')) := by
          rw [ex]
          exact if_pos z3
        have s4 : τ4.1 (115, 0, 0) d = nI i' := by rw [p3 d (by omega), r4]
        have s5 : ∀ j, j < d → τ4.1 (115, 0, 0) j = τ.1 (115, 0, 0) j := fun j hj => by rw [p3 j (by omega), r5 j hj]
        have s7 : ∀ j, j ≤ d → τ4.1 (116, 0, 0) j = τ.1 (116, 0, 0) j := fun j hj => by rw [p4 j (by omega), r7 j hj]
        cases eg : yhGo n H m (c ||| 2 ^ i') (mAf (H 2 i') x (H 3 i')) with
        | none =>
          rw [eg] at hf
          rw [yhTr_n hf]
          obtain ⟨F2, τ5, v1, v2, v3, v4, v5, v6⟩ := ihk k' (by omega) (i' + 1) d c (c ||| 2 ^ i') τ4 F1 hd hc (by omega) (yhQ_u (yhQ_u hq u3) p2) (by rw [s4, yh_d1]) (Or.inr ⟨i', rfl, hb, rfl⟩) (by omega)
          rw [s7 d (Nat.le_refl d)] at v5 v6
          have e2 := e1.trans (p5 eg)
          rw [yh_d1] at e2
          rw [yhE, e2]
          exact ⟨F2, τ5, by omega, yhU_tr (yhU_tr u3 p2) v2, fun j hj => by rw [v3 j hj, s5 j hj], fun j hj => by rw [v4 j hj, s7 j hj], v5, v6⟩
        | some l =>
          rw [eg] at hf
          rw [yhTr_s hf]
          obtain ⟨w1, w2⟩ := p6 l eg
          refine ⟨F1, τ4, by omega, yhU_tr u3 p2, s5, s7, (fun q => by cases q), fun l' q => ?_⟩
          cases q
          refine ⟨e1.trans w1, fun j hj => ?_⟩
          cases j with
          | zero => exact s4
          | succ j =>
            rw [show d + (j + 1) = d + 1 + j by omega, w2 j (by omega)]
            rfl
    intro d c τ F hd hc hq h1 hF
    have hT : n * yhT m ≤ 9 * yhT m := Nat.mul_le_mul_right _ h9
    rw [yhT_s] at hF ⊢
    obtain ⟨F', τ', a1, a2⟩ := inner n 0 d c c τ F hd hc (by omega) hq (by rw [h1]; decide +kernel) (Or.inl ⟨rfl, rfl⟩) (by omega)
    exact ⟨F', τ', by omega, a2⟩
theorem yhT_le : ∀ n, n ≤ 9 → yhT n ≤ 899999999 := by decide +kernel
theorem yh_fu : ∃ F, 900000000 ≤ F ∧ z_fu = F := ⟨z_fu, by show 900000000 ≤ 1000000000; omega, rfl⟩
theorem yh_order {τ : zS} (h9 : n ≤ 9) (hle : ∀ i, i < n → H 0 i ≤ H 1 i) (hq : yhQ n H τ) : ∃ τ', fM_findOrder τ = some (if (yhGo n H n 0 0).isSome = true then 1 else 0, τ') ∧ yhU τ τ' ∧ ∀ l, yhGo n H n 0 0 = some l → ∀ j, j < n → τ'.1 (115, 0, 0) j = nI (l.getD j 0) := by
  obtain ⟨F, hF, eF⟩ := yh_fu
  have hT := yhT_le n h9
  obtain ⟨τ1, e1⟩ : ∃ t, t = z_up (z_up τ (115, 0, 0) 0 (-1)) (116, 0, 0) 0 0 := ⟨_, rfl⟩
  have u1 : yhU τ τ1 := by rw [e1]; exact yhU_tr (yhU_5 _ _ _) (yhU_6 _ _ _)
  have r0 : τ1.1 (115, 0, 0) 0 = -1 := by rw [e1, z_up_n _ _ _ (by decide), z_up_s, upd_s]
  have r1 : τ1.1 (116, 0, 0) 0 = 0 := by rw [e1, z_up_s, upd_s]
  obtain ⟨F', τ2, p1, p2, p3, p4, p5, p6⟩ := yh_find h9 hle n 0 0 τ1 F (by omega) (by decide) (yhQ_u hq u1) r0 (by omega)
  rw [r1] at p5 p6
  have e2 : fM_findOrder τ = fM_findOrder_18 F (nI 0) (nI 0) τ1 := by
    unfold fM_findOrder
    rw [eF, nI_0, e1]
    rfl
  rw [e2]
  cases eg : yhGo n H n 0 0 with
  | none =>
    rw [p5 eg]
    refine ⟨τ2, ?_, yhU_tr u1 p2, fun l q => by cases q⟩
    obtain ⟨F2, rfl⟩ : ∃ k, F' = k + 1 := ⟨F' - 1, by omega⟩
    rw [fM_findOrder_18.eq_2, (yhQ_u (yhQ_u hq u1) p2).1, if_pos (by decide +kernel), if_neg (fun q => by
      have h1 : ¬ nI n < 0 := nI_pos (by omega)
      rw [← q] at h1
      exact h1 (by decide +kernel))]
    rfl
  | some l =>
    obtain ⟨a1, a2⟩ := p6 l eg
    rw [a1]
    refine ⟨τ2, rfl, yhU_tr u1 p2, fun l' q j hj => ?_⟩
    cases q
    have := a2 j hj
    rw [Nat.zero_add] at this
    exact this
end yhist2
/-- the class's history by rows -/
def yhHs (σ : zS) : Nat → Nat → Int32
  | 0 => σ.1 (41, 0, 0)
  | 1 => σ.1 (42, 0, 0)
  | 2 => σ.1 (43, 0, 0)
  | 3 => σ.1 (44, 0, 0)
  | _ => σ.1 (45, 0, 0)
/-- what the class keeps of its judging is right -/
def yhJ (σ : zS) : Prop := σ.1 (40, 0, 0) 8 = 0 ∨ ∀ n, n ≤ 9 → σ.1 (40, 0, 0) 7 = nI n → yhD n (yhHs σ) σ
theorem yhHs_c {σ ρ : zS} (h : ∀ z : zJ, 41 ≤ z.1 → z.1 ≤ 45 → ρ.1 z = σ.1 z) : yhHs ρ = yhHs σ := by
  funext f
  match f with
  | 0 => exact h (41, 0, 0) (by decide) (by decide)
  | 1 => exact h (42, 0, 0) (by decide) (by decide)
  | 2 => exact h (43, 0, 0) (by decide) (by decide)
  | 3 => exact h (44, 0, 0) (by decide) (by decide)
  | f + 4 => exact h (45, 0, 0) (by decide) (by decide)
/-- both judge alike -/
theorem yh_both {σ τ : zS} (h : zH_r σ τ) (hj : yhJ σ) : ∃ (n : Nat) (o : Option (List Nat)) (ρ π : zS), n ≤ 9 ∧ σ.1 (40, 0, 0) 7 = nI n ∧ τ.1 (100, 0, 0) 26 = nI n ∧ fH_isRight σ = some (if o.isSome = true then 1 else 0, ρ) ∧ fM_findOrder τ = some (if o.isSome = true then 1 else 0, π) ∧ (∀ l, o = some l → ∀ j, j < n → ρ.1 (46, 0, 0) j = π.1 (115, 0, 0) j) ∧ zH_r ρ π ∧ yhJ ρ ∧ (∀ z : zJ, (z.1 < 40 ∨ 47 < z.1) → ρ.1 z = σ.1 z) ∧ ρ.1 (40, 0, 0) 7 = nI n ∧ ρ.2 = σ.2 ∧ yhU τ π := by
  obtain ⟨n, h9, h7, h26, hr⟩ := h
  have hR : yhR n (yhHs σ) σ := ⟨h9, h7, rfl, rfl, rfl, rfl, rfl⟩
  have hQ : yhQ n (yhHs σ) τ := ⟨h26, fun j hj => by
    obtain ⟨a0, a1, a2, a3, a4, -⟩ := hr j hj
    exact ⟨a0.symm, a1.symm, a2.symm, a3.symm, a4.symm⟩⟩
  obtain ⟨ρ, e1, e2, e3, e4, e5⟩ := yh_right hR (hj.imp id (fun q => q n h9 h7))
  obtain ⟨π, f1, f2, f3⟩ := yh_order (H := yhHs σ) h9 (fun i hi => (hr i hi).2.2.2.2.2.1) hQ
  have hz : ∀ z : zJ, (z.1 < 40 ∨ 47 < z.1) → ρ.1 z = σ.1 z := fun z hz => e4 z (fun q => by rw [q] at hz; simp at hz) (fun q => by rw [q] at hz; simp at hz) (fun q => by rw [q] at hz; simp at hz)
  have hrow : ∀ z : zJ, 41 ≤ z.1 → z.1 ≤ 45 → ρ.1 z = σ.1 z := fun z z1 z2 => e4 z (fun q => by rw [q] at z1; simp at z1) (fun q => by rw [q] at z2; simp at z2) (fun q => by rw [q] at z2; simp at z2)
  refine ⟨n, yhGo n (yhHs σ) n 0 0, ρ, π, h9, h7, h26, e1, f1, fun l q j hj => ?_, ?_, Or.inr (fun n' q1 q2 => ?_), hz, e2.2.1, e5, f2⟩
  · rw [(e3.2 l q).2 j hj, f3 l q j hj]
  · refine ⟨n, h9, e2.2.1, by rw [f2.1 _ (by decide) (by decide)]; exact h26, fun j hj => ?_⟩
    rw [hrow (41, 0, 0) (by decide) (by decide), hrow (42, 0, 0) (by decide) (by decide), hrow (43, 0, 0) (by decide) (by decide), hrow (44, 0, 0) (by decide) (by decide), hrow (45, 0, 0) (by decide) (by decide), f2.1 (110, 0, 0) (by decide) (by decide), f2.1 (111, 0, 0) (by decide) (by decide), f2.1 (112, 0, 0) (by decide) (by decide), f2.1 (113, 0, 0) (by decide) (by decide), f2.1 (114, 0, 0) (by decide) (by decide)]
    exact hr j hj
  · rw [e2.2.1] at q2
    have : n = n' := (nI_eq (by omega) (by omega)).mp q2
    subst this
    rw [yhHs_c hrow]
    exact e3
theorem c_judge {σ τ : zS} (h : zH_r σ τ) (hj : yhJ σ) : ∃ r ρ π, fX_judge σ = some (r, ρ) ∧ fM_judge τ = some (r, π) ∧ zH_r ρ π ∧ yhJ ρ ∧ (∀ z : zJ, (z.1 < 40 ∨ 47 < z.1) → ρ.1 z = σ.1 z) ∧ ρ.2 = σ.2 ∧ yhU τ π := by
  obtain ⟨n, o, ρ, π, -, -, -, e1, e2, -, e4, e5, e6, -, e7, e8⟩ := yh_both h hj
  unfold fX_judge fM_judge
  rw [e1, e2, z_bde, z_bde]
  by_cases c : o.isSome = true
  · rw [if_pos c, if_neg (by decide)]
    exact ⟨1, ρ, π, rfl, rfl, e4, e5, e6, e7, e8⟩
  · rw [if_neg c, if_pos rfl]
    exact ⟨0, ρ, π, rfl, rfl, e4, e5, e6, e7, e8⟩
theorem c_order {σ τ : zS} (h : zH_r σ τ) (hj : yhJ σ) (x : Int32) : ∃ r ρ π, fX_order x σ = some (r, ρ) ∧ fM_order x τ = some (r, π) ∧ zH_r ρ π ∧ yhJ ρ ∧ (∀ z : zJ, (z.1 < 40 ∨ 47 < z.1) → ρ.1 z = σ.1 z) ∧ ρ.2 = σ.2 ∧ yhU τ π := by
  obtain ⟨n, o, ρ, π, h9, h7, h26, e1, e2, e3, e4, e5, e6, -, e7, e8⟩ := yh_both h hj
  have same : ∀ r, fX_order x σ = some (r, σ) → fM_order x τ = some (r, τ) → ∃ r ρ π, fX_order x σ = some (r, ρ) ∧ fM_order x τ = some (r, π) ∧ zH_r ρ π ∧ yhJ ρ ∧ (∀ z : zJ, (z.1 < 40 ∨ 47 < z.1) → ρ.1 z = σ.1 z) ∧ ρ.2 = σ.2 ∧ yhU τ π := fun r a b => ⟨r, σ, τ, a, b, h, hj, fun _ _ => rfl, rfl, fun _ _ _ => rfl, rfl⟩
  by_cases c1 : x < 0
  · refine same (-1) ?_ ?_
    · unfold fX_order; rw [if_pos c1]
    · unfold fM_order
      rw [eM_isIn, if_neg (fun q => i32_nlt.mpr q.1 c1), z_bde, if_pos rfl]
  obtain ⟨k, hk, rfl⟩ := nI_of c1
  have hm : nI n - 1 = iI ((n : Int) - 1) := by
    rw [iI_nat, show (1 : Int32) = iI 1 from by decide +kernel, iI_sub]
  have hle : nI k ≤ iI ((n : Int) - 1) ↔ k < n := by
    rw [iI_nat, iI_le (by omega) (by omega) (by omega) (by omega)]
    omega
  by_cases c2 : k < n
  · have g : z_in (nI k) 9 = true := nI_inz (by omega) (by decide)
    have g2 : z_in (nI k) 10 = true := nI_inz (by omega) (by decide)
    unfold fX_order fM_order
    rw [if_neg c1, h7, if_neg (fun q => by have := (nI_leI (by omega) (by omega)).mp q; omega), h26, hm, eM_isIn, if_pos ⟨i32_nlt.mp c1, hle.mpr c2⟩, z_bde, if_neg (by decide), e1, e2, z_bde, z_bde]
    by_cases c : o.isSome = true
    · obtain ⟨l, el⟩ := Option.isSome_iff_exists.mp c
      rw [if_pos c, if_neg (by decide), if_pos g, if_neg (by decide), if_pos g2, nI_clamp (by omega), e3 l el k c2]
      exact ⟨_, ρ, π, rfl, rfl, e4, e5, e6, e7, e8⟩
    · rw [if_neg c, if_pos rfl, if_pos rfl]
      exact ⟨-1, ρ, π, rfl, rfl, e4, e5, e6, e7, e8⟩
  · refine same (-1) ?_ ?_
    · unfold fX_order
      rw [if_neg c1, h7, if_pos ((nI_leI (by omega) (by omega)).mpr (by omega))]
    · unfold fM_order
      rw [h26, hm, eM_isIn, if_neg (fun q => c2 (hle.mp q.2)), z_bde, if_pos rfl]
