/-! closed forms of the small loops -/
def z_cnt (P : Nat → Bool) : Nat → Nat → Nat
  | 0, _ => 0
  | m + 1, i => (if P i = true then 1 else 0) + z_cnt P m (i + 1)
def z_fst (P : Nat → Bool) : Nat → Nat → Option Nat
  | 0, _ => none
  | m + 1, i => if P i = true then some i else z_fst P m (i + 1)
/-- a place, or -1 -/
def z_oI (o : Option Nat) : Int32 := match o with
  | none => -1
  | some i => nI i
theorem z_fu_big {m : Nat} (h : m < 1000000) : m < z_fu := by
  show m < 1000000000
  omega
theorem z_cnt_le (P : Nat → Bool) : ∀ m i : Nat, z_cnt P m i ≤ m := by
  intro m
  induction m with
  | zero => intro i; exact Nat.le_refl 0
  | succ m ih =>
    intro i
    have h1 := ih (i + 1)
    show (if P i = true then 1 else 0) + z_cnt P m (i + 1) ≤ m + 1
    by_cases hp : P i = true
    · rw [if_pos hp]; omega
    · rw [if_neg hp]; omega
theorem z_cnt_congr {P P' : Nat → Bool} : ∀ m i : Nat, (∀ j, i ≤ j → j < i + m → P j = P' j) → z_cnt P m i = z_cnt P' m i := by
  intro m
  induction m with
  | zero => intro i _; rfl
  | succ m ih =>
    intro i h1
    show (if P i = true then 1 else 0) + z_cnt P m (i + 1) = (if P' i = true then 1 else 0) + z_cnt P' m (i + 1)
    rw [h1 i (Nat.le_refl i) (by omega), ih (i + 1) (fun j h2 h3 => h1 j (by omega) (by omega))]
theorem z_fst_congr {P P' : Nat → Bool} : ∀ m i : Nat, (∀ j, i ≤ j → j < i + m → P j = P' j) → z_fst P m i = z_fst P' m i := by
  intro m
  induction m with
  | zero => intro i _; rfl
  | succ m ih =>
    intro i h1
    show (if P i = true then some i else z_fst P m (i + 1)) = (if P' i = true then some i else z_fst P' m (i + 1))
    rw [h1 i (Nat.le_refl i) (by omega), ih (i + 1) (fun j h2 h3 => h1 j (by omega) (by omega))]
theorem z_fst_some {P : Nat → Bool} : ∀ {m i k : Nat}, z_fst P m i = some k → i ≤ k ∧ k < i + m ∧ P k = true ∧ ∀ j, i ≤ j → j < k → ¬ P j = true := by
  intro m
  induction m with
  | zero => intro i k h1; cases h1
  | succ m ih =>
    intro i k h1
    have h1 : (if P i = true then some i else z_fst P m (i + 1)) = some k := h1
    by_cases hp : P i = true
    · rw [if_pos hp] at h1
      cases h1
      exact ⟨Nat.le_refl _, by omega, hp, fun j h2 h3 => by omega⟩
    · rw [if_neg hp] at h1
      obtain ⟨h2, h3, h4, h5⟩ := ih h1
      refine ⟨by omega, by omega, h4, fun j h6 h7 => ?_⟩
      by_cases e1 : j = i
      · subst e1; exact hp
      · exact h5 j (by omega) h7
theorem z_fst_none {P : Nat → Bool} : ∀ {m i : Nat}, z_fst P m i = none → ∀ j, i ≤ j → j < i + m → ¬ P j = true := by
  intro m
  induction m with
  | zero => intro i _ j h2 h3; omega
  | succ m ih =>
    intro i h1 j h2 h3
    have h1 : (if P i = true then some i else z_fst P m (i + 1)) = none := h1
    by_cases hp : P i = true
    · rw [if_pos hp] at h1; cases h1
    · rw [if_neg hp] at h1
      by_cases e1 : j = i
      · subst e1; exact hp
      · exact ih h1 j (by omega) (by omega)
theorem nI_le_lit {a : Nat} {i : Nat} {x : Int32} (hx : x = nI a) (ha : a < 2147483648) (hi : i < 2147483648) : x ≤ nI i ↔ a ≤ i := by
  rw [hx]
  exact nI_leI ha hi
theorem eM_slotOf {k w : Nat} (τ : zS) (hk : k < 40) (hw : w < 64) : fM_slotOf (nI k) (nI w) τ = some (al τ (2240 + 64 * k + w), τ) := by
  have e1 : (2240 : Int32) + 64 * nI k + nI w = nI (2240 + 64 * k + w) := by
    rw [show (64 : Int32) = nI 64 from by decide +kernel, show (2240 : Int32) = nI 2240 from by decide +kernel, pk_mul, nI_add, nI_add]
  unfold fM_slotOf
  rw [e1, if_pos (nI_inz (by omega) (by decide)), nI_clamp (by omega)]
theorem eM_slotOf0 {k : Nat} (τ : zS) (hk : k < 40) : fM_slotOf (nI k) 0 τ = some (al τ (2240 + 64 * k), τ) := by
  have h1 := eM_slotOf (w := 0) τ hk (by decide)
  rw [nI_0] at h1
  exact h1
theorem eM_putSlot {k w : Nat} (τ : zS) (x : Int32) (hk : k < 40) (hw : w < 64) : fM_putSlot (nI k) (nI w) x τ = some ((), z_up τ (103, 0, 0) (2240 + 64 * k + w) x) := by
  have e1 : (2240 : Int32) + 64 * nI k + nI w = nI (2240 + 64 * k + w) := by
    rw [show (64 : Int32) = nI 64 from by decide +kernel, show (2240 : Int32) = nI 2240 from by decide +kernel, pk_mul, nI_add, nI_add]
  unfold fM_putSlot
  rw [e1, if_pos (nI_inz (by omega) (by decide)), nI_clamp (by omega)]
  rfl
theorem eM_empty_2 (τ : zS) : ∀ (m i n : Nat), i + m = 40 → m < n → fM_empty_2 n (nI i) τ = some (z_oI (z_fst (fun s => decide (¬ 0 ≤ al τ (2240 + 64 * s))) m i), τ) := by
  intro m
  induction m with
  | zero =>
    intro i n hi hn
    obtain ⟨n, rfl⟩ : ∃ k, n = k + 1 := ⟨n - 1, by omega⟩
    rw [fM_empty_2.eq_2, if_pos ((nI_le_lit (a := 40) (by decide +kernel) (by decide) (by omega)).mpr (by omega))]
    rfl
  | succ m ih =>
    intro i n hi hn
    obtain ⟨n, rfl⟩ : ∃ k, n = k + 1 := ⟨n - 1, by omega⟩
    rw [fM_empty_2.eq_2, if_neg (fun hh => by have := (nI_le_lit (a := 40) (by decide +kernel) (by decide) (by omega)).mp hh; omega), eM_slotOf0 τ (by omega), z_bde]
    show (if 0 ≤ al τ (2240 + 64 * i) then z_let (nI i + 1) (fun y4 => fM_empty_2 n y4 τ) else some (nI i, τ)) = some (z_oI (if decide (¬ 0 ≤ al τ (2240 + 64 * i)) = true then some i else z_fst (fun s => decide (¬ 0 ≤ al τ (2240 + 64 * s))) m (i + 1)), τ)
    by_cases hp : 0 ≤ al τ (2240 + 64 * i)
    · rw [if_pos hp, if_neg (by simp [hp])]
      show fM_empty_2 n (nI i + 1) τ = _
      rw [nI_1]
      exact ih (i + 1) n (by omega) (by omega)
    · rw [if_neg hp, if_pos (by simp [hp])]
      rfl
theorem eM_empty (τ : zS) : fM_empty τ = some (z_oI (z_fst (fun s => decide (¬ 0 ≤ al τ (2240 + 64 * s))) 40 0), τ) := by
  unfold fM_empty
  rw [← nI_0]
  exact eM_empty_2 τ 40 0 z_fu rfl (z_fu_big (by decide))
theorem eM_letters_4 (τ : zS) : ∀ (m i n c : Nat), i + m = 40 → m < n → fM_letters_4 n (nI c) (nI i) τ = some (nI (c + z_cnt (fun s => decide (¬ al τ (2240 + 64 * s) < 0)) m i), τ) := by
  intro m
  induction m with
  | zero =>
    intro i n c hi hn
    obtain ⟨n, rfl⟩ : ∃ k, n = k + 1 := ⟨n - 1, by omega⟩
    rw [fM_letters_4.eq_2, if_pos ((nI_le_lit (a := 40) (by decide +kernel) (by decide) (by omega)).mpr (by omega))]
    rfl
  | succ m ih =>
    intro i n c hi hn
    obtain ⟨n, rfl⟩ : ∃ k, n = k + 1 := ⟨n - 1, by omega⟩
    rw [fM_letters_4.eq_2, if_neg (fun hh => by have := (nI_le_lit (a := 40) (by decide +kernel) (by decide) (by omega)).mp hh; omega), eM_slotOf0 τ (by omega), z_bde]
    show (if al τ (2240 + 64 * i) < 0 then fM_letters_4 n (nI c + 0) (nI i + 1) τ else fM_letters_4 n (nI c + 1) (nI i + 1) τ) = some (nI (c + ((if decide (¬ al τ (2240 + 64 * i) < 0) = true then 1 else 0) + z_cnt (fun s => decide (¬ al τ (2240 + 64 * s) < 0)) m (i + 1))), τ)
    rw [nI_1]
    by_cases hp : al τ (2240 + 64 * i) < 0
    · rw [if_pos hp, if_neg (by simp [hp]), show nI c + 0 = nI c from by rw [← nI_0, nI_add]; rfl, ih (i + 1) n c (by omega) (by omega), Nat.zero_add]
    · rw [if_neg hp, if_pos (by simp [hp]), nI_1, ih (i + 1) n (c + 1) (by omega) (by omega), Nat.add_assoc]
theorem eM_letters (τ : zS) : fM_letters τ = some (nI (z_cnt (fun s => decide (¬ al τ (2240 + 64 * s) < 0)) 40 0), τ) := by
  have h1 := eM_letters_4 τ 40 0 z_fu 0 rfl (z_fu_big (by decide))
  rw [nI_0, Nat.zero_add] at h1
  exact h1
theorem eP_leastEmpty_2 (w : Nat) (σ : zS) : ∀ (m i n : Nat), i + m = 40 → m < n → fP_leastEmpty_2 w n (nI i) σ = some (z_oI (z_fst (fun s => decide (σ.1 (20, w, s) 0 = -1)) m i), σ) := by
  intro m
  induction m with
  | zero =>
    intro i n hi hn
    obtain ⟨n, rfl⟩ : ∃ k, n = k + 1 := ⟨n - 1, by omega⟩
    rw [fP_leastEmpty_2.eq_2, if_pos ((nI_le_lit (a := 40) (by decide +kernel) (by decide) (by omega)).mpr (by omega))]
    rfl
  | succ m ih =>
    intro i n hi hn
    obtain ⟨n, rfl⟩ : ∃ k, n = k + 1 := ⟨n - 1, by omega⟩
    rw [fP_leastEmpty_2.eq_2, if_neg (fun hh => by have := (nI_le_lit (a := 40) (by decide +kernel) (by decide) (by omega)).mp hh; omega), if_pos (nI_inz (by omega) (by decide)), nI_clamp (by omega)]
    show (if σ.1 (20, w, i) 0 = -1 then some (nI i, σ) else fP_leastEmpty_2 w n (nI i + 1) σ) = some (z_oI (if decide (σ.1 (20, w, i) 0 = -1) = true then some i else z_fst (fun s => decide (σ.1 (20, w, s) 0 = -1)) m (i + 1)), σ)
    by_cases hp : σ.1 (20, w, i) 0 = -1
    · rw [if_pos hp, if_pos (by simp [hp])]
      rfl
    · rw [if_neg hp, if_neg (by simp [hp]), nI_1]
      exact ih (i + 1) n (by omega) (by omega)
theorem eP_leastEmpty (w : Nat) (σ : zS) : fP_leastEmpty w σ = some (z_oI (z_fst (fun s => decide (σ.1 (20, w, s) 0 = -1)) 40 0), σ) := by
  unfold fP_leastEmpty
  rw [← nI_0]
  exact eP_leastEmpty_2 w σ 40 0 z_fu rfl (z_fu_big (by decide))
theorem eP_countFull_4 (w : Nat) (σ : zS) : ∀ (m i n c : Nat), i + m = 40 → m < n → fP_countFull_4 w n (nI c) (nI i) σ = some (nI (c + z_cnt (fun s => decide (¬ σ.1 (20, w, s) 0 = -1)) m i), σ) := by
  intro m
  induction m with
  | zero =>
    intro i n c hi hn
    obtain ⟨n, rfl⟩ : ∃ k, n = k + 1 := ⟨n - 1, by omega⟩
    rw [fP_countFull_4.eq_2, if_pos ((nI_le_lit (a := 40) (by decide +kernel) (by decide) (by omega)).mpr (by omega))]
    rfl
  | succ m ih =>
    intro i n c hi hn
    obtain ⟨n, rfl⟩ : ∃ k, n = k + 1 := ⟨n - 1, by omega⟩
    rw [fP_countFull_4.eq_2, if_neg (fun hh => by have := (nI_le_lit (a := 40) (by decide +kernel) (by decide) (by omega)).mp hh; omega), if_pos (nI_inz (by omega) (by decide)), nI_clamp (by omega)]
    show (if σ.1 (20, w, i) 0 = -1 then fP_countFull_4 w n (nI c + 0) (nI i + 1) σ else fP_countFull_4 w n (nI c + 1) (nI i + 1) σ) = some (nI (c + ((if decide (¬ σ.1 (20, w, i) 0 = -1) = true then 1 else 0) + z_cnt (fun s => decide (¬ σ.1 (20, w, s) 0 = -1)) m (i + 1))), σ)
    rw [nI_1]
    by_cases hp : σ.1 (20, w, i) 0 = -1
    · rw [if_pos hp, if_neg (by simp [hp]), show nI c + 0 = nI c from by rw [← nI_0, nI_add]; rfl, ih (i + 1) n c (by omega) (by omega), Nat.zero_add]
    · rw [if_neg hp, if_pos (by simp [hp]), nI_1, ih (i + 1) n (c + 1) (by omega) (by omega), Nat.add_assoc]
theorem eP_countFull (w : Nat) (σ : zS) : fP_countFull w σ = some (nI (z_cnt (fun s => decide (¬ σ.1 (20, w, s) 0 = -1)) 40 0), σ) := by
  have h1 := eP_countFull_4 w σ 40 0 z_fu 0 rfl (z_fu_big (by decide))
  rw [nI_0, Nat.zero_add] at h1
  exact h1
