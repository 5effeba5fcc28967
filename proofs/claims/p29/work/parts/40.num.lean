/-! numbers: Int32 by Int -/
def iI (a : Int) : Int32 := Int32.ofInt a
theorem iI_toInt {a : Int} (h1 : -2147483648 ≤ a) (h2 : a < 2147483648) : (iI a).toInt = a := Int32.toInt_ofInt_of_le h1 h2
theorem iI_add (a b : Int) : iI a + iI b = iI (a + b) := (Int32.ofInt_add a b).symm
theorem iI_sub (a b : Int) : iI a - iI b = iI (a - b) := (Int32.ofInt_sub a b).symm
theorem iI_mul (a b : Int) : iI a * iI b = iI (a * b) := (Int32.ofInt_mul a b).symm
theorem iI_nat (n : Nat) : nI n = iI (n : Int) := (Int32.ofInt_eq_ofNat).symm
theorem iI_of (x : Int32) : x = iI x.toInt := (Int32.ofInt_toInt x).symm
theorem iI_lt {a b : Int} (h1 : -2147483648 ≤ a) (h2 : a < 2147483648) (h3 : -2147483648 ≤ b) (h4 : b < 2147483648) : iI a < iI b ↔ a < b := by
  rw [Int32.lt_iff_toInt_lt, iI_toInt h1 h2, iI_toInt h3 h4]
theorem iI_le {a b : Int} (h1 : -2147483648 ≤ a) (h2 : a < 2147483648) (h3 : -2147483648 ≤ b) (h4 : b < 2147483648) : iI a ≤ iI b ↔ a ≤ b := by
  rw [Int32.le_iff_toInt_le, iI_toInt h1 h2, iI_toInt h3 h4]
theorem iI_eq {a b : Int} (h1 : -2147483648 ≤ a) (h2 : a < 2147483648) (h3 : -2147483648 ≤ b) (h4 : b < 2147483648) : iI a = iI b ↔ a = b := by
  rw [← Int32.toInt_inj, iI_toInt h1 h2, iI_toInt h3 h4]
theorem iI_clamp {a : Int} (h1 : 0 ≤ a) (h2 : a < 2147483648) : (iI a).toNatClampNeg = a.toNat := by
  show (iI a).toInt.toNat = a.toNat
  rw [iI_toInt (by omega) h2]
theorem iI_in {a : Int} {n : Nat} (h1 : 0 ≤ a) (h2 : a < n) (h3 : (n : Int) ≤ 2147483648) : z_in (iI a) n = true := by
  have e0 : (0 : Int32) = iI 0 := by decide +kernel
  simp only [z_in, Bool.and_eq_true, decide_eq_true_eq]
  refine ⟨?_, ?_⟩
  · rw [e0, iI_lt (by omega) (by omega) (by omega) (by omega)]
    omega
  · rw [iI_clamp h1 (by omega)]
    omega
theorem nI_inz {k n : Nat} (h : k < n) (hn : n < 2147483648) : z_in (nI k) n = true := by
  rw [iI_nat]
  exact iI_in (by omega) (by omega) (by omega)
/-! the state: what is read behind a write -/
theorem z_up_s (σ : zS) (a : zJ) (k : Nat) (x : Int32) : (z_up σ a k x).1 a = upd (σ.1 a) k x := z_upR_s
theorem z_up_n (σ : zS) {a b : zJ} (k : Nat) (x : Int32) (h : b ≠ a) : (z_up σ a k x).1 b = σ.1 b := (z_upR_o b h).1
theorem z_up_l (σ : zS) (a : zJ) (k : Nat) (x : Int32) : (z_up σ a k x).2 = σ.2 := rfl
theorem upd_s (f : Nat → Int32) (k : Nat) (x : Int32) : upd f k x k = x := if_pos rfl
theorem upd_n (f : Nat → Int32) {k j : Nat} (x : Int32) (h : j ≠ k) : upd f k x j = f j := if_neg h
/-! the model's row 'all', read and written -/
abbrev al (τ : zS) (i : Nat) : Int32 := τ.1 (103, 0, 0) i
theorem eM_of {k w : Nat} (τ : zS) (hk : k < 7) (hw : w < 320) : fM_of (nI k) (nI w) τ = some (al τ (320 * k + w), τ) := by
  have e1 : (320 : Int32) * nI k + nI w = nI (320 * k + w) := by
    rw [show (320 : Int32) = nI 320 from by decide +kernel, pk_mul, nI_add]
  unfold fM_of
  rw [e1, if_pos (nI_inz (by omega) (by decide)), nI_clamp (by omega)]
theorem eM_put {k w : Nat} (τ : zS) (x : Int32) (hk : k < 7) (hw : w < 320) : fM_put (nI k) (nI w) x τ = some ((), z_up τ (103, 0, 0) (320 * k + w) x) := by
  have e1 : (320 : Int32) * nI k + nI w = nI (320 * k + w) := by
    rw [show (320 : Int32) = nI 320 from by decide +kernel, pk_mul, nI_add]
  unfold fM_put
  rw [e1, if_pos (nI_inz (by omega) (by decide)), nI_clamp (by omega)]
  rfl
