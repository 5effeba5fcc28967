/-! the class's world by numbers: W.1 the numbers, W.2 the rest; cE W is the flat state -/
abbrev yW : Type := (zJ → Nat → Nat) × zS
/-- how a cell is told: 0 as it is, 1 a number, 2 a number less one -/
def ye (t i : Nat) : Nat := if t = 10 then (if i = 3 then 2 else 1) else if t = 20 then (if i = 0 then 2 else 1) else if t = 11 ∨ t = 21 then (if i % 6 = 5 then 0 else 1) else if t = 0 ∨ t = 4 ∨ t = 5 ∨ t = 6 ∨ t = 7 ∨ t = 8 ∨ t = 16 ∨ t = 17 ∨ t = 18 ∨ t = 19 then 1 else 0
def yc (e v : Nat) (x : Int32) : Int32 := if e = 1 then nI v else if e = 2 then iI ((v : Int) - 1) else x
def cE (W : yW) : zS := (fun z i => yc (ye z.1 i) (W.1 z i) (W.2.1 z i), W.2.2)
/-- a number is written; a cell as it is; a row as it is; a row's piece is copied -/
def yI (W : yW) (z : zJ) (i v : Nat) : yW := (fun z' i' => if z' = z ∧ i' = i then v else W.1 z' i', W.2)
def yR (W : yW) (z : zJ) (i : Nat) (x : Int32) : yW := (W.1, z_up W.2 z i x)
def yRow (W : yW) (z : zJ) (r : Nat → Int32) : yW := (W.1, z_upR W.2 z r)
def yCp (W : yW) (a b : zJ) (p q n : Nat) : yW := (fun z i => if z = b ∧ q ≤ i ∧ i < q + n then W.1 a (p + (i - q)) else W.1 z i, z_upR W.2 b (va_cpy (W.2.1 a) (W.2.1 b) p q n))
theorem cE_1 {W : yW} {z : zJ} {i : Nat} (h : ye z.1 i = 1) : (cE W).1 z i = nI (W.1 z i) := by
  show yc (ye z.1 i) (W.1 z i) (W.2.1 z i) = _
  rw [h]; rfl
theorem cE_2 {W : yW} {z : zJ} {i : Nat} (h : ye z.1 i = 2) : (cE W).1 z i = iI ((W.1 z i : Int) - 1) := by
  show yc (ye z.1 i) (W.1 z i) (W.2.1 z i) = _
  rw [h]; rfl
theorem cE_0 {W : yW} {z : zJ} {i : Nat} (h : ye z.1 i = 0) : (cE W).1 z i = W.2.1 z i := by
  show yc (ye z.1 i) (W.1 z i) (W.2.1 z i) = _
  rw [h]; rfl
theorem yI_s (W : yW) (z : zJ) (i v : Nat) : (yI W z i v).1 z i = v := if_pos ⟨rfl, rfl⟩
theorem yI_n (W : yW) {z z' : zJ} {i i' : Nat} (v : Nat) (h : ¬ (z' = z ∧ i' = i)) : (yI W z i v).1 z' i' = W.1 z' i' := if_neg h
theorem yI_z (W : yW) {z z' : zJ} {i i' : Nat} (v : Nat) (h : z' ≠ z) : (yI W z i v).1 z' i' = W.1 z' i' := if_neg (fun hh => h hh.1)
theorem yI_i (W : yW) {z z' : zJ} {i i' : Nat} (v : Nat) (h : i' ≠ i) : (yI W z i v).1 z' i' = W.1 z' i' := if_neg (fun hh => h hh.2)
theorem yI_r (W : yW) (z : zJ) (i v : Nat) : (yI W z i v).2 = W.2 := rfl
theorem yRow_1 (W : yW) (z : zJ) (r : Nat → Int32) : (yRow W z r).1 = W.1 := rfl
theorem yR_1 (W : yW) (z : zJ) (i : Nat) (x : Int32) : (yR W z i x).1 = W.1 := rfl
theorem yS_ext {σ τ : zS} (h : ∀ z i, σ.1 z i = τ.1 z i) (h2 : σ.2 = τ.2) : σ = τ := Prod.ext (funext fun z => funext fun i => h z i) h2
theorem z_up_at (σ : zS) (z : zJ) (i : Nat) (x : Int32) (z' : zJ) (i' : Nat) : (z_up σ z i x).1 z' i' = if z' = z ∧ i' = i then x else σ.1 z' i' := by
  show (if z' = z then upd (σ.1 z) i x else σ.1 z') i' = _
  by_cases h : z' = z
  · subst h
    rw [if_pos rfl]
    by_cases h2 : i' = i
    · rw [if_pos ⟨rfl, h2⟩, h2, upd_s]
    · rw [if_neg (fun hh => h2 hh.2), upd_n _ _ h2]
  · rw [if_neg h, if_neg (fun hh => h hh.1)]
theorem cE_at (W : yW) (z : zJ) (i : Nat) : (cE W).1 z i = yc (ye z.1 i) (W.1 z i) (W.2.1 z i) := rfl
theorem cE_up {W : yW} {z : zJ} {i v e : Nat} {x : Int32} (h : ye z.1 i = e) (he : e ≠ 0) (hx : x = yc e v 0) : z_up (cE W) z i x = cE (yI W z i v) := by
  refine yS_ext (fun z' i' => ?_) rfl
  rw [z_up_at, cE_at, cE_at]
  by_cases h1 : z' = z ∧ i' = i
  · rw [if_pos h1, h1.1, h1.2, yI_s, h, hx]
    unfold yc
    by_cases h2 : e = 1
    · rw [if_pos h2, if_pos h2]
    · rw [if_neg h2, if_neg h2]
      by_cases h3 : e = 2
      · rw [if_pos h3, if_pos h3]
      · exfalso
        have : e ≤ 2 := by
          rw [← h]
          unfold ye
          grind
        omega
  · rw [if_neg h1, yI_n _ _ h1]
    rfl
theorem cU1 {W : yW} {z : zJ} {i v : Nat} (h : ye z.1 i = 1) : z_up (cE W) z i (nI v) = cE (yI W z i v) := cE_up h (by decide) rfl
theorem cU2 {W : yW} {z : zJ} {i v : Nat} (h : ye z.1 i = 2) : z_up (cE W) z i (nI v) = cE (yI W z i (v + 1)) := cE_up h (by decide) (by
  rw [iI_nat]
  show iI _ = iI (((v + 1 : Nat) : Int) - 1)
  congr 1
  omega)
theorem cU2m {W : yW} {z : zJ} {i : Nat} (h : ye z.1 i = 2) : z_up (cE W) z i (-1) = cE (yI W z i 0) := cE_up h (by decide) (by decide +kernel)
theorem cU2i {W : yW} {z : zJ} {i v : Nat} (h : ye z.1 i = 2) : z_up (cE W) z i (iI ((v : Int) - 1)) = cE (yI W z i v) := cE_up h (by decide) rfl
theorem cU10 {W : yW} {z : zJ} {i : Nat} (h : ye z.1 i = 1) : z_up (cE W) z i 0 = cE (yI W z i 0) := cE_up h (by decide) (by decide +kernel)
theorem cU11 {W : yW} {z : zJ} {i : Nat} (h : ye z.1 i = 1) : z_up (cE W) z i 1 = cE (yI W z i 1) := cE_up h (by decide) (by decide +kernel)
theorem cU12 {W : yW} {z : zJ} {i : Nat} (h : ye z.1 i = 1) : z_up (cE W) z i 2 = cE (yI W z i 2) := cE_up h (by decide) (by decide +kernel)
theorem cU0 {W : yW} {z : zJ} {i : Nat} {x : Int32} (h : ye z.1 i = 0) : z_up (cE W) z i x = cE (yR W z i x) := by
  refine yS_ext (fun z' i' => ?_) rfl
  rw [z_up_at, cE_at, cE_at]
  show _ = yc (ye z'.1 i') (W.1 z' i') ((z_up W.2 z i x).1 z' i')
  rw [z_up_at]
  by_cases h1 : z' = z ∧ i' = i
  · rw [if_pos h1, if_pos h1, h1.1, h1.2, h]; rfl
  · rw [if_neg h1, if_neg h1]
theorem cUr {W : yW} {z : zJ} {r : Nat → Int32} (h : ∀ i, ye z.1 i = 0) : z_upR (cE W) z r = cE (yRow W z r) := by
  refine yS_ext (fun z' i' => ?_) rfl
  show (if z' = z then r else (cE W).1 z') i' = yc (ye z'.1 i') (W.1 z' i') ((if z' = z then r else W.2.1 z') i')
  by_cases h1 : z' = z
  · rw [if_pos h1, if_pos h1, h1, h]; rfl
  · rw [if_neg h1, if_neg h1]; rfl
theorem cCp {W : yW} {a b : zJ} {p q n : Nat} (h : ∀ i, q ≤ i → i < q + n → ye b.1 i = ye a.1 (p + (i - q))) : z_upR (cE W) b (va_cpy ((cE W).1 a) ((cE W).1 b) p q n) = cE (yCp W a b p q n) := by
  refine yS_ext (fun z' i' => ?_) rfl
  show (if z' = b then va_cpy ((cE W).1 a) ((cE W).1 b) p q n else (cE W).1 z') i' = yc (ye z'.1 i') (if z' = b ∧ q ≤ i' ∧ i' < q + n then W.1 a (p + (i' - q)) else W.1 z' i') ((if z' = b then va_cpy (W.2.1 a) (W.2.1 b) p q n else W.2.1 z') i')
  by_cases h1 : z' = b
  · rw [if_pos h1, if_pos h1]
    unfold va_cpy
    by_cases h2 : q ≤ i' ∧ i' < q + n
    · rw [if_pos h2, if_pos h2, if_pos ⟨h1, h2⟩, h1, h i' h2.1 h2.2]
      rfl
    · rw [if_neg h2, if_neg h2, if_neg (fun hh => h2 hh.2), h1]
      rfl
  · rw [if_neg h1, if_neg h1, if_neg (fun hh => h1 hh.1)]
    rfl
