/-! the flat picture of the heap: cells are named by three numbers (what, of which world, which); what may change in a cell stands in a row of ints (or longs) by its name -/
abbrev zJ : Type := Nat × Nat × Nat
abbrev zS : Type := (zJ → Nat → Int32) × (zJ → Nat → Int64)
/-- classes and slots; addresses by names; array classes; the names that are there; what the boxes hold -/
abbrev zE : Type := va_G × (zJ → Nat) × (Nat → ClassId) × List zJ × (Nat → Option Nat)
abbrev z_ad (E : zE) : zJ → Nat := E.2.1
abbrev z_cy (E : zE) : Nat → ClassId := E.2.2.1
abbrev z_ids (E : zE) : List zJ := E.2.2.2.1
abbrev z_bx (E : zE) : Nat → Option Nat := E.2.2.2.2
def z_upR (σ : zS) (a : zJ) (r : Nat → Int32) : zS := (fun b => if b = a then r else σ.1 b, σ.2)
def z_upH (σ : zS) (a : zJ) (r : Nat → Int64) : zS := (σ.1, fun b => if b = a then r else σ.2 b)
def z_up (σ : zS) (a : zJ) (k : Nat) (v : Int32) : zS := z_upR σ a (upd (σ.1 a) k v)
def z_upl (σ : zS) (a : zJ) (k : Nat) (v : Int64) : zS := z_upH σ a (vp_updL (σ.2 a) k v)
def z_nx (a : zJ) : zJ := (a.1 + 1, a.2.1, a.2.2)
/-- a call's answer and state go on -/
def z_bd {α β : Type} (x : Option (α × zS)) (f : α → zS → Option β) : Option β := match x with
  | none => none
  | some o => f o.1 o.2
theorem z_bds {α β : Type} {x : Option (α × zS)} {f : α → zS → Option β} {b : β} (h : z_bd x f = some b) : ∃ a t, x = some (a, t) ∧ f a t = some b := by
  cases x with
  | none => cases h
  | some o => exact ⟨o.1, o.2, rfl, h⟩
theorem z_bde {α β : Type} {f : α → zS → Option β} (a : α) (t : zS) : z_bd (some (a, t)) f = f a t := rfl
/-- an index is in its row -/
def z_in (i : Int32) (n : Nat) : Bool := decide (¬ i < 0) && decide (i.toNatClampNeg < n)
theorem z_in_p {i : Int32} {n : Nat} (h : z_in i n = true) : vp_in i n := by
  simp only [z_in, Bool.and_eq_true, decide_eq_true_eq] at h
  rintro (h1 | h1)
  · exact h.1 h1
  · omega
theorem z_in_lt {i : Int32} {n : Nat} (h : z_in i n = true) : i.toNatClampNeg < n := by
  simp only [z_in, Bool.and_eq_true, decide_eq_true_eq] at h
  exact h.2
theorem z_gd {β : Type} {c : Bool} {x : Option β} {o : β} (h : (if c = true then x else none) = some o) : c = true ∧ x = some o := by
  by_cases hc : c = true
  · rw [if_pos hc] at h; exact ⟨hc, h⟩
  · rw [if_neg hc] at h; cases h
theorem z_t {β : Type} {c : Prop} {d : Decidable c} {x y : β} {o : β} (h : (if c then x else y) = o) (hc : c) : x = o := by rw [if_pos hc] at h; exact h
theorem z_f {β : Type} {c : Prop} {d : Decidable c} {x y : β} {o : β} (h : (if c then x else y) = o) (hc : ¬ c) : y = o := by rw [if_neg hc] at h; exact h
/-- 0 or 1 -/
def z_b01 (v : Int32) : Bool := decide (v = 0) || decide (v = 1)
theorem z_b01n {v : Int32} (h : z_b01 v = true) : narrow .boolean (.int v) = .int v := by
  simp only [z_b01, Bool.or_eq_true, decide_eq_true_eq] at h
  rcases h with rfl | rfl <;> decide +kernel
theorem z_b01f {v : Int32} (h : z_b01 v = true) : fits .boolean (.int v) = true := by
  simp only [z_b01, Bool.or_eq_true, decide_eq_true_eq] at h
  rcases h with rfl | rfl <;> decide +kernel
/-- a copy's places are in their rows -/
def z_cp (sp dp n : Int32) (n0 n1 : Nat) : Bool := decide (¬ sp < 0) && decide (¬ dp < 0) && decide (¬ n < 0) && decide (sp.toNatClampNeg + n.toNatClampNeg ≤ n0) && decide (dp.toNatClampNeg + n.toNatClampNeg ≤ n1)
theorem z_cp_p {sp dp n : Int32} {n0 n1 : Nat} (h : z_cp sp dp n n0 n1 = true) : ¬ sp < 0 ∧ ¬ dp < 0 ∧ ¬ n < 0 ∧ sp.toNatClampNeg + n.toNatClampNeg ≤ n0 ∧ dp.toNatClampNeg + n.toNatClampNeg ≤ n1 := by
  simp only [z_cp, Bool.and_eq_true, decide_eq_true_eq] at h
  exact ⟨h.1.1.1.1, h.1.1.1.2, h.1.1.2, h.1.2, h.2⟩
def z_cpR (σ : zS) (a b : zJ) (sp dp n : Int32) : zS := z_upR σ b (va_cpy (σ.1 a) (σ.1 b) sp.toNatClampNeg dp.toNatClampNeg n.toNatClampNeg)
/-- how far a loop may go: no run is longer -/
def z_fu : Nat := 1000000000
/-- room by levels of calls -/
def z_rm (k : Nat) : Room := { frames := k, cells := 0, slots := 0, locals := 60 * k }
theorem z_rmok {j k n : Nat} (h : j < k) (hn : n ≤ 40) : (z_rm j).frames + 1 ≤ (z_rm k).frames ∧ 8 + (n + 11) + (z_rm j).locals ≤ (z_rm k).locals := by
  show j + 1 ≤ k ∧ 8 + (n + 11) + 60 * j ≤ 60 * k
  omega
