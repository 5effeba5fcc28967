/-! feed -/
def zB (x sh : Int32) : Int32 := vp_nar .byte ((x >>> (sh &&& 31)).toInt8.toInt32)
def zpS (σ : zS) (t : Nat) (b : Int32) : zS := z_up (z_up σ (32, 0, 0) t b) (31, 0, 0) 4 (nI (t + 1))
theorem zpS_len (σ : zS) (t : Nat) (b : Int32) : (zpS σ t b).1 (31, 0, 0) 4 = nI (t + 1) := by
  unfold zpS
  rw [z_up_s, upd_s]
theorem zpS_31 (σ : zS) (t : Nat) (b : Int32) {k : Nat} (hk : k ≠ 4) : (zpS σ t b).1 (31, 0, 0) k = σ.1 (31, 0, 0) k := by
  unfold zpS
  rw [z_up_s, upd_n _ _ hk, z_up_n _ _ _ (by decide)]
theorem zpS_b (σ : zS) (t : Nat) (b : Int32) : (zpS σ t b).1 (32, 0, 0) t = b := by
  unfold zpS
  rw [z_up_n _ _ _ (by decide), z_up_s, upd_s]
theorem zpS_bn (σ : zS) (t : Nat) (b : Int32) {j : Nat} (hj : j ≠ t) : (zpS σ t b).1 (32, 0, 0) j = σ.1 (32, 0, 0) j := by
  unfold zpS
  rw [z_up_n _ _ _ (by decide), z_up_s, upd_n _ _ hj]
theorem zpS_o (σ : zS) (t : Nat) (b : Int32) {a : zJ} (h1 : a ≠ (31, 0, 0)) (h2 : a ≠ (32, 0, 0)) : (zpS σ t b).1 a = σ.1 a := by
  unfold zpS
  rw [z_up_n _ _ _ h1, z_up_n _ _ _ h2]
theorem eT_put_st {n t : Nat} {σ : zS} {x sh : Int32} (ht : t < 400) (h : σ.1 (31, 0, 0) 4 = nI t) (hx : ¬ sh < 0) : fT_put_3 (n + 1) x sh σ = fT_put_3 n x (sh + -8) (zpS σ t (zB x sh)) := by
  rw [fT_put_3.eq_2, if_neg hx, h, if_neg (fun hh => by have := (nI_le_lit (a := 400) (by decide +kernel) (by decide) (by omega)).mp hh; omega), if_pos (nI_inz ht (by decide)), nI_clamp (by omega)]
  show fT_put_3 n x (sh + -8) (z_up (z_up σ (32, 0, 0) t (zB x sh)) (31, 0, 0) 4 ((z_up σ (32, 0, 0) t (zB x sh)).1 (31, 0, 0) 4 + 1)) = _
  rw [z_up_n σ t _ (by decide), h, nI_1]
  rfl
def zp4 (σ : zS) (t : Nat) (x : Int32) : zS := zpS (zpS (zpS (zpS σ t (zB x 24)) (t + 1) (zB x 16)) (t + 2) (zB x 8)) (t + 3) (zB x 0)
theorem eT_put {t : Nat} {σ : zS} (x : Int32) (ht : t + 4 ≤ 400) (h : σ.1 (31, 0, 0) 4 = nI t) : fT_put x σ = some ((), zp4 σ t x) := by
  unfold fT_put
  rw [show z_fu = 999999999 + 1 from rfl, eT_put_st (by omega) h (by decide +kernel), show (24 : Int32) + -8 = 16 from by decide +kernel, show 999999999 = 999999998 + 1 from rfl, eT_put_st (t := t + 1) (by omega) (zpS_len _ _ _) (by decide +kernel), show (16 : Int32) + -8 = 8 from by decide +kernel, show 999999998 = 999999997 + 1 from rfl, eT_put_st (t := t + 2) (by omega) (zpS_len _ _ _) (by decide +kernel), show (8 : Int32) + -8 = 0 from by decide +kernel, show 999999997 = 999999996 + 1 from rfl, eT_put_st (t := t + 3) (by omega) (zpS_len _ _ _) (by decide +kernel), show (0 : Int32) + -8 = -8 from by decide +kernel, show 999999996 = 999999995 + 1 from rfl, fT_put_3.eq_2, if_pos (by decide +kernel)]
  rfl
theorem zp4_len (σ : zS) (t : Nat) (x : Int32) : (zp4 σ t x).1 (31, 0, 0) 4 = nI (t + 4) := zpS_len _ _ _
theorem zp4_31 (σ : zS) (t : Nat) (x : Int32) {k : Nat} (hk : k ≠ 4) : (zp4 σ t x).1 (31, 0, 0) k = σ.1 (31, 0, 0) k := by
  unfold zp4
  rw [zpS_31 _ _ _ hk, zpS_31 _ _ _ hk, zpS_31 _ _ _ hk, zpS_31 _ _ _ hk]
theorem zp4_o (σ : zS) (t : Nat) (x : Int32) {a : zJ} (h1 : a ≠ (31, 0, 0)) (h2 : a ≠ (32, 0, 0)) : (zp4 σ t x).1 a = σ.1 a := by
  unfold zp4
  rw [zpS_o _ _ _ h1 h2, zpS_o _ _ _ h1 h2, zpS_o _ _ _ h1 h2, zpS_o _ _ _ h1 h2]
theorem zp4_bn (σ : zS) (t : Nat) (x : Int32) {j : Nat} (hj : j < t ∨ t + 4 ≤ j) : (zp4 σ t x).1 (32, 0, 0) j = σ.1 (32, 0, 0) j := by
  unfold zp4
  rw [zpS_bn _ _ _ (by omega), zpS_bn _ _ _ (by omega), zpS_bn _ _ _ (by omega), zpS_bn _ _ _ (by omega)]
theorem zp4_b (σ : zS) (t : Nat) (x : Int32) {j : Nat} (hj : j < 4) : (zp4 σ t x).1 (32, 0, 0) (t + j) = zB x (24 - 8 * nI j) := by
  unfold zp4
  rcases (show j = 0 ∨ j = 1 ∨ j = 2 ∨ j = 3 by omega) with rfl | rfl | rfl | rfl
  · rw [zpS_bn _ _ _ (by omega), zpS_bn _ _ _ (by omega), zpS_bn _ _ _ (by omega), Nat.add_zero, zpS_b, show (24 : Int32) - 8 * nI 0 = 24 from by decide +kernel]
  · rw [zpS_bn _ _ _ (by omega), zpS_bn _ _ _ (by omega), zpS_b, show (24 : Int32) - 8 * nI 1 = 16 from by decide +kernel]
  · rw [zpS_bn _ _ _ (by omega), zpS_b, show (24 : Int32) - 8 * nI 2 = 8 from by decide +kernel]
  · rw [zpS_b, show (24 : Int32) - 8 * nI 3 = 0 from by decide +kernel]
/-- the five numbers of a feed, four places each -/
def mV (a b c d e : Int32) (j : Nat) : Int32 := if j < 4 then a else if j < 8 then b else if j < 12 then c else if j < 16 then d else e
theorem eM_feed_71 {K : Int32 → Int32 → Int32 → Int32 → Int32 → Int32 → zS → Option (Int32 × zS)} {a b c d e t0 : Int32} {t k : Nat} {τ : zS} (hk : k < 20) (ht : t + 20 ≤ 400) (h : τ.1 (100, 0, 0) 5 = nI t) : fM_feed_71 K a b c d e (nI k) t0 τ = K a b c d e (nI (k + 1)) (z_up τ (101, 0, 0) (t + k) (zB t0 (24 - 8 * (nI k &&& 3)))) := by
  unfold fM_feed_71
  rw [h, nI_add, if_pos (nI_inz (by omega) (by decide)), nI_clamp (by omega)]
  show K a b c d e (nI k + 1) _ = _
  rw [nI_1]
  rfl
set_option maxHeartbeats 1000000 in
theorem eM_feed_18 {a b c d e : Int32} {t : Nat} (ht : t + 20 ≤ 400) : ∀ (m k n : Nat) (τ : zS), k + m = 20 → m < n → τ.1 (100, 0, 0) 5 = nI t → ∃ τ1, fM_feed_18 n a b c d e (nI k) τ = some (nI (t + 20), τ1) ∧ (∀ j, k ≤ j → j < 20 → τ1.1 (101, 0, 0) (t + j) = zB (mV a b c d e j) (24 - 8 * (nI j &&& 3))) ∧ (∀ j, j < t + k ∨ t + 20 ≤ j → τ1.1 (101, 0, 0) j = τ.1 (101, 0, 0) j) ∧ τ1.1 (100, 0, 0) 5 = nI (t + 20) ∧ (∀ q, q ≠ 5 → τ1.1 (100, 0, 0) q = τ.1 (100, 0, 0) q) ∧ (∀ z : zJ, z ≠ (100, 0, 0) → z ≠ (101, 0, 0) → τ1.1 z = τ.1 z) ∧ τ1.2 = τ.2 := by
  intro m
  induction m with
  | zero =>
    intro k n τ hk hn h
    obtain ⟨n, rfl⟩ : ∃ q, n = q + 1 := ⟨n - 1, by omega⟩
    have e20 : nI t + 20 = nI (t + 20) := nI_lit t (by decide +kernel)
    rw [fM_feed_18.eq_2, if_pos ((nI_le_lit (a := 20) (by decide +kernel) (by decide) (by omega)).mpr (by omega)), h, e20]
    refine ⟨z_up τ (100, 0, 0) 5 (nI (t + 20)), ?_, fun j h1 h2 => by omega, fun j _ => ?_, ?_, fun q hq => ?_, fun z h1 _ => z_up_n _ _ _ h1, rfl⟩
    · show some ((z_up τ (100, 0, 0) 5 (nI (t + 20))).1 (100, 0, 0) 5, z_up τ (100, 0, 0) 5 (nI (t + 20))) = _
      rw [z_up_s, upd_s]
    · rw [z_up_n _ _ _ (by decide)]
    · rw [z_up_s, upd_s]
    · rw [z_up_s, upd_n _ _ hq]
  | succ m ih =>
    intro k n τ hk hn h
    obtain ⟨n, rfl⟩ : ∃ q, n = q + 1 := ⟨n - 1, by omega⟩
    have step : fM_feed_18 (n + 1) a b c d e (nI k) τ = fM_feed_18 n a b c d e (nI (k + 1)) (z_up τ (101, 0, 0) (t + k) (zB (mV a b c d e k) (24 - 8 * (nI k &&& 3)))) := by
      have ge : ∀ {x : Int32} {q : Nat}, x = nI q → q < 100 → (x ≤ nI k ↔ q ≤ k) := fun hx hq => nI_le_lit hx (by omega) (by omega)
      rw [fM_feed_18.eq_2, if_neg (fun hh => by have := (ge (q := 20) (by decide +kernel) (by decide)).mp hh; omega)]
      unfold mV
      by_cases c4 : k < 4
      · rw [if_neg (fun hh => by have := (ge (q := 4) (by decide +kernel) (by decide)).mp hh; omega), if_pos c4, eM_feed_71 (by omega) ht h]
      rw [if_pos ((ge (q := 4) (by decide +kernel) (by decide)).mpr (by omega)), if_neg c4]
      by_cases c8 : k < 8
      · rw [if_neg (fun hh => by have := (ge (q := 8) (by decide +kernel) (by decide)).mp hh; omega), if_pos c8, eM_feed_71 (by omega) ht h]
      rw [if_pos ((ge (q := 8) (by decide +kernel) (by decide)).mpr (by omega)), if_neg c8]
      by_cases c12 : k < 12
      · rw [if_neg (fun hh => by have := (ge (q := 12) (by decide +kernel) (by decide)).mp hh; omega), if_pos c12, eM_feed_71 (by omega) ht h]
      rw [if_pos ((ge (q := 12) (by decide +kernel) (by decide)).mpr (by omega)), if_neg c12]
      by_cases c16 : k < 16
      · rw [if_neg (fun hh => by have := (ge (q := 16) (by decide +kernel) (by decide)).mp hh; omega), if_pos c16, eM_feed_71 (by omega) ht h]
      rw [if_pos ((ge (q := 16) (by decide +kernel) (by decide)).mpr (by omega)), if_neg c16, eM_feed_71 (by omega) ht h]
    obtain ⟨τ1, h1, h2, h3, h4, h5, h6, h7⟩ := ih (k + 1) n (z_up τ (101, 0, 0) (t + k) (zB (mV a b c d e k) (24 - 8 * (nI k &&& 3)))) (by omega) (by omega) (by rw [z_up_n _ _ _ (by decide)]; exact h)
    refine ⟨τ1, by rw [step]; exact h1, fun j hj1 hj2 => ?_, fun j hj => ?_, h4, fun q hq => ?_, fun z z1 z2 => ?_, h7⟩
    · by_cases e1 : j = k
      · subst e1
        rw [h3 (t + j) (by omega), z_up_s, upd_s]
      · exact h2 j (by omega) hj2
    · rw [h3 j (by omega), z_up_s, upd_n _ _ (by omega)]
    · rw [h5 q hq, z_up_n _ _ _ (by decide)]
    · rw [h6 z z1 z2, z_up_n _ _ _ z2]
