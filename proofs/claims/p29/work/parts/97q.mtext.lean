/-! the text: the model's tokens -/
def kPk (b : Nat → Nat) (a : Nat) : Nat → Nat
  | 0 => 0
  | n + 1 => 256 * kPk b a n + b (a + n)
theorem kPk_lt {b : Nat → Nat} {a : Nat} : ∀ n, (∀ j, j < n → b (a + j) ≤ 122) → 2 * kPk b a n + 1 ≤ 256 ^ n := by
  intro n
  induction n with
  | zero => intro _; show 2 * 0 + 1 ≤ 256 ^ 0; decide
  | succ n ih =>
    intro h
    have h1 := ih (fun j hj => h j (by omega))
    have h2 := h n (by omega)
    rw [kPk, Nat.pow_succ]
    omega
theorem kPk_63 {b : Nat → Nat} {a n : Nat} (hn : n ≤ 8) (h : ∀ j, j < n → b (a + j) ≤ 122) : kPk b a n < 2 ^ 63 := by
  have h1 := kPk_lt n h
  have h2 : (256 : Nat) ^ n ≤ 256 ^ 8 := Nat.pow_le_pow_right (by decide) hn
  have h3 : (256 : Nat) ^ 8 = 2 ^ 64 := by decide
  omega
theorem kPk_c {b b' : Nat → Nat} {a a' : Nat} : ∀ n, (∀ j, j < n → b (a + j) = b' (a' + j)) → kPk b a n = kPk b' a' n := by
  intro n
  induction n with
  | zero => intro _; rfl
  | succ n ih =>
    intro h
    rw [kPk, kPk, ih (fun j hj => h j (by omega)), h n (by omega)]
theorem kPk_inj {b b' : Nat → Nat} {a a' : Nat} : ∀ n n', (∀ j, j < n → 1 ≤ b (a + j) ∧ b (a + j) < 256) → (∀ j, j < n' → 1 ≤ b' (a' + j) ∧ b' (a' + j) < 256) → kPk b a n = kPk b' a' n' → n = n' ∧ ∀ j, j < n → b (a + j) = b' (a' + j) := by
  intro n
  induction n with
  | zero =>
    intro n' h h' e
    cases n' with
    | zero => exact ⟨rfl, fun j hj => by omega⟩
    | succ n' =>
      have := h' n' (by omega)
      rw [kPk, kPk] at e
      omega
  | succ n ih =>
    intro n' h h' e
    have h1 := h n (by omega)
    cases n' with
    | zero =>
      rw [kPk, kPk] at e
      omega
    | succ n' =>
      have h2 := h' n' (by omega)
      rw [kPk, kPk] at e
      obtain ⟨e1, e2⟩ := ih n' (fun j hj => h j (by omega)) (fun j hj => h' j (by omega)) (by omega)
      refine ⟨by omega, fun j hj => ?_⟩
      by_cases c : j = n
      · subst c
        rw [← e1] at e
        have e3 := kPk_c (b := b) (b' := b') (a := a) (a' := a') j e2
        rw [e3] at e
        omega
      · exact e2 j (by omega)
theorem kl_shl {x : Nat} (hx : x < 2 ^ 64) : lN x <<< ((8 : Int32).toInt64 &&& 63) = lN (2 ^ 8 * x) := by
  have hy : ((8 : Int32).toInt64 &&& 63).toBitVec.smod 64 = BitVec.ofNat 64 8 := by decide +kernel
  apply Int64.toBitVec_inj.mp
  rw [Int64.toBitVec_shiftLeft, hy]
  apply BitVec.eq_of_toNat_eq
  have hb : (lN x).toBitVec.toNat = x := Nat.mod_eq_of_lt hx
  have hk' : (BitVec.ofNat 64 8).toNat = 8 := by decide
  have h : ((lN x).toBitVec <<< BitVec.ofNat 64 8).toNat = (2 ^ 8 * x) % 2 ^ 64 := by simp only [BitVec.shiftLeft_eq', BitVec.toNat_shiftLeft, hb, hk', Nat.shiftLeft_eq, Nat.mul_comm]
  exact h
theorem kl_or (a b : Nat) : lN a ||| lN b = lN (a ||| b) := by
  apply Int64.toBitVec_inj.1
  show BitVec.ofNat 64 a ||| BitVec.ofNat 64 b = BitVec.ofNat 64 (a ||| b)
  exact BitVec.ofNat_or.symm
theorem kl_step {x s : Nat} (hs : s < 256) (hx : x < 2 ^ 64) : (lN x <<< ((8 : Int32).toInt64 &&& 63)) ||| (nI s).toInt64 = lN (256 * x + s) := by
  rw [kl_shl hx, nI_l (by omega), kl_or, ← Nat.two_pow_add_eq_or_of_lt (i := 8) hs]
theorem kl_inj {a b : Nat} (ha : a < 2 ^ 63) (hb : b < 2 ^ 63) : lN a = lN b ↔ a = b := by
  constructor
  · intro h
    have h1 : (BitVec.ofNat 64 a).toNat = (BitVec.ofNat 64 b).toNat := congrArg (fun x : Int64 => x.toBitVec.toNat) h
    rw [BitVec.toNat_ofNat, BitVec.toNat_ofNat, Nat.mod_eq_of_lt (by omega), Nat.mod_eq_of_lt (by omega)] at h1
    exact h1
  · intro h; rw [h]
theorem kl_cmp {x y : Int64} : lg_cmp x y = 0 ↔ x = y := by
  unfold lg_cmp
  by_cases h : x > y
  · rw [if_pos h]
    refine ⟨fun q => absurd q (by decide), fun q => ?_⟩
    subst q
    exact absurd (Int64.lt_iff_toInt_lt.mp h) (by omega)
  · rw [if_neg h]
    by_cases e : x = y
    · rw [if_pos e]; exact ⟨fun _ => e, fun _ => rfl⟩
    · rw [if_neg e]; exact ⟨fun q => absurd q (by decide), fun q => absurd q e⟩
def kWd (g i : Nat) : Nat := (([[107, 101, 101, 112, 101, 114], [115, 105, 108, 101, 110, 116], [59]] : List (List Nat)).getD g []).getD i 0
theorem kWd_ch : ∀ g, g < 2 → ∀ i, i < 6 → z_ch g i = nI (kWd g i) ∧ 1 ≤ kWd g i ∧ kWd g i < 256 := by decide +kernel
theorem kWd_len : ∀ g, g < 2 → z_len.getD g 0 = 6 := by decide +kernel
theorem kIs_iff {b : Nat → Nat} {g a e : Nat} (hb : ∀ j, b j < 256) (hg : g < 2) : kIs b g a e = true ↔ e - a = 6 ∧ ∀ i, i < 6 → b (a + i) = kWd g (0 + i) := by
  unfold kIs
  rw [kWd_len g hg, Bool.and_eq_true, decide_eq_true_eq]
  constructor
  · rintro ⟨h1, h2⟩
    refine ⟨h1.symm, fun i hi => ?_⟩
    have h3 := z_fst_none (Option.isNone_iff_eq_none.mp h2) i (by omega) (by omega)
    have h4 : nI (b (a + i)) = z_ch g i := by simpa using h3
    rw [(kWd_ch g hg i hi).1] at h4
    rw [Nat.zero_add]
    have := hb (a + i)
    have := (kWd_ch g hg i hi).2.2
    exact (nI_eq (by omega) (by omega)).mp h4
  · rintro ⟨h1, h2⟩
    refine ⟨h1.symm, ?_⟩
    cases e : z_fst (fun i => !decide (nI (b (a + i)) = z_ch g i)) 6 0 with
    | none => rfl
    | some i =>
      obtain ⟨-, q2, q3, -⟩ := z_fst_some e
      have q2 : i < 6 := by omega
      have h3 := h2 i q2
      rw [Nat.zero_add] at h3
      rw [h3, (kWd_ch g hg i q2).1] at q3
      simp at q3
theorem kLe_r {v : Nat} (h : kLe v = true) : 97 ≤ v ∧ v ≤ 122 := by
  unfold kLe at h
  rw [Bool.and_eq_true, decide_eq_true_eq, decide_eq_true_eq] at h
  exact h
/-- a word of letters is one of the two, by its number -/
theorem kPk_is {b : Nat → Nat} {g a e v : Nat} (hb : ∀ j, b j < 256) (hg : g < 2) (hl : ∀ j, j < e - a → kLe (b (a + j)) = true) (h8 : e - a ≤ 8) (hv : v = kPk (kWd g) 0 6) (hv2 : v < 2 ^ 63) : lN (kPk b a (e - a)) = lN v ↔ kIs b g a e = true := by
  rw [kl_inj (kPk_63 h8 (fun j hj => (kLe_r (hl j hj)).2)) hv2, kIs_iff hb hg, hv]
  constructor
  · intro q
    obtain ⟨q1, q2⟩ := kPk_inj (e - a) 6 (fun j hj => by have := kLe_r (hl j hj); omega) (fun j hj => by rw [Nat.zero_add]; exact (kWd_ch g hg j hj).2) q
    exact ⟨q1, fun i hi => q2 i (by omega)⟩
  · rintro ⟨q1, q2⟩
    rw [q1]
    exact kPk_c 6 q2
theorem kPk_nm {b : Nat → Nat} {p l a e : Nat} (hl : ∀ j, j < e - a → kLe (b (a + j)) = true) (h8 : e - a ≤ 8) (hp : ∀ j, j < l → kLe (b (p + j)) = true) (hl8 : l ≤ 8) : lN (kPk b p l) = lN (kPk b a (e - a)) ↔ kNm b p l a e = true := by
  rw [kl_inj (kPk_63 hl8 (fun j hj => (kLe_r (hp j hj)).2)) (kPk_63 h8 (fun j hj => (kLe_r (hl j hj)).2))]
  unfold kNm
  rw [Bool.and_eq_true, decide_eq_true_eq]
  constructor
  · intro q
    obtain ⟨q1, q2⟩ := kPk_inj l (e - a) (fun j hj => by have := kLe_r (hp j hj); omega) (fun j hj => by have := kLe_r (hl j hj); omega) q
    refine ⟨q1, ?_⟩
    cases ez : z_fst (fun i => !decide (b (a + i) = b (p + i))) l 0 with
    | none => rfl
    | some i =>
      obtain ⟨-, r2, r3, -⟩ := z_fst_some ez
      have := q2 i (by omega)
      rw [this] at r3
      simp at r3
  · rintro ⟨q1, q2⟩
    rw [← q1]
    refine kPk_c l (fun j hj => ?_)
    have h3 := z_fst_none (Option.isNone_iff_eq_none.mp q2) j (by omega) (by omega)
    have h4 : b (a + j) = b (p + j) := by simpa using h3
    exact h4.symm
/-! the model's text -/
def kMb (t : Nat) (b : Nat → Nat) (τ : zS) : Prop := t ≤ 400 ∧ (∀ j, b j < 256) ∧ τ.1 (100, 0, 0) 6 = nI t ∧ ∀ j, j < t → τ.1 (102, 0, 0) j &&& 255 = nI (b j)
theorem kMb_up {t : Nat} {b : Nat → Nat} {τ : zS} {z : zJ} {i : Nat} {x : Int32} (h : kMb t b τ) (h1 : z ≠ (102, 0, 0)) (h2 : z = (100, 0, 0) → i ≠ 6) : kMb t b (z_up τ z i x) := by
  obtain ⟨a1, a2, a3, a4⟩ := h
  refine ⟨a1, a2, ?_, fun j hj => ?_⟩
  · rw [z_up_at, if_neg (fun q => h2 q.1.symm q.2.symm)]
    exact a3
  · rw [z_up_n _ _ _ (fun q => h1 q.symm)]
    exact a4 j hj
theorem kMb_upl {t : Nat} {b : Nat → Nat} {τ : zS} {z : zJ} {i : Nat} {x : Int64} (h : kMb t b τ) : kMb t b (z_upl τ z i x) := h
theorem z_upl_1 (τ : zS) (z : zJ) (i : Nat) (x : Int64) : (z_upl τ z i x).1 = τ.1 := rfl
theorem z_upl_at (τ : zS) (z : zJ) (i : Nat) (x : Int64) (z' : zJ) (i' : Nat) : (z_upl τ z i x).2 z' i' = if z' = z ∧ i' = i then x else τ.2 z' i' := by
  show (if z' = z then vp_updL (τ.2 z) i x else τ.2 z') i' = _
  by_cases h : z' = z
  · subst h
    rw [if_pos rfl]
    by_cases h2 : i' = i
    · rw [if_pos ⟨rfl, h2⟩, h2]; exact if_pos rfl
    · rw [if_neg (fun hh => h2 hh.2)]; exact if_neg h2
  · rw [if_neg h, if_neg (fun hh => h hh.1)]
theorem zl_ext {σ τ : zS} (h1 : σ.1 = τ.1) (h : ∀ z i, σ.2 z i = τ.2 z i) : σ = τ := Prod.ext h1 (funext fun z => funext fun i => h z i)
theorem z_upl_id {τ : zS} {z : zJ} {i : Nat} {x : Int64} (h : τ.2 z i = x) : z_upl τ z i x = τ := by
  refine zl_ext rfl (fun z' i' => ?_)
  rw [z_upl_at]
  by_cases c : z' = z ∧ i' = i
  · rw [if_pos c, c.1, c.2, h]
  · rw [if_neg c]
theorem z_upl_upl (τ : zS) (z : zJ) (i : Nat) (x y : Int64) : z_upl (z_upl τ z i x) z i y = z_upl τ z i y := by
  refine zl_ext rfl (fun z' i' => ?_)
  rw [z_upl_at, z_upl_at, z_upl_at]
  by_cases c : z' = z ∧ i' = i
  · rw [if_pos c, if_pos c]
  · rw [if_neg c, if_neg c, if_neg c]
section kmodel
variable {t : Nat} {b : Nat → Nat} {τ : zS}
theorem kM_sign {p : Nat} (h : kMb t b τ) (hp : p < 100000) : fM_sign (nI p) τ = some (nI (if p < t then b p else 0), τ) := by
  obtain ⟨a1, a2, a3, a4⟩ := h
  unfold fM_sign
  rw [a3]
  by_cases c : p < t
  · rw [if_neg (fun q => by have := (nI_leI (by omega) (by omega)).mp q; omega), if_pos (nI_inz (by omega) (by decide)), nI_clamp (by omega), a4 p c, if_pos c]
  · rw [if_pos ((nI_leI (by omega) (by omega)).mpr (by omega)), if_neg c, nI_0]
theorem kM_letter {v : Nat} (hv : v < 256) : fM_isLetter (nI v) τ = some (if kLe v = true then 1 else 0, τ) := by
  unfold fM_isLetter kLe
  by_cases c1 : v < 97
  · rw [if_pos (by rw [show (97 : Int32) = nI 97 from by decide +kernel]; exact nI_lt c1 (by decide)), if_neg (by simp; omega)]
  · rw [if_neg (by rw [show (97 : Int32) = nI 97 from by decide +kernel]; exact nI_nlt (by omega) (by omega))]
    by_cases c2 : 122 < v
    · rw [if_pos (by rw [show (122 : Int32) = nI 122 from by decide +kernel]; exact nI_lt c2 (by omega)), if_neg (by simp; omega)]
    · rw [if_neg (by rw [show (122 : Int32) = nI 122 from by decide +kernel]; exact nI_nlt (by omega) (by decide)), if_pos (by simp; omega)]
theorem kM_skip : ∀ (m p F : Nat) (τ : zS), kMb t b τ → τ.1 (100, 0, 0) 14 = nI p → p + m = t → m < F → fM_goOn_8 F τ = fM_goOn_58 (z_up τ (100, 0, 0) 14 (nI (kSk (fun j => kBl (b j)) m p))) := by
  intro m
  induction m with
  | zero =>
    intro p F τ h h8 hp hF
    have h400 := h.1
    obtain ⟨F, rfl⟩ : ∃ k, F = k + 1 := ⟨F - 1, by omega⟩
    rw [fM_goOn_8.eq_2, h.2.2.1, h8, if_pos ((nI_leI (by omega) (by omega)).mpr (by omega)), kSk, z_up_id h8]
  | succ m ih =>
    intro p F τ h h8 hp hF
    have h400 := h.1
    have hb := h.2.1 p
    obtain ⟨F, rfl⟩ : ∃ k, F = k + 1 := ⟨F - 1, by omega⟩
    have sg := kM_sign (p := p) h (by omega)
    rw [if_pos (show p < t by omega)] at sg
    rw [fM_goOn_8.eq_2, h.2.2.1, h8, if_neg (fun q => by have := (nI_leI (by omega) (by omega)).mp q; omega), sg, z_bde, h8, sg, z_bde, kSk, show (32 : Int32) = nI 32 from by decide +kernel, show (10 : Int32) = nI 10 from by decide +kernel]
    have goon : fM_goOn_8 F (z_up τ (100, 0, 0) 14 (nI p + 1)) = fM_goOn_58 (z_up τ (100, 0, 0) 14 (nI (kSk (fun j => kBl (b j)) m (p + 1)))) := by
      rw [nI_1, ih (p + 1) F _ (kMb_up h (by decide) (fun _ => by decide)) (by rw [z_up_s, upd_s]) (by omega) (by omega), z_up_up]
    by_cases c1 : b p = 32
    · rw [if_pos (by rw [c1]), if_pos (by unfold kBl; simp [c1])]
      exact goon
    · rw [if_neg (fun q => c1 ((nI_eq (by omega) (by decide)).mp q))]
      by_cases c2 : b p = 10
      · rw [if_pos (by rw [c2]), if_pos (by unfold kBl; simp [c2])]
        show fM_goOn_8 F (z_up τ (100, 0, 0) 14 (τ.1 (100, 0, 0) 14 + 1)) = _
        rw [h8]
        exact goon
      · rw [if_neg (fun q => c2 ((nI_eq (by omega) (by decide)).mp q)), if_neg (by unfold kBl; simp [c1, c2]), z_up_id h8]
theorem kM_end : ∀ (m p F : Nat) (τ : zS), kMb t b τ → τ.1 (100, 0, 0) 15 = nI p → p + m = t → m < F → fM_goOn_119 F τ = fM_goOn_156 z_fu (τ.1 (100, 0, 0) 14) (z_upl (z_up τ (100, 0, 0) 15 (nI (kSk (fun j => kLe (b j)) m p))) (100, 0, 0) 17 0) := by
  have e14 : ∀ (τ : zS) (x : Int32), (z_up τ (100, 0, 0) 15 x).1 (100, 0, 0) 14 = τ.1 (100, 0, 0) 14 := fun τ x => by rw [z_up_s, upd_n _ _ (by decide)]
  intro m
  induction m with
  | zero =>
    intro p F τ h h8 hp hF
    have h400 := h.1
    obtain ⟨F, rfl⟩ : ∃ k, F = k + 1 := ⟨F - 1, by omega⟩
    have sg := kM_sign (p := p) h (by omega)
    rw [if_neg (show ¬ p < t by omega)] at sg
    rw [fM_goOn_119.eq_2, h8, sg, z_bde, kM_letter (by decide), z_bde, if_neg (show ¬ kLe 0 = true by decide), if_pos rfl, kSk, z_up_id h8]
    rfl
  | succ m ih =>
    intro p F τ h h8 hp hF
    have h400 := h.1
    have hb := h.2.1 p
    obtain ⟨F, rfl⟩ : ∃ k, F = k + 1 := ⟨F - 1, by omega⟩
    have sg := kM_sign (p := p) h (by omega)
    rw [if_pos (show p < t by omega)] at sg
    rw [fM_goOn_119.eq_2, h8, sg, z_bde, kM_letter hb, z_bde, kSk]
    by_cases c : kLe (b p) = true
    · rw [if_pos c, if_neg (by decide), if_pos c, h8]
      show fM_goOn_119 F (z_up τ (100, 0, 0) 15 (nI p + 1)) = _
      rw [nI_1, ih (p + 1) F _ (kMb_up h (by decide) (fun _ => by decide)) (by rw [z_up_s, upd_s]) (by omega) (by omega), z_up_up, e14]
    · rw [if_neg c, if_pos rfl, if_neg c, z_up_id h8]
      rfl
theorem kM_pack {a e' : Nat} : ∀ (m n F : Nat) (τ : zS), kMb t b τ → τ.1 (100, 0, 0) 14 = nI a → τ.1 (100, 0, 0) 15 = nI e' → a + n + m = min e' (a + 8) → e' ≤ t → (∀ j, j < n + m → kLe (b (a + j)) = true) → τ.2 (100, 0, 0) 17 = lN (kPk b a n) → m < F → fM_goOn_156 F (nI (a + n)) τ = fM_goOn_199 (z_upl τ (100, 0, 0) 17 (lN (kPk b a (n + m)))) := by
  intro m
  induction m with
  | zero =>
    intro n F τ h h14 h15 hm he hl h17 hF
    have h400 := h.1
    obtain ⟨F, rfl⟩ : ∃ k, F = k + 1 := ⟨F - 1, by omega⟩
    have e8 : nI a + 8 = nI (a + 8) := nI_lit a (by decide +kernel)
    rw [fM_goOn_156.eq_2, h14, h15, e8, show n + 0 = n from rfl, z_upl_id h17]
    by_cases c : e' ≤ a + n
    · rw [if_pos ((nI_leI (by omega) (by omega)).mpr c)]
    · rw [if_neg (fun q => c ((nI_leI (by omega) (by omega)).mp q)), if_pos ((nI_leI (by omega) (by omega)).mpr (by omega))]
  | succ m ih =>
    intro n F τ h h14 h15 hm he hl h17 hF
    have h400 := h.1
    have hb := h.2.1 (a + n)
    obtain ⟨F, rfl⟩ : ∃ k, F = k + 1 := ⟨F - 1, by omega⟩
    have e8 : nI a + 8 = nI (a + 8) := nI_lit a (by decide +kernel)
    have sg := kM_sign (p := a + n) h (by omega)
    rw [if_pos (show a + n < t by omega)] at sg
    have hx : kPk b a n < 2 ^ 63 := kPk_63 (by omega) (fun j hj => (kLe_r (hl j (by omega))).2)
    rw [fM_goOn_156.eq_2, h14, h15, e8, if_neg (fun q => by have := (nI_leI (by omega) (by omega)).mp q; omega), if_neg (fun q => by have := (nI_leI (by omega) (by omega)).mp q; omega), sg, z_bde, h17, kl_step hb (by omega)]
    show fM_goOn_156 F (nI (a + n) + 1) (z_upl τ (100, 0, 0) 17 (lN (256 * kPk b a n + b (a + n)))) = _
    rw [nI_1, Nat.add_assoc, ih (n + 1) F (z_upl τ (100, 0, 0) 17 (lN (256 * kPk b a n + b (a + n)))) h h14 h15 (by omega) he (fun j hj => hl j (by omega)) (by rw [z_upl_at, if_pos ⟨rfl, rfl⟩]; rfl) (by omega), z_upl_upl, show n + 1 + m = n + (m + 1) by omega]
end kmodel
